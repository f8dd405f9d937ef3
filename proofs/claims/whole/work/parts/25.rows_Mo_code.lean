theorem d_Mo_code_0 : decode b_Mo_code 0 = .ok (.aload_n 0, 1) := by decide +kernel
theorem d_Mo_code_1 : decode b_Mo_code 1 = .ok (.iconst 0, 1) := by decide +kernel
theorem d_Mo_code_2 : decode b_Mo_code 2 = .ok (.putfield 76, 3) := by decide +kernel
theorem d_Mo_code_5 : decode b_Mo_code 5 = .ok (.aload_n 0, 1) := by decide +kernel
theorem d_Mo_code_6 : decode b_Mo_code 6 = .ok (.iload_n 1, 1) := by decide +kernel
theorem d_Mo_code_7 : decode b_Mo_code 7 = .ok (.invokevirtual 172, 3) := by decide +kernel
theorem d_Mo_code_10 : decode b_Mo_code 10 = .ok (.ifCond .eq 29, 3) := by decide +kernel
theorem d_Mo_code_13 : decode b_Mo_code 13 = .ok (.iload_n 2, 1) := by decide +kernel
theorem d_Mo_code_14 : decode b_Mo_code 14 = .ok (.ifCond .lt 25, 3) := by decide +kernel
theorem d_Mo_code_17 : decode b_Mo_code 17 = .ok (.iload_n 2, 1) := by decide +kernel
theorem d_Mo_code_18 : decode b_Mo_code 18 = .ok (.aload_n 0, 1) := by decide +kernel
theorem d_Mo_code_19 : decode b_Mo_code 19 = .ok (.getfield 35, 3) := by decide +kernel
theorem d_Mo_code_22 : decode b_Mo_code 22 = .ok (.aload_n 0, 1) := by decide +kernel
theorem d_Mo_code_23 : decode b_Mo_code 23 = .ok (.iload_n 1, 1) := by decide +kernel
theorem d_Mo_code_24 : decode b_Mo_code 24 = .ok (.invokevirtual 172, 3) := by decide +kernel
theorem d_Mo_code_27 : decode b_Mo_code 27 = .ok (.ifCond .eq 7, 3) := by decide +kernel
theorem d_Mo_code_30 : decode b_Mo_code 30 = .ok (.iload_n 1, 1) := by decide +kernel
theorem d_Mo_code_31 : decode b_Mo_code 31 = .ok (.goto 4, 3) := by decide +kernel
theorem d_Mo_code_34 : decode b_Mo_code 34 = .ok (.iconst 0, 1) := by decide +kernel
theorem d_Mo_code_35 : decode b_Mo_code 35 = .ok (.iaload, 1) := by decide +kernel
theorem d_Mo_code_36 : decode b_Mo_code 36 = .ok (.if_icmp .lt 5, 3) := by decide +kernel
theorem d_Mo_code_39 : decode b_Mo_code 39 = .ok (.iconst 0, 1) := by decide +kernel
theorem d_Mo_code_40 : decode b_Mo_code 40 = .ok (.ireturn, 1) := by decide +kernel
theorem d_Mo_code_41 : decode b_Mo_code 41 = .ok (.iload_n 3, 1) := by decide +kernel
theorem d_Mo_code_42 : decode b_Mo_code 42 = .ok (.tableswitch 93 0 4 #[34, 47, 60, 73, 86], 34) := by decide +kernel
theorem d_Mo_code_76 : decode b_Mo_code 76 = .ok (.aload_n 0, 1) := by decide +kernel
theorem d_Mo_code_77 : decode b_Mo_code 77 = .ok (.getfield 41, 3) := by decide +kernel
theorem d_Mo_code_80 : decode b_Mo_code 80 = .ok (.sipush 400, 3) := by decide +kernel
theorem d_Mo_code_83 : decode b_Mo_code 83 = .ok (.iload_n 1, 1) := by decide +kernel
theorem d_Mo_code_84 : decode b_Mo_code 84 = .ok (.imul, 1) := by decide +kernel
theorem d_Mo_code_85 : decode b_Mo_code 85 = .ok (.iload_n 2, 1) := by decide +kernel
theorem d_Mo_code_86 : decode b_Mo_code 86 = .ok (.iadd, 1) := by decide +kernel
theorem d_Mo_code_87 : decode b_Mo_code 87 = .ok (.iaload, 1) := by decide +kernel
theorem d_Mo_code_88 : decode b_Mo_code 88 = .ok (.ireturn, 1) := by decide +kernel
theorem d_Mo_code_89 : decode b_Mo_code 89 = .ok (.aload_n 0, 1) := by decide +kernel
theorem d_Mo_code_90 : decode b_Mo_code 90 = .ok (.getfield 44, 3) := by decide +kernel
theorem d_Mo_code_93 : decode b_Mo_code 93 = .ok (.sipush 400, 3) := by decide +kernel
theorem d_Mo_code_96 : decode b_Mo_code 96 = .ok (.iload_n 1, 1) := by decide +kernel
theorem d_Mo_code_97 : decode b_Mo_code 97 = .ok (.imul, 1) := by decide +kernel
theorem d_Mo_code_98 : decode b_Mo_code 98 = .ok (.iload_n 2, 1) := by decide +kernel
theorem d_Mo_code_99 : decode b_Mo_code 99 = .ok (.iadd, 1) := by decide +kernel
theorem d_Mo_code_100 : decode b_Mo_code 100 = .ok (.iaload, 1) := by decide +kernel
theorem d_Mo_code_101 : decode b_Mo_code 101 = .ok (.ireturn, 1) := by decide +kernel
theorem d_Mo_code_102 : decode b_Mo_code 102 = .ok (.aload_n 0, 1) := by decide +kernel
theorem d_Mo_code_103 : decode b_Mo_code 103 = .ok (.getfield 63, 3) := by decide +kernel
theorem d_Mo_code_106 : decode b_Mo_code 106 = .ok (.sipush 400, 3) := by decide +kernel
theorem d_Mo_code_109 : decode b_Mo_code 109 = .ok (.iload_n 1, 1) := by decide +kernel
theorem d_Mo_code_110 : decode b_Mo_code 110 = .ok (.imul, 1) := by decide +kernel
theorem d_Mo_code_111 : decode b_Mo_code 111 = .ok (.iload_n 2, 1) := by decide +kernel
theorem d_Mo_code_112 : decode b_Mo_code 112 = .ok (.iadd, 1) := by decide +kernel
theorem d_Mo_code_113 : decode b_Mo_code 113 = .ok (.iaload, 1) := by decide +kernel
theorem d_Mo_code_114 : decode b_Mo_code 114 = .ok (.ireturn, 1) := by decide +kernel
theorem d_Mo_code_115 : decode b_Mo_code 115 = .ok (.aload_n 0, 1) := by decide +kernel
theorem d_Mo_code_116 : decode b_Mo_code 116 = .ok (.getfield 66, 3) := by decide +kernel
theorem d_Mo_code_119 : decode b_Mo_code 119 = .ok (.sipush 400, 3) := by decide +kernel
theorem d_Mo_code_122 : decode b_Mo_code 122 = .ok (.iload_n 1, 1) := by decide +kernel
theorem d_Mo_code_123 : decode b_Mo_code 123 = .ok (.imul, 1) := by decide +kernel
theorem d_Mo_code_124 : decode b_Mo_code 124 = .ok (.iload_n 2, 1) := by decide +kernel
theorem d_Mo_code_125 : decode b_Mo_code 125 = .ok (.iadd, 1) := by decide +kernel
theorem d_Mo_code_126 : decode b_Mo_code 126 = .ok (.iaload, 1) := by decide +kernel
theorem d_Mo_code_127 : decode b_Mo_code 127 = .ok (.ireturn, 1) := by decide +kernel
theorem d_Mo_code_128 : decode b_Mo_code 128 = .ok (.aload_n 0, 1) := by decide +kernel
theorem d_Mo_code_129 : decode b_Mo_code 129 = .ok (.iload_n 1, 1) := by decide +kernel
theorem d_Mo_code_130 : decode b_Mo_code 130 = .ok (.iload_n 2, 1) := by decide +kernel
theorem d_Mo_code_131 : decode b_Mo_code 131 = .ok (.invokevirtual 175, 3) := by decide +kernel
theorem d_Mo_code_134 : decode b_Mo_code 134 = .ok (.ireturn, 1) := by decide +kernel
theorem d_Mo_code_135 : decode b_Mo_code 135 = .ok (.iconst 0, 1) := by decide +kernel
theorem d_Mo_code_136 : decode b_Mo_code 136 = .ok (.ireturn, 1) := by decide +kernel
theorem d_Mo_known_0 : decode b_Mo_known 0 = .ok (.iconst 0, 1) := by decide +kernel
theorem d_Mo_known_1 : decode b_Mo_known 1 = .ok (.istore_n 3, 1) := by decide +kernel
theorem d_Mo_known_2 : decode b_Mo_known 2 = .ok (.iconst 0, 1) := by decide +kernel
theorem d_Mo_known_3 : decode b_Mo_known 3 = .ok (.istore 4, 2) := by decide +kernel
theorem d_Mo_known_5 : decode b_Mo_known 5 = .ok (.iconst 0, 1) := by decide +kernel
theorem d_Mo_known_6 : decode b_Mo_known 6 = .ok (.istore 5, 2) := by decide +kernel
theorem d_Mo_known_8 : decode b_Mo_known 8 = .ok (.iload 5, 2) := by decide +kernel
theorem d_Mo_known_10 : decode b_Mo_known 10 = .ok (.aload_n 0, 1) := by decide +kernel
theorem d_Mo_known_11 : decode b_Mo_known 11 = .ok (.getfield 35, 3) := by decide +kernel
theorem d_Mo_known_14 : decode b_Mo_known 14 = .ok (.iload_n 1, 1) := by decide +kernel
theorem d_Mo_known_15 : decode b_Mo_known 15 = .ok (.iaload, 1) := by decide +kernel
theorem d_Mo_known_16 : decode b_Mo_known 16 = .ok (.if_icmp .ge 53, 3) := by decide +kernel
theorem d_Mo_known_19 : decode b_Mo_known 19 = .ok (.aload_n 0, 1) := by decide +kernel
theorem d_Mo_known_20 : decode b_Mo_known 20 = .ok (.getfield 63, 3) := by decide +kernel
theorem d_Mo_known_23 : decode b_Mo_known 23 = .ok (.sipush 400, 3) := by decide +kernel
theorem d_Mo_known_26 : decode b_Mo_known 26 = .ok (.iload_n 1, 1) := by decide +kernel
theorem d_Mo_known_27 : decode b_Mo_known 27 = .ok (.imul, 1) := by decide +kernel
theorem d_Mo_known_28 : decode b_Mo_known 28 = .ok (.iload 5, 2) := by decide +kernel
theorem d_Mo_known_30 : decode b_Mo_known 30 = .ok (.iadd, 1) := by decide +kernel
theorem d_Mo_known_31 : decode b_Mo_known 31 = .ok (.iaload, 1) := by decide +kernel
theorem d_Mo_known_32 : decode b_Mo_known 32 = .ok (.istore 6, 2) := by decide +kernel
theorem d_Mo_known_34 : decode b_Mo_known 34 = .ok (.iload_n 3, 1) := by decide +kernel
theorem d_Mo_known_35 : decode b_Mo_known 35 = .ok (.iload 6, 2) := by decide +kernel
theorem d_Mo_known_37 : decode b_Mo_known 37 = .ok (.ifCond .lt 7, 3) := by decide +kernel
theorem d_Mo_known_40 : decode b_Mo_known 40 = .ok (.iconst 1, 1) := by decide +kernel
theorem d_Mo_known_41 : decode b_Mo_known 41 = .ok (.goto 4, 3) := by decide +kernel
theorem d_Mo_known_44 : decode b_Mo_known 44 = .ok (.iconst 0, 1) := by decide +kernel
theorem d_Mo_known_45 : decode b_Mo_known 45 = .ok (.iadd, 1) := by decide +kernel
theorem d_Mo_known_46 : decode b_Mo_known 46 = .ok (.istore_n 3, 1) := by decide +kernel
theorem d_Mo_known_47 : decode b_Mo_known 47 = .ok (.iload 6, 2) := by decide +kernel
theorem d_Mo_known_49 : decode b_Mo_known 49 = .ok (.iload 4, 2) := by decide +kernel
theorem d_Mo_known_51 : decode b_Mo_known 51 = .ok (.if_icmp .le 8, 3) := by decide +kernel
theorem d_Mo_known_54 : decode b_Mo_known 54 = .ok (.iload 6, 2) := by decide +kernel
theorem d_Mo_known_56 : decode b_Mo_known 56 = .ok (.goto 5, 3) := by decide +kernel
theorem d_Mo_known_59 : decode b_Mo_known 59 = .ok (.iload 4, 2) := by decide +kernel
theorem d_Mo_known_61 : decode b_Mo_known 61 = .ok (.istore 4, 2) := by decide +kernel
theorem d_Mo_known_63 : decode b_Mo_known 63 = .ok (.iinc 5 1, 3) := by decide +kernel
theorem d_Mo_known_66 : decode b_Mo_known 66 = .ok (.goto (-58), 3) := by decide +kernel
theorem d_Mo_known_69 : decode b_Mo_known 69 = .ok (.iload_n 2, 1) := by decide +kernel
theorem d_Mo_known_70 : decode b_Mo_known 70 = .ok (.ifCond .eq 8, 3) := by decide +kernel
theorem d_Mo_known_73 : decode b_Mo_known 73 = .ok (.iload 4, 2) := by decide +kernel
theorem d_Mo_known_75 : decode b_Mo_known 75 = .ok (.goto 4, 3) := by decide +kernel
theorem d_Mo_known_78 : decode b_Mo_known 78 = .ok (.iload_n 3, 1) := by decide +kernel
theorem d_Mo_known_79 : decode b_Mo_known 79 = .ok (.ireturn, 1) := by decide +kernel
theorem d_Mo_function_0 : decode b_Mo_function 0 = .ok (.aload_n 0, 1) := by decide +kernel
theorem d_Mo_function_1 : decode b_Mo_function 1 = .ok (.iconst 0, 1) := by decide +kernel
theorem d_Mo_function_2 : decode b_Mo_function 2 = .ok (.putfield 76, 3) := by decide +kernel
theorem d_Mo_function_5 : decode b_Mo_function 5 = .ok (.aload_n 0, 1) := by decide +kernel
theorem d_Mo_function_6 : decode b_Mo_function 6 = .ok (.iload_n 1, 1) := by decide +kernel
theorem d_Mo_function_7 : decode b_Mo_function 7 = .ok (.invokevirtual 172, 3) := by decide +kernel
theorem d_Mo_function_10 : decode b_Mo_function 10 = .ok (.ifCond .ne 5, 3) := by decide +kernel
theorem d_Mo_function_13 : decode b_Mo_function 13 = .ok (.iconst (-1), 1) := by decide +kernel
theorem d_Mo_function_14 : decode b_Mo_function 14 = .ok (.ireturn, 1) := by decide +kernel
theorem d_Mo_function_15 : decode b_Mo_function 15 = .ok (.iload_n 2, 1) := by decide +kernel
theorem d_Mo_function_16 : decode b_Mo_function 16 = .ok (.tableswitch 107 0 7 #[48, 55, 62, 69, 76, 83, 90, 90], 48) := by decide +kernel
theorem d_Mo_function_64 : decode b_Mo_function 64 = .ok (.aload_n 0, 1) := by decide +kernel
theorem d_Mo_function_65 : decode b_Mo_function 65 = .ok (.getfield 23, 3) := by decide +kernel
theorem d_Mo_function_68 : decode b_Mo_function 68 = .ok (.iload_n 1, 1) := by decide +kernel
theorem d_Mo_function_69 : decode b_Mo_function 69 = .ok (.iaload, 1) := by decide +kernel
theorem d_Mo_function_70 : decode b_Mo_function 70 = .ok (.ireturn, 1) := by decide +kernel
theorem d_Mo_function_71 : decode b_Mo_function 71 = .ok (.aload_n 0, 1) := by decide +kernel
theorem d_Mo_function_72 : decode b_Mo_function 72 = .ok (.getfield 26, 3) := by decide +kernel
theorem d_Mo_function_75 : decode b_Mo_function 75 = .ok (.iload_n 1, 1) := by decide +kernel
theorem d_Mo_function_76 : decode b_Mo_function 76 = .ok (.iaload, 1) := by decide +kernel
theorem d_Mo_function_77 : decode b_Mo_function 77 = .ok (.ireturn, 1) := by decide +kernel
theorem d_Mo_function_78 : decode b_Mo_function 78 = .ok (.aload_n 0, 1) := by decide +kernel
theorem d_Mo_function_79 : decode b_Mo_function 79 = .ok (.getfield 29, 3) := by decide +kernel
theorem d_Mo_function_82 : decode b_Mo_function 82 = .ok (.iload_n 1, 1) := by decide +kernel
theorem d_Mo_function_83 : decode b_Mo_function 83 = .ok (.iaload, 1) := by decide +kernel
theorem d_Mo_function_84 : decode b_Mo_function 84 = .ok (.ireturn, 1) := by decide +kernel
theorem d_Mo_function_85 : decode b_Mo_function 85 = .ok (.aload_n 0, 1) := by decide +kernel
theorem d_Mo_function_86 : decode b_Mo_function 86 = .ok (.getfield 32, 3) := by decide +kernel
theorem d_Mo_function_89 : decode b_Mo_function 89 = .ok (.iload_n 1, 1) := by decide +kernel
theorem d_Mo_function_90 : decode b_Mo_function 90 = .ok (.iaload, 1) := by decide +kernel
theorem d_Mo_function_91 : decode b_Mo_function 91 = .ok (.ireturn, 1) := by decide +kernel
theorem d_Mo_function_92 : decode b_Mo_function 92 = .ok (.aload_n 0, 1) := by decide +kernel
theorem d_Mo_function_93 : decode b_Mo_function 93 = .ok (.getfield 35, 3) := by decide +kernel
theorem d_Mo_function_96 : decode b_Mo_function 96 = .ok (.iload_n 1, 1) := by decide +kernel
theorem d_Mo_function_97 : decode b_Mo_function 97 = .ok (.iaload, 1) := by decide +kernel
theorem d_Mo_function_98 : decode b_Mo_function 98 = .ok (.ireturn, 1) := by decide +kernel
theorem d_Mo_function_99 : decode b_Mo_function 99 = .ok (.aload_n 0, 1) := by decide +kernel
theorem d_Mo_function_100 : decode b_Mo_function 100 = .ok (.getfield 38, 3) := by decide +kernel
theorem d_Mo_function_103 : decode b_Mo_function 103 = .ok (.iload_n 1, 1) := by decide +kernel
theorem d_Mo_function_104 : decode b_Mo_function 104 = .ok (.iaload, 1) := by decide +kernel
theorem d_Mo_function_105 : decode b_Mo_function 105 = .ok (.ireturn, 1) := by decide +kernel
theorem d_Mo_function_106 : decode b_Mo_function 106 = .ok (.aload_n 0, 1) := by decide +kernel
theorem d_Mo_function_107 : decode b_Mo_function 107 = .ok (.iload_n 1, 1) := by decide +kernel
theorem d_Mo_function_108 : decode b_Mo_function 108 = .ok (.iload_n 2, 1) := by decide +kernel
theorem d_Mo_function_109 : decode b_Mo_function 109 = .ok (.bipush 7, 2) := by decide +kernel
theorem d_Mo_function_111 : decode b_Mo_function 111 = .ok (.if_icmp .ne 7, 3) := by decide +kernel
theorem d_Mo_function_114 : decode b_Mo_function 114 = .ok (.iconst 1, 1) := by decide +kernel
theorem d_Mo_function_115 : decode b_Mo_function 115 = .ok (.goto 4, 3) := by decide +kernel
theorem d_Mo_function_118 : decode b_Mo_function 118 = .ok (.iconst 0, 1) := by decide +kernel
theorem d_Mo_function_119 : decode b_Mo_function 119 = .ok (.invokevirtual 178, 3) := by decide +kernel
theorem d_Mo_function_122 : decode b_Mo_function 122 = .ok (.ireturn, 1) := by decide +kernel
theorem d_Mo_function_123 : decode b_Mo_function 123 = .ok (.iconst (-1), 1) := by decide +kernel
theorem d_Mo_function_124 : decode b_Mo_function 124 = .ok (.ireturn, 1) := by decide +kernel
theorem d_Mo_handler_0 : decode b_Mo_handler 0 = .ok (.aload_n 0, 1) := by decide +kernel
theorem d_Mo_handler_1 : decode b_Mo_handler 1 = .ok (.iconst 0, 1) := by decide +kernel
theorem d_Mo_handler_2 : decode b_Mo_handler 2 = .ok (.putfield 76, 3) := by decide +kernel
theorem d_Mo_handler_5 : decode b_Mo_handler 5 = .ok (.aload_n 0, 1) := by decide +kernel
theorem d_Mo_handler_6 : decode b_Mo_handler 6 = .ok (.iload_n 1, 1) := by decide +kernel
theorem d_Mo_handler_7 : decode b_Mo_handler 7 = .ok (.invokevirtual 172, 3) := by decide +kernel
theorem d_Mo_handler_10 : decode b_Mo_handler 10 = .ok (.ifCond .eq 29, 3) := by decide +kernel
theorem d_Mo_handler_13 : decode b_Mo_handler 13 = .ok (.iload_n 2, 1) := by decide +kernel
theorem d_Mo_handler_14 : decode b_Mo_handler 14 = .ok (.ifCond .lt 25, 3) := by decide +kernel
theorem d_Mo_handler_17 : decode b_Mo_handler 17 = .ok (.iload_n 2, 1) := by decide +kernel
theorem d_Mo_handler_18 : decode b_Mo_handler 18 = .ok (.aload_n 0, 1) := by decide +kernel
theorem d_Mo_handler_19 : decode b_Mo_handler 19 = .ok (.getfield 38, 3) := by decide +kernel
theorem d_Mo_handler_22 : decode b_Mo_handler 22 = .ok (.aload_n 0, 1) := by decide +kernel
theorem d_Mo_handler_23 : decode b_Mo_handler 23 = .ok (.iload_n 1, 1) := by decide +kernel
theorem d_Mo_handler_24 : decode b_Mo_handler 24 = .ok (.invokevirtual 172, 3) := by decide +kernel
theorem d_Mo_handler_27 : decode b_Mo_handler 27 = .ok (.ifCond .eq 7, 3) := by decide +kernel
theorem d_Mo_handler_30 : decode b_Mo_handler 30 = .ok (.iload_n 1, 1) := by decide +kernel
theorem d_Mo_handler_31 : decode b_Mo_handler 31 = .ok (.goto 4, 3) := by decide +kernel
theorem d_Mo_handler_34 : decode b_Mo_handler 34 = .ok (.iconst 0, 1) := by decide +kernel
theorem d_Mo_handler_35 : decode b_Mo_handler 35 = .ok (.iaload, 1) := by decide +kernel
theorem d_Mo_handler_36 : decode b_Mo_handler 36 = .ok (.if_icmp .lt 5, 3) := by decide +kernel
theorem d_Mo_handler_39 : decode b_Mo_handler 39 = .ok (.iconst 0, 1) := by decide +kernel
theorem d_Mo_handler_40 : decode b_Mo_handler 40 = .ok (.ireturn, 1) := by decide +kernel
theorem d_Mo_handler_41 : decode b_Mo_handler 41 = .ok (.bipush 6, 2) := by decide +kernel
theorem d_Mo_handler_43 : decode b_Mo_handler 43 = .ok (.iload_n 1, 1) := by decide +kernel
theorem d_Mo_handler_44 : decode b_Mo_handler 44 = .ok (.imul, 1) := by decide +kernel
theorem d_Mo_handler_45 : decode b_Mo_handler 45 = .ok (.iload_n 2, 1) := by decide +kernel
theorem d_Mo_handler_46 : decode b_Mo_handler 46 = .ok (.iadd, 1) := by decide +kernel
theorem d_Mo_handler_47 : decode b_Mo_handler 47 = .ok (.istore 4, 2) := by decide +kernel
theorem d_Mo_handler_49 : decode b_Mo_handler 49 = .ok (.iload_n 3, 1) := by decide +kernel
theorem d_Mo_handler_50 : decode b_Mo_handler 50 = .ok (.ifCond .ne 13, 3) := by decide +kernel
theorem d_Mo_handler_53 : decode b_Mo_handler 53 = .ok (.aload_n 0, 1) := by decide +kernel
theorem d_Mo_handler_54 : decode b_Mo_handler 54 = .ok (.getfield 47, 3) := by decide +kernel
theorem d_Mo_handler_57 : decode b_Mo_handler 57 = .ok (.iload 4, 2) := by decide +kernel
theorem d_Mo_handler_59 : decode b_Mo_handler 59 = .ok (.iaload, 1) := by decide +kernel
theorem d_Mo_handler_60 : decode b_Mo_handler 60 = .ok (.goto 72, 3) := by decide +kernel
theorem d_Mo_handler_63 : decode b_Mo_handler 63 = .ok (.iload_n 3, 1) := by decide +kernel
theorem d_Mo_handler_64 : decode b_Mo_handler 64 = .ok (.iconst 1, 1) := by decide +kernel
theorem d_Mo_handler_65 : decode b_Mo_handler 65 = .ok (.if_icmp .ne 13, 3) := by decide +kernel
theorem d_Mo_handler_68 : decode b_Mo_handler 68 = .ok (.aload_n 0, 1) := by decide +kernel
theorem d_Mo_handler_69 : decode b_Mo_handler 69 = .ok (.getfield 50, 3) := by decide +kernel
theorem d_Mo_handler_72 : decode b_Mo_handler 72 = .ok (.iload 4, 2) := by decide +kernel
theorem d_Mo_handler_74 : decode b_Mo_handler 74 = .ok (.iaload, 1) := by decide +kernel
theorem d_Mo_handler_75 : decode b_Mo_handler 75 = .ok (.goto 57, 3) := by decide +kernel
theorem d_Mo_handler_78 : decode b_Mo_handler 78 = .ok (.iload_n 3, 1) := by decide +kernel
theorem d_Mo_handler_79 : decode b_Mo_handler 79 = .ok (.iconst 2, 1) := by decide +kernel
theorem d_Mo_handler_80 : decode b_Mo_handler 80 = .ok (.if_icmp .ne 13, 3) := by decide +kernel
theorem d_Mo_handler_83 : decode b_Mo_handler 83 = .ok (.aload_n 0, 1) := by decide +kernel
theorem d_Mo_handler_84 : decode b_Mo_handler 84 = .ok (.getfield 53, 3) := by decide +kernel
theorem d_Mo_handler_87 : decode b_Mo_handler 87 = .ok (.iload 4, 2) := by decide +kernel
theorem d_Mo_handler_89 : decode b_Mo_handler 89 = .ok (.iaload, 1) := by decide +kernel
theorem d_Mo_handler_90 : decode b_Mo_handler 90 = .ok (.goto 42, 3) := by decide +kernel
theorem d_Mo_handler_93 : decode b_Mo_handler 93 = .ok (.iload_n 3, 1) := by decide +kernel
theorem d_Mo_handler_94 : decode b_Mo_handler 94 = .ok (.iconst 3, 1) := by decide +kernel
theorem d_Mo_handler_95 : decode b_Mo_handler 95 = .ok (.if_icmp .ne 21, 3) := by decide +kernel
theorem d_Mo_handler_98 : decode b_Mo_handler 98 = .ok (.aload_n 0, 1) := by decide +kernel
theorem d_Mo_handler_99 : decode b_Mo_handler 99 = .ok (.getfield 56, 3) := by decide +kernel
theorem d_Mo_handler_102 : decode b_Mo_handler 102 = .ok (.iload 4, 2) := by decide +kernel
theorem d_Mo_handler_104 : decode b_Mo_handler 104 = .ok (.baload, 1) := by decide +kernel
theorem d_Mo_handler_105 : decode b_Mo_handler 105 = .ok (.ifCond .eq 7, 3) := by decide +kernel
theorem d_Mo_handler_108 : decode b_Mo_handler 108 = .ok (.iconst 1, 1) := by decide +kernel
theorem d_Mo_handler_109 : decode b_Mo_handler 109 = .ok (.goto 23, 3) := by decide +kernel
theorem d_Mo_handler_112 : decode b_Mo_handler 112 = .ok (.iconst 0, 1) := by decide +kernel
theorem d_Mo_handler_113 : decode b_Mo_handler 113 = .ok (.goto 19, 3) := by decide +kernel
theorem d_Mo_handler_116 : decode b_Mo_handler 116 = .ok (.iload_n 3, 1) := by decide +kernel
theorem d_Mo_handler_117 : decode b_Mo_handler 117 = .ok (.iconst 4, 1) := by decide +kernel
theorem d_Mo_handler_118 : decode b_Mo_handler 118 = .ok (.if_icmp .ne 13, 3) := by decide +kernel
theorem d_Mo_handler_121 : decode b_Mo_handler 121 = .ok (.aload_n 0, 1) := by decide +kernel
theorem d_Mo_handler_122 : decode b_Mo_handler 122 = .ok (.getfield 60, 3) := by decide +kernel
theorem d_Mo_handler_125 : decode b_Mo_handler 125 = .ok (.iload 4, 2) := by decide +kernel
theorem d_Mo_handler_127 : decode b_Mo_handler 127 = .ok (.iaload, 1) := by decide +kernel
theorem d_Mo_handler_128 : decode b_Mo_handler 128 = .ok (.goto 4, 3) := by decide +kernel
theorem d_Mo_handler_131 : decode b_Mo_handler 131 = .ok (.iconst 0, 1) := by decide +kernel
theorem d_Mo_handler_132 : decode b_Mo_handler 132 = .ok (.ireturn, 1) := by decide +kernel
theorem d_Mo_codes_0 : decode b_Mo_codes 0 = .ok (.iconst 0, 1) := by decide +kernel
theorem d_Mo_codes_1 : decode b_Mo_codes 1 = .ok (.istore_n 1, 1) := by decide +kernel
theorem d_Mo_codes_2 : decode b_Mo_codes 2 = .ok (.iconst 0, 1) := by decide +kernel
theorem d_Mo_codes_3 : decode b_Mo_codes 3 = .ok (.istore_n 2, 1) := by decide +kernel
theorem d_Mo_codes_4 : decode b_Mo_codes 4 = .ok (.iload_n 2, 1) := by decide +kernel
theorem d_Mo_codes_5 : decode b_Mo_codes 5 = .ok (.aload_n 0, 1) := by decide +kernel
theorem d_Mo_codes_6 : decode b_Mo_codes 6 = .ok (.getfield 20, 3) := by decide +kernel
theorem d_Mo_codes_9 : decode b_Mo_codes 9 = .ok (.iconst 0, 1) := by decide +kernel
theorem d_Mo_codes_10 : decode b_Mo_codes 10 = .ok (.iaload, 1) := by decide +kernel
theorem d_Mo_codes_11 : decode b_Mo_codes 11 = .ok (.if_icmp .ge 18, 3) := by decide +kernel
theorem d_Mo_codes_14 : decode b_Mo_codes 14 = .ok (.iload_n 1, 1) := by decide +kernel
theorem d_Mo_codes_15 : decode b_Mo_codes 15 = .ok (.aload_n 0, 1) := by decide +kernel
theorem d_Mo_codes_16 : decode b_Mo_codes 16 = .ok (.getfield 35, 3) := by decide +kernel
theorem d_Mo_codes_19 : decode b_Mo_codes 19 = .ok (.iload_n 2, 1) := by decide +kernel
theorem d_Mo_codes_20 : decode b_Mo_codes 20 = .ok (.iaload, 1) := by decide +kernel
theorem d_Mo_codes_21 : decode b_Mo_codes 21 = .ok (.iadd, 1) := by decide +kernel
theorem d_Mo_codes_22 : decode b_Mo_codes 22 = .ok (.istore_n 1, 1) := by decide +kernel
theorem d_Mo_codes_23 : decode b_Mo_codes 23 = .ok (.iinc 2 1, 3) := by decide +kernel
theorem d_Mo_codes_26 : decode b_Mo_codes 26 = .ok (.goto (-22), 3) := by decide +kernel
theorem d_Mo_codes_29 : decode b_Mo_codes 29 = .ok (.iload_n 1, 1) := by decide +kernel
theorem d_Mo_codes_30 : decode b_Mo_codes 30 = .ok (.ireturn, 1) := by decide +kernel
theorem d_Mo_look_0 : decode b_Mo_look 0 = .ok (.aload_n 0, 1) := by decide +kernel
theorem d_Mo_look_1 : decode b_Mo_look 1 = .ok (.iconst 0, 1) := by decide +kernel
theorem d_Mo_look_2 : decode b_Mo_look 2 = .ok (.putfield 76, 3) := by decide +kernel
theorem d_Mo_look_5 : decode b_Mo_look 5 = .ok (.iload_n 1, 1) := by decide +kernel
theorem d_Mo_look_6 : decode b_Mo_look 6 = .ok (.tableswitch 70 0 5 #[38, 45, 50, 55, 60, 65], 38) := by decide +kernel
theorem d_Mo_look_44 : decode b_Mo_look 44 = .ok (.aload_n 0, 1) := by decide +kernel
theorem d_Mo_look_45 : decode b_Mo_look 45 = .ok (.getfield 20, 3) := by decide +kernel
theorem d_Mo_look_48 : decode b_Mo_look 48 = .ok (.iconst 0, 1) := by decide +kernel
theorem d_Mo_look_49 : decode b_Mo_look 49 = .ok (.iaload, 1) := by decide +kernel
theorem d_Mo_look_50 : decode b_Mo_look 50 = .ok (.ireturn, 1) := by decide +kernel
theorem d_Mo_look_51 : decode b_Mo_look 51 = .ok (.aload_n 0, 1) := by decide +kernel
theorem d_Mo_look_52 : decode b_Mo_look 52 = .ok (.invokevirtual 182, 3) := by decide +kernel
theorem d_Mo_look_55 : decode b_Mo_look 55 = .ok (.ireturn, 1) := by decide +kernel
theorem d_Mo_look_56 : decode b_Mo_look 56 = .ok (.aload_n 0, 1) := by decide +kernel
theorem d_Mo_look_57 : decode b_Mo_look 57 = .ok (.getfield 85, 3) := by decide +kernel
theorem d_Mo_look_60 : decode b_Mo_look 60 = .ok (.ireturn, 1) := by decide +kernel
theorem d_Mo_look_61 : decode b_Mo_look 61 = .ok (.aload_n 0, 1) := by decide +kernel
theorem d_Mo_look_62 : decode b_Mo_look 62 = .ok (.getfield 90, 3) := by decide +kernel
theorem d_Mo_look_65 : decode b_Mo_look 65 = .ok (.ireturn, 1) := by decide +kernel
theorem d_Mo_look_66 : decode b_Mo_look 66 = .ok (.aload_n 0, 1) := by decide +kernel
theorem d_Mo_look_67 : decode b_Mo_look 67 = .ok (.getfield 116, 3) := by decide +kernel
theorem d_Mo_look_70 : decode b_Mo_look 70 = .ok (.ireturn, 1) := by decide +kernel
theorem d_Mo_look_71 : decode b_Mo_look 71 = .ok (.aload_n 0, 1) := by decide +kernel
theorem d_Mo_look_72 : decode b_Mo_look 72 = .ok (.getfield 16, 3) := by decide +kernel
theorem d_Mo_look_75 : decode b_Mo_look 75 = .ok (.ireturn, 1) := by decide +kernel
theorem d_Mo_look_76 : decode b_Mo_look 76 = .ok (.iconst (-1), 1) := by decide +kernel
theorem d_Mo_look_77 : decode b_Mo_look 77 = .ok (.ireturn, 1) := by decide +kernel
set_option maxHeartbeats 4000000 in
set_option maxRecDepth 100000 in
theorem m_Mo_code {l : Launch} {D : va_G} {dA : Nat → ClassId} (o : Option Nat) (x1 : Int32) (x2 : Int32) (x3 : Int32) (h0 : hc_H) (b : Int32) (C0 S0 : Nat) (h2 : hc_H) (hr : p_Mo_code o x1 x2 x3 h0 = some (b, C0, S0, h2)) : hc_Met l (gg D dA) y_Mo_code b_Mo_code 4 (some .int) tb 1 25 [vr_ o, vi_ x1, vi_ x2, vi_ x3] h0 C0 S0 (some (vi_ b)) h2 := by
  refine hc_Met.of (by decide) (Nat.le_of_ble_eq_true rfl) ?_
  intro p e s m args below meth c hC
  unfold p_Mo_code at hr
  refine hj_sub (lv' := [(0, vr_ o), (1, vi_ x1), (2, vi_ x2), (3, vi_ x3)]) [0, 1, 2, 3] rfl ?_
  refine hj_aload_n hC 0 d_Mo_code_0 rfl rfl ?_
  refine hj_iconst hC (v := 0) d_Mo_code_1 (by decide) ?_
  refine hj_puti hC cf_Mo (k := 0) (by decide) wq_444 rfl (Or.inl rfl) rfl d_Mo_code_2 hr (fun h hr => ?_)
  refine hj_aload_n hC 0 d_Mo_code_5 rfl rfl ?_
  refine hj_iload_n hC 1 d_Mo_code_6 rfl rfl ?_
  refine hj_callV hC hG (enc := (fun a : Int32 => some (vi_ a))) (As := [vi_ x1]) (st := []) (fun h a C S h1 hr => m_Mo_isFunction _ _ h a C S h1 hr) cf_Mo wq_496 wq_497 wq_498 wq_389 wq_491 yk_Mo_isFunction rfl ⟨Nat.le_of_ble_eq_true rfl, Nat.le_of_ble_eq_true rfl⟩ rfl (Nat.le_of_ble_eq_true rfl) d_Mo_code_7 hr (fun a1 h C S hr => ?_)
  refine hj_if_eq hC 39 d_Mo_code_10 (by decide) hr (fun q10 hr => ?_) (fun q10 hr => ?_)
  · refine hj_iconst hC (v := 0) d_Mo_code_39 (by decide) ?_
    exact hj_iret hC d_Mo_code_40 hr
  · refine hj_iload_n hC 2 d_Mo_code_13 rfl rfl ?_
    refine hj_if_lt hC 39 d_Mo_code_14 (by decide) hr (fun q14 hr => ?_) (fun q14 hr => ?_)
    · refine hj_iconst hC (v := 0) d_Mo_code_39 (by decide) ?_
      exact hj_iret hC d_Mo_code_40 hr
    · refine hj_iload_n hC 2 d_Mo_code_17 rfl rfl ?_
      refine hj_aload_n hC 0 d_Mo_code_18 rfl rfl ?_
      refine hj_getr hC cf_Mo (k := 14) (by decide) wq_424 rfl d_Mo_code_19 hr (fun a2 hr => ?_)
      refine hj_aload_n hC 0 d_Mo_code_22 rfl rfl ?_
      refine hj_iload_n hC 1 d_Mo_code_23 rfl rfl ?_
      refine hj_callV hC hG (enc := (fun a : Int32 => some (vi_ a))) (As := [vi_ x1]) (st := [vr_ a2, vi_ x2]) (fun h a C S h1 hr => m_Mo_isFunction _ _ h a C S h1 hr) cf_Mo wq_496 wq_497 wq_498 wq_389 wq_491 yk_Mo_isFunction rfl ⟨Nat.le_of_ble_eq_true rfl, Nat.le_of_ble_eq_true rfl⟩ rfl (Nat.le_of_ble_eq_true rfl) d_Mo_code_24 hr (fun a3 h C S hr => ?_)
      refine hj_jn hC (K := Int32 → hM Int32) (fun k => ∀ (z4 : Int32) (h : hc_H) (C S : Nat), k z4 h = some (b, C, S, h2) → hj_J p l e { frames := 1, cells := C0, slots := S0, locals := 25 } s m args below meth c (gg D dA) h0 4 (hj_Q below args s { frames := 1, cells := C0, slots := S0, locals := 25 } (gg D dA) h0 (some (vi_ b)) h2) C S h 35 [(0, vr_ o), (1, vi_ x1), (2, vi_ x2), (3, vi_ x3)] [vi_ z4, vr_ a2, vi_ x2]) hr (fun z4 h C S hr => ?_) (fun k35 hk35 hr => ?_)
      · refine hj_iald hC (kd := 17) rfl d_Mo_code_35 hr (fun a5 hr => ?_)
        refine hj_icmp_lt hC 41 d_Mo_code_36 (by decide) hr (fun q36 hr => ?_) (fun q36 hr => ?_)
        · refine hj_iload_n hC 3 d_Mo_code_41 rfl rfl ?_
          by_cases s42_0 : x3 = 0
          · rw [if_pos s42_0] at hr
            refine hj_tableIn hC 76 d_Mo_code_42 (by rw [s42_0]; decide) (by rw [s42_0]; decide) (by rw [s42_0]; rfl) (by decide) ?_
            refine hj_aload_n hC 0 d_Mo_code_76 rfl rfl ?_
            refine hj_getr hC cf_Mo (k := 16) (by decide) wq_413 rfl d_Mo_code_77 hr (fun a6 hr => ?_)
            refine hj_sipush hC (v := 400) d_Mo_code_80 (by decide) ?_
            refine hj_iload_n hC 1 d_Mo_code_83 rfl rfl ?_
            refine hj_imul hC d_Mo_code_84 ?_
            refine hj_iload_n hC 2 d_Mo_code_85 rfl rfl ?_
            refine hj_iadd hC d_Mo_code_86 ?_
            refine hj_iald hC (kd := 19) rfl d_Mo_code_87 hr (fun a7 hr => ?_)
            exact hj_iret hC d_Mo_code_88 hr
          · rw [if_neg s42_0] at hr
            by_cases s42_1 : x3 = 1
            · rw [if_pos s42_1] at hr
              refine hj_tableIn hC 89 d_Mo_code_42 (by rw [s42_1]; decide) (by rw [s42_1]; decide) (by rw [s42_1]; rfl) (by decide) ?_
              refine hj_aload_n hC 0 d_Mo_code_89 rfl rfl ?_
              refine hj_getr hC cf_Mo (k := 17) (by decide) wq_414 rfl d_Mo_code_90 hr (fun a8 hr => ?_)
              refine hj_sipush hC (v := 400) d_Mo_code_93 (by decide) ?_
              refine hj_iload_n hC 1 d_Mo_code_96 rfl rfl ?_
              refine hj_imul hC d_Mo_code_97 ?_
              refine hj_iload_n hC 2 d_Mo_code_98 rfl rfl ?_
              refine hj_iadd hC d_Mo_code_99 ?_
              refine hj_iald hC (kd := 20) rfl d_Mo_code_100 hr (fun a9 hr => ?_)
              exact hj_iret hC d_Mo_code_101 hr
            · rw [if_neg s42_1] at hr
              by_cases s42_2 : x3 = 2
              · rw [if_pos s42_2] at hr
                refine hj_tableIn hC 102 d_Mo_code_42 (by rw [s42_2]; decide) (by rw [s42_2]; decide) (by rw [s42_2]; rfl) (by decide) ?_
                refine hj_aload_n hC 0 d_Mo_code_102 rfl rfl ?_
                refine hj_getr hC cf_Mo (k := 23) (by decide) wq_384 rfl d_Mo_code_103 hr (fun a10 hr => ?_)
                refine hj_sipush hC (v := 400) d_Mo_code_106 (by decide) ?_
                refine hj_iload_n hC 1 d_Mo_code_109 rfl rfl ?_
                refine hj_imul hC d_Mo_code_110 ?_
                refine hj_iload_n hC 2 d_Mo_code_111 rfl rfl ?_
                refine hj_iadd hC d_Mo_code_112 ?_
                refine hj_iald hC (kd := 26) rfl d_Mo_code_113 hr (fun a11 hr => ?_)
                exact hj_iret hC d_Mo_code_114 hr
              · rw [if_neg s42_2] at hr
                by_cases s42_3 : x3 = 3
                · rw [if_pos s42_3] at hr
                  refine hj_tableIn hC 115 d_Mo_code_42 (by rw [s42_3]; decide) (by rw [s42_3]; decide) (by rw [s42_3]; rfl) (by decide) ?_
                  refine hj_aload_n hC 0 d_Mo_code_115 rfl rfl ?_
                  refine hj_getr hC cf_Mo (k := 24) (by decide) wq_390 rfl d_Mo_code_116 hr (fun a12 hr => ?_)
                  refine hj_sipush hC (v := 400) d_Mo_code_119 (by decide) ?_
                  refine hj_iload_n hC 1 d_Mo_code_122 rfl rfl ?_
                  refine hj_imul hC d_Mo_code_123 ?_
                  refine hj_iload_n hC 2 d_Mo_code_124 rfl rfl ?_
                  refine hj_iadd hC d_Mo_code_125 ?_
                  refine hj_iald hC (kd := 27) rfl d_Mo_code_126 hr (fun a13 hr => ?_)
                  exact hj_iret hC d_Mo_code_127 hr
                · rw [if_neg s42_3] at hr
                  by_cases s42_4 : x3 = 4
                  · rw [if_pos s42_4] at hr
                    refine hj_tableIn hC 128 d_Mo_code_42 (by rw [s42_4]; decide) (by rw [s42_4]; decide) (by rw [s42_4]; rfl) (by decide) ?_
                    refine hj_aload_n hC 0 d_Mo_code_128 rfl rfl ?_
                    refine hj_iload_n hC 1 d_Mo_code_129 rfl rfl ?_
                    refine hj_iload_n hC 2 d_Mo_code_130 rfl rfl ?_
                    refine hj_callV hC hG (enc := (fun a : Int32 => some (vi_ a))) (As := [vi_ x1, vi_ x2]) (st := []) (fun h a C S h1 hr => m_Mo_isGoal _ _ _ h a C S h1 hr) cf_Mo wq_493 wq_494 wq_495 wq_389 wq_492 yk_Mo_isGoal rfl ⟨Nat.le_of_ble_eq_true rfl, Nat.le_of_ble_eq_true rfl⟩ rfl (Nat.le_of_ble_eq_true rfl) d_Mo_code_131 hr (fun a14 h C S hr => ?_)
                    exact hj_iret hC d_Mo_code_134 hr
                  · rw [if_neg s42_4] at hr
                    have e0 := lv_neT s42_0 (a := 0) (by decide)
                    have e1 := lv_neT s42_1 (a := 1) (by decide)
                    have e2 := lv_neT s42_2 (a := 2) (by decide)
                    have e3 := lv_neT s42_3 (a := 3) (by decide)
                    have e4 := lv_neT s42_4 (a := 4) (by decide)
                    refine hj_tableOut hC 135 d_Mo_code_42 (by omega) (by decide) ?_
                    refine hj_iconst hC (v := 0) d_Mo_code_135 (by decide) ?_
                    exact hj_iret hC d_Mo_code_136 hr
        · refine hj_iconst hC (v := 0) d_Mo_code_39 (by decide) ?_
          exact hj_iret hC d_Mo_code_40 hr
      · refine hj_if_eq hC 34 d_Mo_code_27 (by decide) hr (fun q27 hr => ?_) (fun q27 hr => ?_)
        · refine hj_iconst hC (v := 0) d_Mo_code_34 (by decide) ?_
          exact hk35 _ _ _ _ hr
        · refine hj_iload_n hC 1 d_Mo_code_30 rfl rfl ?_
          refine hj_goto hC 35 d_Mo_code_31 (by decide) ?_
          exact hk35 _ _ _ _ hr
set_option maxHeartbeats 4000000 in
set_option maxRecDepth 100000 in
theorem ml_Mo_known_8 {p : Program} {l : Launch} {e : Env} {s : State} {m : MethodId} {args : Array Value} {below : List Frame} {meth : Method} {c : Code} {D : va_G} {dA : Nat → ClassId} {h0 h2 : hc_H} {C0 S0 : Nat} {b : Int32} (hC : hj_C p s m args meth c (gg D dA) b_Mo_known 7 (some .int) R_Mo "known" tb) (x0 : Option Nat) (x1 : Int32) (x2 : Int32) (kx : Int32 → Int32 → hM Int32) (hk : ∀ (v3 : Int32) (v4 : Int32) (h : hc_H) (C S : Nat), kx v3 v4 h = some (b, C, S, h2) → hj_J p l e { frames := 0, cells := C0, slots := S0, locals := 0 } s m args below meth c (gg D dA) h0 7 (hj_Q below args s { frames := 0, cells := C0, slots := S0, locals := 0 } (gg D dA) h0 (some (vi_ b)) h2) C S h 69 [(2, vi_ x2), (3, vi_ v3), (4, vi_ v4)] []) : ∀ (fu : Nat) (v3 : Int32) (v4 : Int32) (v5 : Int32) (h : hc_H) (C S : Nat), p_Mo_known_8 x0 x1 x2 kx fu v3 v4 v5 h = some (b, C, S, h2) → hj_J p l e { frames := 0, cells := C0, slots := S0, locals := 0 } s m args below meth c (gg D dA) h0 7 (hj_Q below args s { frames := 0, cells := C0, slots := S0, locals := 0 } (gg D dA) h0 (some (vi_ b)) h2) C S h 8 [(0, vr_ x0), (1, vi_ x1), (2, vi_ x2), (3, vi_ v3), (4, vi_ v4), (5, vi_ v5)] [] := by
  intro fu
  induction fu with
  | zero =>
    intro v3 v4 v5 h C S hr
    cases hr
  | succ fu ih =>
    intro v3 v4 v5 h C S hr
    rw [p_Mo_known_8] at hr
    refine hj_iload hC 5 d_Mo_known_8 rfl ?_
    refine hj_aload_n hC 0 d_Mo_known_10 rfl rfl ?_
    refine hj_getr hC cf_Mo (k := 14) (by decide) wq_424 rfl d_Mo_known_11 hr (fun a1 hr => ?_)
    refine hj_iload_n hC 1 d_Mo_known_14 rfl rfl ?_
    refine hj_iald hC (kd := 17) rfl d_Mo_known_15 hr (fun a2 hr => ?_)
    refine hj_icmp_ge hC 69 d_Mo_known_16 (by decide) hr (fun q16 hr => ?_) (fun q16 hr => ?_)
    · refine hj_sub (lv' := [(2, vi_ x2), (3, vi_ v3), (4, vi_ v4)]) [2, 3, 4] rfl ?_
      exact hk _ _ _ _ _ hr
    · refine hj_aload_n hC 0 d_Mo_known_19 rfl rfl ?_
      refine hj_getr hC cf_Mo (k := 23) (by decide) wq_384 rfl d_Mo_known_20 hr (fun a3 hr => ?_)
      refine hj_sipush hC (v := 400) d_Mo_known_23 (by decide) ?_
      refine hj_iload_n hC 1 d_Mo_known_26 rfl rfl ?_
      refine hj_imul hC d_Mo_known_27 ?_
      refine hj_iload hC 5 d_Mo_known_28 rfl ?_
      refine hj_iadd hC d_Mo_known_30 ?_
      refine hj_iald hC (kd := 26) rfl d_Mo_known_31 hr (fun a4 hr => ?_)
      refine hj_istore hC (lv' := [(6, vi_ a4), (0, vr_ x0), (1, vi_ x1), (2, vi_ x2), (3, vi_ v3), (4, vi_ v4), (5, vi_ v5)]) d_Mo_known_32 (by decide) rfl ?_
      refine hj_iload_n hC 4 d_Mo_known_34 rfl rfl ?_
      refine hj_iload hC 0 d_Mo_known_35 rfl ?_
      refine hj_jn hC (K := Int32 → hM Int32) (fun k => ∀ (z5 : Int32) (h : hc_H) (C S : Nat), k z5 h = some (b, C, S, h2) → hj_J p l e { frames := 0, cells := C0, slots := S0, locals := 0 } s m args below meth c (gg D dA) h0 7 (hj_Q below args s { frames := 0, cells := C0, slots := S0, locals := 0 } (gg D dA) h0 (some (vi_ b)) h2) C S h 45 [(0, vr_ x0), (1, vi_ x1), (2, vi_ x2), (4, vi_ v4), (5, vi_ v5), (6, vi_ a4)] [vi_ z5, vi_ v3]) hr (fun z5 h C S hr => ?_) (fun k45 hk45 hr => ?_)
      · refine hj_iadd hC d_Mo_known_45 ?_
        refine hj_istore_n hC (lv' := [(3, vi_ (v3 + z5)), (0, vr_ x0), (1, vi_ x1), (2, vi_ x2), (4, vi_ v4), (5, vi_ v5), (6, vi_ a4)]) d_Mo_known_46 rfl (by decide) rfl ?_
        refine hj_iload hC 6 d_Mo_known_47 rfl ?_
        refine hj_iload hC 4 d_Mo_known_49 rfl ?_
        refine hj_jn hC (K := Int32 → hM Int32) (fun k => ∀ (z6 : Int32) (h : hc_H) (C S : Nat), k z6 h = some (b, C, S, h2) → hj_J p l e { frames := 0, cells := C0, slots := S0, locals := 0 } s m args below meth c (gg D dA) h0 7 (hj_Q below args s { frames := 0, cells := C0, slots := S0, locals := 0 } (gg D dA) h0 (some (vi_ b)) h2) C S h 61 [(0, vr_ x0), (1, vi_ x1), (2, vi_ x2), (3, vi_ (v3 + z5)), (5, vi_ v5)] [vi_ z6]) hr (fun z6 h C S hr => ?_) (fun k61 hk61 hr => ?_)
        · refine hj_istore hC (lv' := [(4, vi_ z6), (0, vr_ x0), (1, vi_ x1), (2, vi_ x2), (3, vi_ (v3 + z5)), (5, vi_ v5)]) d_Mo_known_61 (by decide) rfl ?_
          refine hj_iinc hC (lv' := [(5, vi_ (v5 + 1)), (4, vi_ z6), (0, vr_ x0), (1, vi_ x1), (2, vi_ x2), (3, vi_ (v3 + z5))]) 5 d_Mo_known_63 rfl rfl (by decide) rfl ?_
          refine hj_goto hC 8 d_Mo_known_66 (by decide) ?_
          refine hj_sub (lv' := [(0, vr_ x0), (1, vi_ x1), (2, vi_ x2), (3, vi_ (v3 + z5)), (4, vi_ z6), (5, vi_ (v5 + 1))]) [2, 3, 4, 5, 1, 0] rfl ?_
          exact ih _ _ _ _ _ _ hr
        · refine hj_icmp_le hC 59 d_Mo_known_51 (by decide) hr (fun q51 hr => ?_) (fun q51 hr => ?_)
          · refine hj_iload hC 4 d_Mo_known_59 rfl ?_
            refine hj_sub (lv' := [(0, vr_ x0), (1, vi_ x1), (2, vi_ x2), (3, vi_ (v3 + z5)), (5, vi_ v5)]) [1, 2, 3, 0, 5] rfl ?_
            exact hk61 _ _ _ _ hr
          · refine hj_iload hC 6 d_Mo_known_54 rfl ?_
            refine hj_goto hC 61 d_Mo_known_56 (by decide) ?_
            refine hj_sub (lv' := [(0, vr_ x0), (1, vi_ x1), (2, vi_ x2), (3, vi_ (v3 + z5)), (5, vi_ v5)]) [1, 2, 3, 0, 5] rfl ?_
            exact hk61 _ _ _ _ hr
      · refine hj_if_lt hC 44 d_Mo_known_37 (by decide) hr (fun q37 hr => ?_) (fun q37 hr => ?_)
        · refine hj_iconst hC (v := 0) d_Mo_known_44 (by decide) ?_
          refine hj_sub (lv' := [(0, vr_ x0), (1, vi_ x1), (2, vi_ x2), (4, vi_ v4), (5, vi_ v5), (6, vi_ a4)]) [1, 2, 3, 5, 6, 0] rfl ?_
          exact hk45 _ _ _ _ hr
        · refine hj_iconst hC (v := 1) d_Mo_known_40 (by decide) ?_
          refine hj_goto hC 45 d_Mo_known_41 (by decide) ?_
          refine hj_sub (lv' := [(0, vr_ x0), (1, vi_ x1), (2, vi_ x2), (4, vi_ v4), (5, vi_ v5), (6, vi_ a4)]) [1, 2, 3, 5, 6, 0] rfl ?_
          exact hk45 _ _ _ _ hr
set_option maxHeartbeats 4000000 in
set_option maxRecDepth 100000 in
theorem m_Mo_known {l : Launch} {D : va_G} {dA : Nat → ClassId} (o : Option Nat) (x1 : Int32) (x2 : Int32) (h0 : hc_H) (b : Int32) (C0 S0 : Nat) (h2 : hc_H) (hr : p_Mo_known o x1 x2 h0 = some (b, C0, S0, h2)) : hc_Met l (gg D dA) y_Mo_known b_Mo_known 7 (some .int) tb 0 0 [vr_ o, vi_ x1, vi_ x2] h0 C0 S0 (some (vi_ b)) h2 := by
  refine hc_Met.of (by decide) (Nat.le_of_ble_eq_true rfl) ?_
  intro p e s m args below meth c hC
  unfold p_Mo_known at hr
  refine hj_sub (lv' := [(0, vr_ o), (1, vi_ x1), (2, vi_ x2)]) [0, 1, 2] rfl ?_
  refine hj_iconst hC (v := 0) d_Mo_known_0 (by decide) ?_
  refine hj_istore_n hC (lv' := [(3, vi_ 0), (0, vr_ o), (1, vi_ x1), (2, vi_ x2)]) d_Mo_known_1 rfl (by decide) rfl ?_
  refine hj_iconst hC (v := 0) d_Mo_known_2 (by decide) ?_
  refine hj_istore hC (lv' := [(4, vi_ 0), (3, vi_ 0), (0, vr_ o), (1, vi_ x1), (2, vi_ x2)]) d_Mo_known_3 (by decide) rfl ?_
  refine hj_iconst hC (v := 0) d_Mo_known_5 (by decide) ?_
  refine hj_istore hC (lv' := [(5, vi_ 0), (4, vi_ 0), (3, vi_ 0), (0, vr_ o), (1, vi_ x1), (2, vi_ x2)]) d_Mo_known_6 (by decide) rfl ?_
  refine hj_sub (lv' := [(0, vr_ o), (1, vi_ x1), (2, vi_ x2), (3, vi_ 0), (4, vi_ 0), (5, vi_ 0)]) [3, 4, 5, 2, 1, 0] rfl ?_
  refine ml_Mo_known_8 hC _ _ _ _ (fun v3_7 v4_8 h C S hr => ?_) _ _ _ _ _ _ _ hr
  refine hj_iload_n hC 0 d_Mo_known_69 rfl rfl ?_
  refine hj_if_eq hC 78 d_Mo_known_70 (by decide) hr (fun q70 hr => ?_) (fun q70 hr => ?_)
  · refine hj_iload_n hC 1 d_Mo_known_78 rfl rfl ?_
    exact hj_iret hC d_Mo_known_79 hr
  · refine hj_iload hC 2 d_Mo_known_73 rfl ?_
    refine hj_goto hC 79 d_Mo_known_75 (by decide) ?_
    exact hj_iret hC d_Mo_known_79 hr
set_option maxHeartbeats 4000000 in
set_option maxRecDepth 100000 in
theorem m_Mo_function {l : Launch} {D : va_G} {dA : Nat → ClassId} (o : Option Nat) (x1 : Int32) (x2 : Int32) (h0 : hc_H) (b : Int32) (C0 S0 : Nat) (h2 : hc_H) (hr : p_Mo_function o x1 x2 h0 = some (b, C0, S0, h2)) : hc_Met l (gg D dA) y_Mo_function b_Mo_function 3 (some .int) tb 1 26 [vr_ o, vi_ x1, vi_ x2] h0 C0 S0 (some (vi_ b)) h2 := by
  refine hc_Met.of (by decide) (Nat.le_of_ble_eq_true rfl) ?_
  intro p e s m args below meth c hC
  unfold p_Mo_function at hr
  refine hj_sub (lv' := [(0, vr_ o), (1, vi_ x1), (2, vi_ x2)]) [0, 1, 2] rfl ?_
  refine hj_aload_n hC 0 d_Mo_function_0 rfl rfl ?_
  refine hj_iconst hC (v := 0) d_Mo_function_1 (by decide) ?_
  refine hj_puti hC cf_Mo (k := 0) (by decide) wq_444 rfl (Or.inl rfl) rfl d_Mo_function_2 hr (fun h hr => ?_)
  refine hj_aload_n hC 0 d_Mo_function_5 rfl rfl ?_
  refine hj_iload_n hC 1 d_Mo_function_6 rfl rfl ?_
  refine hj_callV hC hG (enc := (fun a : Int32 => some (vi_ a))) (As := [vi_ x1]) (st := []) (fun h a C S h1 hr => m_Mo_isFunction _ _ h a C S h1 hr) cf_Mo wq_496 wq_497 wq_498 wq_389 wq_491 yk_Mo_isFunction rfl ⟨Nat.le_of_ble_eq_true rfl, Nat.le_of_ble_eq_true rfl⟩ rfl (Nat.le_of_ble_eq_true rfl) d_Mo_function_7 hr (fun a1 h C S hr => ?_)
  refine hj_if_ne hC 15 d_Mo_function_10 (by decide) hr (fun q10 hr => ?_) (fun q10 hr => ?_)
  · refine hj_iload_n hC 2 d_Mo_function_15 rfl rfl ?_
    by_cases s16_0 : x2 = 0
    · rw [if_pos s16_0] at hr
      refine hj_tableIn hC 64 d_Mo_function_16 (by rw [s16_0]; decide) (by rw [s16_0]; decide) (by rw [s16_0]; rfl) (by decide) ?_
      refine hj_aload_n hC 0 d_Mo_function_64 rfl rfl ?_
      refine hj_getr hC cf_Mo (k := 10) (by decide) wq_408 rfl d_Mo_function_65 hr (fun a2 hr => ?_)
      refine hj_iload_n hC 1 d_Mo_function_68 rfl rfl ?_
      refine hj_iald hC (kd := 13) rfl d_Mo_function_69 hr (fun a3 hr => ?_)
      exact hj_iret hC d_Mo_function_70 hr
    · rw [if_neg s16_0] at hr
      by_cases s16_1 : x2 = 1
      · rw [if_pos s16_1] at hr
        refine hj_tableIn hC 71 d_Mo_function_16 (by rw [s16_1]; decide) (by rw [s16_1]; decide) (by rw [s16_1]; rfl) (by decide) ?_
        refine hj_aload_n hC 0 d_Mo_function_71 rfl rfl ?_
        refine hj_getr hC cf_Mo (k := 11) (by decide) wq_437 rfl d_Mo_function_72 hr (fun a4 hr => ?_)
        refine hj_iload_n hC 1 d_Mo_function_75 rfl rfl ?_
        refine hj_iald hC (kd := 14) rfl d_Mo_function_76 hr (fun a5 hr => ?_)
        exact hj_iret hC d_Mo_function_77 hr
      · rw [if_neg s16_1] at hr
        by_cases s16_2 : x2 = 2
        · rw [if_pos s16_2] at hr
          refine hj_tableIn hC 78 d_Mo_function_16 (by rw [s16_2]; decide) (by rw [s16_2]; decide) (by rw [s16_2]; rfl) (by decide) ?_
          refine hj_aload_n hC 0 d_Mo_function_78 rfl rfl ?_
          refine hj_getr hC cf_Mo (k := 12) (by decide) wq_394 rfl d_Mo_function_79 hr (fun a6 hr => ?_)
          refine hj_iload_n hC 1 d_Mo_function_82 rfl rfl ?_
          refine hj_iald hC (kd := 15) rfl d_Mo_function_83 hr (fun a7 hr => ?_)
          exact hj_iret hC d_Mo_function_84 hr
        · rw [if_neg s16_2] at hr
          by_cases s16_3 : x2 = 3
          · rw [if_pos s16_3] at hr
            refine hj_tableIn hC 85 d_Mo_function_16 (by rw [s16_3]; decide) (by rw [s16_3]; decide) (by rw [s16_3]; rfl) (by decide) ?_
            refine hj_aload_n hC 0 d_Mo_function_85 rfl rfl ?_
            refine hj_getr hC cf_Mo (k := 13) (by decide) wq_407 rfl d_Mo_function_86 hr (fun a8 hr => ?_)
            refine hj_iload_n hC 1 d_Mo_function_89 rfl rfl ?_
            refine hj_iald hC (kd := 16) rfl d_Mo_function_90 hr (fun a9 hr => ?_)
            exact hj_iret hC d_Mo_function_91 hr
          · rw [if_neg s16_3] at hr
            by_cases s16_4 : x2 = 4
            · rw [if_pos s16_4] at hr
              refine hj_tableIn hC 92 d_Mo_function_16 (by rw [s16_4]; decide) (by rw [s16_4]; decide) (by rw [s16_4]; rfl) (by decide) ?_
              refine hj_aload_n hC 0 d_Mo_function_92 rfl rfl ?_
              refine hj_getr hC cf_Mo (k := 14) (by decide) wq_424 rfl d_Mo_function_93 hr (fun a10 hr => ?_)
              refine hj_iload_n hC 1 d_Mo_function_96 rfl rfl ?_
              refine hj_iald hC (kd := 17) rfl d_Mo_function_97 hr (fun a11 hr => ?_)
              exact hj_iret hC d_Mo_function_98 hr
            · rw [if_neg s16_4] at hr
              by_cases s16_5 : x2 = 5
              · rw [if_pos s16_5] at hr
                refine hj_tableIn hC 99 d_Mo_function_16 (by rw [s16_5]; decide) (by rw [s16_5]; decide) (by rw [s16_5]; rfl) (by decide) ?_
                refine hj_aload_n hC 0 d_Mo_function_99 rfl rfl ?_
                refine hj_getr hC cf_Mo (k := 15) (by decide) wq_416 rfl d_Mo_function_100 hr (fun a12 hr => ?_)
                refine hj_iload_n hC 1 d_Mo_function_103 rfl rfl ?_
                refine hj_iald hC (kd := 18) rfl d_Mo_function_104 hr (fun a13 hr => ?_)
                exact hj_iret hC d_Mo_function_105 hr
              · rw [if_neg s16_5] at hr
                by_cases s16_6 : x2 = 6 ∨ x2 = 7
                · rw [if_pos s16_6] at hr
                  refine hj_tableIn hC (off := 90) 106 d_Mo_function_16 (by rcases s16_6 with u | u <;> rw [u] <;> decide) (by rcases s16_6 with u | u <;> rw [u] <;> decide) (by rcases s16_6 with u | u <;> rw [u] <;> rfl) (by decide) ?_
                  refine hj_aload_n hC 0 d_Mo_function_106 rfl rfl ?_
                  refine hj_iload_n hC 1 d_Mo_function_107 rfl rfl ?_
                  refine hj_iload_n hC 2 d_Mo_function_108 rfl rfl ?_
                  refine hj_bipush hC (v := 7) d_Mo_function_109 (by decide) ?_
                  refine hj_jn hC (K := Int32 → hM Int32) (fun k => ∀ (z14 : Int32) (h : hc_H) (C S : Nat), k z14 h = some (b, C, S, h2) → hj_J p l e { frames := 1, cells := C0, slots := S0, locals := 26 } s m args below meth c (gg D dA) h0 3 (hj_Q below args s { frames := 1, cells := C0, slots := S0, locals := 26 } (gg D dA) h0 (some (vi_ b)) h2) C S h 119 [] [vi_ z14, vi_ x1, vr_ o]) hr (fun z14 h C S hr => ?_) (fun k119 hk119 hr => ?_)
                  · refine hj_callV hC hG (enc := (fun a : Int32 => some (vi_ a))) (As := [vi_ x1, vi_ z14]) (st := []) (fun h a C S h1 hr => m_Mo_known _ _ _ h a C S h1 hr) cf_Mo wq_500 wq_501 wq_502 wq_389 wq_499 yk_Mo_known rfl ⟨Nat.le_of_ble_eq_true rfl, Nat.le_of_ble_eq_true rfl⟩ rfl (Nat.le_of_ble_eq_true rfl) d_Mo_function_119 hr (fun a15 h C S hr => ?_)
                    exact hj_iret hC d_Mo_function_122 hr
                  · refine hj_icmp_ne hC 118 d_Mo_function_111 (by decide) hr (fun q111 hr => ?_) (fun q111 hr => ?_)
                    · refine hj_iconst hC (v := 0) d_Mo_function_118 (by decide) ?_
                      refine hj_sub (lv' := []) [] rfl ?_
                      exact hk119 _ _ _ _ hr
                    · refine hj_iconst hC (v := 1) d_Mo_function_114 (by decide) ?_
                      refine hj_goto hC 119 d_Mo_function_115 (by decide) ?_
                      refine hj_sub (lv' := []) [] rfl ?_
                      exact hk119 _ _ _ _ hr
                · rw [if_neg s16_6] at hr
                  have s16_6_0 : ¬ x2 = 6 := fun u => s16_6 (Or.inl u)
                  have s16_6_1 : ¬ x2 = 7 := fun u => s16_6 (Or.inr (u))
                  have e0 := lv_neT s16_0 (a := 0) (by decide)
                  have e1 := lv_neT s16_1 (a := 1) (by decide)
                  have e2 := lv_neT s16_2 (a := 2) (by decide)
                  have e3 := lv_neT s16_3 (a := 3) (by decide)
                  have e4 := lv_neT s16_4 (a := 4) (by decide)
                  have e5 := lv_neT s16_5 (a := 5) (by decide)
                  have e6 := lv_neT s16_6_0 (a := 6) (by decide)
                  have e7 := lv_neT s16_6_1 (a := 7) (by decide)
                  refine hj_tableOut hC 123 d_Mo_function_16 (by omega) (by decide) ?_
                  refine hj_iconst hC (v := (-1)) d_Mo_function_123 (by decide) ?_
                  exact hj_iret hC d_Mo_function_124 hr
  · refine hj_iconst hC (v := (-1)) d_Mo_function_13 (by decide) ?_
    exact hj_iret hC d_Mo_function_14 hr
set_option maxHeartbeats 4000000 in
set_option maxRecDepth 100000 in
theorem m_Mo_handler {l : Launch} {D : va_G} {dA : Nat → ClassId} (o : Option Nat) (x1 : Int32) (x2 : Int32) (x3 : Int32) (h0 : hc_H) (b : Int32) (C0 S0 : Nat) (h2 : hc_H) (hr : p_Mo_handler o x1 x2 x3 h0 = some (b, C0, S0, h2)) : hc_Met l (gg D dA) y_Mo_handler b_Mo_handler 5 (some .int) tb 1 21 [vr_ o, vi_ x1, vi_ x2, vi_ x3] h0 C0 S0 (some (vi_ b)) h2 := by
  refine hc_Met.of (by decide) (Nat.le_of_ble_eq_true rfl) ?_
  intro p e s m args below meth c hC
  unfold p_Mo_handler at hr
  refine hj_sub (lv' := [(0, vr_ o), (1, vi_ x1), (2, vi_ x2), (3, vi_ x3)]) [0, 1, 2, 3] rfl ?_
  refine hj_aload_n hC 0 d_Mo_handler_0 rfl rfl ?_
  refine hj_iconst hC (v := 0) d_Mo_handler_1 (by decide) ?_
  refine hj_puti hC cf_Mo (k := 0) (by decide) wq_444 rfl (Or.inl rfl) rfl d_Mo_handler_2 hr (fun h hr => ?_)
  refine hj_aload_n hC 0 d_Mo_handler_5 rfl rfl ?_
  refine hj_iload_n hC 1 d_Mo_handler_6 rfl rfl ?_
  refine hj_callV hC hG (enc := (fun a : Int32 => some (vi_ a))) (As := [vi_ x1]) (st := []) (fun h a C S h1 hr => m_Mo_isFunction _ _ h a C S h1 hr) cf_Mo wq_496 wq_497 wq_498 wq_389 wq_491 yk_Mo_isFunction rfl ⟨Nat.le_of_ble_eq_true rfl, Nat.le_of_ble_eq_true rfl⟩ rfl (Nat.le_of_ble_eq_true rfl) d_Mo_handler_7 hr (fun a1 h C S hr => ?_)
  refine hj_if_eq hC 39 d_Mo_handler_10 (by decide) hr (fun q10 hr => ?_) (fun q10 hr => ?_)
  · refine hj_iconst hC (v := 0) d_Mo_handler_39 (by decide) ?_
    exact hj_iret hC d_Mo_handler_40 hr
  · refine hj_iload_n hC 2 d_Mo_handler_13 rfl rfl ?_
    refine hj_if_lt hC 39 d_Mo_handler_14 (by decide) hr (fun q14 hr => ?_) (fun q14 hr => ?_)
    · refine hj_iconst hC (v := 0) d_Mo_handler_39 (by decide) ?_
      exact hj_iret hC d_Mo_handler_40 hr
    · refine hj_iload_n hC 2 d_Mo_handler_17 rfl rfl ?_
      refine hj_aload_n hC 0 d_Mo_handler_18 rfl rfl ?_
      refine hj_getr hC cf_Mo (k := 15) (by decide) wq_416 rfl d_Mo_handler_19 hr (fun a2 hr => ?_)
      refine hj_aload_n hC 0 d_Mo_handler_22 rfl rfl ?_
      refine hj_iload_n hC 1 d_Mo_handler_23 rfl rfl ?_
      refine hj_callV hC hG (enc := (fun a : Int32 => some (vi_ a))) (As := [vi_ x1]) (st := [vr_ a2, vi_ x2]) (fun h a C S h1 hr => m_Mo_isFunction _ _ h a C S h1 hr) cf_Mo wq_496 wq_497 wq_498 wq_389 wq_491 yk_Mo_isFunction rfl ⟨Nat.le_of_ble_eq_true rfl, Nat.le_of_ble_eq_true rfl⟩ rfl (Nat.le_of_ble_eq_true rfl) d_Mo_handler_24 hr (fun a3 h C S hr => ?_)
      refine hj_jn hC (K := Int32 → hM Int32) (fun k => ∀ (z4 : Int32) (h : hc_H) (C S : Nat), k z4 h = some (b, C, S, h2) → hj_J p l e { frames := 1, cells := C0, slots := S0, locals := 21 } s m args below meth c (gg D dA) h0 5 (hj_Q below args s { frames := 1, cells := C0, slots := S0, locals := 21 } (gg D dA) h0 (some (vi_ b)) h2) C S h 35 [(0, vr_ o), (1, vi_ x1), (2, vi_ x2), (3, vi_ x3)] [vi_ z4, vr_ a2, vi_ x2]) hr (fun z4 h C S hr => ?_) (fun k35 hk35 hr => ?_)
      · refine hj_iald hC (kd := 18) rfl d_Mo_handler_35 hr (fun a5 hr => ?_)
        refine hj_icmp_lt hC 41 d_Mo_handler_36 (by decide) hr (fun q36 hr => ?_) (fun q36 hr => ?_)
        · refine hj_bipush hC (v := 6) d_Mo_handler_41 (by decide) ?_
          refine hj_iload_n hC 1 d_Mo_handler_43 rfl rfl ?_
          refine hj_imul hC d_Mo_handler_44 ?_
          refine hj_iload_n hC 2 d_Mo_handler_45 rfl rfl ?_
          refine hj_iadd hC d_Mo_handler_46 ?_
          refine hj_istore hC (lv' := [(4, vi_ ((6 * x1) + x2)), (0, vr_ o), (1, vi_ x1), (2, vi_ x2), (3, vi_ x3)]) d_Mo_handler_47 (by decide) rfl ?_
          refine hj_iload_n hC 4 d_Mo_handler_49 rfl rfl ?_
          refine hj_if_ne hC 63 d_Mo_handler_50 (by decide) hr (fun q50 hr => ?_) (fun q50 hr => ?_)
          · refine hj_iload_n hC 4 d_Mo_handler_63 rfl rfl ?_
            refine hj_iconst hC (v := 1) d_Mo_handler_64 (by decide) ?_
            refine hj_icmp_ne hC 78 d_Mo_handler_65 (by decide) hr (fun q65 hr => ?_) (fun q65 hr => ?_)
            · refine hj_iload_n hC 4 d_Mo_handler_78 rfl rfl ?_
              refine hj_iconst hC (v := 2) d_Mo_handler_79 (by decide) ?_
              refine hj_icmp_ne hC 93 d_Mo_handler_80 (by decide) hr (fun q80 hr => ?_) (fun q80 hr => ?_)
              · refine hj_iload_n hC 4 d_Mo_handler_93 rfl rfl ?_
                refine hj_iconst hC (v := 3) d_Mo_handler_94 (by decide) ?_
                refine hj_icmp_ne hC 116 d_Mo_handler_95 (by decide) hr (fun q95 hr => ?_) (fun q95 hr => ?_)
                · refine hj_iload_n hC 4 d_Mo_handler_116 rfl rfl ?_
                  refine hj_iconst hC (v := 4) d_Mo_handler_117 (by decide) ?_
                  refine hj_icmp_ne hC 131 d_Mo_handler_118 (by decide) hr (fun q118 hr => ?_) (fun q118 hr => ?_)
                  · refine hj_iconst hC (v := 0) d_Mo_handler_131 (by decide) ?_
                    exact hj_iret hC d_Mo_handler_132 hr
                  · refine hj_aload_n hC 1 d_Mo_handler_121 rfl rfl ?_
                    refine hj_getr hC cf_Mo (k := 22) (by decide) wq_439 rfl d_Mo_handler_122 hr (fun a6 hr => ?_)
                    refine hj_iload hC 0 d_Mo_handler_125 rfl ?_
                    refine hj_iald hC (kd := 25) rfl d_Mo_handler_127 hr (fun a7 hr => ?_)
                    refine hj_goto hC 132 d_Mo_handler_128 (by decide) ?_
                    exact hj_iret hC d_Mo_handler_132 hr
                · refine hj_aload_n hC 1 d_Mo_handler_98 rfl rfl ?_
                  refine hj_getr hC cf_Mo (k := 21) (by decide) wq_438 rfl d_Mo_handler_99 hr (fun a8 hr => ?_)
                  refine hj_iload hC 0 d_Mo_handler_102 rfl ?_
                  refine hj_zald hC (kd := 24) rfl d_Mo_handler_104 hr (fun a9 hr => ?_)
                  refine hj_if_eq hC 112 d_Mo_handler_105 (by decide) hr (fun q105 hr => ?_) (fun q105 hr => ?_)
                  · refine hj_iconst hC (v := 0) d_Mo_handler_112 (by decide) ?_
                    refine hj_goto hC 132 d_Mo_handler_113 (by decide) ?_
                    exact hj_iret hC d_Mo_handler_132 hr
                  · refine hj_iconst hC (v := 1) d_Mo_handler_108 (by decide) ?_
                    refine hj_goto hC 132 d_Mo_handler_109 (by decide) ?_
                    exact hj_iret hC d_Mo_handler_132 hr
              · refine hj_aload_n hC 1 d_Mo_handler_83 rfl rfl ?_
                refine hj_getr hC cf_Mo (k := 20) (by decide) wq_419 rfl d_Mo_handler_84 hr (fun a10 hr => ?_)
                refine hj_iload hC 0 d_Mo_handler_87 rfl ?_
                refine hj_iald hC (kd := 23) rfl d_Mo_handler_89 hr (fun a11 hr => ?_)
                refine hj_goto hC 132 d_Mo_handler_90 (by decide) ?_
                exact hj_iret hC d_Mo_handler_132 hr
            · refine hj_aload_n hC 1 d_Mo_handler_68 rfl rfl ?_
              refine hj_getr hC cf_Mo (k := 19) (by decide) wq_418 rfl d_Mo_handler_69 hr (fun a12 hr => ?_)
              refine hj_iload hC 0 d_Mo_handler_72 rfl ?_
              refine hj_iald hC (kd := 22) rfl d_Mo_handler_74 hr (fun a13 hr => ?_)
              refine hj_goto hC 132 d_Mo_handler_75 (by decide) ?_
              exact hj_iret hC d_Mo_handler_132 hr
          · refine hj_aload_n hC 1 d_Mo_handler_53 rfl rfl ?_
            refine hj_getr hC cf_Mo (k := 18) (by decide) wq_417 rfl d_Mo_handler_54 hr (fun a14 hr => ?_)
            refine hj_iload hC 0 d_Mo_handler_57 rfl ?_
            refine hj_iald hC (kd := 21) rfl d_Mo_handler_59 hr (fun a15 hr => ?_)
            refine hj_goto hC 132 d_Mo_handler_60 (by decide) ?_
            exact hj_iret hC d_Mo_handler_132 hr
        · refine hj_iconst hC (v := 0) d_Mo_handler_39 (by decide) ?_
          exact hj_iret hC d_Mo_handler_40 hr
      · refine hj_if_eq hC 34 d_Mo_handler_27 (by decide) hr (fun q27 hr => ?_) (fun q27 hr => ?_)
        · refine hj_iconst hC (v := 0) d_Mo_handler_34 (by decide) ?_
          exact hk35 _ _ _ _ hr
        · refine hj_iload_n hC 1 d_Mo_handler_30 rfl rfl ?_
          refine hj_goto hC 35 d_Mo_handler_31 (by decide) ?_
          exact hk35 _ _ _ _ hr
set_option maxHeartbeats 4000000 in
set_option maxRecDepth 100000 in
theorem ml_Mo_codes_4 {p : Program} {l : Launch} {e : Env} {s : State} {m : MethodId} {args : Array Value} {below : List Frame} {meth : Method} {c : Code} {D : va_G} {dA : Nat → ClassId} {h0 h2 : hc_H} {C0 S0 : Nat} {b : Int32} (hC : hj_C p s m args meth c (gg D dA) b_Mo_codes 3 (some .int) R_Mo "codes" tb) (x0 : Option Nat) (kx : Int32 → hM Int32) (hk : ∀ (v1 : Int32) (h : hc_H) (C S : Nat), kx v1 h = some (b, C, S, h2) → hj_J p l e { frames := 0, cells := C0, slots := S0, locals := 0 } s m args below meth c (gg D dA) h0 3 (hj_Q below args s { frames := 0, cells := C0, slots := S0, locals := 0 } (gg D dA) h0 (some (vi_ b)) h2) C S h 29 [(1, vi_ v1)] []) : ∀ (fu : Nat) (v1 : Int32) (v2 : Int32) (h : hc_H) (C S : Nat), p_Mo_codes_4 x0 kx fu v1 v2 h = some (b, C, S, h2) → hj_J p l e { frames := 0, cells := C0, slots := S0, locals := 0 } s m args below meth c (gg D dA) h0 3 (hj_Q below args s { frames := 0, cells := C0, slots := S0, locals := 0 } (gg D dA) h0 (some (vi_ b)) h2) C S h 4 [(0, vr_ x0), (1, vi_ v1), (2, vi_ v2)] [] := by
  intro fu
  induction fu with
  | zero =>
    intro v1 v2 h C S hr
    cases hr
  | succ fu ih =>
    intro v1 v2 h C S hr
    rw [p_Mo_codes_4] at hr
    refine hj_iload_n hC 2 d_Mo_codes_4 rfl rfl ?_
    refine hj_aload_n hC 0 d_Mo_codes_5 rfl rfl ?_
    refine hj_getr hC cf_Mo (k := 9) (by decide) wq_436 rfl d_Mo_codes_6 hr (fun a1 hr => ?_)
    refine hj_iconst hC (v := 0) d_Mo_codes_9 (by decide) ?_
    refine hj_iald hC (kd := 12) rfl d_Mo_codes_10 hr (fun a2 hr => ?_)
    refine hj_icmp_ge hC 29 d_Mo_codes_11 (by decide) hr (fun q11 hr => ?_) (fun q11 hr => ?_)
    · refine hj_sub (lv' := [(1, vi_ v1)]) [1] rfl ?_
      exact hk _ _ _ _ hr
    · refine hj_iload_n hC 1 d_Mo_codes_14 rfl rfl ?_
      refine hj_aload_n hC 0 d_Mo_codes_15 rfl rfl ?_
      refine hj_getr hC cf_Mo (k := 14) (by decide) wq_424 rfl d_Mo_codes_16 hr (fun a3 hr => ?_)
      refine hj_iload_n hC 2 d_Mo_codes_19 rfl rfl ?_
      refine hj_iald hC (kd := 17) rfl d_Mo_codes_20 hr (fun a4 hr => ?_)
      refine hj_iadd hC d_Mo_codes_21 ?_
      refine hj_istore_n hC (lv' := [(1, vi_ (v1 + a4)), (0, vr_ x0), (2, vi_ v2)]) d_Mo_codes_22 rfl (by decide) rfl ?_
      refine hj_iinc hC (lv' := [(2, vi_ (v2 + 1)), (1, vi_ (v1 + a4)), (0, vr_ x0)]) 2 d_Mo_codes_23 rfl rfl (by decide) rfl ?_
      refine hj_goto hC 4 d_Mo_codes_26 (by decide) ?_
      refine hj_sub (lv' := [(0, vr_ x0), (1, vi_ (v1 + a4)), (2, vi_ (v2 + 1))]) [2, 1, 0] rfl ?_
      exact ih _ _ _ _ _ hr
set_option maxHeartbeats 4000000 in
set_option maxRecDepth 100000 in
theorem m_Mo_codes {l : Launch} {D : va_G} {dA : Nat → ClassId} (o : Option Nat) (h0 : hc_H) (b : Int32) (C0 S0 : Nat) (h2 : hc_H) (hr : p_Mo_codes o h0 = some (b, C0, S0, h2)) : hc_Met l (gg D dA) y_Mo_codes b_Mo_codes 3 (some .int) tb 0 0 [vr_ o] h0 C0 S0 (some (vi_ b)) h2 := by
  refine hc_Met.of (by decide) (Nat.le_of_ble_eq_true rfl) ?_
  intro p e s m args below meth c hC
  unfold p_Mo_codes at hr
  refine hj_sub (lv' := [(0, vr_ o)]) [0] rfl ?_
  refine hj_iconst hC (v := 0) d_Mo_codes_0 (by decide) ?_
  refine hj_istore_n hC (lv' := [(1, vi_ 0), (0, vr_ o)]) d_Mo_codes_1 rfl (by decide) rfl ?_
  refine hj_iconst hC (v := 0) d_Mo_codes_2 (by decide) ?_
  refine hj_istore_n hC (lv' := [(2, vi_ 0), (1, vi_ 0), (0, vr_ o)]) d_Mo_codes_3 rfl (by decide) rfl ?_
  refine hj_sub (lv' := [(0, vr_ o), (1, vi_ 0), (2, vi_ 0)]) [2, 1, 0] rfl ?_
  refine ml_Mo_codes_4 hC _ _ (fun v1_5 h C S hr => ?_) _ _ _ _ _ _ hr
  refine hj_iload_n hC 0 d_Mo_codes_29 rfl rfl ?_
  exact hj_iret hC d_Mo_codes_30 hr
set_option maxHeartbeats 4000000 in
set_option maxRecDepth 100000 in
theorem m_Mo_look {l : Launch} {D : va_G} {dA : Nat → ClassId} (o : Option Nat) (x1 : Int32) (h0 : hc_H) (b : Int32) (C0 S0 : Nat) (h2 : hc_H) (hr : p_Mo_look o x1 h0 = some (b, C0, S0, h2)) : hc_Met l (gg D dA) y_Mo_look b_Mo_look 2 (some .int) tb 1 22 [vr_ o, vi_ x1] h0 C0 S0 (some (vi_ b)) h2 := by
  refine hc_Met.of (by decide) (Nat.le_of_ble_eq_true rfl) ?_
  intro p e s m args below meth c hC
  unfold p_Mo_look at hr
  refine hj_sub (lv' := [(0, vr_ o), (1, vi_ x1)]) [0, 1] rfl ?_
  refine hj_aload_n hC 0 d_Mo_look_0 rfl rfl ?_
  refine hj_iconst hC (v := 0) d_Mo_look_1 (by decide) ?_
  refine hj_puti hC cf_Mo (k := 0) (by decide) wq_444 rfl (Or.inl rfl) rfl d_Mo_look_2 hr (fun h hr => ?_)
  refine hj_iload_n hC 1 d_Mo_look_5 rfl rfl ?_
  by_cases s6_0 : x1 = 0
  · rw [if_pos s6_0] at hr
    refine hj_tableIn hC 44 d_Mo_look_6 (by rw [s6_0]; decide) (by rw [s6_0]; decide) (by rw [s6_0]; rfl) (by decide) ?_
    refine hj_aload_n hC 0 d_Mo_look_44 rfl rfl ?_
    refine hj_getr hC cf_Mo (k := 9) (by decide) wq_436 rfl d_Mo_look_45 hr (fun a1 hr => ?_)
    refine hj_iconst hC (v := 0) d_Mo_look_48 (by decide) ?_
    refine hj_iald hC (kd := 12) rfl d_Mo_look_49 hr (fun a2 hr => ?_)
    exact hj_iret hC d_Mo_look_50 hr
  · rw [if_neg s6_0] at hr
    by_cases s6_1 : x1 = 1
    · rw [if_pos s6_1] at hr
      refine hj_tableIn hC 51 d_Mo_look_6 (by rw [s6_1]; decide) (by rw [s6_1]; decide) (by rw [s6_1]; rfl) (by decide) ?_
      refine hj_aload_n hC 0 d_Mo_look_51 rfl rfl ?_
      refine hj_callV hC hG (enc := (fun a : Int32 => some (vi_ a))) (As := []) (st := []) (fun h a C S h1 hr => m_Mo_codes _  h a C S h1 hr) cf_Mo wq_504 wq_505 wq_506 wq_389 wq_503 yk_Mo_codes rfl ⟨Nat.le_of_ble_eq_true rfl, Nat.le_of_ble_eq_true rfl⟩ rfl (Nat.le_of_ble_eq_true rfl) d_Mo_look_52 hr (fun a3 h C S hr => ?_)
      exact hj_iret hC d_Mo_look_55 hr
    · rw [if_neg s6_1] at hr
      by_cases s6_2 : x1 = 2
      · rw [if_pos s6_2] at hr
        refine hj_tableIn hC 56 d_Mo_look_6 (by rw [s6_2]; decide) (by rw [s6_2]; decide) (by rw [s6_2]; rfl) (by decide) ?_
        refine hj_aload_n hC 0 d_Mo_look_56 rfl rfl ?_
        refine hj_geti hC cf_Mo (k := 2) (by decide) wq_445 rfl d_Mo_look_57 hr (fun a4 hr => ?_)
        exact hj_iret hC d_Mo_look_60 hr
      · rw [if_neg s6_2] at hr
        by_cases s6_3 : x1 = 3
        · rw [if_pos s6_3] at hr
          refine hj_tableIn hC 61 d_Mo_look_6 (by rw [s6_3]; decide) (by rw [s6_3]; decide) (by rw [s6_3]; rfl) (by decide) ?_
          refine hj_aload_n hC 0 d_Mo_look_61 rfl rfl ?_
          refine hj_geti hC cf_Mo (k := 4) (by decide) wq_447 rfl d_Mo_look_62 hr (fun a5 hr => ?_)
          exact hj_iret hC d_Mo_look_65 hr
        · rw [if_neg s6_3] at hr
          by_cases s6_4 : x1 = 4
          · rw [if_pos s6_4] at hr
            refine hj_tableIn hC 66 d_Mo_look_6 (by rw [s6_4]; decide) (by rw [s6_4]; decide) (by rw [s6_4]; rfl) (by decide) ?_
            refine hj_aload_n hC 0 d_Mo_look_66 rfl rfl ?_
            refine hj_geti hC cf_Mo (k := 5) (by decide) wq_467 rfl d_Mo_look_67 hr (fun a6 hr => ?_)
            exact hj_iret hC d_Mo_look_70 hr
          · rw [if_neg s6_4] at hr
            by_cases s6_5 : x1 = 5
            · rw [if_pos s6_5] at hr
              refine hj_tableIn hC 71 d_Mo_look_6 (by rw [s6_5]; decide) (by rw [s6_5]; decide) (by rw [s6_5]; rfl) (by decide) ?_
              refine hj_aload_n hC 0 d_Mo_look_71 rfl rfl ?_
              refine hj_geti hC cf_Mo (k := 6) (by decide) wq_435 rfl d_Mo_look_72 hr (fun a7 hr => ?_)
              exact hj_iret hC d_Mo_look_75 hr
            · rw [if_neg s6_5] at hr
              have e0 := lv_neT s6_0 (a := 0) (by decide)
              have e1 := lv_neT s6_1 (a := 1) (by decide)
              have e2 := lv_neT s6_2 (a := 2) (by decide)
              have e3 := lv_neT s6_3 (a := 3) (by decide)
              have e4 := lv_neT s6_4 (a := 4) (by decide)
              have e5 := lv_neT s6_5 (a := 5) (by decide)
              refine hj_tableOut hC 76 d_Mo_look_6 (by omega) (by decide) ?_
              refine hj_iconst hC (v := (-1)) d_Mo_look_76 (by decide) ?_
              exact hj_iret hC d_Mo_look_77 hr
