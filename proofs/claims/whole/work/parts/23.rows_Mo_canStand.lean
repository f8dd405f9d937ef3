theorem d_Mo_canStand_0 : decode b_Mo_canStand 0 = .ok (.iload_n 2, 1) := by decide +kernel
theorem d_Mo_canStand_1 : decode b_Mo_canStand 1 = .ok (.iconst 4, 1) := by decide +kernel
theorem d_Mo_canStand_2 : decode b_Mo_canStand 2 = .ok (.if_icmp .eq 8, 3) := by decide +kernel
theorem d_Mo_canStand_5 : decode b_Mo_canStand 5 = .ok (.iload_n 2, 1) := by decide +kernel
theorem d_Mo_canStand_6 : decode b_Mo_canStand 6 = .ok (.iconst 5, 1) := by decide +kernel
theorem d_Mo_canStand_7 : decode b_Mo_canStand 7 = .ok (.if_icmp .ne 23, 3) := by decide +kernel
theorem d_Mo_canStand_10 : decode b_Mo_canStand 10 = .ok (.iload_n 3, 1) := by decide +kernel
theorem d_Mo_canStand_11 : decode b_Mo_canStand 11 = .ok (.ifCond .lt 17, 3) := by decide +kernel
theorem d_Mo_canStand_14 : decode b_Mo_canStand 14 = .ok (.iload_n 3, 1) := by decide +kernel
theorem d_Mo_canStand_15 : decode b_Mo_canStand 15 = .ok (.aload_n 0, 1) := by decide +kernel
theorem d_Mo_canStand_16 : decode b_Mo_canStand 16 = .ok (.getfield 26, 3) := by decide +kernel
theorem d_Mo_canStand_19 : decode b_Mo_canStand 19 = .ok (.iload_n 1, 1) := by decide +kernel
theorem d_Mo_canStand_20 : decode b_Mo_canStand 20 = .ok (.iaload, 1) := by decide +kernel
theorem d_Mo_canStand_21 : decode b_Mo_canStand 21 = .ok (.if_icmp .ge 7, 3) := by decide +kernel
theorem d_Mo_canStand_24 : decode b_Mo_canStand 24 = .ok (.iconst 1, 1) := by decide +kernel
theorem d_Mo_canStand_25 : decode b_Mo_canStand 25 = .ok (.goto 4, 3) := by decide +kernel
theorem d_Mo_canStand_28 : decode b_Mo_canStand 28 = .ok (.iconst 0, 1) := by decide +kernel
theorem d_Mo_canStand_29 : decode b_Mo_canStand 29 = .ok (.ireturn, 1) := by decide +kernel
theorem d_Mo_canStand_30 : decode b_Mo_canStand 30 = .ok (.iload_n 2, 1) := by decide +kernel
theorem d_Mo_canStand_31 : decode b_Mo_canStand 31 = .ok (.bipush 17, 2) := by decide +kernel
theorem d_Mo_canStand_33 : decode b_Mo_canStand 33 = .ok (.if_icmp .le 29, 3) := by decide +kernel
theorem d_Mo_canStand_36 : decode b_Mo_canStand 36 = .ok (.iload_n 2, 1) := by decide +kernel
theorem d_Mo_canStand_37 : decode b_Mo_canStand 37 = .ok (.bipush 21, 2) := by decide +kernel
theorem d_Mo_canStand_39 : decode b_Mo_canStand 39 = .ok (.if_icmp .ge 23, 3) := by decide +kernel
theorem d_Mo_canStand_42 : decode b_Mo_canStand 42 = .ok (.iload_n 3, 1) := by decide +kernel
theorem d_Mo_canStand_43 : decode b_Mo_canStand 43 = .ok (.ifCond .lt 17, 3) := by decide +kernel
theorem d_Mo_canStand_46 : decode b_Mo_canStand 46 = .ok (.iload_n 3, 1) := by decide +kernel
theorem d_Mo_canStand_47 : decode b_Mo_canStand 47 = .ok (.aload_n 0, 1) := by decide +kernel
theorem d_Mo_canStand_48 : decode b_Mo_canStand 48 = .ok (.getfield 35, 3) := by decide +kernel
theorem d_Mo_canStand_51 : decode b_Mo_canStand 51 = .ok (.iload_n 1, 1) := by decide +kernel
theorem d_Mo_canStand_52 : decode b_Mo_canStand 52 = .ok (.iaload, 1) := by decide +kernel
theorem d_Mo_canStand_53 : decode b_Mo_canStand 53 = .ok (.if_icmp .ge 7, 3) := by decide +kernel
theorem d_Mo_canStand_56 : decode b_Mo_canStand 56 = .ok (.iconst 1, 1) := by decide +kernel
theorem d_Mo_canStand_57 : decode b_Mo_canStand 57 = .ok (.goto 4, 3) := by decide +kernel
theorem d_Mo_canStand_60 : decode b_Mo_canStand 60 = .ok (.iconst 0, 1) := by decide +kernel
theorem d_Mo_canStand_61 : decode b_Mo_canStand 61 = .ok (.ireturn, 1) := by decide +kernel
theorem d_Mo_canStand_62 : decode b_Mo_canStand 62 = .ok (.iload_n 2, 1) := by decide +kernel
theorem d_Mo_canStand_63 : decode b_Mo_canStand 63 = .ok (.ifCond .eq 55, 3) := by decide +kernel
theorem d_Mo_canStand_66 : decode b_Mo_canStand 66 = .ok (.iload_n 2, 1) := by decide +kernel
theorem d_Mo_canStand_67 : decode b_Mo_canStand 67 = .ok (.bipush 25, 2) := by decide +kernel
theorem d_Mo_canStand_69 : decode b_Mo_canStand 69 = .ok (.if_icmp .ne 20, 3) := by decide +kernel
theorem d_Mo_canStand_72 : decode b_Mo_canStand 72 = .ok (.iload_n 3, 1) := by decide +kernel
theorem d_Mo_canStand_73 : decode b_Mo_canStand 73 = .ok (.ifCond .lt 49, 3) := by decide +kernel
theorem d_Mo_canStand_76 : decode b_Mo_canStand 76 = .ok (.iload_n 3, 1) := by decide +kernel
theorem d_Mo_canStand_77 : decode b_Mo_canStand 77 = .ok (.aload_n 0, 1) := by decide +kernel
theorem d_Mo_canStand_78 : decode b_Mo_canStand 78 = .ok (.getfield 20, 3) := by decide +kernel
theorem d_Mo_canStand_81 : decode b_Mo_canStand 81 = .ok (.iconst 0, 1) := by decide +kernel
theorem d_Mo_canStand_82 : decode b_Mo_canStand 82 = .ok (.iaload, 1) := by decide +kernel
theorem d_Mo_canStand_83 : decode b_Mo_canStand 83 = .ok (.if_icmp .ge 39, 3) := by decide +kernel
theorem d_Mo_canStand_86 : decode b_Mo_canStand 86 = .ok (.goto 32, 3) := by decide +kernel
theorem d_Mo_canStand_89 : decode b_Mo_canStand 89 = .ok (.iload_n 2, 1) := by decide +kernel
theorem d_Mo_canStand_90 : decode b_Mo_canStand 90 = .ok (.bipush 26, 2) := by decide +kernel
theorem d_Mo_canStand_92 : decode b_Mo_canStand 92 = .ok (.if_icmp .eq 9, 3) := by decide +kernel
theorem d_Mo_canStand_95 : decode b_Mo_canStand 95 = .ok (.iload_n 2, 1) := by decide +kernel
theorem d_Mo_canStand_96 : decode b_Mo_canStand 96 = .ok (.bipush 29, 2) := by decide +kernel
theorem d_Mo_canStand_98 : decode b_Mo_canStand 98 = .ok (.if_icmp .ne 16, 3) := by decide +kernel
theorem d_Mo_canStand_101 : decode b_Mo_canStand 101 = .ok (.iload_n 3, 1) := by decide +kernel
theorem d_Mo_canStand_102 : decode b_Mo_canStand 102 = .ok (.ifCond .lt 20, 3) := by decide +kernel
theorem d_Mo_canStand_105 : decode b_Mo_canStand 105 = .ok (.iload_n 3, 1) := by decide +kernel
theorem d_Mo_canStand_106 : decode b_Mo_canStand 106 = .ok (.bipush 16, 2) := by decide +kernel
theorem d_Mo_canStand_108 : decode b_Mo_canStand 108 = .ok (.if_icmp .ge 14, 3) := by decide +kernel
theorem d_Mo_canStand_111 : decode b_Mo_canStand 111 = .ok (.goto 7, 3) := by decide +kernel
theorem d_Mo_canStand_114 : decode b_Mo_canStand 114 = .ok (.iload_n 3, 1) := by decide +kernel
theorem d_Mo_canStand_115 : decode b_Mo_canStand 115 = .ok (.ifCond .ne 7, 3) := by decide +kernel
theorem d_Mo_canStand_118 : decode b_Mo_canStand 118 = .ok (.iconst 1, 1) := by decide +kernel
theorem d_Mo_canStand_119 : decode b_Mo_canStand 119 = .ok (.goto 4, 3) := by decide +kernel
theorem d_Mo_canStand_122 : decode b_Mo_canStand 122 = .ok (.iconst 0, 1) := by decide +kernel
theorem d_Mo_canStand_123 : decode b_Mo_canStand 123 = .ok (.ireturn, 1) := by decide +kernel
theorem d_Mo_change_0 : decode b_Mo_change 0 = .ok (.aload_n 0, 1) := by decide +kernel
theorem d_Mo_change_1 : decode b_Mo_change 1 = .ok (.iconst 0, 1) := by decide +kernel
theorem d_Mo_change_2 : decode b_Mo_change 2 = .ok (.putfield 76, 3) := by decide +kernel
theorem d_Mo_change_5 : decode b_Mo_change 5 = .ok (.aload_n 0, 1) := by decide +kernel
theorem d_Mo_change_6 : decode b_Mo_change 6 = .ok (.iconst 0, 1) := by decide +kernel
theorem d_Mo_change_7 : decode b_Mo_change 7 = .ok (.putfield 79, 3) := by decide +kernel
theorem d_Mo_change_10 : decode b_Mo_change 10 = .ok (.aload_n 0, 1) := by decide +kernel
theorem d_Mo_change_11 : decode b_Mo_change 11 = .ok (.iconst (-1), 1) := by decide +kernel
theorem d_Mo_change_12 : decode b_Mo_change 12 = .ok (.putfield 82, 3) := by decide +kernel
theorem d_Mo_change_15 : decode b_Mo_change 15 = .ok (.iload_n 1, 1) := by decide +kernel
theorem d_Mo_change_16 : decode b_Mo_change 16 = .ok (.ifCond .lt 62, 3) := by decide +kernel
theorem d_Mo_change_19 : decode b_Mo_change 19 = .ok (.iload_n 1, 1) := by decide +kernel
theorem d_Mo_change_20 : decode b_Mo_change 20 = .ok (.aload_n 0, 1) := by decide +kernel
theorem d_Mo_change_21 : decode b_Mo_change 21 = .ok (.getfield 20, 3) := by decide +kernel
theorem d_Mo_change_24 : decode b_Mo_change 24 = .ok (.iconst 0, 1) := by decide +kernel
theorem d_Mo_change_25 : decode b_Mo_change 25 = .ok (.iaload, 1) := by decide +kernel
theorem d_Mo_change_26 : decode b_Mo_change 26 = .ok (.if_icmp .ge 52, 3) := by decide +kernel
theorem d_Mo_change_29 : decode b_Mo_change 29 = .ok (.iload_n 2, 1) := by decide +kernel
theorem d_Mo_change_30 : decode b_Mo_change 30 = .ok (.ifCond .lt 48, 3) := by decide +kernel
theorem d_Mo_change_33 : decode b_Mo_change 33 = .ok (.iload_n 2, 1) := by decide +kernel
theorem d_Mo_change_34 : decode b_Mo_change 34 = .ok (.aload_n 0, 1) := by decide +kernel
theorem d_Mo_change_35 : decode b_Mo_change 35 = .ok (.getfield 35, 3) := by decide +kernel
theorem d_Mo_change_38 : decode b_Mo_change 38 = .ok (.iload_n 1, 1) := by decide +kernel
theorem d_Mo_change_39 : decode b_Mo_change 39 = .ok (.ifCond .lt 13, 3) := by decide +kernel
theorem d_Mo_change_42 : decode b_Mo_change 42 = .ok (.iload_n 1, 1) := by decide +kernel
theorem d_Mo_change_43 : decode b_Mo_change 43 = .ok (.bipush 12, 2) := by decide +kernel
theorem d_Mo_change_45 : decode b_Mo_change 45 = .ok (.if_icmp .ge 7, 3) := by decide +kernel
theorem d_Mo_change_48 : decode b_Mo_change 48 = .ok (.iload_n 1, 1) := by decide +kernel
theorem d_Mo_change_49 : decode b_Mo_change 49 = .ok (.goto 4, 3) := by decide +kernel
theorem d_Mo_change_52 : decode b_Mo_change 52 = .ok (.iconst 0, 1) := by decide +kernel
theorem d_Mo_change_53 : decode b_Mo_change 53 = .ok (.iaload, 1) := by decide +kernel
theorem d_Mo_change_54 : decode b_Mo_change 54 = .ok (.if_icmp .ge 24, 3) := by decide +kernel
theorem d_Mo_change_57 : decode b_Mo_change 57 = .ok (.iload_n 3, 1) := by decide +kernel
theorem d_Mo_change_58 : decode b_Mo_change 58 = .ok (.ifCond .lt 20, 3) := by decide +kernel
theorem d_Mo_change_61 : decode b_Mo_change 61 = .ok (.iload_n 3, 1) := by decide +kernel
theorem d_Mo_change_62 : decode b_Mo_change 62 = .ok (.bipush 29, 2) := by decide +kernel
theorem d_Mo_change_64 : decode b_Mo_change 64 = .ok (.if_icmp .gt 14, 3) := by decide +kernel
theorem d_Mo_change_67 : decode b_Mo_change 67 = .ok (.aload_n 0, 1) := by decide +kernel
theorem d_Mo_change_68 : decode b_Mo_change 68 = .ok (.iload_n 1, 1) := by decide +kernel
theorem d_Mo_change_69 : decode b_Mo_change 69 = .ok (.iload_n 3, 1) := by decide +kernel
theorem d_Mo_change_70 : decode b_Mo_change 70 = .ok (.iload 4, 2) := by decide +kernel
theorem d_Mo_change_72 : decode b_Mo_change 72 = .ok (.invokevirtual 128, 3) := by decide +kernel
theorem d_Mo_change_75 : decode b_Mo_change 75 = .ok (.ifCond .ne 14, 3) := by decide +kernel
theorem d_Mo_change_78 : decode b_Mo_change 78 = .ok (.aload_n 0, 1) := by decide +kernel
theorem d_Mo_change_79 : decode b_Mo_change 79 = .ok (.iconst 3, 1) := by decide +kernel
theorem d_Mo_change_80 : decode b_Mo_change 80 = .ok (.iconst (-1), 1) := by decide +kernel
theorem d_Mo_change_81 : decode b_Mo_change 81 = .ok (.invokevirtual 96, 3) := by decide +kernel
theorem d_Mo_change_84 : decode b_Mo_change 84 = .ok (.aload_n 0, 1) := by decide +kernel
theorem d_Mo_change_85 : decode b_Mo_change 85 = .ok (.invokevirtual 125, 3) := by decide +kernel
theorem d_Mo_change_88 : decode b_Mo_change 88 = .ok (.ireturn, 1) := by decide +kernel
theorem d_Mo_change_89 : decode b_Mo_change 89 = .ok (.aload_n 0, 1) := by decide +kernel
theorem d_Mo_change_90 : decode b_Mo_change 90 = .ok (.iconst 0, 1) := by decide +kernel
theorem d_Mo_change_91 : decode b_Mo_change 91 = .ok (.iconst 1, 1) := by decide +kernel
theorem d_Mo_change_92 : decode b_Mo_change 92 = .ok (.invokevirtual 122, 3) := by decide +kernel
theorem d_Mo_change_95 : decode b_Mo_change 95 = .ok (.aload_n 0, 1) := by decide +kernel
theorem d_Mo_change_96 : decode b_Mo_change 96 = .ok (.getfield 41, 3) := by decide +kernel
theorem d_Mo_change_99 : decode b_Mo_change 99 = .ok (.sipush 4800, 3) := by decide +kernel
theorem d_Mo_change_102 : decode b_Mo_change 102 = .ok (.sipush 400, 3) := by decide +kernel
theorem d_Mo_change_105 : decode b_Mo_change 105 = .ok (.iload_n 1, 1) := by decide +kernel
theorem d_Mo_change_106 : decode b_Mo_change 106 = .ok (.imul, 1) := by decide +kernel
theorem d_Mo_change_107 : decode b_Mo_change 107 = .ok (.iadd, 1) := by decide +kernel
theorem d_Mo_change_108 : decode b_Mo_change 108 = .ok (.iload_n 2, 1) := by decide +kernel
theorem d_Mo_change_109 : decode b_Mo_change 109 = .ok (.iadd, 1) := by decide +kernel
theorem d_Mo_change_110 : decode b_Mo_change 110 = .ok (.iload_n 3, 1) := by decide +kernel
theorem d_Mo_change_111 : decode b_Mo_change 111 = .ok (.iastore, 1) := by decide +kernel
theorem d_Mo_change_112 : decode b_Mo_change 112 = .ok (.aload_n 0, 1) := by decide +kernel
theorem d_Mo_change_113 : decode b_Mo_change 113 = .ok (.getfield 44, 3) := by decide +kernel
theorem d_Mo_change_116 : decode b_Mo_change 116 = .ok (.sipush 4800, 3) := by decide +kernel
theorem d_Mo_change_119 : decode b_Mo_change 119 = .ok (.sipush 400, 3) := by decide +kernel
theorem d_Mo_change_122 : decode b_Mo_change 122 = .ok (.iload_n 1, 1) := by decide +kernel
theorem d_Mo_change_123 : decode b_Mo_change 123 = .ok (.imul, 1) := by decide +kernel
theorem d_Mo_change_124 : decode b_Mo_change 124 = .ok (.iadd, 1) := by decide +kernel
theorem d_Mo_change_125 : decode b_Mo_change 125 = .ok (.iload_n 2, 1) := by decide +kernel
theorem d_Mo_change_126 : decode b_Mo_change 126 = .ok (.iadd, 1) := by decide +kernel
theorem d_Mo_change_127 : decode b_Mo_change 127 = .ok (.iload 4, 2) := by decide +kernel
theorem d_Mo_change_129 : decode b_Mo_change 129 = .ok (.iastore, 1) := by decide +kernel
theorem d_Mo_change_130 : decode b_Mo_change 130 = .ok (.aload_n 0, 1) := by decide +kernel
theorem d_Mo_change_131 : decode b_Mo_change 131 = .ok (.iconst 1, 1) := by decide +kernel
theorem d_Mo_change_132 : decode b_Mo_change 132 = .ok (.iload_n 1, 1) := by decide +kernel
theorem d_Mo_change_133 : decode b_Mo_change 133 = .ok (.invokevirtual 72, 3) := by decide +kernel
theorem d_Mo_change_136 : decode b_Mo_change 136 = .ok (.aload_n 0, 1) := by decide +kernel
theorem d_Mo_change_137 : decode b_Mo_change 137 = .ok (.getfield 79, 3) := by decide +kernel
theorem d_Mo_change_140 : decode b_Mo_change 140 = .ok (.ifCond .ne 9, 3) := by decide +kernel
theorem d_Mo_change_143 : decode b_Mo_change 143 = .ok (.aload_n 0, 1) := by decide +kernel
theorem d_Mo_change_144 : decode b_Mo_change 144 = .ok (.iconst 1, 1) := by decide +kernel
theorem d_Mo_change_145 : decode b_Mo_change 145 = .ok (.iconst 0, 1) := by decide +kernel
theorem d_Mo_change_146 : decode b_Mo_change 146 = .ok (.invokevirtual 122, 3) := by decide +kernel
theorem d_Mo_change_149 : decode b_Mo_change 149 = .ok (.aload_n 0, 1) := by decide +kernel
theorem d_Mo_change_150 : decode b_Mo_change 150 = .ok (.invokevirtual 125, 3) := by decide +kernel
theorem d_Mo_change_153 : decode b_Mo_change 153 = .ok (.ireturn, 1) := by decide +kernel
theorem d_Mo_behind_0 : decode b_Mo_behind 0 = .ok (.iload_n 0, 1) := by decide +kernel
theorem d_Mo_behind_1 : decode b_Mo_behind 1 = .ok (.ifCond .ne 7, 3) := by decide +kernel
theorem d_Mo_behind_4 : decode b_Mo_behind 4 = .ok (.iconst 4, 1) := by decide +kernel
theorem d_Mo_behind_5 : decode b_Mo_behind 5 = .ok (.goto 52, 3) := by decide +kernel
theorem d_Mo_behind_8 : decode b_Mo_behind 8 = .ok (.iload_n 0, 1) := by decide +kernel
theorem d_Mo_behind_9 : decode b_Mo_behind 9 = .ok (.bipush 17, 2) := by decide +kernel
theorem d_Mo_behind_11 : decode b_Mo_behind 11 = .ok (.if_icmp .le 13, 3) := by decide +kernel
theorem d_Mo_behind_14 : decode b_Mo_behind 14 = .ok (.iload_n 0, 1) := by decide +kernel
theorem d_Mo_behind_15 : decode b_Mo_behind 15 = .ok (.bipush 21, 2) := by decide +kernel
theorem d_Mo_behind_17 : decode b_Mo_behind 17 = .ok (.if_icmp .ge 7, 3) := by decide +kernel
theorem d_Mo_behind_20 : decode b_Mo_behind 20 = .ok (.iconst 2, 1) := by decide +kernel
theorem d_Mo_behind_21 : decode b_Mo_behind 21 = .ok (.goto 36, 3) := by decide +kernel
theorem d_Mo_behind_24 : decode b_Mo_behind 24 = .ok (.iload_n 0, 1) := by decide +kernel
theorem d_Mo_behind_25 : decode b_Mo_behind 25 = .ok (.iconst 4, 1) := by decide +kernel
theorem d_Mo_behind_26 : decode b_Mo_behind 26 = .ok (.if_icmp .eq 26, 3) := by decide +kernel
theorem d_Mo_behind_29 : decode b_Mo_behind 29 = .ok (.iload_n 0, 1) := by decide +kernel
theorem d_Mo_behind_30 : decode b_Mo_behind 30 = .ok (.iconst 5, 1) := by decide +kernel
theorem d_Mo_behind_31 : decode b_Mo_behind 31 = .ok (.if_icmp .eq 21, 3) := by decide +kernel
theorem d_Mo_behind_34 : decode b_Mo_behind 34 = .ok (.iload_n 0, 1) := by decide +kernel
theorem d_Mo_behind_35 : decode b_Mo_behind 35 = .ok (.bipush 25, 2) := by decide +kernel
theorem d_Mo_behind_37 : decode b_Mo_behind 37 = .ok (.if_icmp .eq 15, 3) := by decide +kernel
theorem d_Mo_behind_40 : decode b_Mo_behind 40 = .ok (.iload_n 0, 1) := by decide +kernel
theorem d_Mo_behind_41 : decode b_Mo_behind 41 = .ok (.bipush 26, 2) := by decide +kernel
theorem d_Mo_behind_43 : decode b_Mo_behind 43 = .ok (.if_icmp .eq 9, 3) := by decide +kernel
theorem d_Mo_behind_46 : decode b_Mo_behind 46 = .ok (.iload_n 0, 1) := by decide +kernel
theorem d_Mo_behind_47 : decode b_Mo_behind 47 = .ok (.bipush 29, 2) := by decide +kernel
theorem d_Mo_behind_49 : decode b_Mo_behind 49 = .ok (.if_icmp .ne 7, 3) := by decide +kernel
theorem d_Mo_behind_52 : decode b_Mo_behind 52 = .ok (.iconst 1, 1) := by decide +kernel
theorem d_Mo_behind_53 : decode b_Mo_behind 53 = .ok (.goto 4, 3) := by decide +kernel
theorem d_Mo_behind_56 : decode b_Mo_behind 56 = .ok (.iconst 0, 1) := by decide +kernel
theorem d_Mo_behind_57 : decode b_Mo_behind 57 = .ok (.ireturn, 1) := by decide +kernel
theorem d_Mo_put_0 : decode b_Mo_put 0 = .ok (.iload_n 2, 1) := by decide +kernel
theorem d_Mo_put_1 : decode b_Mo_put 1 = .ok (.iconst 1, 1) := by decide +kernel
theorem d_Mo_put_2 : decode b_Mo_put 2 = .ok (.isub, 1) := by decide +kernel
theorem d_Mo_put_3 : decode b_Mo_put 3 = .ok (.istore_n 3, 1) := by decide +kernel
theorem d_Mo_put_4 : decode b_Mo_put 4 = .ok (.iload_n 3, 1) := by decide +kernel
theorem d_Mo_put_5 : decode b_Mo_put 5 = .ok (.ifCond .lt 38, 3) := by decide +kernel
theorem d_Mo_put_8 : decode b_Mo_put 8 = .ok (.aload_n 0, 1) := by decide +kernel
theorem d_Mo_put_9 : decode b_Mo_put 9 = .ok (.getfield 13, 3) := by decide +kernel
theorem d_Mo_put_12 : decode b_Mo_put 12 = .ok (.aload_n 0, 1) := by decide +kernel
theorem d_Mo_put_13 : decode b_Mo_put 13 = .ok (.getfield 90, 3) := by decide +kernel
theorem d_Mo_put_16 : decode b_Mo_put 16 = .ok (.iload_n 1, 1) := by decide +kernel
theorem d_Mo_put_17 : decode b_Mo_put 17 = .ok (.bipush 8, 2) := by decide +kernel
theorem d_Mo_put_19 : decode b_Mo_put 19 = .ok (.iload_n 3, 1) := by decide +kernel
theorem d_Mo_put_20 : decode b_Mo_put 20 = .ok (.imul, 1) := by decide +kernel
theorem d_Mo_put_21 : decode b_Mo_put 21 = .ok (.ishr, 1) := by decide +kernel
theorem d_Mo_put_22 : decode b_Mo_put 22 = .ok (.sipush 255, 3) := by decide +kernel
theorem d_Mo_put_25 : decode b_Mo_put 25 = .ok (.iand, 1) := by decide +kernel
theorem d_Mo_put_26 : decode b_Mo_put 26 = .ok (.iastore, 1) := by decide +kernel
theorem d_Mo_put_27 : decode b_Mo_put 27 = .ok (.aload_n 0, 1) := by decide +kernel
theorem d_Mo_put_28 : decode b_Mo_put 28 = .ok (.dup, 1) := by decide +kernel
theorem d_Mo_put_29 : decode b_Mo_put 29 = .ok (.getfield 90, 3) := by decide +kernel
theorem d_Mo_put_32 : decode b_Mo_put 32 = .ok (.iconst 1, 1) := by decide +kernel
theorem d_Mo_put_33 : decode b_Mo_put 33 = .ok (.iadd, 1) := by decide +kernel
theorem d_Mo_put_34 : decode b_Mo_put 34 = .ok (.putfield 90, 3) := by decide +kernel
theorem d_Mo_put_37 : decode b_Mo_put 37 = .ok (.iinc 3 (-1), 3) := by decide +kernel
theorem d_Mo_put_40 : decode b_Mo_put 40 = .ok (.goto (-36), 3) := by decide +kernel
theorem d_Mo_put_43 : decode b_Mo_put 43 = .ok (.return_, 1) := by decide +kernel
set_option maxHeartbeats 4000000 in
set_option maxRecDepth 100000 in
theorem m_Mo_canStand {l : Launch} {D : va_G} {dA : Nat → ClassId} (o : Option Nat) (x1 : Int32) (x2 : Int32) (x3 : Int32) (h0 : hc_H) (b : Int32) (C0 S0 : Nat) (h2 : hc_H) (hr : p_Mo_canStand o x1 x2 x3 h0 = some (b, C0, S0, h2)) : hc_Met l (gg D dA) y_Mo_canStand b_Mo_canStand 4 (some .boolean) tb 0 0 [vr_ o, vi_ x1, vi_ x2, vi_ x3] h0 C0 S0 (some (vi_ b)) h2 := by
  refine hc_Met.of (by decide) (Nat.le_of_ble_eq_true rfl) ?_
  intro p e s m args below meth c hC
  unfold p_Mo_canStand at hr
  refine hj_sub (lv' := [(0, vr_ o), (1, vi_ x1), (2, vi_ x2), (3, vi_ x3)]) [0, 1, 2, 3] rfl ?_
  refine hj_iload_n hC 2 d_Mo_canStand_0 rfl rfl ?_
  refine hj_iconst hC (v := 4) d_Mo_canStand_1 (by decide) ?_
  refine hj_jn hC (K := hM Int32) (fun k => ∀  (h : hc_H) (C S : Nat), k  h = some (b, C, S, h2) → hj_J p l e { frames := 0, cells := C0, slots := S0, locals := 0 } s m args below meth c (gg D dA) h0 4 (hj_Q below args s { frames := 0, cells := C0, slots := S0, locals := 0 } (gg D dA) h0 (some (vi_ b)) h2) C S h 10 [(0, vr_ o), (1, vi_ x1), (3, vi_ x3)] []) hr (fun  h C S hr => ?_) (fun k10 hk10 hr => ?_)
  · refine hj_iload_n hC 2 d_Mo_canStand_10 rfl rfl ?_
    refine hj_if_lt hC 28 d_Mo_canStand_11 (by decide) hr (fun q11 hr => ?_) (fun q11 hr => ?_)
    · refine hj_iconst hC (v := 0) d_Mo_canStand_28 (by decide) ?_
      exact hj_zret hC d_Mo_canStand_29 hr
    · refine hj_iload_n hC 2 d_Mo_canStand_14 rfl rfl ?_
      refine hj_aload_n hC 0 d_Mo_canStand_15 rfl rfl ?_
      refine hj_getr hC cf_Mo (k := 11) (by decide) wq_437 rfl d_Mo_canStand_16 hr (fun a1 hr => ?_)
      refine hj_iload_n hC 1 d_Mo_canStand_19 rfl rfl ?_
      refine hj_iald hC (kd := 14) rfl d_Mo_canStand_20 hr (fun a2 hr => ?_)
      refine hj_icmp_ge hC 28 d_Mo_canStand_21 (by decide) hr (fun q21 hr => ?_) (fun q21 hr => ?_)
      · refine hj_iconst hC (v := 0) d_Mo_canStand_28 (by decide) ?_
        exact hj_zret hC d_Mo_canStand_29 hr
      · refine hj_iconst hC (v := 1) d_Mo_canStand_24 (by decide) ?_
        refine hj_goto hC 29 d_Mo_canStand_25 (by decide) ?_
        exact hj_zret hC d_Mo_canStand_29 hr
  · refine hj_icmp_eq hC 10 d_Mo_canStand_2 (by decide) hr (fun q2 hr => ?_) (fun q2 hr => ?_)
    · refine hj_sub (lv' := [(0, vr_ o), (1, vi_ x1), (3, vi_ x3)]) [0, 1, 3] rfl ?_
      exact hk10 _ _ _ hr
    · refine hj_iload_n hC 2 d_Mo_canStand_5 rfl rfl ?_
      refine hj_iconst hC (v := 5) d_Mo_canStand_6 (by decide) ?_
      refine hj_icmp_ne hC 30 d_Mo_canStand_7 (by decide) hr (fun q7 hr => ?_) (fun q7 hr => ?_)
      · refine hj_iload_n hC 2 d_Mo_canStand_30 rfl rfl ?_
        refine hj_bipush hC (v := 17) d_Mo_canStand_31 (by decide) ?_
        refine hj_jn hC (K := hM Int32) (fun k => ∀  (h : hc_H) (C S : Nat), k  h = some (b, C, S, h2) → hj_J p l e { frames := 0, cells := C0, slots := S0, locals := 0 } s m args below meth c (gg D dA) h0 4 (hj_Q below args s { frames := 0, cells := C0, slots := S0, locals := 0 } (gg D dA) h0 (some (vi_ b)) h2) C S h 62 [(0, vr_ o), (2, vi_ x2), (3, vi_ x3)] []) hr (fun  h C S hr => ?_) (fun k62 hk62 hr => ?_)
        · refine hj_iload_n hC 1 d_Mo_canStand_62 rfl rfl ?_
          refine hj_if_eq hC 118 d_Mo_canStand_63 (by decide) hr (fun q63 hr => ?_) (fun q63 hr => ?_)
          · refine hj_iconst hC (v := 1) d_Mo_canStand_118 (by decide) ?_
            refine hj_goto hC 123 d_Mo_canStand_119 (by decide) ?_
            exact hj_zret hC d_Mo_canStand_123 hr
          · refine hj_iload_n hC 1 d_Mo_canStand_66 rfl rfl ?_
            refine hj_bipush hC (v := 25) d_Mo_canStand_67 (by decide) ?_
            refine hj_icmp_ne hC 89 d_Mo_canStand_69 (by decide) hr (fun q69 hr => ?_) (fun q69 hr => ?_)
            · refine hj_iload_n hC 1 d_Mo_canStand_89 rfl rfl ?_
              refine hj_bipush hC (v := 26) d_Mo_canStand_90 (by decide) ?_
              refine hj_jn hC (K := hM Int32) (fun k => ∀  (h : hc_H) (C S : Nat), k  h = some (b, C, S, h2) → hj_J p l e { frames := 0, cells := C0, slots := S0, locals := 0 } s m args below meth c (gg D dA) h0 4 (hj_Q below args s { frames := 0, cells := C0, slots := S0, locals := 0 } (gg D dA) h0 (some (vi_ b)) h2) C S h 101 [(3, vi_ x3)] []) hr (fun  h C S hr => ?_) (fun k101 hk101 hr => ?_)
              · refine hj_iload_n hC 0 d_Mo_canStand_101 rfl rfl ?_
                refine hj_if_lt hC 122 d_Mo_canStand_102 (by decide) hr (fun q102 hr => ?_) (fun q102 hr => ?_)
                · refine hj_iconst hC (v := 0) d_Mo_canStand_122 (by decide) ?_
                  exact hj_zret hC d_Mo_canStand_123 hr
                · refine hj_iload_n hC 0 d_Mo_canStand_105 rfl rfl ?_
                  refine hj_bipush hC (v := 16) d_Mo_canStand_106 (by decide) ?_
                  refine hj_icmp_ge hC 122 d_Mo_canStand_108 (by decide) hr (fun q108 hr => ?_) (fun q108 hr => ?_)
                  · refine hj_iconst hC (v := 0) d_Mo_canStand_122 (by decide) ?_
                    exact hj_zret hC d_Mo_canStand_123 hr
                  · refine hj_goto hC 118 d_Mo_canStand_111 (by decide) ?_
                    refine hj_iconst hC (v := 1) d_Mo_canStand_118 (by decide) ?_
                    refine hj_goto hC 123 d_Mo_canStand_119 (by decide) ?_
                    exact hj_zret hC d_Mo_canStand_123 hr
              · refine hj_icmp_eq hC 101 d_Mo_canStand_92 (by decide) hr (fun q92 hr => ?_) (fun q92 hr => ?_)
                · refine hj_sub (lv' := [(3, vi_ x3)]) [2] rfl ?_
                  exact hk101 _ _ _ hr
                · refine hj_iload_n hC 1 d_Mo_canStand_95 rfl rfl ?_
                  refine hj_bipush hC (v := 29) d_Mo_canStand_96 (by decide) ?_
                  refine hj_icmp_ne hC 114 d_Mo_canStand_98 (by decide) hr (fun q98 hr => ?_) (fun q98 hr => ?_)
                  · refine hj_iload_n hC 2 d_Mo_canStand_114 rfl rfl ?_
                    refine hj_if_ne hC 122 d_Mo_canStand_115 (by decide) hr (fun q115 hr => ?_) (fun q115 hr => ?_)
                    · refine hj_iconst hC (v := 0) d_Mo_canStand_122 (by decide) ?_
                      exact hj_zret hC d_Mo_canStand_123 hr
                    · refine hj_iconst hC (v := 1) d_Mo_canStand_118 (by decide) ?_
                      refine hj_goto hC 123 d_Mo_canStand_119 (by decide) ?_
                      exact hj_zret hC d_Mo_canStand_123 hr
                  · refine hj_sub (lv' := [(3, vi_ x3)]) [2] rfl ?_
                    exact hk101 _ _ _ hr
            · refine hj_iload_n hC 2 d_Mo_canStand_72 rfl rfl ?_
              refine hj_if_lt hC 122 d_Mo_canStand_73 (by decide) hr (fun q73 hr => ?_) (fun q73 hr => ?_)
              · refine hj_iconst hC (v := 0) d_Mo_canStand_122 (by decide) ?_
                exact hj_zret hC d_Mo_canStand_123 hr
              · refine hj_iload_n hC 2 d_Mo_canStand_76 rfl rfl ?_
                refine hj_aload_n hC 0 d_Mo_canStand_77 rfl rfl ?_
                refine hj_getr hC cf_Mo (k := 9) (by decide) wq_436 rfl d_Mo_canStand_78 hr (fun a3 hr => ?_)
                refine hj_iconst hC (v := 0) d_Mo_canStand_81 (by decide) ?_
                refine hj_iald hC (kd := 12) rfl d_Mo_canStand_82 hr (fun a4 hr => ?_)
                refine hj_icmp_ge hC 122 d_Mo_canStand_83 (by decide) hr (fun q83 hr => ?_) (fun q83 hr => ?_)
                · refine hj_iconst hC (v := 0) d_Mo_canStand_122 (by decide) ?_
                  exact hj_zret hC d_Mo_canStand_123 hr
                · refine hj_goto hC 118 d_Mo_canStand_86 (by decide) ?_
                  refine hj_iconst hC (v := 1) d_Mo_canStand_118 (by decide) ?_
                  refine hj_goto hC 123 d_Mo_canStand_119 (by decide) ?_
                  exact hj_zret hC d_Mo_canStand_123 hr
        · refine hj_icmp_le hC 62 d_Mo_canStand_33 (by decide) hr (fun q33 hr => ?_) (fun q33 hr => ?_)
          · refine hj_sub (lv' := [(0, vr_ o), (2, vi_ x2), (3, vi_ x3)]) [0, 2, 3] rfl ?_
            exact hk62 _ _ _ hr
          · refine hj_iload_n hC 2 d_Mo_canStand_36 rfl rfl ?_
            refine hj_bipush hC (v := 21) d_Mo_canStand_37 (by decide) ?_
            refine hj_icmp_ge hC 62 d_Mo_canStand_39 (by decide) hr (fun q39 hr => ?_) (fun q39 hr => ?_)
            · refine hj_sub (lv' := [(0, vr_ o), (2, vi_ x2), (3, vi_ x3)]) [0, 2, 3] rfl ?_
              exact hk62 _ _ _ hr
            · refine hj_iload_n hC 3 d_Mo_canStand_42 rfl rfl ?_
              refine hj_if_lt hC 60 d_Mo_canStand_43 (by decide) hr (fun q43 hr => ?_) (fun q43 hr => ?_)
              · refine hj_iconst hC (v := 0) d_Mo_canStand_60 (by decide) ?_
                exact hj_zret hC d_Mo_canStand_61 hr
              · refine hj_iload_n hC 3 d_Mo_canStand_46 rfl rfl ?_
                refine hj_aload_n hC 0 d_Mo_canStand_47 rfl rfl ?_
                refine hj_getr hC cf_Mo (k := 14) (by decide) wq_424 rfl d_Mo_canStand_48 hr (fun a5 hr => ?_)
                refine hj_iload_n hC 1 d_Mo_canStand_51 rfl rfl ?_
                refine hj_iald hC (kd := 17) rfl d_Mo_canStand_52 hr (fun a6 hr => ?_)
                refine hj_icmp_ge hC 60 d_Mo_canStand_53 (by decide) hr (fun q53 hr => ?_) (fun q53 hr => ?_)
                · refine hj_iconst hC (v := 0) d_Mo_canStand_60 (by decide) ?_
                  exact hj_zret hC d_Mo_canStand_61 hr
                · refine hj_iconst hC (v := 1) d_Mo_canStand_56 (by decide) ?_
                  refine hj_goto hC 61 d_Mo_canStand_57 (by decide) ?_
                  exact hj_zret hC d_Mo_canStand_61 hr
      · refine hj_sub (lv' := [(0, vr_ o), (1, vi_ x1), (3, vi_ x3)]) [0, 1, 3] rfl ?_
        exact hk10 _ _ _ hr
set_option maxHeartbeats 4000000 in
set_option maxRecDepth 100000 in
theorem m_Mo_change {l : Launch} {D : va_G} {dA : Nat → ClassId} (o : Option Nat) (x1 : Int32) (x2 : Int32) (x3 : Int32) (x4 : Int32) (h0 : hc_H) (b : Int32) (C0 S0 : Nat) (h2 : hc_H) (hr : p_Mo_change o x1 x2 x3 x4 h0 = some (b, C0, S0, h2)) : hc_Met l (gg D dA) y_Mo_change b_Mo_change 5 (some .int) tb 5 126 [vr_ o, vi_ x1, vi_ x2, vi_ x3, vi_ x4] h0 C0 S0 (some (vi_ b)) h2 := by
  refine hc_Met.of (by decide) (Nat.le_of_ble_eq_true rfl) ?_
  intro p e s m args below meth c hC
  unfold p_Mo_change at hr
  refine hj_sub (lv' := [(0, vr_ o), (1, vi_ x1), (2, vi_ x2), (3, vi_ x3), (4, vi_ x4)]) [0, 1, 2, 3, 4] rfl ?_
  refine hj_aload_n hC 0 d_Mo_change_0 rfl rfl ?_
  refine hj_iconst hC (v := 0) d_Mo_change_1 (by decide) ?_
  refine hj_puti hC cf_Mo (k := 0) (by decide) wq_444 rfl (Or.inl rfl) rfl d_Mo_change_2 hr (fun h hr => ?_)
  refine hj_aload_n hC 0 d_Mo_change_5 rfl rfl ?_
  refine hj_iconst hC (v := 0) d_Mo_change_6 (by decide) ?_
  refine hj_puti hC cf_Mo (k := 7) (by decide) wq_382 rfl (Or.inl rfl) rfl d_Mo_change_7 hr (fun h hr => ?_)
  refine hj_aload_n hC 0 d_Mo_change_10 rfl rfl ?_
  refine hj_iconst hC (v := (-1)) d_Mo_change_11 (by decide) ?_
  refine hj_puti hC cf_Mo (k := 8) (by decide) wq_383 rfl (Or.inl rfl) rfl d_Mo_change_12 hr (fun h hr => ?_)
  refine hj_iload_n hC 1 d_Mo_change_15 rfl rfl ?_
  refine hj_jn hC (K := hM Int32) (fun k => ∀  (h : hc_H) (C S : Nat), k  h = some (b, C, S, h2) → hj_J p l e { frames := 5, cells := C0, slots := S0, locals := 126 } s m args below meth c (gg D dA) h0 5 (hj_Q below args s { frames := 5, cells := C0, slots := S0, locals := 126 } (gg D dA) h0 (some (vi_ b)) h2) C S h 78 [(0, vr_ o)] []) hr (fun  h C S hr => ?_) (fun k78 hk78 hr => ?_)
  · refine hj_aload_n hC 0 d_Mo_change_78 rfl rfl ?_
    refine hj_iconst hC (v := 3) d_Mo_change_79 (by decide) ?_
    refine hj_iconst hC (v := (-1)) d_Mo_change_80 (by decide) ?_
    refine hj_callV hC hG (enc := (fun _ : Unit => none)) (As := [vi_ 3, vi_ (-1)]) (st := []) (fun h a C S h1 hr => m_Mo_wrong _ _ _ h a C S h1 hr) cf_Mo wq_386 wq_387 wq_388 wq_389 wq_385 yk_Mo_wrong rfl ⟨Nat.le_of_ble_eq_true rfl, Nat.le_of_ble_eq_true rfl⟩ rfl (Nat.le_of_ble_eq_true rfl) d_Mo_change_81 hr (fun _ h C S hr => ?_)
    refine hj_aload_n hC 0 d_Mo_change_84 rfl rfl ?_
    refine hj_callV hC hG (enc := (fun a : Int32 => some (vi_ a))) (As := []) (st := []) (fun h a C S h1 hr => m_Mo_told _  h a C S h1 hr) cf_Mo wq_470 wq_471 wq_472 wq_389 wq_469 yk_Mo_told rfl ⟨Nat.le_of_ble_eq_true rfl, Nat.le_of_ble_eq_true rfl⟩ rfl (Nat.le_of_ble_eq_true rfl) d_Mo_change_85 hr (fun a1 h C S hr => ?_)
    exact hj_iret hC d_Mo_change_88 hr
  · refine hj_if_lt hC 78 d_Mo_change_16 (by decide) hr (fun q16 hr => ?_) (fun q16 hr => ?_)
    · refine hj_sub (lv' := [(0, vr_ o)]) [0] rfl ?_
      exact hk78 _ _ _ hr
    · refine hj_iload_n hC 1 d_Mo_change_19 rfl rfl ?_
      refine hj_aload_n hC 0 d_Mo_change_20 rfl rfl ?_
      refine hj_getr hC cf_Mo (k := 9) (by decide) wq_436 rfl d_Mo_change_21 hr (fun a2 hr => ?_)
      refine hj_iconst hC (v := 0) d_Mo_change_24 (by decide) ?_
      refine hj_iald hC (kd := 12) rfl d_Mo_change_25 hr (fun a3 hr => ?_)
      refine hj_icmp_ge hC 78 d_Mo_change_26 (by decide) hr (fun q26 hr => ?_) (fun q26 hr => ?_)
      · refine hj_sub (lv' := [(0, vr_ o)]) [0] rfl ?_
        exact hk78 _ _ _ hr
      · refine hj_iload_n hC 2 d_Mo_change_29 rfl rfl ?_
        refine hj_if_lt hC 78 d_Mo_change_30 (by decide) hr (fun q30 hr => ?_) (fun q30 hr => ?_)
        · refine hj_sub (lv' := [(0, vr_ o)]) [0] rfl ?_
          exact hk78 _ _ _ hr
        · refine hj_iload_n hC 2 d_Mo_change_33 rfl rfl ?_
          refine hj_aload_n hC 0 d_Mo_change_34 rfl rfl ?_
          refine hj_getr hC cf_Mo (k := 14) (by decide) wq_424 rfl d_Mo_change_35 hr (fun a4 hr => ?_)
          refine hj_iload_n hC 1 d_Mo_change_38 rfl rfl ?_
          refine hj_jn hC (K := Int32 → hM Int32) (fun k => ∀ (z5 : Int32) (h : hc_H) (C S : Nat), k z5 h = some (b, C, S, h2) → hj_J p l e { frames := 5, cells := C0, slots := S0, locals := 126 } s m args below meth c (gg D dA) h0 5 (hj_Q below args s { frames := 5, cells := C0, slots := S0, locals := 126 } (gg D dA) h0 (some (vi_ b)) h2) C S h 53 [(0, vr_ o), (1, vi_ x1), (2, vi_ x2), (3, vi_ x3), (4, vi_ x4)] [vi_ z5, vr_ a4, vi_ x2]) hr (fun z5 h C S hr => ?_) (fun k53 hk53 hr => ?_)
          · refine hj_iald hC (kd := 17) rfl d_Mo_change_53 hr (fun a6 hr => ?_)
            refine hj_icmp_ge hC 78 d_Mo_change_54 (by decide) hr (fun q54 hr => ?_) (fun q54 hr => ?_)
            · refine hj_sub (lv' := [(0, vr_ o)]) [0] rfl ?_
              exact hk78 _ _ _ hr
            · refine hj_iload_n hC 3 d_Mo_change_57 rfl rfl ?_
              refine hj_if_lt hC 78 d_Mo_change_58 (by decide) hr (fun q58 hr => ?_) (fun q58 hr => ?_)
              · refine hj_sub (lv' := [(0, vr_ o)]) [0] rfl ?_
                exact hk78 _ _ _ hr
              · refine hj_iload_n hC 3 d_Mo_change_61 rfl rfl ?_
                refine hj_bipush hC (v := 29) d_Mo_change_62 (by decide) ?_
                refine hj_icmp_gt hC 78 d_Mo_change_64 (by decide) hr (fun q64 hr => ?_) (fun q64 hr => ?_)
                · refine hj_sub (lv' := [(0, vr_ o)]) [0] rfl ?_
                  exact hk78 _ _ _ hr
                · refine hj_aload_n hC 0 d_Mo_change_67 rfl rfl ?_
                  refine hj_iload_n hC 1 d_Mo_change_68 rfl rfl ?_
                  refine hj_iload_n hC 3 d_Mo_change_69 rfl rfl ?_
                  refine hj_iload hC 4 d_Mo_change_70 rfl ?_
                  refine hj_callV hC hG (enc := (fun a : Int32 => some (vi_ a))) (As := [vi_ x1, vi_ x3, vi_ x4]) (st := []) (fun h a C S h1 hr => m_Mo_canStand _ _ _ _ h a C S h1 hr) cf_Mo wq_481 wq_482 wq_483 wq_389 wq_480 yk_Mo_canStand rfl ⟨Nat.le_of_ble_eq_true rfl, Nat.le_of_ble_eq_true rfl⟩ rfl (Nat.le_of_ble_eq_true rfl) d_Mo_change_72 hr (fun a7 h C S hr => ?_)
                  refine hj_if_ne hC 89 d_Mo_change_75 (by decide) hr (fun q75 hr => ?_) (fun q75 hr => ?_)
                  · refine hj_aload_n hC 0 d_Mo_change_89 rfl rfl ?_
                    refine hj_iconst hC (v := 0) d_Mo_change_90 (by decide) ?_
                    refine hj_iconst hC (v := 1) d_Mo_change_91 (by decide) ?_
                    refine hj_callV hC hG (enc := (fun _ : Unit => none)) (As := [vi_ 0, vi_ 1]) (st := []) (fun h a C S h1 hr => m_Mo_copyProgram _ _ _ h a C S h1 hr) cf_Mo wq_474 wq_475 wq_476 wq_389 wq_473 yk_Mo_copyProgram rfl ⟨Nat.le_of_ble_eq_true rfl, Nat.le_of_ble_eq_true rfl⟩ rfl (Nat.le_of_ble_eq_true rfl) d_Mo_change_92 hr (fun _ h C S hr => ?_)
                    refine hj_aload_n hC 0 d_Mo_change_95 rfl rfl ?_
                    refine hj_getr hC cf_Mo (k := 16) (by decide) wq_413 rfl d_Mo_change_96 hr (fun a8 hr => ?_)
                    refine hj_sipush hC (v := 4800) d_Mo_change_99 (by decide) ?_
                    refine hj_sipush hC (v := 400) d_Mo_change_102 (by decide) ?_
                    refine hj_iload_n hC 1 d_Mo_change_105 rfl rfl ?_
                    refine hj_imul hC d_Mo_change_106 ?_
                    refine hj_iadd hC d_Mo_change_107 ?_
                    refine hj_iload_n hC 2 d_Mo_change_108 rfl rfl ?_
                    refine hj_iadd hC d_Mo_change_109 ?_
                    refine hj_iload_n hC 3 d_Mo_change_110 rfl rfl ?_
                    refine hj_iast hC (kd := 19) rfl d_Mo_change_111 hr (fun h hr => ?_)
                    refine hj_aload_n hC 0 d_Mo_change_112 rfl rfl ?_
                    refine hj_getr hC cf_Mo (k := 17) (by decide) wq_414 rfl d_Mo_change_113 hr (fun a9 hr => ?_)
                    refine hj_sipush hC (v := 4800) d_Mo_change_116 (by decide) ?_
                    refine hj_sipush hC (v := 400) d_Mo_change_119 (by decide) ?_
                    refine hj_iload_n hC 1 d_Mo_change_122 rfl rfl ?_
                    refine hj_imul hC d_Mo_change_123 ?_
                    refine hj_iadd hC d_Mo_change_124 ?_
                    refine hj_iload_n hC 2 d_Mo_change_125 rfl rfl ?_
                    refine hj_iadd hC d_Mo_change_126 ?_
                    refine hj_iload hC 4 d_Mo_change_127 rfl ?_
                    refine hj_iast hC (kd := 20) rfl d_Mo_change_129 hr (fun h hr => ?_)
                    refine hj_aload_n hC 0 d_Mo_change_130 rfl rfl ?_
                    refine hj_iconst hC (v := 1) d_Mo_change_131 (by decide) ?_
                    refine hj_iload_n hC 1 d_Mo_change_132 rfl rfl ?_
                    refine hj_callV hC hG (enc := (fun _ : Unit => none)) (As := [vi_ 1, vi_ x1]) (st := []) (fun h a C S h1 hr => m_Mo_verify _ _ _ h a C S h1 hr) cf_Mo wq_441 wq_442 wq_443 wq_389 wq_440 yk_Mo_verify rfl ⟨Nat.le_of_ble_eq_true rfl, Nat.le_of_ble_eq_true rfl⟩ rfl (Nat.le_of_ble_eq_true rfl) d_Mo_change_133 hr (fun _ h C S hr => ?_)
                    refine hj_aload_n hC 0 d_Mo_change_136 rfl rfl ?_
                    refine hj_geti hC cf_Mo (k := 7) (by decide) wq_382 rfl d_Mo_change_137 hr (fun a10 hr => ?_)
                    refine hj_jn hC (K := hM Int32) (fun k => ∀  (h : hc_H) (C S : Nat), k  h = some (b, C, S, h2) → hj_J p l e { frames := 5, cells := C0, slots := S0, locals := 126 } s m args below meth c (gg D dA) h0 5 (hj_Q below args s { frames := 5, cells := C0, slots := S0, locals := 126 } (gg D dA) h0 (some (vi_ b)) h2) C S h 149 [(0, vr_ o)] []) hr (fun  h C S hr => ?_) (fun k149 hk149 hr => ?_)
                    · refine hj_aload_n hC 0 d_Mo_change_149 rfl rfl ?_
                      refine hj_callV hC hG (enc := (fun a : Int32 => some (vi_ a))) (As := []) (st := []) (fun h a C S h1 hr => m_Mo_told _  h a C S h1 hr) cf_Mo wq_470 wq_471 wq_472 wq_389 wq_469 yk_Mo_told rfl ⟨Nat.le_of_ble_eq_true rfl, Nat.le_of_ble_eq_true rfl⟩ rfl (Nat.le_of_ble_eq_true rfl) d_Mo_change_150 hr (fun a11 h C S hr => ?_)
                      exact hj_iret hC d_Mo_change_153 hr
                    · refine hj_if_ne hC 149 d_Mo_change_140 (by decide) hr (fun q140 hr => ?_) (fun q140 hr => ?_)
                      · refine hj_sub (lv' := [(0, vr_ o)]) [0] rfl ?_
                        exact hk149 _ _ _ hr
                      · refine hj_aload_n hC 0 d_Mo_change_143 rfl rfl ?_
                        refine hj_iconst hC (v := 1) d_Mo_change_144 (by decide) ?_
                        refine hj_iconst hC (v := 0) d_Mo_change_145 (by decide) ?_
                        refine hj_callV hC hG (enc := (fun _ : Unit => none)) (As := [vi_ 1, vi_ 0]) (st := []) (fun h a C S h1 hr => m_Mo_copyProgram _ _ _ h a C S h1 hr) cf_Mo wq_474 wq_475 wq_476 wq_389 wq_473 yk_Mo_copyProgram rfl ⟨Nat.le_of_ble_eq_true rfl, Nat.le_of_ble_eq_true rfl⟩ rfl (Nat.le_of_ble_eq_true rfl) d_Mo_change_146 hr (fun _ h C S hr => ?_)
                        refine hj_sub (lv' := [(0, vr_ o)]) [0] rfl ?_
                        exact hk149 _ _ _ hr
                  · refine hj_sub (lv' := [(0, vr_ o)]) [0] rfl ?_
                    exact hk78 _ _ _ hr
          · refine hj_jn hC (K := hM Int32) (fun k => ∀  (h : hc_H) (C S : Nat), k  h = some (b, C, S, h2) → hj_J p l e { frames := 5, cells := C0, slots := S0, locals := 126 } s m args below meth c (gg D dA) h0 5 (hj_Q below args s { frames := 5, cells := C0, slots := S0, locals := 126 } (gg D dA) h0 (some (vi_ b)) h2) C S h 52 [(0, vr_ o), (1, vi_ x1), (2, vi_ x2), (3, vi_ x3), (4, vi_ x4)] [vr_ a4, vi_ x2]) hr (fun  h C S hr => ?_) (fun k52 hk52 hr => ?_)
            · refine hj_iconst hC (v := 0) d_Mo_change_52 (by decide) ?_
              exact hk53 _ _ _ _ hr
            · refine hj_if_lt hC 52 d_Mo_change_39 (by decide) hr (fun q39 hr => ?_) (fun q39 hr => ?_)
              · exact hk52 _ _ _ hr
              · refine hj_iload_n hC 1 d_Mo_change_42 rfl rfl ?_
                refine hj_bipush hC (v := 12) d_Mo_change_43 (by decide) ?_
                refine hj_icmp_ge hC 52 d_Mo_change_45 (by decide) hr (fun q45 hr => ?_) (fun q45 hr => ?_)
                · exact hk52 _ _ _ hr
                · refine hj_iload_n hC 1 d_Mo_change_48 rfl rfl ?_
                  refine hj_goto hC 53 d_Mo_change_49 (by decide) ?_
                  exact hk53 _ _ _ _ hr
set_option maxHeartbeats 4000000 in
set_option maxRecDepth 100000 in
theorem m_Mo_behind {l : Launch} {D : va_G} {dA : Nat → ClassId} (x0 : Int32) (h0 : hc_H) (b : Int32) (C0 S0 : Nat) (h2 : hc_H) (hr : p_Mo_behind x0 h0 = some (b, C0, S0, h2)) : hc_Met l (gg D dA) y_Mo_behind b_Mo_behind 1 (some .int) tb 0 0 [vi_ x0] h0 C0 S0 (some (vi_ b)) h2 := by
  refine hc_Met.of (by decide) (Nat.le_of_ble_eq_true rfl) ?_
  intro p e s m args below meth c hC
  unfold p_Mo_behind at hr
  refine hj_sub (lv' := [(0, vi_ x0)]) [0] rfl ?_
  refine hj_iload_n hC 0 d_Mo_behind_0 rfl rfl ?_
  refine hj_if_ne hC 8 d_Mo_behind_1 (by decide) hr (fun q1 hr => ?_) (fun q1 hr => ?_)
  · refine hj_iload_n hC 0 d_Mo_behind_8 rfl rfl ?_
    refine hj_bipush hC (v := 17) d_Mo_behind_9 (by decide) ?_
    refine hj_jn hC (K := hM Int32) (fun k => ∀  (h : hc_H) (C S : Nat), k  h = some (b, C, S, h2) → hj_J p l e { frames := 0, cells := C0, slots := S0, locals := 0 } s m args below meth c (gg D dA) h0 1 (hj_Q below args s { frames := 0, cells := C0, slots := S0, locals := 0 } (gg D dA) h0 (some (vi_ b)) h2) C S h 24 [(0, vi_ x0)] []) hr (fun  h C S hr => ?_) (fun k24 hk24 hr => ?_)
    · refine hj_iload_n hC 0 d_Mo_behind_24 rfl rfl ?_
      refine hj_iconst hC (v := 4) d_Mo_behind_25 (by decide) ?_
      refine hj_icmp_eq hC 52 d_Mo_behind_26 (by decide) hr (fun q26 hr => ?_) (fun q26 hr => ?_)
      · refine hj_iconst hC (v := 1) d_Mo_behind_52 (by decide) ?_
        refine hj_goto hC 57 d_Mo_behind_53 (by decide) ?_
        exact hj_iret hC d_Mo_behind_57 hr
      · refine hj_iload_n hC 0 d_Mo_behind_29 rfl rfl ?_
        refine hj_iconst hC (v := 5) d_Mo_behind_30 (by decide) ?_
        refine hj_icmp_eq hC 52 d_Mo_behind_31 (by decide) hr (fun q31 hr => ?_) (fun q31 hr => ?_)
        · refine hj_iconst hC (v := 1) d_Mo_behind_52 (by decide) ?_
          refine hj_goto hC 57 d_Mo_behind_53 (by decide) ?_
          exact hj_iret hC d_Mo_behind_57 hr
        · refine hj_iload_n hC 0 d_Mo_behind_34 rfl rfl ?_
          refine hj_bipush hC (v := 25) d_Mo_behind_35 (by decide) ?_
          refine hj_icmp_eq hC 52 d_Mo_behind_37 (by decide) hr (fun q37 hr => ?_) (fun q37 hr => ?_)
          · refine hj_iconst hC (v := 1) d_Mo_behind_52 (by decide) ?_
            refine hj_goto hC 57 d_Mo_behind_53 (by decide) ?_
            exact hj_iret hC d_Mo_behind_57 hr
          · refine hj_iload_n hC 0 d_Mo_behind_40 rfl rfl ?_
            refine hj_bipush hC (v := 26) d_Mo_behind_41 (by decide) ?_
            refine hj_icmp_eq hC 52 d_Mo_behind_43 (by decide) hr (fun q43 hr => ?_) (fun q43 hr => ?_)
            · refine hj_iconst hC (v := 1) d_Mo_behind_52 (by decide) ?_
              refine hj_goto hC 57 d_Mo_behind_53 (by decide) ?_
              exact hj_iret hC d_Mo_behind_57 hr
            · refine hj_iload_n hC 0 d_Mo_behind_46 rfl rfl ?_
              refine hj_bipush hC (v := 29) d_Mo_behind_47 (by decide) ?_
              refine hj_icmp_ne hC 56 d_Mo_behind_49 (by decide) hr (fun q49 hr => ?_) (fun q49 hr => ?_)
              · refine hj_iconst hC (v := 0) d_Mo_behind_56 (by decide) ?_
                exact hj_iret hC d_Mo_behind_57 hr
              · refine hj_iconst hC (v := 1) d_Mo_behind_52 (by decide) ?_
                refine hj_goto hC 57 d_Mo_behind_53 (by decide) ?_
                exact hj_iret hC d_Mo_behind_57 hr
    · refine hj_icmp_le hC 24 d_Mo_behind_11 (by decide) hr (fun q11 hr => ?_) (fun q11 hr => ?_)
      · exact hk24 _ _ _ hr
      · refine hj_iload_n hC 0 d_Mo_behind_14 rfl rfl ?_
        refine hj_bipush hC (v := 21) d_Mo_behind_15 (by decide) ?_
        refine hj_icmp_ge hC 24 d_Mo_behind_17 (by decide) hr (fun q17 hr => ?_) (fun q17 hr => ?_)
        · exact hk24 _ _ _ hr
        · refine hj_iconst hC (v := 2) d_Mo_behind_20 (by decide) ?_
          refine hj_goto hC 57 d_Mo_behind_21 (by decide) ?_
          exact hj_iret hC d_Mo_behind_57 hr
  · refine hj_iconst hC (v := 4) d_Mo_behind_4 (by decide) ?_
    refine hj_goto hC 57 d_Mo_behind_5 (by decide) ?_
    exact hj_iret hC d_Mo_behind_57 hr
set_option maxHeartbeats 4000000 in
set_option maxRecDepth 100000 in
theorem ml_Mo_put_4 {p : Program} {l : Launch} {e : Env} {s : State} {m : MethodId} {args : Array Value} {below : List Frame} {meth : Method} {c : Code} {D : va_G} {dA : Nat → ClassId} {h0 h2 : hc_H} {C0 S0 : Nat} {b : Unit} (hC : hj_C p s m args meth c (gg D dA) b_Mo_put 4 none R_Mo "put" tb) (x0 : Option Nat) (x1 : Int32) (kx : hM Unit) (hk : ∀  (h : hc_H) (C S : Nat), kx  h = some (b, C, S, h2) → hj_J p l e { frames := 0, cells := C0, slots := S0, locals := 0 } s m args below meth c (gg D dA) h0 4 (hj_Q below args s { frames := 0, cells := C0, slots := S0, locals := 0 } (gg D dA) h0 none h2) C S h 43 [] []) : ∀ (fu : Nat) (v3 : Int32) (h : hc_H) (C S : Nat), p_Mo_put_4 x0 x1 kx fu v3 h = some (b, C, S, h2) → hj_J p l e { frames := 0, cells := C0, slots := S0, locals := 0 } s m args below meth c (gg D dA) h0 4 (hj_Q below args s { frames := 0, cells := C0, slots := S0, locals := 0 } (gg D dA) h0 none h2) C S h 4 [(0, vr_ x0), (1, vi_ x1), (3, vi_ v3)] [] := by
  intro fu
  induction fu with
  | zero =>
    intro v3 h C S hr
    cases hr
  | succ fu ih =>
    intro v3 h C S hr
    rw [p_Mo_put_4] at hr
    refine hj_iload_n hC 2 d_Mo_put_4 rfl rfl ?_
    refine hj_if_lt hC 43 d_Mo_put_5 (by decide) hr (fun q5 hr => ?_) (fun q5 hr => ?_)
    · refine hj_sub (lv' := []) [] rfl ?_
      exact hk _ _ _ hr
    · refine hj_aload_n hC 0 d_Mo_put_8 rfl rfl ?_
      refine hj_getr hC cf_Mo (k := 3) (by decide) wq_434 rfl d_Mo_put_9 hr (fun a1 hr => ?_)
      refine hj_aload_n hC 0 d_Mo_put_12 rfl rfl ?_
      refine hj_geti hC cf_Mo (k := 4) (by decide) wq_447 rfl d_Mo_put_13 hr (fun a2 hr => ?_)
      refine hj_iload_n hC 1 d_Mo_put_16 rfl rfl ?_
      refine hj_bipush hC (v := 8) d_Mo_put_17 (by decide) ?_
      refine hj_iload_n hC 2 d_Mo_put_19 rfl rfl ?_
      refine hj_imul hC d_Mo_put_20 ?_
      refine hj_ishr hC d_Mo_put_21 ?_
      refine hj_sipush hC (v := 255) d_Mo_put_22 (by decide) ?_
      refine hj_iand hC d_Mo_put_25 ?_
      refine hj_iast hC (kd := 11) rfl d_Mo_put_26 hr (fun h hr => ?_)
      refine hj_aload_n hC 0 d_Mo_put_27 rfl rfl ?_
      refine hj_dup hC d_Mo_put_28 rfl ?_
      refine hj_geti hC cf_Mo (k := 4) (by decide) wq_447 rfl d_Mo_put_29 hr (fun a3 hr => ?_)
      refine hj_iconst hC (v := 1) d_Mo_put_32 (by decide) ?_
      refine hj_iadd hC d_Mo_put_33 ?_
      refine hj_puti hC cf_Mo (k := 4) (by decide) wq_447 rfl (Or.inl rfl) rfl d_Mo_put_34 hr (fun h hr => ?_)
      refine hj_iinc hC (lv' := [(3, vi_ (v3 + (-1))), (0, vr_ x0), (1, vi_ x1)]) 2 d_Mo_put_37 rfl rfl (by decide) rfl ?_
      refine hj_goto hC 4 d_Mo_put_40 (by decide) ?_
      refine hj_sub (lv' := [(0, vr_ x0), (1, vi_ x1), (3, vi_ (v3 + (-1)))]) [1, 2, 0] rfl ?_
      exact ih _ _ _ _ hr
set_option maxHeartbeats 4000000 in
set_option maxRecDepth 100000 in
theorem m_Mo_put {l : Launch} {D : va_G} {dA : Nat → ClassId} (o : Option Nat) (x1 : Int32) (x2 : Int32) (h0 : hc_H) (b : Unit) (C0 S0 : Nat) (h2 : hc_H) (hr : p_Mo_put o x1 x2 h0 = some (b, C0, S0, h2)) : hc_Met l (gg D dA) y_Mo_put b_Mo_put 4 none tb 0 0 [vr_ o, vi_ x1, vi_ x2] h0 C0 S0 none h2 := by
  refine hc_Met.of (by decide) (Nat.le_of_ble_eq_true rfl) ?_
  intro p e s m args below meth c hC
  unfold p_Mo_put at hr
  refine hj_sub (lv' := [(0, vr_ o), (1, vi_ x1), (2, vi_ x2)]) [0, 1, 2] rfl ?_
  refine hj_iload_n hC 2 d_Mo_put_0 rfl rfl ?_
  refine hj_iconst hC (v := 1) d_Mo_put_1 (by decide) ?_
  refine hj_isub hC d_Mo_put_2 ?_
  refine hj_istore_n hC (lv' := [(3, vi_ (x2 - 1)), (0, vr_ o), (1, vi_ x1), (2, vi_ x2)]) d_Mo_put_3 rfl (by decide) rfl ?_
  refine hj_sub (lv' := [(0, vr_ o), (1, vi_ x1), (3, vi_ (x2 - 1))]) [1, 2, 0] rfl ?_
  refine ml_Mo_put_4 hC _ _ _ (fun  h C S hr => ?_) _ _ _ _ _ hr
  exact hj_vret hC d_Mo_put_43 hr
