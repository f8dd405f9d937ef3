theorem d_Verifier_lookAt_0 : decode b_Verifier_lookAt 0 = .ok (.aload_n 0, 1) := by decide +kernel
theorem d_Verifier_lookAt_1 : decode b_Verifier_lookAt 1 = .ok (.getfield 18, 3) := by decide +kernel
theorem d_Verifier_lookAt_4 : decode b_Verifier_lookAt 4 = .ok (.iload_n 1, 1) := by decide +kernel
theorem d_Verifier_lookAt_5 : decode b_Verifier_lookAt 5 = .ok (.iconst 0, 1) := by decide +kernel
theorem d_Verifier_lookAt_6 : decode b_Verifier_lookAt 6 = .ok (.bastore, 1) := by decide +kernel
theorem d_Verifier_lookAt_7 : decode b_Verifier_lookAt 7 = .ok (.aload_n 0, 1) := by decide +kernel
theorem d_Verifier_lookAt_8 : decode b_Verifier_lookAt 8 = .ok (.iload_n 1, 1) := by decide +kernel
theorem d_Verifier_lookAt_9 : decode b_Verifier_lookAt 9 = .ok (.putfield 80, 3) := by decide +kernel
theorem d_Verifier_lookAt_12 : decode b_Verifier_lookAt 12 = .ok (.aload_n 0, 1) := by decide +kernel
theorem d_Verifier_lookAt_13 : decode b_Verifier_lookAt 13 = .ok (.aload_n 0, 1) := by decide +kernel
theorem d_Verifier_lookAt_14 : decode b_Verifier_lookAt 14 = .ok (.getfield 9, 3) := by decide +kernel
theorem d_Verifier_lookAt_17 : decode b_Verifier_lookAt 17 = .ok (.iload_n 1, 1) := by decide +kernel
theorem d_Verifier_lookAt_18 : decode b_Verifier_lookAt 18 = .ok (.iaload, 1) := by decide +kernel
theorem d_Verifier_lookAt_19 : decode b_Verifier_lookAt 19 = .ok (.putfield 83, 3) := by decide +kernel
theorem d_Verifier_lookAt_22 : decode b_Verifier_lookAt 22 = .ok (.aload_n 0, 1) := by decide +kernel
theorem d_Verifier_lookAt_23 : decode b_Verifier_lookAt 23 = .ok (.aload_n 0, 1) := by decide +kernel
theorem d_Verifier_lookAt_24 : decode b_Verifier_lookAt 24 = .ok (.getfield 15, 3) := by decide +kernel
theorem d_Verifier_lookAt_27 : decode b_Verifier_lookAt 27 = .ok (.iload_n 1, 1) := by decide +kernel
theorem d_Verifier_lookAt_28 : decode b_Verifier_lookAt 28 = .ok (.iaload, 1) := by decide +kernel
theorem d_Verifier_lookAt_29 : decode b_Verifier_lookAt 29 = .ok (.putfield 86, 3) := by decide +kernel
theorem d_Verifier_lookAt_32 : decode b_Verifier_lookAt 32 = .ok (.aload_n 0, 1) := by decide +kernel
theorem d_Verifier_lookAt_33 : decode b_Verifier_lookAt 33 = .ok (.getfield 32, 3) := by decide +kernel
theorem d_Verifier_lookAt_36 : decode b_Verifier_lookAt 36 = .ok (.getfield 89, 3) := by decide +kernel
theorem d_Verifier_lookAt_39 : decode b_Verifier_lookAt 39 = .ok (.iload_n 1, 1) := by decide +kernel
theorem d_Verifier_lookAt_40 : decode b_Verifier_lookAt 40 = .ok (.iaload, 1) := by decide +kernel
theorem d_Verifier_lookAt_41 : decode b_Verifier_lookAt 41 = .ok (.istore_n 2, 1) := by decide +kernel
theorem d_Verifier_lookAt_42 : decode b_Verifier_lookAt 42 = .ok (.aload_n 0, 1) := by decide +kernel
theorem d_Verifier_lookAt_43 : decode b_Verifier_lookAt 43 = .ok (.getfield 32, 3) := by decide +kernel
theorem d_Verifier_lookAt_46 : decode b_Verifier_lookAt 46 = .ok (.getfield 92, 3) := by decide +kernel
theorem d_Verifier_lookAt_49 : decode b_Verifier_lookAt 49 = .ok (.iload_n 1, 1) := by decide +kernel
theorem d_Verifier_lookAt_50 : decode b_Verifier_lookAt 50 = .ok (.iaload, 1) := by decide +kernel
theorem d_Verifier_lookAt_51 : decode b_Verifier_lookAt 51 = .ok (.istore_n 3, 1) := by decide +kernel
theorem d_Verifier_lookAt_52 : decode b_Verifier_lookAt 52 = .ok (.aload_n 0, 1) := by decide +kernel
theorem d_Verifier_lookAt_53 : decode b_Verifier_lookAt 53 = .ok (.iload_n 2, 1) := by decide +kernel
theorem d_Verifier_lookAt_54 : decode b_Verifier_lookAt 54 = .ok (.iload_n 3, 1) := by decide +kernel
theorem d_Verifier_lookAt_55 : decode b_Verifier_lookAt 55 = .ok (.invokevirtual 95, 3) := by decide +kernel
theorem d_Verifier_lookAt_58 : decode b_Verifier_lookAt 58 = .ok (.aload_n 0, 1) := by decide +kernel
theorem d_Verifier_lookAt_59 : decode b_Verifier_lookAt 59 = .ok (.invokevirtual 99, 3) := by decide +kernel
theorem d_Verifier_lookAt_62 : decode b_Verifier_lookAt 62 = .ok (.iload_n 2, 1) := by decide +kernel
theorem d_Verifier_lookAt_63 : decode b_Verifier_lookAt 63 = .ok (.invokestatic 102, 3) := by decide +kernel
theorem d_Verifier_lookAt_66 : decode b_Verifier_lookAt 66 = .ok (.ifCond .eq 16, 3) := by decide +kernel
theorem d_Verifier_lookAt_69 : decode b_Verifier_lookAt 69 = .ok (.aload_n 0, 1) := by decide +kernel
theorem d_Verifier_lookAt_70 : decode b_Verifier_lookAt 70 = .ok (.iload_n 3, 1) := by decide +kernel
theorem d_Verifier_lookAt_71 : decode b_Verifier_lookAt 71 = .ok (.aload_n 0, 1) := by decide +kernel
theorem d_Verifier_lookAt_72 : decode b_Verifier_lookAt 72 = .ok (.getfield 83, 3) := by decide +kernel
theorem d_Verifier_lookAt_75 : decode b_Verifier_lookAt 75 = .ok (.aload_n 0, 1) := by decide +kernel
theorem d_Verifier_lookAt_76 : decode b_Verifier_lookAt 76 = .ok (.getfield 86, 3) := by decide +kernel
theorem d_Verifier_lookAt_79 : decode b_Verifier_lookAt 79 = .ok (.invokevirtual 76, 3) := by decide +kernel
theorem d_Verifier_lookAt_82 : decode b_Verifier_lookAt 82 = .ok (.iload_n 2, 1) := by decide +kernel
theorem d_Verifier_lookAt_83 : decode b_Verifier_lookAt 83 = .ok (.invokestatic 108, 3) := by decide +kernel
theorem d_Verifier_lookAt_86 : decode b_Verifier_lookAt 86 = .ok (.ifCond .eq 7, 3) := by decide +kernel
theorem d_Verifier_lookAt_89 : decode b_Verifier_lookAt 89 = .ok (.aload_n 0, 1) := by decide +kernel
theorem d_Verifier_lookAt_90 : decode b_Verifier_lookAt 90 = .ok (.invokevirtual 111, 3) := by decide +kernel
theorem d_Verifier_lookAt_93 : decode b_Verifier_lookAt 93 = .ok (.return_, 1) := by decide +kernel
theorem d_Verifier_verify_0 : decode b_Verifier_verify 0 = .ok (.aload_n 1, 1) := by decide +kernel
theorem d_Verifier_verify_1 : decode b_Verifier_verify 1 = .ok (.iload_n 2, 1) := by decide +kernel
theorem d_Verifier_verify_2 : decode b_Verifier_verify 2 = .ok (.invokevirtual 22, 3) := by decide +kernel
theorem d_Verifier_verify_5 : decode b_Verifier_verify 5 = .ok (.astore 4, 2) := by decide +kernel
theorem d_Verifier_verify_7 : decode b_Verifier_verify 7 = .ok (.aload 4, 2) := by decide +kernel
theorem d_Verifier_verify_9 : decode b_Verifier_verify 9 = .ok (.ifnonnull 4, 3) := by decide +kernel
theorem d_Verifier_verify_12 : decode b_Verifier_verify 12 = .ok (.return_, 1) := by decide +kernel
theorem d_Verifier_verify_13 : decode b_Verifier_verify 13 = .ok (.aload_n 0, 1) := by decide +kernel
theorem d_Verifier_verify_14 : decode b_Verifier_verify 14 = .ok (.aload_n 1, 1) := by decide +kernel
theorem d_Verifier_verify_15 : decode b_Verifier_verify 15 = .ok (.putfield 28, 3) := by decide +kernel
theorem d_Verifier_verify_18 : decode b_Verifier_verify 18 = .ok (.aload_n 0, 1) := by decide +kernel
theorem d_Verifier_verify_19 : decode b_Verifier_verify 19 = .ok (.aload 4, 2) := by decide +kernel
theorem d_Verifier_verify_21 : decode b_Verifier_verify 21 = .ok (.putfield 32, 3) := by decide +kernel
theorem d_Verifier_verify_24 : decode b_Verifier_verify 24 = .ok (.aload_n 0, 1) := by decide +kernel
theorem d_Verifier_verify_25 : decode b_Verifier_verify 25 = .ok (.aload_n 3, 1) := by decide +kernel
theorem d_Verifier_verify_26 : decode b_Verifier_verify 26 = .ok (.putfield 36, 3) := by decide +kernel
theorem d_Verifier_verify_29 : decode b_Verifier_verify 29 = .ok (.aload_n 0, 1) := by decide +kernel
theorem d_Verifier_verify_30 : decode b_Verifier_verify 30 = .ok (.iload_n 2, 1) := by decide +kernel
theorem d_Verifier_verify_31 : decode b_Verifier_verify 31 = .ok (.sipush 512, 3) := by decide +kernel
theorem d_Verifier_verify_34 : decode b_Verifier_verify 34 = .ok (.imul, 1) := by decide +kernel
theorem d_Verifier_verify_35 : decode b_Verifier_verify 35 = .ok (.putfield 40, 3) := by decide +kernel
theorem d_Verifier_verify_38 : decode b_Verifier_verify 38 = .ok (.aload_n 0, 1) := by decide +kernel
theorem d_Verifier_verify_39 : decode b_Verifier_verify 39 = .ok (.invokevirtual 44, 3) := by decide +kernel
theorem d_Verifier_verify_42 : decode b_Verifier_verify 42 = .ok (.iconst 0, 1) := by decide +kernel
theorem d_Verifier_verify_43 : decode b_Verifier_verify 43 = .ok (.istore 5, 2) := by decide +kernel
theorem d_Verifier_verify_45 : decode b_Verifier_verify 45 = .ok (.iload 5, 2) := by decide +kernel
theorem d_Verifier_verify_47 : decode b_Verifier_verify 47 = .ok (.aload_n 0, 1) := by decide +kernel
theorem d_Verifier_verify_48 : decode b_Verifier_verify 48 = .ok (.getfield 32, 3) := by decide +kernel
theorem d_Verifier_verify_51 : decode b_Verifier_verify 51 = .ok (.getfield 47, 3) := by decide +kernel
theorem d_Verifier_verify_54 : decode b_Verifier_verify 54 = .ok (.if_icmp .ge 24, 3) := by decide +kernel
theorem d_Verifier_verify_57 : decode b_Verifier_verify 57 = .ok (.aload_n 0, 1) := by decide +kernel
theorem d_Verifier_verify_58 : decode b_Verifier_verify 58 = .ok (.invokevirtual 52, 3) := by decide +kernel
theorem d_Verifier_verify_61 : decode b_Verifier_verify 61 = .ok (.ifCond .eq 17, 3) := by decide +kernel
theorem d_Verifier_verify_64 : decode b_Verifier_verify 64 = .ok (.aload_n 0, 1) := by decide +kernel
theorem d_Verifier_verify_65 : decode b_Verifier_verify 65 = .ok (.aload_n 0, 1) := by decide +kernel
theorem d_Verifier_verify_66 : decode b_Verifier_verify 66 = .ok (.getfield 56, 3) := by decide +kernel
theorem d_Verifier_verify_69 : decode b_Verifier_verify 69 = .ok (.invokevirtual 59, 3) := by decide +kernel
theorem d_Verifier_verify_72 : decode b_Verifier_verify 72 = .ok (.iinc 5 1, 3) := by decide +kernel
theorem d_Verifier_verify_75 : decode b_Verifier_verify 75 = .ok (.goto (-30), 3) := by decide +kernel
theorem d_Verifier_verify_78 : decode b_Verifier_verify 78 = .ok (.aload_n 0, 1) := by decide +kernel
theorem d_Verifier_verify_79 : decode b_Verifier_verify 79 = .ok (.getfield 36, 3) := by decide +kernel
theorem d_Verifier_verify_82 : decode b_Verifier_verify 82 = .ok (.getfield 63, 3) := by decide +kernel
theorem d_Verifier_verify_85 : decode b_Verifier_verify 85 = .ok (.ifCond .ne 49, 3) := by decide +kernel
theorem d_Verifier_verify_88 : decode b_Verifier_verify 88 = .ok (.aload_n 0, 1) := by decide +kernel
theorem d_Verifier_verify_89 : decode b_Verifier_verify 89 = .ok (.getfield 9, 3) := by decide +kernel
theorem d_Verifier_verify_92 : decode b_Verifier_verify 92 = .ok (.iconst 0, 1) := by decide +kernel
theorem d_Verifier_verify_93 : decode b_Verifier_verify 93 = .ok (.aload_n 0, 1) := by decide +kernel
theorem d_Verifier_verify_94 : decode b_Verifier_verify 94 = .ok (.getfield 32, 3) := by decide +kernel
theorem d_Verifier_verify_97 : decode b_Verifier_verify 97 = .ok (.getfield 68, 3) := by decide +kernel
theorem d_Verifier_verify_100 : decode b_Verifier_verify 100 = .ok (.iconst 0, 1) := by decide +kernel
theorem d_Verifier_verify_101 : decode b_Verifier_verify 101 = .ok (.aload_n 0, 1) := by decide +kernel
theorem d_Verifier_verify_102 : decode b_Verifier_verify 102 = .ok (.getfield 32, 3) := by decide +kernel
theorem d_Verifier_verify_105 : decode b_Verifier_verify 105 = .ok (.getfield 47, 3) := by decide +kernel
theorem d_Verifier_verify_108 : decode b_Verifier_verify 108 = .ok (.invokestatic 69, 3) := by decide +kernel
theorem d_Verifier_verify_111 : decode b_Verifier_verify 111 = .ok (.aload_n 0, 1) := by decide +kernel
theorem d_Verifier_verify_112 : decode b_Verifier_verify 112 = .ok (.getfield 15, 3) := by decide +kernel
theorem d_Verifier_verify_115 : decode b_Verifier_verify 115 = .ok (.iconst 0, 1) := by decide +kernel
theorem d_Verifier_verify_116 : decode b_Verifier_verify 116 = .ok (.aload_n 0, 1) := by decide +kernel
theorem d_Verifier_verify_117 : decode b_Verifier_verify 117 = .ok (.getfield 32, 3) := by decide +kernel
theorem d_Verifier_verify_120 : decode b_Verifier_verify 120 = .ok (.getfield 75, 3) := by decide +kernel
theorem d_Verifier_verify_123 : decode b_Verifier_verify 123 = .ok (.iconst 0, 1) := by decide +kernel
theorem d_Verifier_verify_124 : decode b_Verifier_verify 124 = .ok (.aload_n 0, 1) := by decide +kernel
theorem d_Verifier_verify_125 : decode b_Verifier_verify 125 = .ok (.getfield 32, 3) := by decide +kernel
theorem d_Verifier_verify_128 : decode b_Verifier_verify 128 = .ok (.getfield 47, 3) := by decide +kernel
theorem d_Verifier_verify_131 : decode b_Verifier_verify 131 = .ok (.invokestatic 69, 3) := by decide +kernel
theorem d_Verifier_verify_134 : decode b_Verifier_verify 134 = .ok (.return_, 1) := by decide +kernel
theorem d_SB_read_0 : decode b_SB_read 0 = .ok (.aload_n 0, 1) := by decide +kernel
theorem d_SB_read_1 : decode b_SB_read 1 = .ok (.getfield 24, 3) := by decide +kernel
theorem d_SB_read_4 : decode b_SB_read 4 = .ok (.invokevirtual 57, 3) := by decide +kernel
theorem d_SB_read_7 : decode b_SB_read 7 = .ok (.new 60, 3) := by decide +kernel
theorem d_SB_read_10 : decode b_SB_read 10 = .ok (.dup, 1) := by decide +kernel
theorem d_SB_read_11 : decode b_SB_read 11 = .ok (.aload_n 0, 1) := by decide +kernel
theorem d_SB_read_12 : decode b_SB_read 12 = .ok (.getfield 14, 3) := by decide +kernel
theorem d_SB_read_15 : decode b_SB_read 15 = .ok (.aload_n 0, 1) := by decide +kernel
theorem d_SB_read_16 : decode b_SB_read 16 = .ok (.getfield 24, 3) := by decide +kernel
theorem d_SB_read_19 : decode b_SB_read 19 = .ok (.invokespecial 62, 3) := by decide +kernel
theorem d_SB_read_22 : decode b_SB_read 22 = .ok (.aload_n 0, 1) := by decide +kernel
theorem d_SB_read_23 : decode b_SB_read 23 = .ok (.getfield 42, 3) := by decide +kernel
theorem d_SB_read_26 : decode b_SB_read 26 = .ok (.invokevirtual 65, 3) := by decide +kernel
theorem d_SB_read_29 : decode b_SB_read 29 = .ok (.iconst 0, 1) := by decide +kernel
theorem d_SB_read_30 : decode b_SB_read 30 = .ok (.istore_n 1, 1) := by decide +kernel
theorem d_SB_read_31 : decode b_SB_read 31 = .ok (.iload_n 1, 1) := by decide +kernel
theorem d_SB_read_32 : decode b_SB_read 32 = .ok (.aload_n 0, 1) := by decide +kernel
theorem d_SB_read_33 : decode b_SB_read 33 = .ok (.getfield 42, 3) := by decide +kernel
theorem d_SB_read_36 : decode b_SB_read 36 = .ok (.getfield 69, 3) := by decide +kernel
theorem d_SB_read_39 : decode b_SB_read 39 = .ok (.if_icmp .ge 35, 3) := by decide +kernel
theorem d_SB_read_42 : decode b_SB_read 42 = .ok (.aload_n 0, 1) := by decide +kernel
theorem d_SB_read_43 : decode b_SB_read 43 = .ok (.getfield 24, 3) := by decide +kernel
theorem d_SB_read_46 : decode b_SB_read 46 = .ok (.getfield 73, 3) := by decide +kernel
theorem d_SB_read_49 : decode b_SB_read 49 = .ok (.ifCond .ne 25, 3) := by decide +kernel
theorem d_SB_read_52 : decode b_SB_read 52 = .ok (.aload_n 0, 1) := by decide +kernel
theorem d_SB_read_53 : decode b_SB_read 53 = .ok (.getfield 31, 3) := by decide +kernel
theorem d_SB_read_56 : decode b_SB_read 56 = .ok (.aload_n 0, 1) := by decide +kernel
theorem d_SB_read_57 : decode b_SB_read 57 = .ok (.getfield 42, 3) := by decide +kernel
theorem d_SB_read_60 : decode b_SB_read 60 = .ok (.iload_n 1, 1) := by decide +kernel
theorem d_SB_read_61 : decode b_SB_read 61 = .ok (.aload_n 0, 1) := by decide +kernel
theorem d_SB_read_62 : decode b_SB_read 62 = .ok (.getfield 24, 3) := by decide +kernel
theorem d_SB_read_65 : decode b_SB_read 65 = .ok (.invokevirtual 76, 3) := by decide +kernel
theorem d_SB_read_68 : decode b_SB_read 68 = .ok (.iinc 1 1, 3) := by decide +kernel
theorem d_SB_read_71 : decode b_SB_read 71 = .ok (.goto (-40), 3) := by decide +kernel
theorem d_SB_read_74 : decode b_SB_read 74 = .ok (.aload_n 0, 1) := by decide +kernel
theorem d_SB_read_75 : decode b_SB_read 75 = .ok (.getfield 24, 3) := by decide +kernel
theorem d_SB_read_78 : decode b_SB_read 78 = .ok (.getfield 73, 3) := by decide +kernel
theorem d_SB_read_81 : decode b_SB_read 81 = .ok (.ifCond .ne 21, 3) := by decide +kernel
theorem d_SB_read_84 : decode b_SB_read 84 = .ok (.aload_n 0, 1) := by decide +kernel
theorem d_SB_read_85 : decode b_SB_read 85 = .ok (.getfield 38, 3) := by decide +kernel
theorem d_SB_read_88 : decode b_SB_read 88 = .ok (.astore_n 1, 1) := by decide +kernel
theorem d_SB_read_89 : decode b_SB_read 89 = .ok (.aload_n 0, 1) := by decide +kernel
theorem d_SB_read_90 : decode b_SB_read 90 = .ok (.aload_n 0, 1) := by decide +kernel
theorem d_SB_read_91 : decode b_SB_read 91 = .ok (.getfield 42, 3) := by decide +kernel
theorem d_SB_read_94 : decode b_SB_read 94 = .ok (.putfield 38, 3) := by decide +kernel
theorem d_SB_read_97 : decode b_SB_read 97 = .ok (.aload_n 0, 1) := by decide +kernel
theorem d_SB_read_98 : decode b_SB_read 98 = .ok (.aload_n 1, 1) := by decide +kernel
theorem d_SB_read_99 : decode b_SB_read 99 = .ok (.putfield 42, 3) := by decide +kernel
theorem d_SB_read_102 : decode b_SB_read 102 = .ok (.aload_n 0, 1) := by decide +kernel
theorem d_SB_read_103 : decode b_SB_read 103 = .ok (.getfield 24, 3) := by decide +kernel
theorem d_SB_read_106 : decode b_SB_read 106 = .ok (.getfield 73, 3) := by decide +kernel
theorem d_SB_read_109 : decode b_SB_read 109 = .ok (.ireturn, 1) := by decide +kernel
theorem d_Handler_appendTo_0 : decode b_Handler_appendTo 0 = .ok (.aload_n 1, 1) := by decide +kernel
theorem d_Handler_appendTo_1 : decode b_Handler_appendTo 1 = .ok (.aload_n 0, 1) := by decide +kernel
theorem d_Handler_appendTo_2 : decode b_Handler_appendTo 2 = .ok (.getfield 7, 3) := by decide +kernel
theorem d_Handler_appendTo_5 : decode b_Handler_appendTo 5 = .ok (.i2l, 1) := by decide +kernel
theorem d_Handler_appendTo_6 : decode b_Handler_appendTo 6 = .ok (.iconst 2, 1) := by decide +kernel
theorem d_Handler_appendTo_7 : decode b_Handler_appendTo 7 = .ok (.invokevirtual 16, 3) := by decide +kernel
theorem d_Handler_appendTo_10 : decode b_Handler_appendTo 10 = .ok (.pop, 1) := by decide +kernel
theorem d_Handler_appendTo_11 : decode b_Handler_appendTo 11 = .ok (.aload_n 1, 1) := by decide +kernel
theorem d_Handler_appendTo_12 : decode b_Handler_appendTo 12 = .ok (.aload_n 0, 1) := by decide +kernel
theorem d_Handler_appendTo_13 : decode b_Handler_appendTo 13 = .ok (.getfield 13, 3) := by decide +kernel
theorem d_Handler_appendTo_16 : decode b_Handler_appendTo 16 = .ok (.i2l, 1) := by decide +kernel
theorem d_Handler_appendTo_17 : decode b_Handler_appendTo 17 = .ok (.iconst 2, 1) := by decide +kernel
theorem d_Handler_appendTo_18 : decode b_Handler_appendTo 18 = .ok (.invokevirtual 16, 3) := by decide +kernel
theorem d_Handler_appendTo_21 : decode b_Handler_appendTo 21 = .ok (.pop, 1) := by decide +kernel
theorem d_Handler_appendTo_22 : decode b_Handler_appendTo 22 = .ok (.aload_n 1, 1) := by decide +kernel
theorem d_Handler_appendTo_23 : decode b_Handler_appendTo 23 = .ok (.aload_n 0, 1) := by decide +kernel
theorem d_Handler_appendTo_24 : decode b_Handler_appendTo 24 = .ok (.getfield 22, 3) := by decide +kernel
theorem d_Handler_appendTo_27 : decode b_Handler_appendTo 27 = .ok (.i2l, 1) := by decide +kernel
theorem d_Handler_appendTo_28 : decode b_Handler_appendTo 28 = .ok (.iconst 2, 1) := by decide +kernel
theorem d_Handler_appendTo_29 : decode b_Handler_appendTo 29 = .ok (.invokevirtual 16, 3) := by decide +kernel
theorem d_Handler_appendTo_32 : decode b_Handler_appendTo 32 = .ok (.pop, 1) := by decide +kernel
theorem d_Handler_appendTo_33 : decode b_Handler_appendTo 33 = .ok (.aload_n 1, 1) := by decide +kernel
theorem d_Handler_appendTo_34 : decode b_Handler_appendTo 34 = .ok (.aload_n 0, 1) := by decide +kernel
theorem d_Handler_appendTo_35 : decode b_Handler_appendTo 35 = .ok (.getfield 25, 3) := by decide +kernel
theorem d_Handler_appendTo_38 : decode b_Handler_appendTo 38 = .ok (.ifCond .eq 7, 3) := by decide +kernel
theorem d_Handler_appendTo_41 : decode b_Handler_appendTo 41 = .ok (.lconst 0, 1) := by decide +kernel
theorem d_Handler_appendTo_42 : decode b_Handler_appendTo 42 = .ok (.goto 4, 3) := by decide +kernel
theorem d_Handler_appendTo_45 : decode b_Handler_appendTo 45 = .ok (.lconst 1, 1) := by decide +kernel
theorem d_Handler_appendTo_46 : decode b_Handler_appendTo 46 = .ok (.iconst 1, 1) := by decide +kernel
theorem d_Handler_appendTo_47 : decode b_Handler_appendTo 47 = .ok (.invokevirtual 16, 3) := by decide +kernel
theorem d_Handler_appendTo_50 : decode b_Handler_appendTo 50 = .ok (.pop, 1) := by decide +kernel
theorem d_Handler_appendTo_51 : decode b_Handler_appendTo 51 = .ok (.aload_n 1, 1) := by decide +kernel
theorem d_Handler_appendTo_52 : decode b_Handler_appendTo 52 = .ok (.aload_n 0, 1) := by decide +kernel
theorem d_Handler_appendTo_53 : decode b_Handler_appendTo 53 = .ok (.getfield 29, 3) := by decide +kernel
theorem d_Handler_appendTo_56 : decode b_Handler_appendTo 56 = .ok (.i2l, 1) := by decide +kernel
theorem d_Handler_appendTo_57 : decode b_Handler_appendTo 57 = .ok (.aload_n 0, 1) := by decide +kernel
theorem d_Handler_appendTo_58 : decode b_Handler_appendTo 58 = .ok (.getfield 25, 3) := by decide +kernel
theorem d_Handler_appendTo_61 : decode b_Handler_appendTo 61 = .ok (.ifCond .eq 7, 3) := by decide +kernel
theorem d_Handler_appendTo_64 : decode b_Handler_appendTo 64 = .ok (.iconst 0, 1) := by decide +kernel
theorem d_Handler_appendTo_65 : decode b_Handler_appendTo 65 = .ok (.goto 4, 3) := by decide +kernel
theorem d_Handler_appendTo_68 : decode b_Handler_appendTo 68 = .ok (.iconst 4, 1) := by decide +kernel
theorem d_Handler_appendTo_69 : decode b_Handler_appendTo 69 = .ok (.invokevirtual 16, 3) := by decide +kernel
theorem d_Handler_appendTo_72 : decode b_Handler_appendTo 72 = .ok (.pop, 1) := by decide +kernel
theorem d_Handler_appendTo_73 : decode b_Handler_appendTo 73 = .ok (.return_, 1) := by decide +kernel
theorem d_Function_appendTo_0 : decode b_Function_appendTo 0 = .ok (.aload_n 1, 1) := by decide +kernel
theorem d_Function_appendTo_1 : decode b_Function_appendTo 1 = .ok (.aload_n 0, 1) := by decide +kernel
theorem d_Function_appendTo_2 : decode b_Function_appendTo 2 = .ok (.getfield 56, 3) := by decide +kernel
theorem d_Function_appendTo_5 : decode b_Function_appendTo 5 = .ok (.i2l, 1) := by decide +kernel
theorem d_Function_appendTo_6 : decode b_Function_appendTo 6 = .ok (.iconst 1, 1) := by decide +kernel
theorem d_Function_appendTo_7 : decode b_Function_appendTo 7 = .ok (.invokevirtual 59, 3) := by decide +kernel
theorem d_Function_appendTo_10 : decode b_Function_appendTo 10 = .ok (.pop, 1) := by decide +kernel
theorem d_Function_appendTo_11 : decode b_Function_appendTo 11 = .ok (.aload_n 1, 1) := by decide +kernel
theorem d_Function_appendTo_12 : decode b_Function_appendTo 12 = .ok (.aload_n 0, 1) := by decide +kernel
theorem d_Function_appendTo_13 : decode b_Function_appendTo 13 = .ok (.getfield 65, 3) := by decide +kernel
theorem d_Function_appendTo_16 : decode b_Function_appendTo 16 = .ok (.i2l, 1) := by decide +kernel
theorem d_Function_appendTo_17 : decode b_Function_appendTo 17 = .ok (.iconst 1, 1) := by decide +kernel
theorem d_Function_appendTo_18 : decode b_Function_appendTo 18 = .ok (.invokevirtual 59, 3) := by decide +kernel
theorem d_Function_appendTo_21 : decode b_Function_appendTo 21 = .ok (.pop, 1) := by decide +kernel
theorem d_Function_appendTo_22 : decode b_Function_appendTo 22 = .ok (.aload_n 1, 1) := by decide +kernel
theorem d_Function_appendTo_23 : decode b_Function_appendTo 23 = .ok (.aload_n 0, 1) := by decide +kernel
theorem d_Function_appendTo_24 : decode b_Function_appendTo 24 = .ok (.getfield 35, 3) := by decide +kernel
theorem d_Function_appendTo_27 : decode b_Function_appendTo 27 = .ok (.i2l, 1) := by decide +kernel
theorem d_Function_appendTo_28 : decode b_Function_appendTo 28 = .ok (.iconst 2, 1) := by decide +kernel
theorem d_Function_appendTo_29 : decode b_Function_appendTo 29 = .ok (.invokevirtual 59, 3) := by decide +kernel
theorem d_Function_appendTo_32 : decode b_Function_appendTo 32 = .ok (.pop, 1) := by decide +kernel
theorem d_Function_appendTo_33 : decode b_Function_appendTo 33 = .ok (.aload_n 1, 1) := by decide +kernel
theorem d_Function_appendTo_34 : decode b_Function_appendTo 34 = .ok (.aload_n 0, 1) := by decide +kernel
theorem d_Function_appendTo_35 : decode b_Function_appendTo 35 = .ok (.getfield 68, 3) := by decide +kernel
theorem d_Function_appendTo_38 : decode b_Function_appendTo 38 = .ok (.i2l, 1) := by decide +kernel
theorem d_Function_appendTo_39 : decode b_Function_appendTo 39 = .ok (.iconst 1, 1) := by decide +kernel
theorem d_Function_appendTo_40 : decode b_Function_appendTo 40 = .ok (.invokevirtual 59, 3) := by decide +kernel
theorem d_Function_appendTo_43 : decode b_Function_appendTo 43 = .ok (.pop, 1) := by decide +kernel
theorem d_Function_appendTo_44 : decode b_Function_appendTo 44 = .ok (.aload_n 1, 1) := by decide +kernel
theorem d_Function_appendTo_45 : decode b_Function_appendTo 45 = .ok (.aload_n 0, 1) := by decide +kernel
theorem d_Function_appendTo_46 : decode b_Function_appendTo 46 = .ok (.getfield 30, 3) := by decide +kernel
theorem d_Function_appendTo_49 : decode b_Function_appendTo 49 = .ok (.i2l, 1) := by decide +kernel
theorem d_Function_appendTo_50 : decode b_Function_appendTo 50 = .ok (.iconst 2, 1) := by decide +kernel
theorem d_Function_appendTo_51 : decode b_Function_appendTo 51 = .ok (.invokevirtual 59, 3) := by decide +kernel
theorem d_Function_appendTo_54 : decode b_Function_appendTo 54 = .ok (.pop, 1) := by decide +kernel
theorem d_Function_appendTo_55 : decode b_Function_appendTo 55 = .ok (.iconst 0, 1) := by decide +kernel
theorem d_Function_appendTo_56 : decode b_Function_appendTo 56 = .ok (.istore_n 2, 1) := by decide +kernel
theorem d_Function_appendTo_57 : decode b_Function_appendTo 57 = .ok (.iload_n 2, 1) := by decide +kernel
theorem d_Function_appendTo_58 : decode b_Function_appendTo 58 = .ok (.aload_n 0, 1) := by decide +kernel
theorem d_Function_appendTo_59 : decode b_Function_appendTo 59 = .ok (.getfield 30, 3) := by decide +kernel
theorem d_Function_appendTo_62 : decode b_Function_appendTo 62 = .ok (.if_icmp .ge 43, 3) := by decide +kernel
theorem d_Function_appendTo_65 : decode b_Function_appendTo 65 = .ok (.aload_n 1, 1) := by decide +kernel
theorem d_Function_appendTo_66 : decode b_Function_appendTo 66 = .ok (.aload_n 0, 1) := by decide +kernel
theorem d_Function_appendTo_67 : decode b_Function_appendTo 67 = .ok (.getfield 9, 3) := by decide +kernel
theorem d_Function_appendTo_70 : decode b_Function_appendTo 70 = .ok (.iload_n 2, 1) := by decide +kernel
theorem d_Function_appendTo_71 : decode b_Function_appendTo 71 = .ok (.iaload, 1) := by decide +kernel
theorem d_Function_appendTo_72 : decode b_Function_appendTo 72 = .ok (.i2l, 1) := by decide +kernel
theorem d_Function_appendTo_73 : decode b_Function_appendTo 73 = .ok (.iconst 1, 1) := by decide +kernel
theorem d_Function_appendTo_74 : decode b_Function_appendTo 74 = .ok (.invokevirtual 59, 3) := by decide +kernel
theorem d_Function_appendTo_77 : decode b_Function_appendTo 77 = .ok (.pop, 1) := by decide +kernel
theorem d_Function_appendTo_78 : decode b_Function_appendTo 78 = .ok (.aload_n 1, 1) := by decide +kernel
theorem d_Function_appendTo_79 : decode b_Function_appendTo 79 = .ok (.aload_n 0, 1) := by decide +kernel
theorem d_Function_appendTo_80 : decode b_Function_appendTo 80 = .ok (.getfield 15, 3) := by decide +kernel
theorem d_Function_appendTo_83 : decode b_Function_appendTo 83 = .ok (.iload_n 2, 1) := by decide +kernel
theorem d_Function_appendTo_84 : decode b_Function_appendTo 84 = .ok (.iaload, 1) := by decide +kernel
theorem d_Function_appendTo_85 : decode b_Function_appendTo 85 = .ok (.i2l, 1) := by decide +kernel
theorem d_Function_appendTo_86 : decode b_Function_appendTo 86 = .ok (.aload_n 0, 1) := by decide +kernel
theorem d_Function_appendTo_87 : decode b_Function_appendTo 87 = .ok (.getfield 9, 3) := by decide +kernel
theorem d_Function_appendTo_90 : decode b_Function_appendTo 90 = .ok (.iload_n 2, 1) := by decide +kernel
theorem d_Function_appendTo_91 : decode b_Function_appendTo 91 = .ok (.iaload, 1) := by decide +kernel
theorem d_Function_appendTo_92 : decode b_Function_appendTo 92 = .ok (.invokestatic 71, 3) := by decide +kernel
theorem d_Function_appendTo_95 : decode b_Function_appendTo 95 = .ok (.invokevirtual 59, 3) := by decide +kernel
theorem d_Function_appendTo_98 : decode b_Function_appendTo 98 = .ok (.pop, 1) := by decide +kernel
theorem d_Function_appendTo_99 : decode b_Function_appendTo 99 = .ok (.iinc 2 1, 3) := by decide +kernel
theorem d_Function_appendTo_102 : decode b_Function_appendTo 102 = .ok (.goto (-45), 3) := by decide +kernel
theorem d_Function_appendTo_105 : decode b_Function_appendTo 105 = .ok (.aload_n 1, 1) := by decide +kernel
theorem d_Function_appendTo_106 : decode b_Function_appendTo 106 = .ok (.aload_n 0, 1) := by decide +kernel
theorem d_Function_appendTo_107 : decode b_Function_appendTo 107 = .ok (.getfield 44, 3) := by decide +kernel
theorem d_Function_appendTo_110 : decode b_Function_appendTo 110 = .ok (.i2l, 1) := by decide +kernel
theorem d_Function_appendTo_111 : decode b_Function_appendTo 111 = .ok (.iconst 1, 1) := by decide +kernel
theorem d_Function_appendTo_112 : decode b_Function_appendTo 112 = .ok (.invokevirtual 59, 3) := by decide +kernel
theorem d_Function_appendTo_115 : decode b_Function_appendTo 115 = .ok (.pop, 1) := by decide +kernel
theorem d_Function_appendTo_116 : decode b_Function_appendTo 116 = .ok (.iconst 0, 1) := by decide +kernel
theorem d_Function_appendTo_117 : decode b_Function_appendTo 117 = .ok (.istore_n 2, 1) := by decide +kernel
theorem d_Function_appendTo_118 : decode b_Function_appendTo 118 = .ok (.iload_n 2, 1) := by decide +kernel
theorem d_Function_appendTo_119 : decode b_Function_appendTo 119 = .ok (.aload_n 0, 1) := by decide +kernel
theorem d_Function_appendTo_120 : decode b_Function_appendTo 120 = .ok (.getfield 44, 3) := by decide +kernel
theorem d_Function_appendTo_123 : decode b_Function_appendTo 123 = .ok (.if_icmp .ge 19, 3) := by decide +kernel
theorem d_Function_appendTo_126 : decode b_Function_appendTo 126 = .ok (.aload_n 0, 1) := by decide +kernel
theorem d_Function_appendTo_127 : decode b_Function_appendTo 127 = .ok (.getfield 26, 3) := by decide +kernel
theorem d_Function_appendTo_130 : decode b_Function_appendTo 130 = .ok (.iload_n 2, 1) := by decide +kernel
theorem d_Function_appendTo_131 : decode b_Function_appendTo 131 = .ok (.aaload, 1) := by decide +kernel
theorem d_Function_appendTo_132 : decode b_Function_appendTo 132 = .ok (.aload_n 1, 1) := by decide +kernel
theorem d_Function_appendTo_133 : decode b_Function_appendTo 133 = .ok (.invokevirtual 75, 3) := by decide +kernel
theorem d_Function_appendTo_136 : decode b_Function_appendTo 136 = .ok (.iinc 2 1, 3) := by decide +kernel
theorem d_Function_appendTo_139 : decode b_Function_appendTo 139 = .ok (.goto (-21), 3) := by decide +kernel
theorem d_Function_appendTo_142 : decode b_Function_appendTo 142 = .ok (.return_, 1) := by decide +kernel
set_option maxHeartbeats 4000000 in
set_option maxRecDepth 100000 in
theorem m_Verifier_lookAt {l : Launch} {D : va_G} {dA : Nat → ClassId} (o : Option Nat) (x1 : Int32) (h0 : hc_H) (b : Unit) (C0 S0 : Nat) (h2 : hc_H) (hr : p_Verifier_lookAt o x1 h0 = some (b, C0, S0, h2)) : hc_Met l (gg D dA) y_Verifier_lookAt b_Verifier_lookAt 4 none tb 4 88 [vr_ o, vi_ x1] h0 C0 S0 none h2 := by
  refine hc_Met.of (by decide) (Nat.le_of_ble_eq_true rfl) ?_
  intro p e s m args below meth c hC
  unfold p_Verifier_lookAt at hr
  refine hj_sub (lv' := [(0, vr_ o), (1, vi_ x1)]) [0, 1] rfl ?_
  refine hj_aload_n hC 0 d_Verifier_lookAt_0 rfl rfl ?_
  refine hj_getr hC cf_Verifier (k := 2) (by decide) wq_15 rfl d_Verifier_lookAt_1 hr (fun a1 hr => ?_)
  refine hj_iload_n hC 1 d_Verifier_lookAt_4 rfl rfl ?_
  refine hj_iconst hC (v := 0) d_Verifier_lookAt_5 (by decide) ?_
  refine hj_zast hC (kd := 6) rfl d_Verifier_lookAt_6 hr (fun h hr => ?_)
  refine hj_aload_n hC 0 d_Verifier_lookAt_7 rfl rfl ?_
  refine hj_iload_n hC 1 d_Verifier_lookAt_8 rfl rfl ?_
  refine hj_puti hC cf_Verifier (k := 8) (by decide) wq_193 rfl (Or.inl rfl) rfl d_Verifier_lookAt_9 hr (fun h hr => ?_)
  refine hj_aload_n hC 0 d_Verifier_lookAt_12 rfl rfl ?_
  refine hj_aload_n hC 0 d_Verifier_lookAt_13 rfl rfl ?_
  refine hj_getr hC cf_Verifier (k := 0) (by decide) wq_12 rfl d_Verifier_lookAt_14 hr (fun a2 hr => ?_)
  refine hj_iload_n hC 1 d_Verifier_lookAt_17 rfl rfl ?_
  refine hj_iald hC (kd := 4) rfl d_Verifier_lookAt_18 hr (fun a3 hr => ?_)
  refine hj_puti hC cf_Verifier (k := 9) (by decide) wq_191 rfl (Or.inl rfl) rfl d_Verifier_lookAt_19 hr (fun h hr => ?_)
  refine hj_aload_n hC 0 d_Verifier_lookAt_22 rfl rfl ?_
  refine hj_aload_n hC 0 d_Verifier_lookAt_23 rfl rfl ?_
  refine hj_getr hC cf_Verifier (k := 1) (by decide) wq_13 rfl d_Verifier_lookAt_24 hr (fun a4 hr => ?_)
  refine hj_iload_n hC 1 d_Verifier_lookAt_27 rfl rfl ?_
  refine hj_iald hC (kd := 5) rfl d_Verifier_lookAt_28 hr (fun a5 hr => ?_)
  refine hj_puti hC cf_Verifier (k := 10) (by decide) wq_192 rfl (Or.inl rfl) rfl d_Verifier_lookAt_29 hr (fun h hr => ?_)
  refine hj_aload_n hC 0 d_Verifier_lookAt_32 rfl rfl ?_
  refine hj_getr hC cf_Verifier (k := 5) (by decide) wq_177 rfl d_Verifier_lookAt_33 hr (fun a6 hr => ?_)
  refine hj_getr hC cf_Function (k := 6) (by decide) wq_251 rfl d_Verifier_lookAt_36 hr (fun a7 hr => ?_)
  refine hj_iload_n hC 1 d_Verifier_lookAt_39 rfl rfl ?_
  refine hj_iald hC (kd := 0) rfl d_Verifier_lookAt_40 hr (fun a8 hr => ?_)
  refine hj_istore_n hC (lv' := [(2, vi_ a8), (0, vr_ o), (1, vi_ x1)]) d_Verifier_lookAt_41 rfl (by decide) rfl ?_
  refine hj_aload_n hC 1 d_Verifier_lookAt_42 rfl rfl ?_
  refine hj_getr hC cf_Verifier (k := 5) (by decide) wq_177 rfl d_Verifier_lookAt_43 hr (fun a9 hr => ?_)
  refine hj_getr hC cf_Function (k := 7) (by decide) wq_252 rfl d_Verifier_lookAt_46 hr (fun a10 hr => ?_)
  refine hj_iload_n hC 2 d_Verifier_lookAt_49 rfl rfl ?_
  refine hj_iald hC (kd := 1) rfl d_Verifier_lookAt_50 hr (fun a11 hr => ?_)
  refine hj_istore_n hC (lv' := [(3, vi_ a11), (2, vi_ a8), (0, vr_ o), (1, vi_ x1)]) d_Verifier_lookAt_51 rfl (by decide) rfl ?_
  refine hj_aload_n hC 2 d_Verifier_lookAt_52 rfl rfl ?_
  refine hj_iload_n hC 1 d_Verifier_lookAt_53 rfl rfl ?_
  refine hj_iload_n hC 0 d_Verifier_lookAt_54 rfl rfl ?_
  refine hj_callV hC hG (enc := (fun _ : Unit => none)) (As := [vi_ a8, vi_ a11]) (st := []) (fun h a C S h1 hr => m_Verifier_takeAndPut _ _ _ h a C S h1 hr) cf_Verifier wq_268 wq_269 wq_270 wq_52 wq_253 yk_Verifier_takeAndPut rfl ⟨Nat.le_of_ble_eq_true rfl, Nat.le_of_ble_eq_true rfl⟩ rfl (Nat.le_of_ble_eq_true rfl) d_Verifier_lookAt_55 hr (fun _ h C S hr => ?_)
  refine hj_aload_n hC 2 d_Verifier_lookAt_58 rfl rfl ?_
  refine hj_callV hC hG (enc := (fun _ : Unit => none)) (As := []) (st := []) (fun h a C S h1 hr => m_Verifier_comeToHandlers _  h a C S h1 hr) cf_Verifier wq_265 wq_266 wq_267 wq_52 wq_254 yk_Verifier_comeToHandlers rfl ⟨Nat.le_of_ble_eq_true rfl, Nat.le_of_ble_eq_true rfl⟩ rfl (Nat.le_of_ble_eq_true rfl) d_Verifier_lookAt_59 hr (fun _ h C S hr => ?_)
  refine hj_iload_n hC 1 d_Verifier_lookAt_62 rfl rfl ?_
  refine hj_callS hC hG (enc := (fun a : Int32 => some (vi_ a))) (As := [vi_ a8]) (st := []) (fun h a C S h1 hr => m_Kinds_goesToPlace _ h a C S h1 hr) wq_263 wq_264 wq_139 wq_255 yk_Kinds_goesToPlace rfl ⟨Nat.le_of_ble_eq_true rfl, Nat.le_of_ble_eq_true rfl⟩ rfl (Nat.le_of_ble_eq_true rfl) d_Verifier_lookAt_63 hr (fun a12 h C S hr => ?_)
  refine hj_jn hC (K := hM Unit) (fun k => ∀  (h : hc_H) (C S : Nat), k  h = some (b, C, S, h2) → hj_J p l e { frames := 4, cells := C0, slots := S0, locals := 88 } s m args below meth c (gg D dA) h0 4 (hj_Q below args s { frames := 4, cells := C0, slots := S0, locals := 88 } (gg D dA) h0 none h2) C S h 82 [(0, vr_ o), (2, vi_ a8)] []) hr (fun  h C S hr => ?_) (fun k82 hk82 hr => ?_)
  · refine hj_iload_n hC 1 d_Verifier_lookAt_82 rfl rfl ?_
    refine hj_callS hC hG (enc := (fun a : Int32 => some (vi_ a))) (As := [vi_ a8]) (st := []) (fun h a C S h1 hr => m_Kinds_goesOnBehind _ h a C S h1 hr) wq_261 wq_262 wq_139 wq_256 yk_Kinds_goesOnBehind rfl ⟨Nat.le_of_ble_eq_true rfl, Nat.le_of_ble_eq_true rfl⟩ rfl (Nat.le_of_ble_eq_true rfl) d_Verifier_lookAt_83 hr (fun a13 h C S hr => ?_)
    refine hj_if_eq hC 93 d_Verifier_lookAt_86 (by decide) hr (fun q86 hr => ?_) (fun q86 hr => ?_)
    · exact hj_vret hC d_Verifier_lookAt_93 hr
    · refine hj_aload_n hC 0 d_Verifier_lookAt_89 rfl rfl ?_
      refine hj_callV hC hG (enc := (fun _ : Unit => none)) (As := []) (st := []) (fun h a C S h1 hr => m_Verifier_comeToNext _  h a C S h1 hr) cf_Verifier wq_258 wq_259 wq_260 wq_52 wq_257 yk_Verifier_comeToNext rfl ⟨Nat.le_of_ble_eq_true rfl, Nat.le_of_ble_eq_true rfl⟩ rfl (Nat.le_of_ble_eq_true rfl) d_Verifier_lookAt_90 hr (fun _ h C S hr => ?_)
      exact hj_vret hC d_Verifier_lookAt_93 hr
  · refine hj_if_eq hC 82 d_Verifier_lookAt_66 (by decide) hr (fun q66 hr => ?_) (fun q66 hr => ?_)
    · refine hj_sub (lv' := [(0, vr_ o), (2, vi_ a8)]) [2, 1] rfl ?_
      exact hk82 _ _ _ hr
    · refine hj_aload_n hC 2 d_Verifier_lookAt_69 rfl rfl ?_
      refine hj_iload_n hC 0 d_Verifier_lookAt_70 rfl rfl ?_
      refine hj_aload_n hC 2 d_Verifier_lookAt_71 rfl rfl ?_
      refine hj_geti hC cf_Verifier (k := 9) (by decide) wq_191 rfl d_Verifier_lookAt_72 hr (fun a14 hr => ?_)
      refine hj_aload_n hC 2 d_Verifier_lookAt_75 rfl rfl ?_
      refine hj_geti hC cf_Verifier (k := 10) (by decide) wq_192 rfl d_Verifier_lookAt_76 hr (fun a15 hr => ?_)
      refine hj_callV hC hG (enc := (fun _ : Unit => none)) (As := [vi_ a11, vi_ a14, vi_ a15]) (st := []) (fun h a C S h1 hr => m_Verifier_comeTo _ _ _ _ h a C S h1 hr) cf_Verifier wq_188 wq_189 wq_190 wq_52 wq_187 yk_Verifier_comeTo rfl ⟨Nat.le_of_ble_eq_true rfl, Nat.le_of_ble_eq_true rfl⟩ rfl (Nat.le_of_ble_eq_true rfl) d_Verifier_lookAt_79 hr (fun _ h C S hr => ?_)
      refine hj_sub (lv' := [(0, vr_ o), (2, vi_ a8)]) [2, 1] rfl ?_
      exact hk82 _ _ _ hr
set_option maxHeartbeats 4000000 in
set_option maxRecDepth 100000 in
theorem ml_Verifier_verify_45 {p : Program} {l : Launch} {e : Env} {s : State} {m : MethodId} {args : Array Value} {below : List Frame} {meth : Method} {c : Code} {D : va_G} {dA : Nat → ClassId} {h0 h2 : hc_H} {C0 S0 : Nat} {b : Unit} (hC : hj_C p s m args meth c (gg D dA) b_Verifier_verify 6 none R_Verifier "verify" tb) (x0 : Option Nat) (kx : hM Unit) (hk : ∀  (h : hc_H) (C S : Nat), kx  h = some (b, C, S, h2) → hj_J p l e { frames := 5, cells := C0, slots := S0, locals := 111 } s m args below meth c (gg D dA) h0 6 (hj_Q below args s { frames := 5, cells := C0, slots := S0, locals := 111 } (gg D dA) h0 none h2) C S h 78 [(0, vr_ x0)] []) : ∀ (fu : Nat) (v5 : Int32) (h : hc_H) (C S : Nat), p_Verifier_verify_45 x0 kx fu v5 h = some (b, C, S, h2) → hj_J p l e { frames := 5, cells := C0, slots := S0, locals := 111 } s m args below meth c (gg D dA) h0 6 (hj_Q below args s { frames := 5, cells := C0, slots := S0, locals := 111 } (gg D dA) h0 none h2) C S h 45 [(0, vr_ x0), (5, vi_ v5)] [] := by
  intro fu
  induction fu with
  | zero =>
    intro v5 h C S hr
    cases hr
  | succ fu ih =>
    intro v5 h C S hr
    rw [p_Verifier_verify_45] at hr
    refine hj_iload hC 1 d_Verifier_verify_45 rfl ?_
    refine hj_aload_n hC 0 d_Verifier_verify_47 rfl rfl ?_
    refine hj_getr hC cf_Verifier (k := 5) (by decide) wq_177 rfl d_Verifier_verify_48 hr (fun a2 hr => ?_)
    refine hj_geti hC cf_Function (k := 4) (by decide) wq_186 rfl d_Verifier_verify_51 hr (fun a3 hr => ?_)
    refine hj_icmp_ge hC 78 d_Verifier_verify_54 (by decide) hr (fun q54 hr => ?_) (fun q54 hr => ?_)
    · refine hj_sub (lv' := [(0, vr_ x0)]) [0] rfl ?_
      exact hk _ _ _ hr
    · refine hj_aload_n hC 0 d_Verifier_verify_57 rfl rfl ?_
      refine hj_callV hC hG (enc := (fun a : Int32 => some (vi_ a))) (As := []) (st := []) (fun h a C S h1 hr => m_Verifier_findLeastWaiting _  h a C S h1 hr) cf_Verifier wq_277 wq_278 wq_279 wq_52 wq_272 yk_Verifier_findLeastWaiting rfl ⟨Nat.le_of_ble_eq_true rfl, Nat.le_of_ble_eq_true rfl⟩ rfl (Nat.le_of_ble_eq_true rfl) d_Verifier_verify_58 hr (fun a4 h C S hr => ?_)
      refine hj_if_eq hC 78 d_Verifier_verify_61 (by decide) hr (fun q61 hr => ?_) (fun q61 hr => ?_)
      · refine hj_sub (lv' := [(0, vr_ x0)]) [0] rfl ?_
        exact hk _ _ _ hr
      · refine hj_aload_n hC 0 d_Verifier_verify_64 rfl rfl ?_
        refine hj_aload_n hC 0 d_Verifier_verify_65 rfl rfl ?_
        refine hj_geti hC cf_Verifier (k := 3) (by decide) wq_181 rfl d_Verifier_verify_66 hr (fun a5 hr => ?_)
        refine hj_callV hC hG (enc := (fun _ : Unit => none)) (As := [vi_ a5]) (st := []) (fun h a C S h1 hr => m_Verifier_lookAt _ _ h a C S h1 hr) cf_Verifier wq_274 wq_275 wq_276 wq_52 wq_273 yk_Verifier_lookAt rfl ⟨Nat.le_of_ble_eq_true rfl, Nat.le_of_ble_eq_true rfl⟩ rfl (Nat.le_of_ble_eq_true rfl) d_Verifier_verify_69 hr (fun _ h C S hr => ?_)
        refine hj_iinc hC (lv' := [(5, vi_ (v5 + 1)), (0, vr_ x0)]) 1 d_Verifier_verify_72 rfl rfl (by decide) rfl ?_
        refine hj_goto hC 45 d_Verifier_verify_75 (by decide) ?_
        refine hj_sub (lv' := [(0, vr_ x0), (5, vi_ (v5 + 1))]) [1, 0] rfl ?_
        exact ih _ _ _ _ hr
set_option maxHeartbeats 4000000 in
set_option maxRecDepth 100000 in
theorem m_Verifier_verify {l : Launch} {D : va_G} {dA : Nat → ClassId} (o : Option Nat) (x1 : Option Nat) (x2 : Int32) (x3 : Option Nat) (h0 : hc_H) (b : Unit) (C0 S0 : Nat) (h2 : hc_H) (hr : p_Verifier_verify o x1 x2 x3 h0 = some (b, C0, S0, h2)) : hc_Met l (gg D dA) y_Verifier_verify b_Verifier_verify 6 none tb 5 111 [vr_ o, vr_ x1, vi_ x2, vr_ x3] h0 C0 S0 none h2 := by
  refine hc_Met.of (by decide) (Nat.le_of_ble_eq_true rfl) ?_
  intro p e s m args below meth c hC
  unfold p_Verifier_verify at hr
  refine hj_sub (lv' := [(0, vr_ o), (1, vr_ x1), (2, vi_ x2), (3, vr_ x3)]) [0, 1, 2, 3] rfl ?_
  refine hj_aload_n hC 1 d_Verifier_verify_0 rfl rfl ?_
  refine hj_iload_n hC 2 d_Verifier_verify_1 rfl rfl ?_
  refine hj_callV hC hG (enc := (fun a : Option Nat => some (vr_ a))) (As := [vi_ x2]) (st := []) (fun h a C S h1 hr => m_Program_at _ _ h a C S h1 hr) cf_Program wq_227 wq_228 wq_229 wq_57 wq_222 yk_Program_at rfl ⟨Nat.le_of_ble_eq_true rfl, Nat.le_of_ble_eq_true rfl⟩ rfl (Nat.le_of_ble_eq_true rfl) d_Verifier_verify_2 hr (fun a1 h C S hr => ?_)
  refine hj_astore hC (lv' := [(4, vr_ a1), (0, vr_ o), (1, vr_ x1), (2, vi_ x2), (3, vr_ x3)]) d_Verifier_verify_5 (by decide) rfl ?_
  refine hj_aload hC 0 d_Verifier_verify_7 rfl ?_
  refine hj_ifnonnull hC 13 d_Verifier_verify_9 (by decide) hr (fun q9 hr => ?_) (fun q9 hr => ?_)
  · refine hj_aload_n hC 1 d_Verifier_verify_13 rfl rfl ?_
    refine hj_aload_n hC 2 d_Verifier_verify_14 rfl rfl ?_
    refine hj_putr hC cf_Verifier (k := 4) (by decide) wq_221 rfl (Or.inl rfl) rfl d_Verifier_verify_15 hr (fun h hr => ?_)
    refine hj_aload_n hC 1 d_Verifier_verify_18 rfl rfl ?_
    refine hj_aload hC 0 d_Verifier_verify_19 rfl ?_
    refine hj_putr hC cf_Verifier (k := 5) (by decide) wq_177 rfl (Or.inl rfl) rfl d_Verifier_verify_21 hr (fun h hr => ?_)
    refine hj_aload_n hC 1 d_Verifier_verify_24 rfl rfl ?_
    refine hj_aload_n hC 4 d_Verifier_verify_25 rfl rfl ?_
    refine hj_putr hC cf_Verifier (k := 6) (by decide) wq_175 rfl (Or.inl rfl) rfl d_Verifier_verify_26 hr (fun h hr => ?_)
    refine hj_aload_n hC 1 d_Verifier_verify_29 rfl rfl ?_
    refine hj_iload_n hC 3 d_Verifier_verify_30 rfl rfl ?_
    refine hj_sipush hC (v := 512) d_Verifier_verify_31 (by decide) ?_
    refine hj_imul hC d_Verifier_verify_34 ?_
    refine hj_puti hC cf_Verifier (k := 7) (by decide) wq_179 rfl (Or.inl rfl) rfl d_Verifier_verify_35 hr (fun h hr => ?_)
    refine hj_aload_n hC 1 d_Verifier_verify_38 rfl rfl ?_
    refine hj_callV hC hG (enc := (fun _ : Unit => none)) (As := []) (st := []) (fun h a C S h1 hr => m_Verifier_begin _  h a C S h1 hr) cf_Verifier wq_283 wq_284 wq_285 wq_52 wq_271 yk_Verifier_begin rfl ⟨Nat.le_of_ble_eq_true rfl, Nat.le_of_ble_eq_true rfl⟩ rfl (Nat.le_of_ble_eq_true rfl) d_Verifier_verify_39 hr (fun _ h C S hr => ?_)
    refine hj_iconst hC (v := 0) d_Verifier_verify_42 (by decide) ?_
    refine hj_istore hC (lv' := [(5, vi_ 0), (4, vr_ a1), (0, vr_ o), (1, vr_ x1), (2, vi_ x2), (3, vr_ x3)]) d_Verifier_verify_43 (by decide) rfl ?_
    refine hj_sub (lv' := [(0, vr_ o), (5, vi_ 0)]) [2, 0] rfl ?_
    refine ml_Verifier_verify_45 hC _ _ (fun  h C S hr => ?_) _ _ _ _ _ hr
    refine hj_aload_n hC 0 d_Verifier_verify_78 rfl rfl ?_
    refine hj_getr hC cf_Verifier (k := 6) (by decide) wq_175 rfl d_Verifier_verify_79 hr (fun a6 hr => ?_)
    refine hj_geti hC cf_Fault (k := 0) (by decide) wq_176 rfl d_Verifier_verify_82 hr (fun a7 hr => ?_)
    refine hj_if_ne hC 134 d_Verifier_verify_85 (by decide) hr (fun q85 hr => ?_) (fun q85 hr => ?_)
    · exact hj_vret hC d_Verifier_verify_134 hr
    · refine hj_aload_n hC 0 d_Verifier_verify_88 rfl rfl ?_
      refine hj_getr hC cf_Verifier (k := 0) (by decide) wq_12 rfl d_Verifier_verify_89 hr (fun a8 hr => ?_)
      refine hj_iconst hC (v := 0) d_Verifier_verify_92 (by decide) ?_
      refine hj_aload_n hC 0 d_Verifier_verify_93 rfl rfl ?_
      refine hj_getr hC cf_Verifier (k := 5) (by decide) wq_177 rfl d_Verifier_verify_94 hr (fun a9 hr => ?_)
      refine hj_getr hC cf_Function (k := 8) (by decide) wq_280 rfl d_Verifier_verify_97 hr (fun a10 hr => ?_)
      refine hj_iconst hC (v := 0) d_Verifier_verify_100 (by decide) ?_
      refine hj_aload_n hC 0 d_Verifier_verify_101 rfl rfl ?_
      refine hj_getr hC cf_Verifier (k := 5) (by decide) wq_177 rfl d_Verifier_verify_102 hr (fun a11 hr => ?_)
      refine hj_geti hC cf_Function (k := 4) (by decide) wq_186 rfl d_Verifier_verify_105 hr (fun a12 hr => ?_)
      refine hj_copy hC (k1 := 4) (k2 := 2) rfl rfl rfl wq_281 wq_73 wq_74 wq_75 (Nat.le_of_ble_eq_true rfl) (Nat.le_of_ble_eq_true rfl) d_Verifier_verify_108 hr (fun h hr => ?_)
      refine hj_aload_n hC 0 d_Verifier_verify_111 rfl rfl ?_
      refine hj_getr hC cf_Verifier (k := 1) (by decide) wq_13 rfl d_Verifier_verify_112 hr (fun a13 hr => ?_)
      refine hj_iconst hC (v := 0) d_Verifier_verify_115 (by decide) ?_
      refine hj_aload_n hC 0 d_Verifier_verify_116 rfl rfl ?_
      refine hj_getr hC cf_Verifier (k := 5) (by decide) wq_177 rfl d_Verifier_verify_117 hr (fun a14 hr => ?_)
      refine hj_getr hC cf_Function (k := 9) (by decide) wq_282 rfl d_Verifier_verify_120 hr (fun a15 hr => ?_)
      refine hj_iconst hC (v := 0) d_Verifier_verify_123 (by decide) ?_
      refine hj_aload_n hC 0 d_Verifier_verify_124 rfl rfl ?_
      refine hj_getr hC cf_Verifier (k := 5) (by decide) wq_177 rfl d_Verifier_verify_125 hr (fun a16 hr => ?_)
      refine hj_geti hC cf_Function (k := 4) (by decide) wq_186 rfl d_Verifier_verify_128 hr (fun a17 hr => ?_)
      refine hj_copy hC (k1 := 5) (k2 := 3) rfl rfl rfl wq_281 wq_73 wq_74 wq_75 (Nat.le_of_ble_eq_true rfl) (Nat.le_of_ble_eq_true rfl) d_Verifier_verify_131 hr (fun h hr => ?_)
      exact hj_vret hC d_Verifier_verify_134 hr
  · exact hj_vret hC d_Verifier_verify_12 hr
set_option maxHeartbeats 4000000 in
set_option maxRecDepth 100000 in
theorem ml_SB_read_31 {p : Program} {l : Launch} {e : Env} {s : State} {m : MethodId} {args : Array Value} {below : List Frame} {meth : Method} {c : Code} {D : va_G} {dA : Nat → ClassId} {h0 h2 : hc_H} {C0 S0 : Nat} {b : Int32} (hC : hj_C p s m args meth c (gg D dA) b_SB_read 2 (some .int) R_SB "read" tb) (x0 : Option Nat) (kx : hM Int32) (hk : ∀  (h : hc_H) (C S : Nat), kx  h = some (b, C, S, h2) → hj_J p l e { frames := 6, cells := C0, slots := S0, locals := 136 } s m args below meth c (gg D dA) h0 2 (hj_Q below args s { frames := 6, cells := C0, slots := S0, locals := 136 } (gg D dA) h0 (some (vi_ b)) h2) C S h 74 [(0, vr_ x0)] []) : ∀ (fu : Nat) (v1 : Int32) (h : hc_H) (C S : Nat), p_SB_read_31 x0 kx fu v1 h = some (b, C, S, h2) → hj_J p l e { frames := 6, cells := C0, slots := S0, locals := 136 } s m args below meth c (gg D dA) h0 2 (hj_Q below args s { frames := 6, cells := C0, slots := S0, locals := 136 } (gg D dA) h0 (some (vi_ b)) h2) C S h 31 [(0, vr_ x0), (1, vi_ v1)] [] := by
  intro fu
  induction fu with
  | zero =>
    intro v1 h C S hr
    cases hr
  | succ fu ih =>
    intro v1 h C S hr
    rw [p_SB_read_31] at hr
    refine hj_iload_n hC 1 d_SB_read_31 rfl rfl ?_
    refine hj_aload_n hC 0 d_SB_read_32 rfl rfl ?_
    refine hj_getr hC cf_SB (k := 5) (by decide) wq_60 rfl d_SB_read_33 hr (fun a6 hr => ?_)
    refine hj_geti hC cf_Program (k := 1) (by decide) wq_291 rfl d_SB_read_36 hr (fun a7 hr => ?_)
    refine hj_icmp_ge hC 74 d_SB_read_39 (by decide) hr (fun q39 hr => ?_) (fun q39 hr => ?_)
    · refine hj_sub (lv' := [(0, vr_ x0)]) [0] rfl ?_
      exact hk _ _ _ hr
    · refine hj_aload_n hC 0 d_SB_read_42 rfl rfl ?_
      refine hj_getr hC cf_SB (k := 2) (by decide) wq_49 rfl d_SB_read_43 hr (fun a8 hr => ?_)
      refine hj_geti hC cf_Fault (k := 0) (by decide) wq_292 rfl d_SB_read_46 hr (fun a9 hr => ?_)
      refine hj_if_ne hC 74 d_SB_read_49 (by decide) hr (fun q49 hr => ?_) (fun q49 hr => ?_)
      · refine hj_sub (lv' := [(0, vr_ x0)]) [0] rfl ?_
        exact hk _ _ _ hr
      · refine hj_aload_n hC 0 d_SB_read_52 rfl rfl ?_
        refine hj_getr hC cf_SB (k := 3) (by decide) wq_54 rfl d_SB_read_53 hr (fun a10 hr => ?_)
        refine hj_aload_n hC 0 d_SB_read_56 rfl rfl ?_
        refine hj_getr hC cf_SB (k := 5) (by decide) wq_60 rfl d_SB_read_57 hr (fun a11 hr => ?_)
        refine hj_iload_n hC 1 d_SB_read_60 rfl rfl ?_
        refine hj_aload_n hC 0 d_SB_read_61 rfl rfl ?_
        refine hj_getr hC cf_SB (k := 2) (by decide) wq_49 rfl d_SB_read_62 hr (fun a12 hr => ?_)
        refine hj_callV hC hG (enc := (fun _ : Unit => none)) (As := [vr_ a11, vi_ v1, vr_ a12]) (st := []) (fun h a C S h1 hr => m_Verifier_verify _ _ _ _ h a C S h1 hr) cf_Verifier wq_294 wq_295 wq_296 wq_52 wq_293 yk_Verifier_verify rfl ⟨Nat.le_of_ble_eq_true rfl, Nat.le_of_ble_eq_true rfl⟩ rfl (Nat.le_of_ble_eq_true rfl) d_SB_read_65 hr (fun _ h C S hr => ?_)
        refine hj_iinc hC (lv' := [(1, vi_ (v1 + 1)), (0, vr_ x0)]) 1 d_SB_read_68 rfl rfl (by decide) rfl ?_
        refine hj_goto hC 31 d_SB_read_71 (by decide) ?_
        refine hj_sub (lv' := [(0, vr_ x0), (1, vi_ (v1 + 1))]) [1, 0] rfl ?_
        exact ih _ _ _ _ hr
set_option maxHeartbeats 4000000 in
set_option maxRecDepth 100000 in
theorem m_SB_read {l : Launch} {D : va_G} {dA : Nat → ClassId} (o : Option Nat) (h0 : hc_H) (b : Int32) (C0 S0 : Nat) (h2 : hc_H) (hr : p_SB_read o h0 = some (b, C0, S0, h2)) : hc_Met l (gg D dA) y_SB_read b_SB_read 2 (some .int) tb 6 136 [vr_ o] h0 C0 S0 (some (vi_ b)) h2 := by
  refine hc_Met.of (by decide) (Nat.le_of_ble_eq_true rfl) ?_
  intro p e s m args below meth c hC
  unfold p_SB_read at hr
  refine hj_sub (lv' := [(0, vr_ o)]) [0] rfl ?_
  refine hj_aload_n hC 0 d_SB_read_0 rfl rfl ?_
  refine hj_getr hC cf_SB (k := 2) (by decide) wq_49 rfl d_SB_read_1 hr (fun a1 hr => ?_)
  refine hj_callV hC hG (enc := (fun _ : Unit => none)) (As := []) (st := []) (fun h a C S h1 hr => m_Fault_clear _  h a C S h1 hr) cf_Fault wq_302 wq_303 wq_304 wq_47 wq_286 yk_Fault_clear rfl ⟨Nat.le_of_ble_eq_true rfl, Nat.le_of_ble_eq_true rfl⟩ rfl (Nat.le_of_ble_eq_true rfl) d_SB_read_4 hr (fun _ h C S hr => ?_)
  refine hj_new hC cf_Reader wq_287 wq_288 wq_117 (fs := [vr_ none, vr_ none, vi_ 0]) (fun j hj => by rcases (show j = 0 ∨ j = 1 ∨ j = 2 by omega) with rfl | rfl | rfl <;> rfl) d_SB_read_7 hr (fun q2 h C S hr => ?_)
  refine hj_dup hC d_SB_read_10 rfl ?_
  refine hj_aload_n hC 0 d_SB_read_11 rfl rfl ?_
  refine hj_getr hC cf_SB (k := 0) (by decide) wq_43 rfl d_SB_read_12 hr (fun a3 hr => ?_)
  refine hj_aload_n hC 0 d_SB_read_15 rfl rfl ?_
  refine hj_getr hC cf_SB (k := 2) (by decide) wq_49 rfl d_SB_read_16 hr (fun a4 hr => ?_)
  refine hj_callI hC hG (As := [vr_ a3, vr_ a4]) (st := [vr_ (some q2)]) (fun h a C S h1 hr => m_Reader_init _ _ _ h a C S h1 hr) (Or.inl wq_300) wq_301 wq_117 wq_289 rfl yk_Reader_init rfl ⟨Nat.le_of_ble_eq_true rfl, Nat.le_of_ble_eq_true rfl⟩ rfl (Nat.le_of_ble_eq_true rfl) d_SB_read_19 hr (fun _ h C S hr => ?_)
  refine hj_aload_n hC 0 d_SB_read_22 rfl rfl ?_
  refine hj_getr hC cf_SB (k := 5) (by decide) wq_60 rfl d_SB_read_23 hr (fun a5 hr => ?_)
  refine hj_callV hC hG (enc := (fun _ : Unit => none)) (As := [vr_ a5]) (st := []) (fun h a C S h1 hr => m_Reader_readInto _ _ h a C S h1 hr) cf_Reader wq_297 wq_298 wq_299 wq_117 wq_290 yk_Reader_readInto rfl ⟨Nat.le_of_ble_eq_true rfl, Nat.le_of_ble_eq_true rfl⟩ rfl (Nat.le_of_ble_eq_true rfl) d_SB_read_26 hr (fun _ h C S hr => ?_)
  refine hj_iconst hC (v := 0) d_SB_read_29 (by decide) ?_
  refine hj_istore_n hC (lv' := [(1, vi_ 0), (0, vr_ o)]) d_SB_read_30 rfl (by decide) rfl ?_
  refine hj_sub (lv' := [(0, vr_ o), (1, vi_ 0)]) [1, 0] rfl ?_
  refine ml_SB_read_31 hC _ _ (fun  h C S hr => ?_) _ _ _ _ _ hr
  refine hj_aload_n hC 0 d_SB_read_74 rfl rfl ?_
  refine hj_getr hC cf_SB (k := 2) (by decide) wq_49 rfl d_SB_read_75 hr (fun a13 hr => ?_)
  refine hj_geti hC cf_Fault (k := 0) (by decide) wq_292 rfl d_SB_read_78 hr (fun a14 hr => ?_)
  refine hj_jn hC (K := hM Int32) (fun k => ∀  (h : hc_H) (C S : Nat), k  h = some (b, C, S, h2) → hj_J p l e { frames := 6, cells := C0, slots := S0, locals := 136 } s m args below meth c (gg D dA) h0 2 (hj_Q below args s { frames := 6, cells := C0, slots := S0, locals := 136 } (gg D dA) h0 (some (vi_ b)) h2) C S h 102 [(0, vr_ o)] []) hr (fun  h C S hr => ?_) (fun k102 hk102 hr => ?_)
  · refine hj_aload_n hC 0 d_SB_read_102 rfl rfl ?_
    refine hj_getr hC cf_SB (k := 2) (by decide) wq_49 rfl d_SB_read_103 hr (fun a15 hr => ?_)
    refine hj_geti hC cf_Fault (k := 0) (by decide) wq_292 rfl d_SB_read_106 hr (fun a16 hr => ?_)
    exact hj_iret hC d_SB_read_109 hr
  · refine hj_if_ne hC 102 d_SB_read_81 (by decide) hr (fun q81 hr => ?_) (fun q81 hr => ?_)
    · exact hk102 _ _ _ hr
    · refine hj_aload_n hC 0 d_SB_read_84 rfl rfl ?_
      refine hj_getr hC cf_SB (k := 4) (by decide) wq_59 rfl d_SB_read_85 hr (fun a17 hr => ?_)
      refine hj_astore_n hC (lv' := [(1, vr_ a17), (0, vr_ o)]) d_SB_read_88 rfl (by decide) rfl ?_
      refine hj_aload_n hC 1 d_SB_read_89 rfl rfl ?_
      refine hj_aload_n hC 1 d_SB_read_90 rfl rfl ?_
      refine hj_getr hC cf_SB (k := 5) (by decide) wq_60 rfl d_SB_read_91 hr (fun a18 hr => ?_)
      refine hj_putr hC cf_SB (k := 4) (by decide) wq_59 rfl (Or.inl rfl) rfl d_SB_read_94 hr (fun h hr => ?_)
      refine hj_aload_n hC 1 d_SB_read_97 rfl rfl ?_
      refine hj_aload_n hC 0 d_SB_read_98 rfl rfl ?_
      refine hj_putr hC cf_SB (k := 5) (by decide) wq_60 rfl (Or.inl rfl) rfl d_SB_read_99 hr (fun h hr => ?_)
      refine hj_sub (lv' := [(0, vr_ o)]) [1] rfl ?_
      exact hk102 _ _ _ hr
set_option maxHeartbeats 4000000 in
set_option maxRecDepth 100000 in
theorem m_Handler_appendTo {l : Launch} {D : va_G} {dA : Nat → ClassId} (o : Option Nat) (x1 : Option Nat) (h0 : hc_H) (b : Unit) (C0 S0 : Nat) (h2 : hc_H) (hr : p_Handler_appendTo o x1 h0 = some (b, C0, S0, h2)) : hc_Met l (gg D dA) y_Handler_appendTo b_Handler_appendTo 2 none tb 4 93 [vr_ o, vr_ x1] h0 C0 S0 none h2 := by
  refine hc_Met.of (by decide) (Nat.le_of_ble_eq_true rfl) ?_
  intro p e s m args below meth c hC
  unfold p_Handler_appendTo at hr
  refine hj_sub (lv' := [(0, vr_ o), (1, vr_ x1)]) [0, 1] rfl ?_
  refine hj_aload_n hC 1 d_Handler_appendTo_0 rfl rfl ?_
  refine hj_aload_n hC 0 d_Handler_appendTo_1 rfl rfl ?_
  refine hj_geti hC cf_Handler (k := 0) (by decide) wq_242 rfl d_Handler_appendTo_2 hr (fun a1 hr => ?_)
  refine hj_i2l hC d_Handler_appendTo_5 ?_
  refine hj_iconst hC (v := 2) d_Handler_appendTo_6 (by decide) ?_
  refine hj_callV hC hG (enc := (fun a : Int32 => some (vi_ a))) (As := [vl_ (Int32.toInt64 a1), vi_ 2]) (st := []) (fun h a C S h1 hr => m_ByteRow_add _ _ _ h a C S h1 hr) cf_ByteRow wq_308 wq_90 wq_91 wq_41 wq_88 yk_ByteRow_add rfl ⟨Nat.le_of_ble_eq_true rfl, Nat.le_of_ble_eq_true rfl⟩ rfl (Nat.le_of_ble_eq_true rfl) d_Handler_appendTo_7 hr (fun a2 h C S hr => ?_)
  refine hj_pop hC d_Handler_appendTo_10 rfl ?_
  refine hj_aload_n hC 1 d_Handler_appendTo_11 rfl rfl ?_
  refine hj_aload_n hC 0 d_Handler_appendTo_12 rfl rfl ?_
  refine hj_geti hC cf_Handler (k := 1) (by decide) wq_243 rfl d_Handler_appendTo_13 hr (fun a3 hr => ?_)
  refine hj_i2l hC d_Handler_appendTo_16 ?_
  refine hj_iconst hC (v := 2) d_Handler_appendTo_17 (by decide) ?_
  refine hj_callV hC hG (enc := (fun a : Int32 => some (vi_ a))) (As := [vl_ (Int32.toInt64 a3), vi_ 2]) (st := []) (fun h a C S h1 hr => m_ByteRow_add _ _ _ h a C S h1 hr) cf_ByteRow wq_308 wq_90 wq_91 wq_41 wq_88 yk_ByteRow_add rfl ⟨Nat.le_of_ble_eq_true rfl, Nat.le_of_ble_eq_true rfl⟩ rfl (Nat.le_of_ble_eq_true rfl) d_Handler_appendTo_18 hr (fun a4 h C S hr => ?_)
  refine hj_pop hC d_Handler_appendTo_21 rfl ?_
  refine hj_aload_n hC 1 d_Handler_appendTo_22 rfl rfl ?_
  refine hj_aload_n hC 0 d_Handler_appendTo_23 rfl rfl ?_
  refine hj_geti hC cf_Handler (k := 2) (by decide) wq_305 rfl d_Handler_appendTo_24 hr (fun a5 hr => ?_)
  refine hj_i2l hC d_Handler_appendTo_27 ?_
  refine hj_iconst hC (v := 2) d_Handler_appendTo_28 (by decide) ?_
  refine hj_callV hC hG (enc := (fun a : Int32 => some (vi_ a))) (As := [vl_ (Int32.toInt64 a5), vi_ 2]) (st := []) (fun h a C S h1 hr => m_ByteRow_add _ _ _ h a C S h1 hr) cf_ByteRow wq_308 wq_90 wq_91 wq_41 wq_88 yk_ByteRow_add rfl ⟨Nat.le_of_ble_eq_true rfl, Nat.le_of_ble_eq_true rfl⟩ rfl (Nat.le_of_ble_eq_true rfl) d_Handler_appendTo_29 hr (fun a6 h C S hr => ?_)
  refine hj_pop hC d_Handler_appendTo_32 rfl ?_
  refine hj_aload_n hC 1 d_Handler_appendTo_33 rfl rfl ?_
  refine hj_aload_n hC 0 d_Handler_appendTo_34 rfl rfl ?_
  refine hj_geti hC cf_Handler (k := 3) (by decide) wq_306 rfl d_Handler_appendTo_35 hr (fun a7 hr => ?_)
  refine hj_jn hC (K := Int64 → hM Unit) (fun k => ∀ (z8 : Int64) (h : hc_H) (C S : Nat), k z8 h = some (b, C, S, h2) → hj_J p l e { frames := 4, cells := C0, slots := S0, locals := 93 } s m args below meth c (gg D dA) h0 2 (hj_Q below args s { frames := 4, cells := C0, slots := S0, locals := 93 } (gg D dA) h0 none h2) C S h 46 [(0, vr_ o), (1, vr_ x1)] [vl_ z8, vr_ x1]) hr (fun z8 h C S hr => ?_) (fun k46 hk46 hr => ?_)
  · refine hj_iconst hC (v := 1) d_Handler_appendTo_46 (by decide) ?_
    refine hj_callV hC hG (enc := (fun a : Int32 => some (vi_ a))) (As := [vl_ z8, vi_ 1]) (st := []) (fun h a C S h1 hr => m_ByteRow_add _ _ _ h a C S h1 hr) cf_ByteRow wq_308 wq_90 wq_91 wq_41 wq_88 yk_ByteRow_add rfl ⟨Nat.le_of_ble_eq_true rfl, Nat.le_of_ble_eq_true rfl⟩ rfl (Nat.le_of_ble_eq_true rfl) d_Handler_appendTo_47 hr (fun a9 h C S hr => ?_)
    refine hj_pop hC d_Handler_appendTo_50 rfl ?_
    refine hj_aload_n hC 1 d_Handler_appendTo_51 rfl rfl ?_
    refine hj_aload_n hC 0 d_Handler_appendTo_52 rfl rfl ?_
    refine hj_geti hC cf_Handler (k := 4) (by decide) wq_307 rfl d_Handler_appendTo_53 hr (fun a10 hr => ?_)
    refine hj_i2l hC d_Handler_appendTo_56 ?_
    refine hj_aload_n hC 0 d_Handler_appendTo_57 rfl rfl ?_
    refine hj_geti hC cf_Handler (k := 3) (by decide) wq_306 rfl d_Handler_appendTo_58 hr (fun a11 hr => ?_)
    refine hj_jn hC (K := Int32 → hM Unit) (fun k => ∀ (z12 : Int32) (h : hc_H) (C S : Nat), k z12 h = some (b, C, S, h2) → hj_J p l e { frames := 4, cells := C0, slots := S0, locals := 93 } s m args below meth c (gg D dA) h0 2 (hj_Q below args s { frames := 4, cells := C0, slots := S0, locals := 93 } (gg D dA) h0 none h2) C S h 69 [] [vi_ z12, vl_ (Int32.toInt64 a10), vr_ x1]) hr (fun z12 h C S hr => ?_) (fun k69 hk69 hr => ?_)
    · refine hj_callV hC hG (enc := (fun a : Int32 => some (vi_ a))) (As := [vl_ (Int32.toInt64 a10), vi_ z12]) (st := []) (fun h a C S h1 hr => m_ByteRow_add _ _ _ h a C S h1 hr) cf_ByteRow wq_308 wq_90 wq_91 wq_41 wq_88 yk_ByteRow_add rfl ⟨Nat.le_of_ble_eq_true rfl, Nat.le_of_ble_eq_true rfl⟩ rfl (Nat.le_of_ble_eq_true rfl) d_Handler_appendTo_69 hr (fun a13 h C S hr => ?_)
      refine hj_pop hC d_Handler_appendTo_72 rfl ?_
      exact hj_vret hC d_Handler_appendTo_73 hr
    · refine hj_if_eq hC 68 d_Handler_appendTo_61 (by decide) hr (fun q61 hr => ?_) (fun q61 hr => ?_)
      · refine hj_iconst hC (v := 4) d_Handler_appendTo_68 (by decide) ?_
        refine hj_sub (lv' := []) [] rfl ?_
        exact hk69 _ _ _ _ hr
      · refine hj_iconst hC (v := 0) d_Handler_appendTo_64 (by decide) ?_
        refine hj_goto hC 69 d_Handler_appendTo_65 (by decide) ?_
        refine hj_sub (lv' := []) [] rfl ?_
        exact hk69 _ _ _ _ hr
  · refine hj_if_eq hC 45 d_Handler_appendTo_38 (by decide) hr (fun q38 hr => ?_) (fun q38 hr => ?_)
    · refine hj_lconst hC (v := 1) d_Handler_appendTo_45 (by decide) ?_
      exact hk46 _ _ _ _ hr
    · refine hj_lconst hC (v := 0) d_Handler_appendTo_41 (by decide) ?_
      refine hj_goto hC 46 d_Handler_appendTo_42 (by decide) ?_
      exact hk46 _ _ _ _ hr
set_option maxHeartbeats 4000000 in
set_option maxRecDepth 100000 in
theorem ml_Function_appendTo_57 {p : Program} {l : Launch} {e : Env} {s : State} {m : MethodId} {args : Array Value} {below : List Frame} {meth : Method} {c : Code} {D : va_G} {dA : Nat → ClassId} {h0 h2 : hc_H} {C0 S0 : Nat} {b : Unit} (hC : hj_C p s m args meth c (gg D dA) b_Function_appendTo 3 none R_Function "appendTo" tb) (x0 : Option Nat) (x1 : Option Nat) (kx : hM Unit) (hk : ∀  (h : hc_H) (C S : Nat), kx  h = some (b, C, S, h2) → hj_J p l e { frames := 5, cells := C0, slots := S0, locals := 114 } s m args below meth c (gg D dA) h0 3 (hj_Q below args s { frames := 5, cells := C0, slots := S0, locals := 114 } (gg D dA) h0 none h2) C S h 105 [(0, vr_ x0), (1, vr_ x1)] []) : ∀ (fu : Nat) (v2 : Int32) (h : hc_H) (C S : Nat), p_Function_appendTo_57 x0 x1 kx fu v2 h = some (b, C, S, h2) → hj_J p l e { frames := 5, cells := C0, slots := S0, locals := 114 } s m args below meth c (gg D dA) h0 3 (hj_Q below args s { frames := 5, cells := C0, slots := S0, locals := 114 } (gg D dA) h0 none h2) C S h 57 [(0, vr_ x0), (1, vr_ x1), (2, vi_ v2)] [] := by
  intro fu
  induction fu with
  | zero =>
    intro v2 h C S hr
    cases hr
  | succ fu ih =>
    intro v2 h C S hr
    rw [p_Function_appendTo_57] at hr
    refine hj_iload_n hC 2 d_Function_appendTo_57 rfl rfl ?_
    refine hj_aload_n hC 0 d_Function_appendTo_58 rfl rfl ?_
    refine hj_geti hC cf_Function (k := 4) (by decide) wq_24 rfl d_Function_appendTo_59 hr (fun a11 hr => ?_)
    refine hj_icmp_ge hC 105 d_Function_appendTo_62 (by decide) hr (fun q62 hr => ?_) (fun q62 hr => ?_)
    · refine hj_sub (lv' := [(0, vr_ x0), (1, vr_ x1)]) [0, 1] rfl ?_
      exact hk _ _ _ hr
    · refine hj_aload_n hC 1 d_Function_appendTo_65 rfl rfl ?_
      refine hj_aload_n hC 0 d_Function_appendTo_66 rfl rfl ?_
      refine hj_getr hC cf_Function (k := 6) (by decide) wq_18 rfl d_Function_appendTo_67 hr (fun a12 hr => ?_)
      refine hj_iload_n hC 2 d_Function_appendTo_70 rfl rfl ?_
      refine hj_iald hC (kd := 0) rfl d_Function_appendTo_71 hr (fun a13 hr => ?_)
      refine hj_i2l hC d_Function_appendTo_72 ?_
      refine hj_iconst hC (v := 1) d_Function_appendTo_73 (by decide) ?_
      refine hj_callV hC hG (enc := (fun a : Int32 => some (vi_ a))) (As := [vl_ (Int32.toInt64 a13), vi_ 1]) (st := []) (fun h a C S h1 hr => m_ByteRow_add _ _ _ h a C S h1 hr) cf_ByteRow wq_312 wq_90 wq_91 wq_41 wq_88 yk_ByteRow_add rfl ⟨Nat.le_of_ble_eq_true rfl, Nat.le_of_ble_eq_true rfl⟩ rfl (Nat.le_of_ble_eq_true rfl) d_Function_appendTo_74 hr (fun a14 h C S hr => ?_)
      refine hj_pop hC d_Function_appendTo_77 rfl ?_
      refine hj_aload_n hC 1 d_Function_appendTo_78 rfl rfl ?_
      refine hj_aload_n hC 0 d_Function_appendTo_79 rfl rfl ?_
      refine hj_getr hC cf_Function (k := 7) (by decide) wq_19 rfl d_Function_appendTo_80 hr (fun a15 hr => ?_)
      refine hj_iload_n hC 2 d_Function_appendTo_83 rfl rfl ?_
      refine hj_iald hC (kd := 1) rfl d_Function_appendTo_84 hr (fun a16 hr => ?_)
      refine hj_i2l hC d_Function_appendTo_85 ?_
      refine hj_aload_n hC 0 d_Function_appendTo_86 rfl rfl ?_
      refine hj_getr hC cf_Function (k := 6) (by decide) wq_18 rfl d_Function_appendTo_87 hr (fun a17 hr => ?_)
      refine hj_iload_n hC 2 d_Function_appendTo_90 rfl rfl ?_
      refine hj_iald hC (kd := 0) rfl d_Function_appendTo_91 hr (fun a18 hr => ?_)
      refine hj_callS hC hG (enc := (fun a : Int32 => some (vi_ a))) (As := [vi_ a18]) (st := [vl_ (Int32.toInt64 a16), vr_ x1]) (fun h a C S h1 hr => m_Kinds_bytesBehind _ h a C S h1 hr) wq_313 wq_143 wq_139 wq_134 yk_Kinds_bytesBehind rfl ⟨Nat.le_of_ble_eq_true rfl, Nat.le_of_ble_eq_true rfl⟩ rfl (Nat.le_of_ble_eq_true rfl) d_Function_appendTo_92 hr (fun a19 h C S hr => ?_)
      refine hj_callV hC hG (enc := (fun a : Int32 => some (vi_ a))) (As := [vl_ (Int32.toInt64 a16), vi_ a19]) (st := []) (fun h a C S h1 hr => m_ByteRow_add _ _ _ h a C S h1 hr) cf_ByteRow wq_312 wq_90 wq_91 wq_41 wq_88 yk_ByteRow_add rfl ⟨Nat.le_of_ble_eq_true rfl, Nat.le_of_ble_eq_true rfl⟩ rfl (Nat.le_of_ble_eq_true rfl) d_Function_appendTo_95 hr (fun a20 h C S hr => ?_)
      refine hj_pop hC d_Function_appendTo_98 rfl ?_
      refine hj_iinc hC (lv' := [(2, vi_ (v2 + 1)), (0, vr_ x0), (1, vr_ x1)]) 2 d_Function_appendTo_99 rfl rfl (by decide) rfl ?_
      refine hj_goto hC 57 d_Function_appendTo_102 (by decide) ?_
      refine hj_sub (lv' := [(0, vr_ x0), (1, vr_ x1), (2, vi_ (v2 + 1))]) [1, 2, 0] rfl ?_
      exact ih _ _ _ _ hr
set_option maxHeartbeats 4000000 in
set_option maxRecDepth 100000 in
theorem ml_Function_appendTo_118 {p : Program} {l : Launch} {e : Env} {s : State} {m : MethodId} {args : Array Value} {below : List Frame} {meth : Method} {c : Code} {D : va_G} {dA : Nat → ClassId} {h0 h2 : hc_H} {C0 S0 : Nat} {b : Unit} (hC : hj_C p s m args meth c (gg D dA) b_Function_appendTo 3 none R_Function "appendTo" tb) (x0 : Option Nat) (x1 : Option Nat) (kx : hM Unit) (hk : ∀  (h : hc_H) (C S : Nat), kx  h = some (b, C, S, h2) → hj_J p l e { frames := 5, cells := C0, slots := S0, locals := 114 } s m args below meth c (gg D dA) h0 3 (hj_Q below args s { frames := 5, cells := C0, slots := S0, locals := 114 } (gg D dA) h0 none h2) C S h 142 [] []) : ∀ (fu : Nat) (v2 : Int32) (h : hc_H) (C S : Nat), p_Function_appendTo_118 x0 x1 kx fu v2 h = some (b, C, S, h2) → hj_J p l e { frames := 5, cells := C0, slots := S0, locals := 114 } s m args below meth c (gg D dA) h0 3 (hj_Q below args s { frames := 5, cells := C0, slots := S0, locals := 114 } (gg D dA) h0 none h2) C S h 118 [(0, vr_ x0), (1, vr_ x1), (2, vi_ v2)] [] := by
  intro fu
  induction fu with
  | zero =>
    intro v2 h C S hr
    cases hr
  | succ fu ih =>
    intro v2 h C S hr
    rw [p_Function_appendTo_118] at hr
    refine hj_iload_n hC 2 d_Function_appendTo_118 rfl rfl ?_
    refine hj_aload_n hC 0 d_Function_appendTo_119 rfl rfl ?_
    refine hj_geti hC cf_Function (k := 5) (by decide) wq_314 rfl d_Function_appendTo_120 hr (fun a23 hr => ?_)
    refine hj_icmp_ge hC 142 d_Function_appendTo_123 (by decide) hr (fun q123 hr => ?_) (fun q123 hr => ?_)
    · refine hj_sub (lv' := []) [] rfl ?_
      exact hk _ _ _ hr
    · refine hj_aload_n hC 0 d_Function_appendTo_126 rfl rfl ?_
      refine hj_getr hC cf_Function (k := 10) (by decide) wq_23 rfl d_Function_appendTo_127 hr (fun a24 hr => ?_)
      refine hj_iload_n hC 2 d_Function_appendTo_130 rfl rfl ?_
      refine hj_aald hC (kd := 9) rfl d_Function_appendTo_131 hr (fun a25 hr => ?_)
      refine hj_aload_n hC 1 d_Function_appendTo_132 rfl rfl ?_
      refine hj_callV hC hG (enc := (fun _ : Unit => none)) (As := [vr_ x1]) (st := []) (fun h a C S h1 hr => m_Handler_appendTo _ _ h a C S h1 hr) cf_Handler wq_316 wq_317 wq_318 wq_26 wq_315 yk_Handler_appendTo rfl ⟨Nat.le_of_ble_eq_true rfl, Nat.le_of_ble_eq_true rfl⟩ rfl (Nat.le_of_ble_eq_true rfl) d_Function_appendTo_133 hr (fun _ h C S hr => ?_)
      refine hj_iinc hC (lv' := [(2, vi_ (v2 + 1)), (0, vr_ x0), (1, vr_ x1)]) 2 d_Function_appendTo_136 rfl rfl (by decide) rfl ?_
      refine hj_goto hC 118 d_Function_appendTo_139 (by decide) ?_
      refine hj_sub (lv' := [(0, vr_ x0), (1, vr_ x1), (2, vi_ (v2 + 1))]) [1, 2, 0] rfl ?_
      exact ih _ _ _ _ hr
set_option maxHeartbeats 4000000 in
set_option maxRecDepth 100000 in
theorem m_Function_appendTo {l : Launch} {D : va_G} {dA : Nat → ClassId} (o : Option Nat) (x1 : Option Nat) (h0 : hc_H) (b : Unit) (C0 S0 : Nat) (h2 : hc_H) (hr : p_Function_appendTo o x1 h0 = some (b, C0, S0, h2)) : hc_Met l (gg D dA) y_Function_appendTo b_Function_appendTo 3 none tb 5 114 [vr_ o, vr_ x1] h0 C0 S0 none h2 := by
  refine hc_Met.of (by decide) (Nat.le_of_ble_eq_true rfl) ?_
  intro p e s m args below meth c hC
  unfold p_Function_appendTo at hr
  refine hj_sub (lv' := [(0, vr_ o), (1, vr_ x1)]) [0, 1] rfl ?_
  refine hj_aload_n hC 1 d_Function_appendTo_0 rfl rfl ?_
  refine hj_aload_n hC 0 d_Function_appendTo_1 rfl rfl ?_
  refine hj_geti hC cf_Function (k := 0) (by decide) wq_309 rfl d_Function_appendTo_2 hr (fun a1 hr => ?_)
  refine hj_i2l hC d_Function_appendTo_5 ?_
  refine hj_iconst hC (v := 1) d_Function_appendTo_6 (by decide) ?_
  refine hj_callV hC hG (enc := (fun a : Int32 => some (vi_ a))) (As := [vl_ (Int32.toInt64 a1), vi_ 1]) (st := []) (fun h a C S h1 hr => m_ByteRow_add _ _ _ h a C S h1 hr) cf_ByteRow wq_312 wq_90 wq_91 wq_41 wq_88 yk_ByteRow_add rfl ⟨Nat.le_of_ble_eq_true rfl, Nat.le_of_ble_eq_true rfl⟩ rfl (Nat.le_of_ble_eq_true rfl) d_Function_appendTo_7 hr (fun a2 h C S hr => ?_)
  refine hj_pop hC d_Function_appendTo_10 rfl ?_
  refine hj_aload_n hC 1 d_Function_appendTo_11 rfl rfl ?_
  refine hj_aload_n hC 0 d_Function_appendTo_12 rfl rfl ?_
  refine hj_geti hC cf_Function (k := 1) (by decide) wq_310 rfl d_Function_appendTo_13 hr (fun a3 hr => ?_)
  refine hj_i2l hC d_Function_appendTo_16 ?_
  refine hj_iconst hC (v := 1) d_Function_appendTo_17 (by decide) ?_
  refine hj_callV hC hG (enc := (fun a : Int32 => some (vi_ a))) (As := [vl_ (Int32.toInt64 a3), vi_ 1]) (st := []) (fun h a C S h1 hr => m_ByteRow_add _ _ _ h a C S h1 hr) cf_ByteRow wq_312 wq_90 wq_91 wq_41 wq_88 yk_ByteRow_add rfl ⟨Nat.le_of_ble_eq_true rfl, Nat.le_of_ble_eq_true rfl⟩ rfl (Nat.le_of_ble_eq_true rfl) d_Function_appendTo_18 hr (fun a4 h C S hr => ?_)
  refine hj_pop hC d_Function_appendTo_21 rfl ?_
  refine hj_aload_n hC 1 d_Function_appendTo_22 rfl rfl ?_
  refine hj_aload_n hC 0 d_Function_appendTo_23 rfl rfl ?_
  refine hj_geti hC cf_Function (k := 2) (by decide) wq_202 rfl d_Function_appendTo_24 hr (fun a5 hr => ?_)
  refine hj_i2l hC d_Function_appendTo_27 ?_
  refine hj_iconst hC (v := 2) d_Function_appendTo_28 (by decide) ?_
  refine hj_callV hC hG (enc := (fun a : Int32 => some (vi_ a))) (As := [vl_ (Int32.toInt64 a5), vi_ 2]) (st := []) (fun h a C S h1 hr => m_ByteRow_add _ _ _ h a C S h1 hr) cf_ByteRow wq_312 wq_90 wq_91 wq_41 wq_88 yk_ByteRow_add rfl ⟨Nat.le_of_ble_eq_true rfl, Nat.le_of_ble_eq_true rfl⟩ rfl (Nat.le_of_ble_eq_true rfl) d_Function_appendTo_29 hr (fun a6 h C S hr => ?_)
  refine hj_pop hC d_Function_appendTo_32 rfl ?_
  refine hj_aload_n hC 1 d_Function_appendTo_33 rfl rfl ?_
  refine hj_aload_n hC 0 d_Function_appendTo_34 rfl rfl ?_
  refine hj_geti hC cf_Function (k := 3) (by decide) wq_311 rfl d_Function_appendTo_35 hr (fun a7 hr => ?_)
  refine hj_i2l hC d_Function_appendTo_38 ?_
  refine hj_iconst hC (v := 1) d_Function_appendTo_39 (by decide) ?_
  refine hj_callV hC hG (enc := (fun a : Int32 => some (vi_ a))) (As := [vl_ (Int32.toInt64 a7), vi_ 1]) (st := []) (fun h a C S h1 hr => m_ByteRow_add _ _ _ h a C S h1 hr) cf_ByteRow wq_312 wq_90 wq_91 wq_41 wq_88 yk_ByteRow_add rfl ⟨Nat.le_of_ble_eq_true rfl, Nat.le_of_ble_eq_true rfl⟩ rfl (Nat.le_of_ble_eq_true rfl) d_Function_appendTo_40 hr (fun a8 h C S hr => ?_)
  refine hj_pop hC d_Function_appendTo_43 rfl ?_
  refine hj_aload_n hC 1 d_Function_appendTo_44 rfl rfl ?_
  refine hj_aload_n hC 0 d_Function_appendTo_45 rfl rfl ?_
  refine hj_geti hC cf_Function (k := 4) (by decide) wq_24 rfl d_Function_appendTo_46 hr (fun a9 hr => ?_)
  refine hj_i2l hC d_Function_appendTo_49 ?_
  refine hj_iconst hC (v := 2) d_Function_appendTo_50 (by decide) ?_
  refine hj_callV hC hG (enc := (fun a : Int32 => some (vi_ a))) (As := [vl_ (Int32.toInt64 a9), vi_ 2]) (st := []) (fun h a C S h1 hr => m_ByteRow_add _ _ _ h a C S h1 hr) cf_ByteRow wq_312 wq_90 wq_91 wq_41 wq_88 yk_ByteRow_add rfl ⟨Nat.le_of_ble_eq_true rfl, Nat.le_of_ble_eq_true rfl⟩ rfl (Nat.le_of_ble_eq_true rfl) d_Function_appendTo_51 hr (fun a10 h C S hr => ?_)
  refine hj_pop hC d_Function_appendTo_54 rfl ?_
  refine hj_iconst hC (v := 0) d_Function_appendTo_55 (by decide) ?_
  refine hj_istore_n hC (lv' := [(2, vi_ 0), (0, vr_ o), (1, vr_ x1)]) d_Function_appendTo_56 rfl (by decide) rfl ?_
  refine hj_sub (lv' := [(0, vr_ o), (1, vr_ x1), (2, vi_ 0)]) [1, 2, 0] rfl ?_
  refine ml_Function_appendTo_57 hC _ _ _ (fun  h C S hr => ?_) _ _ _ _ _ hr
  refine hj_aload_n hC 1 d_Function_appendTo_105 rfl rfl ?_
  refine hj_aload_n hC 0 d_Function_appendTo_106 rfl rfl ?_
  refine hj_geti hC cf_Function (k := 5) (by decide) wq_314 rfl d_Function_appendTo_107 hr (fun a21 hr => ?_)
  refine hj_i2l hC d_Function_appendTo_110 ?_
  refine hj_iconst hC (v := 1) d_Function_appendTo_111 (by decide) ?_
  refine hj_callV hC hG (enc := (fun a : Int32 => some (vi_ a))) (As := [vl_ (Int32.toInt64 a21), vi_ 1]) (st := []) (fun h a C S h1 hr => m_ByteRow_add _ _ _ h a C S h1 hr) cf_ByteRow wq_312 wq_90 wq_91 wq_41 wq_88 yk_ByteRow_add rfl ⟨Nat.le_of_ble_eq_true rfl, Nat.le_of_ble_eq_true rfl⟩ rfl (Nat.le_of_ble_eq_true rfl) d_Function_appendTo_112 hr (fun a22 h C S hr => ?_)
  refine hj_pop hC d_Function_appendTo_115 rfl ?_
  refine hj_iconst hC (v := 0) d_Function_appendTo_116 (by decide) ?_
  refine hj_istore_n hC (lv' := [(2, vi_ 0), (0, vr_ o), (1, vr_ x1)]) d_Function_appendTo_117 rfl (by decide) rfl ?_
  refine hj_sub (lv' := [(0, vr_ o), (1, vr_ x1), (2, vi_ 0)]) [1, 2, 0] rfl ?_
  refine ml_Function_appendTo_118 hC _ _ _ (fun  h C S hr => ?_) _ _ _ _ _ hr
  exact hj_vret hC d_Function_appendTo_142 hr
