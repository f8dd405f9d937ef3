theorem d_Reader_readInto_0 : decode b_Reader_readInto 0 = .ok (.aload_n 0, 1) := by decide +kernel
theorem d_Reader_readInto_1 : decode b_Reader_readInto 1 = .ok (.bipush 71, 2) := by decide +kernel
theorem d_Reader_readInto_3 : decode b_Reader_readInto 3 = .ok (.invokevirtual 23, 3) := by decide +kernel
theorem d_Reader_readInto_6 : decode b_Reader_readInto 6 = .ok (.aload_n 0, 1) := by decide +kernel
theorem d_Reader_readInto_7 : decode b_Reader_readInto 7 = .ok (.bipush 70, 2) := by decide +kernel
theorem d_Reader_readInto_9 : decode b_Reader_readInto 9 = .ok (.invokevirtual 23, 3) := by decide +kernel
theorem d_Reader_readInto_12 : decode b_Reader_readInto 12 = .ok (.aload_n 0, 1) := by decide +kernel
theorem d_Reader_readInto_13 : decode b_Reader_readInto 13 = .ok (.iconst 1, 1) := by decide +kernel
theorem d_Reader_readInto_14 : decode b_Reader_readInto 14 = .ok (.invokevirtual 23, 3) := by decide +kernel
theorem d_Reader_readInto_17 : decode b_Reader_readInto 17 = .ok (.aload_n 1, 1) := by decide +kernel
theorem d_Reader_readInto_18 : decode b_Reader_readInto 18 = .ok (.aload_n 0, 1) := by decide +kernel
theorem d_Reader_readInto_19 : decode b_Reader_readInto 19 = .ok (.iconst 1, 1) := by decide +kernel
theorem d_Reader_readInto_20 : decode b_Reader_readInto 20 = .ok (.iconst 1, 1) := by decide +kernel
theorem d_Reader_readInto_21 : decode b_Reader_readInto 21 = .ok (.bipush 12, 2) := by decide +kernel
theorem d_Reader_readInto_23 : decode b_Reader_readInto 23 = .ok (.invokevirtual 27, 3) := by decide +kernel
theorem d_Reader_readInto_26 : decode b_Reader_readInto 26 = .ok (.invokevirtual 31, 3) := by decide +kernel
theorem d_Reader_readInto_29 : decode b_Reader_readInto 29 = .ok (.iconst 0, 1) := by decide +kernel
theorem d_Reader_readInto_30 : decode b_Reader_readInto 30 = .ok (.istore_n 2, 1) := by decide +kernel
theorem d_Reader_readInto_31 : decode b_Reader_readInto 31 = .ok (.iload_n 2, 1) := by decide +kernel
theorem d_Reader_readInto_32 : decode b_Reader_readInto 32 = .ok (.aload_n 1, 1) := by decide +kernel
theorem d_Reader_readInto_33 : decode b_Reader_readInto 33 = .ok (.getfield 36, 3) := by decide +kernel
theorem d_Reader_readInto_36 : decode b_Reader_readInto 36 = .ok (.if_icmp .ge 62, 3) := by decide +kernel
theorem d_Reader_readInto_39 : decode b_Reader_readInto 39 = .ok (.aload_n 0, 1) := by decide +kernel
theorem d_Reader_readInto_40 : decode b_Reader_readInto 40 = .ok (.getfield 15, 3) := by decide +kernel
theorem d_Reader_readInto_43 : decode b_Reader_readInto 43 = .ok (.getfield 39, 3) := by decide +kernel
theorem d_Reader_readInto_46 : decode b_Reader_readInto 46 = .ok (.ifCond .ne 52, 3) := by decide +kernel
theorem d_Reader_readInto_49 : decode b_Reader_readInto 49 = .ok (.aload_n 0, 1) := by decide +kernel
theorem d_Reader_readInto_50 : decode b_Reader_readInto 50 = .ok (.aload_n 1, 1) := by decide +kernel
theorem d_Reader_readInto_51 : decode b_Reader_readInto 51 = .ok (.getfield 44, 3) := by decide +kernel
theorem d_Reader_readInto_54 : decode b_Reader_readInto 54 = .ok (.iload_n 2, 1) := by decide +kernel
theorem d_Reader_readInto_55 : decode b_Reader_readInto 55 = .ok (.aaload, 1) := by decide +kernel
theorem d_Reader_readInto_56 : decode b_Reader_readInto 56 = .ok (.iload_n 2, 1) := by decide +kernel
theorem d_Reader_readInto_57 : decode b_Reader_readInto 57 = .ok (.ifCond .ne 7, 3) := by decide +kernel
theorem d_Reader_readInto_60 : decode b_Reader_readInto 60 = .ok (.iconst 1, 1) := by decide +kernel
theorem d_Reader_readInto_61 : decode b_Reader_readInto 61 = .ok (.goto 4, 3) := by decide +kernel
theorem d_Reader_readInto_64 : decode b_Reader_readInto 64 = .ok (.iconst 0, 1) := by decide +kernel
theorem d_Reader_readInto_65 : decode b_Reader_readInto 65 = .ok (.invokevirtual 48, 3) := by decide +kernel
theorem d_Reader_readInto_68 : decode b_Reader_readInto 68 = .ok (.aload_n 0, 1) := by decide +kernel
theorem d_Reader_readInto_69 : decode b_Reader_readInto 69 = .ok (.aload_n 1, 1) := by decide +kernel
theorem d_Reader_readInto_70 : decode b_Reader_readInto 70 = .ok (.getfield 44, 3) := by decide +kernel
theorem d_Reader_readInto_73 : decode b_Reader_readInto 73 = .ok (.iload_n 2, 1) := by decide +kernel
theorem d_Reader_readInto_74 : decode b_Reader_readInto 74 = .ok (.aaload, 1) := by decide +kernel
theorem d_Reader_readInto_75 : decode b_Reader_readInto 75 = .ok (.aload_n 1, 1) := by decide +kernel
theorem d_Reader_readInto_76 : decode b_Reader_readInto 76 = .ok (.getfield 36, 3) := by decide +kernel
theorem d_Reader_readInto_79 : decode b_Reader_readInto 79 = .ok (.invokevirtual 52, 3) := by decide +kernel
theorem d_Reader_readInto_82 : decode b_Reader_readInto 82 = .ok (.aload_n 0, 1) := by decide +kernel
theorem d_Reader_readInto_83 : decode b_Reader_readInto 83 = .ok (.aload_n 1, 1) := by decide +kernel
theorem d_Reader_readInto_84 : decode b_Reader_readInto 84 = .ok (.getfield 44, 3) := by decide +kernel
theorem d_Reader_readInto_87 : decode b_Reader_readInto 87 = .ok (.iload_n 2, 1) := by decide +kernel
theorem d_Reader_readInto_88 : decode b_Reader_readInto 88 = .ok (.aaload, 1) := by decide +kernel
theorem d_Reader_readInto_89 : decode b_Reader_readInto 89 = .ok (.invokevirtual 56, 3) := by decide +kernel
theorem d_Reader_readInto_92 : decode b_Reader_readInto 92 = .ok (.iinc 2 1, 3) := by decide +kernel
theorem d_Reader_readInto_95 : decode b_Reader_readInto 95 = .ok (.goto (-64), 3) := by decide +kernel
theorem d_Reader_readInto_98 : decode b_Reader_readInto 98 = .ok (.aload_n 0, 1) := by decide +kernel
theorem d_Reader_readInto_99 : decode b_Reader_readInto 99 = .ok (.getfield 19, 3) := by decide +kernel
theorem d_Reader_readInto_102 : decode b_Reader_readInto 102 = .ok (.aload_n 0, 1) := by decide +kernel
theorem d_Reader_readInto_103 : decode b_Reader_readInto 103 = .ok (.getfield 9, 3) := by decide +kernel
theorem d_Reader_readInto_106 : decode b_Reader_readInto 106 = .ok (.getfield 60, 3) := by decide +kernel
theorem d_Reader_readInto_109 : decode b_Reader_readInto 109 = .ok (.if_icmp .ge 15, 3) := by decide +kernel
theorem d_Reader_readInto_112 : decode b_Reader_readInto 112 = .ok (.aload_n 0, 1) := by decide +kernel
theorem d_Reader_readInto_113 : decode b_Reader_readInto 113 = .ok (.getfield 15, 3) := by decide +kernel
theorem d_Reader_readInto_116 : decode b_Reader_readInto 116 = .ok (.iconst 4, 1) := by decide +kernel
theorem d_Reader_readInto_117 : decode b_Reader_readInto 117 = .ok (.aload_n 0, 1) := by decide +kernel
theorem d_Reader_readInto_118 : decode b_Reader_readInto 118 = .ok (.getfield 19, 3) := by decide +kernel
theorem d_Reader_readInto_121 : decode b_Reader_readInto 121 = .ok (.invokevirtual 63, 3) := by decide +kernel
theorem d_Reader_readInto_124 : decode b_Reader_readInto 124 = .ok (.return_, 1) := by decide +kernel
theorem d_Program_at_0 : decode b_Program_at 0 = .ok (.iload_n 1, 1) := by decide +kernel
theorem d_Program_at_1 : decode b_Program_at 1 = .ok (.ifCond .lt 11, 3) := by decide +kernel
theorem d_Program_at_4 : decode b_Program_at 4 = .ok (.iload_n 1, 1) := by decide +kernel
theorem d_Program_at_5 : decode b_Program_at 5 = .ok (.aload_n 0, 1) := by decide +kernel
theorem d_Program_at_6 : decode b_Program_at 6 = .ok (.getfield 18, 3) := by decide +kernel
theorem d_Program_at_9 : decode b_Program_at 9 = .ok (.if_icmp .lt 7, 3) := by decide +kernel
theorem d_Program_at_12 : decode b_Program_at 12 = .ok (.aconst_null, 1) := by decide +kernel
theorem d_Program_at_13 : decode b_Program_at 13 = .ok (.goto 9, 3) := by decide +kernel
theorem d_Program_at_16 : decode b_Program_at 16 = .ok (.aload_n 0, 1) := by decide +kernel
theorem d_Program_at_17 : decode b_Program_at 17 = .ok (.getfield 11, 3) := by decide +kernel
theorem d_Program_at_20 : decode b_Program_at 20 = .ok (.iload_n 1, 1) := by decide +kernel
theorem d_Program_at_21 : decode b_Program_at 21 = .ok (.aaload, 1) := by decide +kernel
theorem d_Program_at_22 : decode b_Program_at 22 = .ok (.areturn, 1) := by decide +kernel
theorem d_Function_has_0 : decode b_Function_has 0 = .ok (.iload_n 1, 1) := by decide +kernel
theorem d_Function_has_1 : decode b_Function_has 1 = .ok (.ifCond .lt 15, 3) := by decide +kernel
theorem d_Function_has_4 : decode b_Function_has 4 = .ok (.iload_n 1, 1) := by decide +kernel
theorem d_Function_has_5 : decode b_Function_has 5 = .ok (.aload_n 0, 1) := by decide +kernel
theorem d_Function_has_6 : decode b_Function_has 6 = .ok (.getfield 30, 3) := by decide +kernel
theorem d_Function_has_9 : decode b_Function_has 9 = .ok (.if_icmp .ge 7, 3) := by decide +kernel
theorem d_Function_has_12 : decode b_Function_has 12 = .ok (.iconst 1, 1) := by decide +kernel
theorem d_Function_has_13 : decode b_Function_has 13 = .ok (.goto 4, 3) := by decide +kernel
theorem d_Function_has_16 : decode b_Function_has 16 = .ok (.iconst 0, 1) := by decide +kernel
theorem d_Function_has_17 : decode b_Function_has 17 = .ok (.ireturn, 1) := by decide +kernel
theorem d_Verifier_comeTo_0 : decode b_Verifier_comeTo 0 = .ok (.aload_n 0, 1) := by decide +kernel
theorem d_Verifier_comeTo_1 : decode b_Verifier_comeTo 1 = .ok (.getfield 36, 3) := by decide +kernel
theorem d_Verifier_comeTo_4 : decode b_Verifier_comeTo 4 = .ok (.getfield 63, 3) := by decide +kernel
theorem d_Verifier_comeTo_7 : decode b_Verifier_comeTo 7 = .ok (.ifCond .ne 14, 3) := by decide +kernel
theorem d_Verifier_comeTo_10 : decode b_Verifier_comeTo 10 = .ok (.aload_n 0, 1) := by decide +kernel
theorem d_Verifier_comeTo_11 : decode b_Verifier_comeTo 11 = .ok (.getfield 32, 3) := by decide +kernel
theorem d_Verifier_comeTo_14 : decode b_Verifier_comeTo 14 = .ok (.iload_n 1, 1) := by decide +kernel
theorem d_Verifier_comeTo_15 : decode b_Verifier_comeTo 15 = .ok (.invokevirtual 132, 3) := by decide +kernel
theorem d_Verifier_comeTo_18 : decode b_Verifier_comeTo 18 = .ok (.ifCond .ne 4, 3) := by decide +kernel
theorem d_Verifier_comeTo_21 : decode b_Verifier_comeTo 21 = .ok (.return_, 1) := by decide +kernel
theorem d_Verifier_comeTo_22 : decode b_Verifier_comeTo 22 = .ok (.aload_n 0, 1) := by decide +kernel
theorem d_Verifier_comeTo_23 : decode b_Verifier_comeTo 23 = .ok (.getfield 9, 3) := by decide +kernel
theorem d_Verifier_comeTo_26 : decode b_Verifier_comeTo 26 = .ok (.iload_n 1, 1) := by decide +kernel
theorem d_Verifier_comeTo_27 : decode b_Verifier_comeTo 27 = .ok (.iaload, 1) := by decide +kernel
theorem d_Verifier_comeTo_28 : decode b_Verifier_comeTo 28 = .ok (.iconst (-1), 1) := by decide +kernel
theorem d_Verifier_comeTo_29 : decode b_Verifier_comeTo 29 = .ok (.if_icmp .ne 39, 3) := by decide +kernel
theorem d_Verifier_comeTo_32 : decode b_Verifier_comeTo 32 = .ok (.aload_n 0, 1) := by decide +kernel
theorem d_Verifier_comeTo_33 : decode b_Verifier_comeTo 33 = .ok (.getfield 9, 3) := by decide +kernel
theorem d_Verifier_comeTo_36 : decode b_Verifier_comeTo 36 = .ok (.iload_n 1, 1) := by decide +kernel
theorem d_Verifier_comeTo_37 : decode b_Verifier_comeTo 37 = .ok (.iload_n 2, 1) := by decide +kernel
theorem d_Verifier_comeTo_38 : decode b_Verifier_comeTo 38 = .ok (.iastore, 1) := by decide +kernel
theorem d_Verifier_comeTo_39 : decode b_Verifier_comeTo 39 = .ok (.aload_n 0, 1) := by decide +kernel
theorem d_Verifier_comeTo_40 : decode b_Verifier_comeTo 40 = .ok (.getfield 15, 3) := by decide +kernel
theorem d_Verifier_comeTo_43 : decode b_Verifier_comeTo 43 = .ok (.iload_n 1, 1) := by decide +kernel
theorem d_Verifier_comeTo_44 : decode b_Verifier_comeTo 44 = .ok (.iload_n 3, 1) := by decide +kernel
theorem d_Verifier_comeTo_45 : decode b_Verifier_comeTo 45 = .ok (.iastore, 1) := by decide +kernel
theorem d_Verifier_comeTo_46 : decode b_Verifier_comeTo 46 = .ok (.aload_n 0, 1) := by decide +kernel
theorem d_Verifier_comeTo_47 : decode b_Verifier_comeTo 47 = .ok (.getfield 18, 3) := by decide +kernel
theorem d_Verifier_comeTo_50 : decode b_Verifier_comeTo 50 = .ok (.iload_n 1, 1) := by decide +kernel
theorem d_Verifier_comeTo_51 : decode b_Verifier_comeTo 51 = .ok (.iconst 1, 1) := by decide +kernel
theorem d_Verifier_comeTo_52 : decode b_Verifier_comeTo 52 = .ok (.bastore, 1) := by decide +kernel
theorem d_Verifier_comeTo_53 : decode b_Verifier_comeTo 53 = .ok (.aload_n 0, 1) := by decide +kernel
theorem d_Verifier_comeTo_54 : decode b_Verifier_comeTo 54 = .ok (.aload_n 0, 1) := by decide +kernel
theorem d_Verifier_comeTo_55 : decode b_Verifier_comeTo 55 = .ok (.getfield 56, 3) := by decide +kernel
theorem d_Verifier_comeTo_58 : decode b_Verifier_comeTo 58 = .ok (.iload_n 1, 1) := by decide +kernel
theorem d_Verifier_comeTo_59 : decode b_Verifier_comeTo 59 = .ok (.invokestatic 135, 3) := by decide +kernel
theorem d_Verifier_comeTo_62 : decode b_Verifier_comeTo 62 = .ok (.putfield 56, 3) := by decide +kernel
theorem d_Verifier_comeTo_65 : decode b_Verifier_comeTo 65 = .ok (.goto 38, 3) := by decide +kernel
theorem d_Verifier_comeTo_68 : decode b_Verifier_comeTo 68 = .ok (.aload_n 0, 1) := by decide +kernel
theorem d_Verifier_comeTo_69 : decode b_Verifier_comeTo 69 = .ok (.getfield 9, 3) := by decide +kernel
theorem d_Verifier_comeTo_72 : decode b_Verifier_comeTo 72 = .ok (.iload_n 1, 1) := by decide +kernel
theorem d_Verifier_comeTo_73 : decode b_Verifier_comeTo 73 = .ok (.iaload, 1) := by decide +kernel
theorem d_Verifier_comeTo_74 : decode b_Verifier_comeTo 74 = .ok (.iload_n 2, 1) := by decide +kernel
theorem d_Verifier_comeTo_75 : decode b_Verifier_comeTo 75 = .ok (.if_icmp .ne 13, 3) := by decide +kernel
theorem d_Verifier_comeTo_78 : decode b_Verifier_comeTo 78 = .ok (.aload_n 0, 1) := by decide +kernel
theorem d_Verifier_comeTo_79 : decode b_Verifier_comeTo 79 = .ok (.getfield 15, 3) := by decide +kernel
theorem d_Verifier_comeTo_82 : decode b_Verifier_comeTo 82 = .ok (.iload_n 1, 1) := by decide +kernel
theorem d_Verifier_comeTo_83 : decode b_Verifier_comeTo 83 = .ok (.iaload, 1) := by decide +kernel
theorem d_Verifier_comeTo_84 : decode b_Verifier_comeTo 84 = .ok (.iload_n 3, 1) := by decide +kernel
theorem d_Verifier_comeTo_85 : decode b_Verifier_comeTo 85 = .ok (.if_icmp .eq 18, 3) := by decide +kernel
theorem d_Verifier_comeTo_88 : decode b_Verifier_comeTo 88 = .ok (.aload_n 0, 1) := by decide +kernel
theorem d_Verifier_comeTo_89 : decode b_Verifier_comeTo 89 = .ok (.getfield 36, 3) := by decide +kernel
theorem d_Verifier_comeTo_92 : decode b_Verifier_comeTo 92 = .ok (.bipush 7, 2) := by decide +kernel
theorem d_Verifier_comeTo_94 : decode b_Verifier_comeTo 94 = .ok (.aload_n 0, 1) := by decide +kernel
theorem d_Verifier_comeTo_95 : decode b_Verifier_comeTo 95 = .ok (.getfield 40, 3) := by decide +kernel
theorem d_Verifier_comeTo_98 : decode b_Verifier_comeTo 98 = .ok (.iload_n 1, 1) := by decide +kernel
theorem d_Verifier_comeTo_99 : decode b_Verifier_comeTo 99 = .ok (.iadd, 1) := by decide +kernel
theorem d_Verifier_comeTo_100 : decode b_Verifier_comeTo 100 = .ok (.invokevirtual 129, 3) := by decide +kernel
theorem d_Verifier_comeTo_103 : decode b_Verifier_comeTo 103 = .ok (.return_, 1) := by decide +kernel
theorem d_Verifier_begin_0 : decode b_Verifier_begin 0 = .ok (.iconst 0, 1) := by decide +kernel
theorem d_Verifier_begin_1 : decode b_Verifier_begin 1 = .ok (.istore_n 1, 1) := by decide +kernel
theorem d_Verifier_begin_2 : decode b_Verifier_begin 2 = .ok (.iload_n 1, 1) := by decide +kernel
theorem d_Verifier_begin_3 : decode b_Verifier_begin 3 = .ok (.aload_n 0, 1) := by decide +kernel
theorem d_Verifier_begin_4 : decode b_Verifier_begin 4 = .ok (.getfield 32, 3) := by decide +kernel
theorem d_Verifier_begin_7 : decode b_Verifier_begin 7 = .ok (.getfield 47, 3) := by decide +kernel
theorem d_Verifier_begin_10 : decode b_Verifier_begin 10 = .ok (.if_icmp .ge 30, 3) := by decide +kernel
theorem d_Verifier_begin_13 : decode b_Verifier_begin 13 = .ok (.aload_n 0, 1) := by decide +kernel
theorem d_Verifier_begin_14 : decode b_Verifier_begin 14 = .ok (.getfield 9, 3) := by decide +kernel
theorem d_Verifier_begin_17 : decode b_Verifier_begin 17 = .ok (.iload_n 1, 1) := by decide +kernel
theorem d_Verifier_begin_18 : decode b_Verifier_begin 18 = .ok (.iconst (-1), 1) := by decide +kernel
theorem d_Verifier_begin_19 : decode b_Verifier_begin 19 = .ok (.iastore, 1) := by decide +kernel
theorem d_Verifier_begin_20 : decode b_Verifier_begin 20 = .ok (.aload_n 0, 1) := by decide +kernel
theorem d_Verifier_begin_21 : decode b_Verifier_begin 21 = .ok (.getfield 15, 3) := by decide +kernel
theorem d_Verifier_begin_24 : decode b_Verifier_begin 24 = .ok (.iload_n 1, 1) := by decide +kernel
theorem d_Verifier_begin_25 : decode b_Verifier_begin 25 = .ok (.iconst 0, 1) := by decide +kernel
theorem d_Verifier_begin_26 : decode b_Verifier_begin 26 = .ok (.iastore, 1) := by decide +kernel
theorem d_Verifier_begin_27 : decode b_Verifier_begin 27 = .ok (.aload_n 0, 1) := by decide +kernel
theorem d_Verifier_begin_28 : decode b_Verifier_begin 28 = .ok (.getfield 18, 3) := by decide +kernel
theorem d_Verifier_begin_31 : decode b_Verifier_begin 31 = .ok (.iload_n 1, 1) := by decide +kernel
theorem d_Verifier_begin_32 : decode b_Verifier_begin 32 = .ok (.iconst 0, 1) := by decide +kernel
theorem d_Verifier_begin_33 : decode b_Verifier_begin 33 = .ok (.bastore, 1) := by decide +kernel
theorem d_Verifier_begin_34 : decode b_Verifier_begin 34 = .ok (.iinc 1 1, 3) := by decide +kernel
theorem d_Verifier_begin_37 : decode b_Verifier_begin 37 = .ok (.goto (-35), 3) := by decide +kernel
theorem d_Verifier_begin_40 : decode b_Verifier_begin 40 = .ok (.aload_n 0, 1) := by decide +kernel
theorem d_Verifier_begin_41 : decode b_Verifier_begin 41 = .ok (.iconst 0, 1) := by decide +kernel
theorem d_Verifier_begin_42 : decode b_Verifier_begin 42 = .ok (.putfield 56, 3) := by decide +kernel
theorem d_Verifier_begin_45 : decode b_Verifier_begin 45 = .ok (.aload_n 0, 1) := by decide +kernel
theorem d_Verifier_begin_46 : decode b_Verifier_begin 46 = .ok (.iconst 0, 1) := by decide +kernel
theorem d_Verifier_begin_47 : decode b_Verifier_begin 47 = .ok (.iconst 0, 1) := by decide +kernel
theorem d_Verifier_begin_48 : decode b_Verifier_begin 48 = .ok (.iconst 0, 1) := by decide +kernel
theorem d_Verifier_begin_49 : decode b_Verifier_begin 49 = .ok (.invokevirtual 76, 3) := by decide +kernel
theorem d_Verifier_begin_52 : decode b_Verifier_begin 52 = .ok (.return_, 1) := by decide +kernel
theorem d_Verifier_findLeastWaiting_0 : decode b_Verifier_findLeastWaiting 0 = .ok (.aload_n 0, 1) := by decide +kernel
theorem d_Verifier_findLeastWaiting_1 : decode b_Verifier_findLeastWaiting 1 = .ok (.getfield 56, 3) := by decide +kernel
theorem d_Verifier_findLeastWaiting_4 : decode b_Verifier_findLeastWaiting 4 = .ok (.aload_n 0, 1) := by decide +kernel
theorem d_Verifier_findLeastWaiting_5 : decode b_Verifier_findLeastWaiting 5 = .ok (.getfield 32, 3) := by decide +kernel
theorem d_Verifier_findLeastWaiting_8 : decode b_Verifier_findLeastWaiting 8 = .ok (.getfield 47, 3) := by decide +kernel
theorem d_Verifier_findLeastWaiting_11 : decode b_Verifier_findLeastWaiting 11 = .ok (.if_icmp .ge 28, 3) := by decide +kernel
theorem d_Verifier_findLeastWaiting_14 : decode b_Verifier_findLeastWaiting 14 = .ok (.aload_n 0, 1) := by decide +kernel
theorem d_Verifier_findLeastWaiting_15 : decode b_Verifier_findLeastWaiting 15 = .ok (.getfield 18, 3) := by decide +kernel
theorem d_Verifier_findLeastWaiting_18 : decode b_Verifier_findLeastWaiting 18 = .ok (.aload_n 0, 1) := by decide +kernel
theorem d_Verifier_findLeastWaiting_19 : decode b_Verifier_findLeastWaiting 19 = .ok (.getfield 56, 3) := by decide +kernel
theorem d_Verifier_findLeastWaiting_22 : decode b_Verifier_findLeastWaiting 22 = .ok (.baload, 1) := by decide +kernel
theorem d_Verifier_findLeastWaiting_23 : decode b_Verifier_findLeastWaiting 23 = .ok (.ifCond .ne 16, 3) := by decide +kernel
theorem d_Verifier_findLeastWaiting_26 : decode b_Verifier_findLeastWaiting 26 = .ok (.aload_n 0, 1) := by decide +kernel
theorem d_Verifier_findLeastWaiting_27 : decode b_Verifier_findLeastWaiting 27 = .ok (.dup, 1) := by decide +kernel
theorem d_Verifier_findLeastWaiting_28 : decode b_Verifier_findLeastWaiting 28 = .ok (.getfield 56, 3) := by decide +kernel
theorem d_Verifier_findLeastWaiting_31 : decode b_Verifier_findLeastWaiting 31 = .ok (.iconst 1, 1) := by decide +kernel
theorem d_Verifier_findLeastWaiting_32 : decode b_Verifier_findLeastWaiting 32 = .ok (.iadd, 1) := by decide +kernel
theorem d_Verifier_findLeastWaiting_33 : decode b_Verifier_findLeastWaiting 33 = .ok (.putfield 56, 3) := by decide +kernel
theorem d_Verifier_findLeastWaiting_36 : decode b_Verifier_findLeastWaiting 36 = .ok (.goto (-36), 3) := by decide +kernel
theorem d_Verifier_findLeastWaiting_39 : decode b_Verifier_findLeastWaiting 39 = .ok (.aload_n 0, 1) := by decide +kernel
theorem d_Verifier_findLeastWaiting_40 : decode b_Verifier_findLeastWaiting 40 = .ok (.getfield 56, 3) := by decide +kernel
theorem d_Verifier_findLeastWaiting_43 : decode b_Verifier_findLeastWaiting 43 = .ok (.aload_n 0, 1) := by decide +kernel
theorem d_Verifier_findLeastWaiting_44 : decode b_Verifier_findLeastWaiting 44 = .ok (.getfield 32, 3) := by decide +kernel
theorem d_Verifier_findLeastWaiting_47 : decode b_Verifier_findLeastWaiting 47 = .ok (.getfield 47, 3) := by decide +kernel
theorem d_Verifier_findLeastWaiting_50 : decode b_Verifier_findLeastWaiting 50 = .ok (.if_icmp .ge 17, 3) := by decide +kernel
theorem d_Verifier_findLeastWaiting_53 : decode b_Verifier_findLeastWaiting 53 = .ok (.aload_n 0, 1) := by decide +kernel
theorem d_Verifier_findLeastWaiting_54 : decode b_Verifier_findLeastWaiting 54 = .ok (.getfield 36, 3) := by decide +kernel
theorem d_Verifier_findLeastWaiting_57 : decode b_Verifier_findLeastWaiting 57 = .ok (.getfield 63, 3) := by decide +kernel
theorem d_Verifier_findLeastWaiting_60 : decode b_Verifier_findLeastWaiting 60 = .ok (.ifCond .ne 7, 3) := by decide +kernel
theorem d_Verifier_findLeastWaiting_63 : decode b_Verifier_findLeastWaiting 63 = .ok (.iconst 1, 1) := by decide +kernel
theorem d_Verifier_findLeastWaiting_64 : decode b_Verifier_findLeastWaiting 64 = .ok (.goto 4, 3) := by decide +kernel
theorem d_Verifier_findLeastWaiting_67 : decode b_Verifier_findLeastWaiting 67 = .ok (.iconst 0, 1) := by decide +kernel
theorem d_Verifier_findLeastWaiting_68 : decode b_Verifier_findLeastWaiting 68 = .ok (.ireturn, 1) := by decide +kernel
theorem d_Verifier_put_0 : decode b_Verifier_put 0 = .ok (.aload_n 0, 1) := by decide +kernel
theorem d_Verifier_put_1 : decode b_Verifier_put 1 = .ok (.getfield 83, 3) := by decide +kernel
theorem d_Verifier_put_4 : decode b_Verifier_put 4 = .ok (.bipush 16, 2) := by decide +kernel
theorem d_Verifier_put_6 : decode b_Verifier_put 6 = .ok (.if_icmp .lt 22, 3) := by decide +kernel
theorem d_Verifier_put_9 : decode b_Verifier_put 9 = .ok (.aload_n 0, 1) := by decide +kernel
theorem d_Verifier_put_10 : decode b_Verifier_put 10 = .ok (.getfield 36, 3) := by decide +kernel
theorem d_Verifier_put_13 : decode b_Verifier_put 13 = .ok (.bipush 6, 2) := by decide +kernel
theorem d_Verifier_put_15 : decode b_Verifier_put 15 = .ok (.aload_n 0, 1) := by decide +kernel
theorem d_Verifier_put_16 : decode b_Verifier_put 16 = .ok (.getfield 40, 3) := by decide +kernel
theorem d_Verifier_put_19 : decode b_Verifier_put 19 = .ok (.aload_n 0, 1) := by decide +kernel
theorem d_Verifier_put_20 : decode b_Verifier_put 20 = .ok (.getfield 80, 3) := by decide +kernel
theorem d_Verifier_put_23 : decode b_Verifier_put 23 = .ok (.iadd, 1) := by decide +kernel
theorem d_Verifier_put_24 : decode b_Verifier_put 24 = .ok (.invokevirtual 129, 3) := by decide +kernel
theorem d_Verifier_put_27 : decode b_Verifier_put 27 = .ok (.return_, 1) := by decide +kernel
theorem d_Verifier_put_28 : decode b_Verifier_put 28 = .ok (.iload_n 1, 1) := by decide +kernel
theorem d_Verifier_put_29 : decode b_Verifier_put 29 = .ok (.iconst 2, 1) := by decide +kernel
theorem d_Verifier_put_30 : decode b_Verifier_put 30 = .ok (.if_icmp .ne 18, 3) := by decide +kernel
theorem d_Verifier_put_33 : decode b_Verifier_put 33 = .ok (.aload_n 0, 1) := by decide +kernel
theorem d_Verifier_put_34 : decode b_Verifier_put 34 = .ok (.dup, 1) := by decide +kernel
theorem d_Verifier_put_35 : decode b_Verifier_put 35 = .ok (.getfield 86, 3) := by decide +kernel
theorem d_Verifier_put_38 : decode b_Verifier_put 38 = .ok (.iconst 1, 1) := by decide +kernel
theorem d_Verifier_put_39 : decode b_Verifier_put 39 = .ok (.aload_n 0, 1) := by decide +kernel
theorem d_Verifier_put_40 : decode b_Verifier_put 40 = .ok (.getfield 83, 3) := by decide +kernel
theorem d_Verifier_put_43 : decode b_Verifier_put 43 = .ok (.ishl, 1) := by decide +kernel
theorem d_Verifier_put_44 : decode b_Verifier_put 44 = .ok (.ior, 1) := by decide +kernel
theorem d_Verifier_put_45 : decode b_Verifier_put 45 = .ok (.putfield 86, 3) := by decide +kernel
theorem d_Verifier_put_48 : decode b_Verifier_put 48 = .ok (.aload_n 0, 1) := by decide +kernel
theorem d_Verifier_put_49 : decode b_Verifier_put 49 = .ok (.dup, 1) := by decide +kernel
theorem d_Verifier_put_50 : decode b_Verifier_put 50 = .ok (.getfield 83, 3) := by decide +kernel
theorem d_Verifier_put_53 : decode b_Verifier_put 53 = .ok (.iconst 1, 1) := by decide +kernel
theorem d_Verifier_put_54 : decode b_Verifier_put 54 = .ok (.iadd, 1) := by decide +kernel
theorem d_Verifier_put_55 : decode b_Verifier_put 55 = .ok (.putfield 83, 3) := by decide +kernel
theorem d_Verifier_put_58 : decode b_Verifier_put 58 = .ok (.return_, 1) := by decide +kernel
theorem d_Verifier_take_0 : decode b_Verifier_take 0 = .ok (.aload_n 0, 1) := by decide +kernel
theorem d_Verifier_take_1 : decode b_Verifier_take 1 = .ok (.getfield 83, 3) := by decide +kernel
theorem d_Verifier_take_4 : decode b_Verifier_take 4 = .ok (.ifCond .ne 7, 3) := by decide +kernel
theorem d_Verifier_take_7 : decode b_Verifier_take 7 = .ok (.iconst 0, 1) := by decide +kernel
theorem d_Verifier_take_8 : decode b_Verifier_take 8 = .ok (.goto 25, 3) := by decide +kernel
theorem d_Verifier_take_11 : decode b_Verifier_take 11 = .ok (.aload_n 0, 1) := by decide +kernel
theorem d_Verifier_take_12 : decode b_Verifier_take 12 = .ok (.getfield 86, 3) := by decide +kernel
theorem d_Verifier_take_15 : decode b_Verifier_take 15 = .ok (.aload_n 0, 1) := by decide +kernel
theorem d_Verifier_take_16 : decode b_Verifier_take 16 = .ok (.getfield 83, 3) := by decide +kernel
theorem d_Verifier_take_19 : decode b_Verifier_take 19 = .ok (.iconst 1, 1) := by decide +kernel
theorem d_Verifier_take_20 : decode b_Verifier_take 20 = .ok (.isub, 1) := by decide +kernel
theorem d_Verifier_take_21 : decode b_Verifier_take 21 = .ok (.ishr, 1) := by decide +kernel
theorem d_Verifier_take_22 : decode b_Verifier_take 22 = .ok (.iconst 1, 1) := by decide +kernel
theorem d_Verifier_take_23 : decode b_Verifier_take 23 = .ok (.iand, 1) := by decide +kernel
theorem d_Verifier_take_24 : decode b_Verifier_take 24 = .ok (.iconst 1, 1) := by decide +kernel
theorem d_Verifier_take_25 : decode b_Verifier_take 25 = .ok (.if_icmp .ne 7, 3) := by decide +kernel
theorem d_Verifier_take_28 : decode b_Verifier_take 28 = .ok (.iconst 2, 1) := by decide +kernel
theorem d_Verifier_take_29 : decode b_Verifier_take 29 = .ok (.goto 4, 3) := by decide +kernel
theorem d_Verifier_take_32 : decode b_Verifier_take 32 = .ok (.iconst 1, 1) := by decide +kernel
theorem d_Verifier_take_33 : decode b_Verifier_take 33 = .ok (.istore_n 2, 1) := by decide +kernel
theorem d_Verifier_take_34 : decode b_Verifier_take 34 = .ok (.iload_n 2, 1) := by decide +kernel
theorem d_Verifier_take_35 : decode b_Verifier_take 35 = .ok (.ifCond .eq 12, 3) := by decide +kernel
theorem d_Verifier_take_38 : decode b_Verifier_take 38 = .ok (.iload_n 1, 1) := by decide +kernel
theorem d_Verifier_take_39 : decode b_Verifier_take 39 = .ok (.ifCond .eq 27, 3) := by decide +kernel
theorem d_Verifier_take_42 : decode b_Verifier_take 42 = .ok (.iload_n 1, 1) := by decide +kernel
theorem d_Verifier_take_43 : decode b_Verifier_take 43 = .ok (.iload_n 2, 1) := by decide +kernel
theorem d_Verifier_take_44 : decode b_Verifier_take 44 = .ok (.if_icmp .eq 22, 3) := by decide +kernel
theorem d_Verifier_take_47 : decode b_Verifier_take 47 = .ok (.aload_n 0, 1) := by decide +kernel
theorem d_Verifier_take_48 : decode b_Verifier_take 48 = .ok (.getfield 36, 3) := by decide +kernel
theorem d_Verifier_take_51 : decode b_Verifier_take 51 = .ok (.iconst 5, 1) := by decide +kernel
theorem d_Verifier_take_52 : decode b_Verifier_take 52 = .ok (.aload_n 0, 1) := by decide +kernel
theorem d_Verifier_take_53 : decode b_Verifier_take 53 = .ok (.getfield 40, 3) := by decide +kernel
theorem d_Verifier_take_56 : decode b_Verifier_take 56 = .ok (.aload_n 0, 1) := by decide +kernel
theorem d_Verifier_take_57 : decode b_Verifier_take 57 = .ok (.getfield 80, 3) := by decide +kernel
theorem d_Verifier_take_60 : decode b_Verifier_take 60 = .ok (.iadd, 1) := by decide +kernel
theorem d_Verifier_take_61 : decode b_Verifier_take 61 = .ok (.invokevirtual 129, 3) := by decide +kernel
theorem d_Verifier_take_64 : decode b_Verifier_take 64 = .ok (.iconst 0, 1) := by decide +kernel
theorem d_Verifier_take_65 : decode b_Verifier_take 65 = .ok (.ireturn, 1) := by decide +kernel
theorem d_Verifier_take_66 : decode b_Verifier_take 66 = .ok (.aload_n 0, 1) := by decide +kernel
theorem d_Verifier_take_67 : decode b_Verifier_take 67 = .ok (.dup, 1) := by decide +kernel
theorem d_Verifier_take_68 : decode b_Verifier_take 68 = .ok (.getfield 83, 3) := by decide +kernel
theorem d_Verifier_take_71 : decode b_Verifier_take 71 = .ok (.iconst 1, 1) := by decide +kernel
theorem d_Verifier_take_72 : decode b_Verifier_take 72 = .ok (.isub, 1) := by decide +kernel
theorem d_Verifier_take_73 : decode b_Verifier_take 73 = .ok (.putfield 83, 3) := by decide +kernel
theorem d_Verifier_take_76 : decode b_Verifier_take 76 = .ok (.aload_n 0, 1) := by decide +kernel
theorem d_Verifier_take_77 : decode b_Verifier_take 77 = .ok (.dup, 1) := by decide +kernel
theorem d_Verifier_take_78 : decode b_Verifier_take 78 = .ok (.getfield 86, 3) := by decide +kernel
theorem d_Verifier_take_81 : decode b_Verifier_take 81 = .ok (.iconst 1, 1) := by decide +kernel
theorem d_Verifier_take_82 : decode b_Verifier_take 82 = .ok (.aload_n 0, 1) := by decide +kernel
theorem d_Verifier_take_83 : decode b_Verifier_take 83 = .ok (.getfield 83, 3) := by decide +kernel
theorem d_Verifier_take_86 : decode b_Verifier_take 86 = .ok (.ishl, 1) := by decide +kernel
theorem d_Verifier_take_87 : decode b_Verifier_take 87 = .ok (.iconst 1, 1) := by decide +kernel
theorem d_Verifier_take_88 : decode b_Verifier_take 88 = .ok (.isub, 1) := by decide +kernel
theorem d_Verifier_take_89 : decode b_Verifier_take 89 = .ok (.iand, 1) := by decide +kernel
theorem d_Verifier_take_90 : decode b_Verifier_take 90 = .ok (.putfield 86, 3) := by decide +kernel
theorem d_Verifier_take_93 : decode b_Verifier_take 93 = .ok (.iload_n 2, 1) := by decide +kernel
theorem d_Verifier_take_94 : decode b_Verifier_take 94 = .ok (.ireturn, 1) := by decide +kernel
theorem d_Verifier_repeatTop_0 : decode b_Verifier_repeatTop 0 = .ok (.aload_n 0, 1) := by decide +kernel
theorem d_Verifier_repeatTop_1 : decode b_Verifier_repeatTop 1 = .ok (.iconst 0, 1) := by decide +kernel
theorem d_Verifier_repeatTop_2 : decode b_Verifier_repeatTop 2 = .ok (.invokevirtual 144, 3) := by decide +kernel
theorem d_Verifier_repeatTop_5 : decode b_Verifier_repeatTop 5 = .ok (.istore_n 1, 1) := by decide +kernel
theorem d_Verifier_repeatTop_6 : decode b_Verifier_repeatTop 6 = .ok (.aload_n 0, 1) := by decide +kernel
theorem d_Verifier_repeatTop_7 : decode b_Verifier_repeatTop 7 = .ok (.iload_n 1, 1) := by decide +kernel
theorem d_Verifier_repeatTop_8 : decode b_Verifier_repeatTop 8 = .ok (.invokevirtual 141, 3) := by decide +kernel
theorem d_Verifier_repeatTop_11 : decode b_Verifier_repeatTop 11 = .ok (.aload_n 0, 1) := by decide +kernel
theorem d_Verifier_repeatTop_12 : decode b_Verifier_repeatTop 12 = .ok (.iload_n 1, 1) := by decide +kernel
theorem d_Verifier_repeatTop_13 : decode b_Verifier_repeatTop 13 = .ok (.invokevirtual 141, 3) := by decide +kernel
theorem d_Verifier_repeatTop_16 : decode b_Verifier_repeatTop 16 = .ok (.return_, 1) := by decide +kernel
theorem d_Verifier_swapUpperTwo_0 : decode b_Verifier_swapUpperTwo 0 = .ok (.aload_n 0, 1) := by decide +kernel
theorem d_Verifier_swapUpperTwo_1 : decode b_Verifier_swapUpperTwo 1 = .ok (.iconst 0, 1) := by decide +kernel
theorem d_Verifier_swapUpperTwo_2 : decode b_Verifier_swapUpperTwo 2 = .ok (.invokevirtual 144, 3) := by decide +kernel
theorem d_Verifier_swapUpperTwo_5 : decode b_Verifier_swapUpperTwo 5 = .ok (.istore_n 1, 1) := by decide +kernel
theorem d_Verifier_swapUpperTwo_6 : decode b_Verifier_swapUpperTwo 6 = .ok (.aload_n 0, 1) := by decide +kernel
theorem d_Verifier_swapUpperTwo_7 : decode b_Verifier_swapUpperTwo 7 = .ok (.iconst 0, 1) := by decide +kernel
theorem d_Verifier_swapUpperTwo_8 : decode b_Verifier_swapUpperTwo 8 = .ok (.invokevirtual 144, 3) := by decide +kernel
theorem d_Verifier_swapUpperTwo_11 : decode b_Verifier_swapUpperTwo 11 = .ok (.istore_n 2, 1) := by decide +kernel
theorem d_Verifier_swapUpperTwo_12 : decode b_Verifier_swapUpperTwo 12 = .ok (.aload_n 0, 1) := by decide +kernel
theorem d_Verifier_swapUpperTwo_13 : decode b_Verifier_swapUpperTwo 13 = .ok (.iload_n 1, 1) := by decide +kernel
theorem d_Verifier_swapUpperTwo_14 : decode b_Verifier_swapUpperTwo 14 = .ok (.invokevirtual 141, 3) := by decide +kernel
theorem d_Verifier_swapUpperTwo_17 : decode b_Verifier_swapUpperTwo 17 = .ok (.aload_n 0, 1) := by decide +kernel
theorem d_Verifier_swapUpperTwo_18 : decode b_Verifier_swapUpperTwo 18 = .ok (.iload_n 2, 1) := by decide +kernel
theorem d_Verifier_swapUpperTwo_19 : decode b_Verifier_swapUpperTwo 19 = .ok (.invokevirtual 141, 3) := by decide +kernel
theorem d_Verifier_swapUpperTwo_22 : decode b_Verifier_swapUpperTwo 22 = .ok (.return_, 1) := by decide +kernel
set_option maxHeartbeats 4000000 in
set_option maxRecDepth 100000 in
theorem ml_Reader_readInto_31 {p : Program} {l : Launch} {e : Env} {s : State} {m : MethodId} {args : Array Value} {below : List Frame} {meth : Method} {c : Code} {D : va_G} {dA : Nat → ClassId} {h0 h2 : hc_H} {C0 S0 : Nat} {b : Unit} (hC : hj_C p s m args meth c (gg D dA) b_Reader_readInto 3 none R_Reader "readInto" tb) (x0 : Option Nat) (x1 : Option Nat) (kx : hM Unit) (hk : ∀  (h : hc_H) (C S : Nat), kx  h = some (b, C, S, h2) → hj_J p l e { frames := 4, cells := C0, slots := S0, locals := 93 } s m args below meth c (gg D dA) h0 3 (hj_Q below args s { frames := 4, cells := C0, slots := S0, locals := 93 } (gg D dA) h0 none h2) C S h 98 [(0, vr_ x0)] []) : ∀ (fu : Nat) (v2 : Int32) (h : hc_H) (C S : Nat), p_Reader_readInto_31 x0 x1 kx fu v2 h = some (b, C, S, h2) → hj_J p l e { frames := 4, cells := C0, slots := S0, locals := 93 } s m args below meth c (gg D dA) h0 3 (hj_Q below args s { frames := 4, cells := C0, slots := S0, locals := 93 } (gg D dA) h0 none h2) C S h 31 [(0, vr_ x0), (1, vr_ x1), (2, vi_ v2)] [] := by
  intro fu
  induction fu with
  | zero =>
    intro v2 h C S hr
    cases hr
  | succ fu ih =>
    intro v2 h C S hr
    rw [p_Reader_readInto_31] at hr
    refine hj_iload_n hC 2 d_Reader_readInto_31 rfl rfl ?_
    refine hj_aload_n hC 1 d_Reader_readInto_32 rfl rfl ?_
    refine hj_geti hC cf_Program (k := 1) (by decide) wq_155 rfl d_Reader_readInto_33 hr (fun a2 hr => ?_)
    refine hj_icmp_ge hC 98 d_Reader_readInto_36 (by decide) hr (fun q36 hr => ?_) (fun q36 hr => ?_)
    · refine hj_sub (lv' := [(0, vr_ x0)]) [0] rfl ?_
      exact hk _ _ _ hr
    · refine hj_aload_n hC 0 d_Reader_readInto_39 rfl rfl ?_
      refine hj_getr hC cf_Reader (k := 1) (by decide) wq_102 rfl d_Reader_readInto_40 hr (fun a3 hr => ?_)
      refine hj_geti hC cf_Fault (k := 0) (by decide) wq_118 rfl d_Reader_readInto_43 hr (fun a4 hr => ?_)
      refine hj_if_ne hC 98 d_Reader_readInto_46 (by decide) hr (fun q46 hr => ?_) (fun q46 hr => ?_)
      · refine hj_sub (lv' := [(0, vr_ x0)]) [0] rfl ?_
        exact hk _ _ _ hr
      · refine hj_aload_n hC 0 d_Reader_readInto_49 rfl rfl ?_
        refine hj_aload_n hC 1 d_Reader_readInto_50 rfl rfl ?_
        refine hj_getr hC cf_Program (k := 0) (by decide) wq_156 rfl d_Reader_readInto_51 hr (fun a5 hr => ?_)
        refine hj_iload_n hC 2 d_Reader_readInto_54 rfl rfl ?_
        refine hj_aald hC (kd := 8) rfl d_Reader_readInto_55 hr (fun a6 hr => ?_)
        refine hj_iload_n hC 2 d_Reader_readInto_56 rfl rfl ?_
        refine hj_jn hC (K := Int32 → hM Unit) (fun k => ∀ (z7 : Int32) (h : hc_H) (C S : Nat), k z7 h = some (b, C, S, h2) → hj_J p l e { frames := 4, cells := C0, slots := S0, locals := 93 } s m args below meth c (gg D dA) h0 3 (hj_Q below args s { frames := 4, cells := C0, slots := S0, locals := 93 } (gg D dA) h0 none h2) C S h 65 [(0, vr_ x0), (1, vr_ x1), (2, vi_ v2)] [vi_ z7, vr_ a6, vr_ x0]) hr (fun z7 h C S hr => ?_) (fun k65 hk65 hr => ?_)
        · refine hj_callV hC hG (enc := (fun _ : Unit => none)) (As := [vr_ a6, vi_ z7]) (st := []) (fun h a C S h1 hr => m_Reader_head _ _ _ h a C S h1 hr) cf_Reader wq_166 wq_167 wq_168 wq_117 wq_157 yk_Reader_head rfl ⟨Nat.le_of_ble_eq_true rfl, Nat.le_of_ble_eq_true rfl⟩ rfl (Nat.le_of_ble_eq_true rfl) d_Reader_readInto_65 hr (fun _ h C S hr => ?_)
          refine hj_aload_n hC 0 d_Reader_readInto_68 rfl rfl ?_
          refine hj_aload_n hC 1 d_Reader_readInto_69 rfl rfl ?_
          refine hj_getr hC cf_Program (k := 0) (by decide) wq_156 rfl d_Reader_readInto_70 hr (fun a8 hr => ?_)
          refine hj_iload_n hC 2 d_Reader_readInto_73 rfl rfl ?_
          refine hj_aald hC (kd := 8) rfl d_Reader_readInto_74 hr (fun a9 hr => ?_)
          refine hj_aload_n hC 1 d_Reader_readInto_75 rfl rfl ?_
          refine hj_geti hC cf_Program (k := 1) (by decide) wq_155 rfl d_Reader_readInto_76 hr (fun a10 hr => ?_)
          refine hj_callV hC hG (enc := (fun _ : Unit => none)) (As := [vr_ a9, vi_ a10]) (st := []) (fun h a C S h1 hr => m_Reader_instructions _ _ _ h a C S h1 hr) cf_Reader wq_163 wq_164 wq_165 wq_117 wq_158 yk_Reader_instructions rfl ⟨Nat.le_of_ble_eq_true rfl, Nat.le_of_ble_eq_true rfl⟩ rfl (Nat.le_of_ble_eq_true rfl) d_Reader_readInto_79 hr (fun _ h C S hr => ?_)
          refine hj_aload_n hC 0 d_Reader_readInto_82 rfl rfl ?_
          refine hj_aload_n hC 1 d_Reader_readInto_83 rfl rfl ?_
          refine hj_getr hC cf_Program (k := 0) (by decide) wq_156 rfl d_Reader_readInto_84 hr (fun a11 hr => ?_)
          refine hj_iload_n hC 2 d_Reader_readInto_87 rfl rfl ?_
          refine hj_aald hC (kd := 8) rfl d_Reader_readInto_88 hr (fun a12 hr => ?_)
          refine hj_callV hC hG (enc := (fun _ : Unit => none)) (As := [vr_ a12]) (st := []) (fun h a C S h1 hr => m_Reader_handlers _ _ h a C S h1 hr) cf_Reader wq_160 wq_161 wq_162 wq_117 wq_159 yk_Reader_handlers rfl ⟨Nat.le_of_ble_eq_true rfl, Nat.le_of_ble_eq_true rfl⟩ rfl (Nat.le_of_ble_eq_true rfl) d_Reader_readInto_89 hr (fun _ h C S hr => ?_)
          refine hj_iinc hC (lv' := [(2, vi_ (v2 + 1)), (0, vr_ x0), (1, vr_ x1)]) 2 d_Reader_readInto_92 rfl rfl (by decide) rfl ?_
          refine hj_goto hC 31 d_Reader_readInto_95 (by decide) ?_
          refine hj_sub (lv' := [(0, vr_ x0), (1, vr_ x1), (2, vi_ (v2 + 1))]) [1, 2, 0] rfl ?_
          exact ih _ _ _ _ hr
        · refine hj_if_ne hC 64 d_Reader_readInto_57 (by decide) hr (fun q57 hr => ?_) (fun q57 hr => ?_)
          · refine hj_iconst hC (v := 0) d_Reader_readInto_64 (by decide) ?_
            exact hk65 _ _ _ _ hr
          · refine hj_iconst hC (v := 1) d_Reader_readInto_60 (by decide) ?_
            refine hj_goto hC 65 d_Reader_readInto_61 (by decide) ?_
            exact hk65 _ _ _ _ hr
set_option maxHeartbeats 4000000 in
set_option maxRecDepth 100000 in
theorem m_Reader_readInto {l : Launch} {D : va_G} {dA : Nat → ClassId} (o : Option Nat) (x1 : Option Nat) (h0 : hc_H) (b : Unit) (C0 S0 : Nat) (h2 : hc_H) (hr : p_Reader_readInto o x1 h0 = some (b, C0, S0, h2)) : hc_Met l (gg D dA) y_Reader_readInto b_Reader_readInto 3 none tb 4 93 [vr_ o, vr_ x1] h0 C0 S0 none h2 := by
  refine hc_Met.of (by decide) (Nat.le_of_ble_eq_true rfl) ?_
  intro p e s m args below meth c hC
  unfold p_Reader_readInto at hr
  refine hj_sub (lv' := [(0, vr_ o), (1, vr_ x1)]) [0, 1] rfl ?_
  refine hj_aload_n hC 0 d_Reader_readInto_0 rfl rfl ?_
  refine hj_bipush hC (v := 71) d_Reader_readInto_1 (by decide) ?_
  refine hj_callV hC hG (enc := (fun _ : Unit => none)) (As := [vi_ 71]) (st := []) (fun h a C S h1 hr => m_Reader_start _ _ h a C S h1 hr) cf_Reader wq_172 wq_173 wq_174 wq_117 wq_153 yk_Reader_start rfl ⟨Nat.le_of_ble_eq_true rfl, Nat.le_of_ble_eq_true rfl⟩ rfl (Nat.le_of_ble_eq_true rfl) d_Reader_readInto_3 hr (fun _ h C S hr => ?_)
  refine hj_aload_n hC 0 d_Reader_readInto_6 rfl rfl ?_
  refine hj_bipush hC (v := 70) d_Reader_readInto_7 (by decide) ?_
  refine hj_callV hC hG (enc := (fun _ : Unit => none)) (As := [vi_ 70]) (st := []) (fun h a C S h1 hr => m_Reader_start _ _ h a C S h1 hr) cf_Reader wq_172 wq_173 wq_174 wq_117 wq_153 yk_Reader_start rfl ⟨Nat.le_of_ble_eq_true rfl, Nat.le_of_ble_eq_true rfl⟩ rfl (Nat.le_of_ble_eq_true rfl) d_Reader_readInto_9 hr (fun _ h C S hr => ?_)
  refine hj_aload_n hC 0 d_Reader_readInto_12 rfl rfl ?_
  refine hj_iconst hC (v := 1) d_Reader_readInto_13 (by decide) ?_
  refine hj_callV hC hG (enc := (fun _ : Unit => none)) (As := [vi_ 1]) (st := []) (fun h a C S h1 hr => m_Reader_start _ _ h a C S h1 hr) cf_Reader wq_172 wq_173 wq_174 wq_117 wq_153 yk_Reader_start rfl ⟨Nat.le_of_ble_eq_true rfl, Nat.le_of_ble_eq_true rfl⟩ rfl (Nat.le_of_ble_eq_true rfl) d_Reader_readInto_14 hr (fun _ h C S hr => ?_)
  refine hj_aload_n hC 1 d_Reader_readInto_17 rfl rfl ?_
  refine hj_aload_n hC 0 d_Reader_readInto_18 rfl rfl ?_
  refine hj_iconst hC (v := 1) d_Reader_readInto_19 (by decide) ?_
  refine hj_iconst hC (v := 1) d_Reader_readInto_20 (by decide) ?_
  refine hj_bipush hC (v := 12) d_Reader_readInto_21 (by decide) ?_
  refine hj_callV hC hG (enc := (fun a : Int32 => some (vi_ a))) (As := [vi_ 1, vi_ 1, vi_ 12]) (st := [vr_ x1]) (fun h a C S h1 hr => m_Reader_number _ _ _ _ h a C S h1 hr) cf_Reader wq_125 wq_126 wq_127 wq_117 wq_119 yk_Reader_number rfl ⟨Nat.le_of_ble_eq_true rfl, Nat.le_of_ble_eq_true rfl⟩ rfl (Nat.le_of_ble_eq_true rfl) d_Reader_readInto_23 hr (fun a1 h C S hr => ?_)
  refine hj_callV hC hG (enc := (fun _ : Unit => none)) (As := [vi_ a1]) (st := []) (fun h a C S h1 hr => m_Program_setCount _ _ h a C S h1 hr) cf_Program wq_169 wq_170 wq_171 wq_57 wq_154 yk_Program_setCount rfl ⟨Nat.le_of_ble_eq_true rfl, Nat.le_of_ble_eq_true rfl⟩ rfl (Nat.le_of_ble_eq_true rfl) d_Reader_readInto_26 hr (fun _ h C S hr => ?_)
  refine hj_iconst hC (v := 0) d_Reader_readInto_29 (by decide) ?_
  refine hj_istore_n hC (lv' := [(2, vi_ 0), (0, vr_ o), (1, vr_ x1)]) d_Reader_readInto_30 rfl (by decide) rfl ?_
  refine hj_sub (lv' := [(0, vr_ o), (1, vr_ x1), (2, vi_ 0)]) [1, 2, 0] rfl ?_
  refine ml_Reader_readInto_31 hC _ _ _ (fun  h C S hr => ?_) _ _ _ _ _ hr
  refine hj_aload_n hC 0 d_Reader_readInto_98 rfl rfl ?_
  refine hj_geti hC cf_Reader (k := 2) (by decide) wq_103 rfl d_Reader_readInto_99 hr (fun a13 hr => ?_)
  refine hj_aload_n hC 0 d_Reader_readInto_102 rfl rfl ?_
  refine hj_getr hC cf_Reader (k := 0) (by decide) wq_101 rfl d_Reader_readInto_103 hr (fun a14 hr => ?_)
  refine hj_geti hC cf_ByteRow (k := 2) (by decide) wq_104 rfl d_Reader_readInto_106 hr (fun a15 hr => ?_)
  refine hj_icmp_ge hC 124 d_Reader_readInto_109 (by decide) hr (fun q109 hr => ?_) (fun q109 hr => ?_)
  · exact hj_vret hC d_Reader_readInto_124 hr
  · refine hj_aload_n hC 0 d_Reader_readInto_112 rfl rfl ?_
    refine hj_getr hC cf_Reader (k := 1) (by decide) wq_102 rfl d_Reader_readInto_113 hr (fun a16 hr => ?_)
    refine hj_iconst hC (v := 4) d_Reader_readInto_116 (by decide) ?_
    refine hj_aload_n hC 0 d_Reader_readInto_117 rfl rfl ?_
    refine hj_geti hC cf_Reader (k := 2) (by decide) wq_103 rfl d_Reader_readInto_118 hr (fun a17 hr => ?_)
    refine hj_callV hC hG (enc := (fun _ : Unit => none)) (As := [vi_ 4, vi_ a17]) (st := []) (fun h a C S h1 hr => m_Fault_tell _ _ _ h a C S h1 hr) cf_Fault wq_110 wq_111 wq_112 wq_47 wq_109 yk_Fault_tell rfl ⟨Nat.le_of_ble_eq_true rfl, Nat.le_of_ble_eq_true rfl⟩ rfl (Nat.le_of_ble_eq_true rfl) d_Reader_readInto_121 hr (fun _ h C S hr => ?_)
    exact hj_vret hC d_Reader_readInto_124 hr
set_option maxHeartbeats 4000000 in
set_option maxRecDepth 100000 in
theorem m_Program_at {l : Launch} {D : va_G} {dA : Nat → ClassId} (o : Option Nat) (x1 : Int32) (h0 : hc_H) (b : Option Nat) (C0 S0 : Nat) (h2 : hc_H) (hr : p_Program_at o x1 h0 = some (b, C0, S0, h2)) : hc_Met l (gg D dA) y_Program_at b_Program_at 2 (some (.object "StackBytes$Function")) tb 0 0 [vr_ o, vi_ x1] h0 C0 S0 (some (vr_ b)) h2 := by
  refine hc_Met.of (by decide) (Nat.le_of_ble_eq_true rfl) ?_
  intro p e s m args below meth c hC
  unfold p_Program_at at hr
  refine hj_sub (lv' := [(0, vr_ o), (1, vi_ x1)]) [0, 1] rfl ?_
  refine hj_iload_n hC 1 d_Program_at_0 rfl rfl ?_
  refine hj_jn hC (K := hM (Option Nat)) (fun k => ∀  (h : hc_H) (C S : Nat), k  h = some (b, C, S, h2) → hj_J p l e { frames := 0, cells := C0, slots := S0, locals := 0 } s m args below meth c (gg D dA) h0 2 (hj_Q below args s { frames := 0, cells := C0, slots := S0, locals := 0 } (gg D dA) h0 (some (vr_ b)) h2) C S h 12 [] []) hr (fun  h C S hr => ?_) (fun k12 hk12 hr => ?_)
  · refine hj_null hC d_Program_at_12 ?_
    refine hj_goto hC 22 d_Program_at_13 (by decide) ?_
    exact hj_aret hC (by first | exact Or.inl ⟨_, rfl⟩ | exact Or.inr ⟨_, rfl⟩) d_Program_at_22 hr
  · refine hj_if_lt hC 12 d_Program_at_1 (by decide) hr (fun q1 hr => ?_) (fun q1 hr => ?_)
    · refine hj_sub (lv' := []) [] rfl ?_
      exact hk12 _ _ _ hr
    · refine hj_iload_n hC 1 d_Program_at_4 rfl rfl ?_
      refine hj_aload_n hC 0 d_Program_at_5 rfl rfl ?_
      refine hj_geti hC cf_Program (k := 1) (by decide) wq_35 rfl d_Program_at_6 hr (fun a1 hr => ?_)
      refine hj_icmp_lt hC 16 d_Program_at_9 (by decide) hr (fun q9 hr => ?_) (fun q9 hr => ?_)
      · refine hj_aload_n hC 0 d_Program_at_16 rfl rfl ?_
        refine hj_getr hC cf_Program (k := 0) (by decide) wq_31 rfl d_Program_at_17 hr (fun a2 hr => ?_)
        refine hj_iload_n hC 1 d_Program_at_20 rfl rfl ?_
        refine hj_aald hC (kd := 8) rfl d_Program_at_21 hr (fun a3 hr => ?_)
        exact hj_aret hC (by first | exact Or.inl ⟨_, rfl⟩ | exact Or.inr ⟨_, rfl⟩) d_Program_at_22 hr
      · refine hj_sub (lv' := []) [] rfl ?_
        exact hk12 _ _ _ hr
set_option maxHeartbeats 4000000 in
set_option maxRecDepth 100000 in
theorem m_Function_has {l : Launch} {D : va_G} {dA : Nat → ClassId} (o : Option Nat) (x1 : Int32) (h0 : hc_H) (b : Int32) (C0 S0 : Nat) (h2 : hc_H) (hr : p_Function_has o x1 h0 = some (b, C0, S0, h2)) : hc_Met l (gg D dA) y_Function_has b_Function_has 2 (some .boolean) tb 0 0 [vr_ o, vi_ x1] h0 C0 S0 (some (vi_ b)) h2 := by
  refine hc_Met.of (by decide) (Nat.le_of_ble_eq_true rfl) ?_
  intro p e s m args below meth c hC
  unfold p_Function_has at hr
  refine hj_sub (lv' := [(0, vr_ o), (1, vi_ x1)]) [0, 1] rfl ?_
  refine hj_iload_n hC 1 d_Function_has_0 rfl rfl ?_
  refine hj_if_lt hC 16 d_Function_has_1 (by decide) hr (fun q1 hr => ?_) (fun q1 hr => ?_)
  · refine hj_iconst hC (v := 0) d_Function_has_16 (by decide) ?_
    exact hj_zret hC d_Function_has_17 hr
  · refine hj_iload_n hC 1 d_Function_has_4 rfl rfl ?_
    refine hj_aload_n hC 0 d_Function_has_5 rfl rfl ?_
    refine hj_geti hC cf_Function (k := 4) (by decide) wq_24 rfl d_Function_has_6 hr (fun a1 hr => ?_)
    refine hj_icmp_ge hC 16 d_Function_has_9 (by decide) hr (fun q9 hr => ?_) (fun q9 hr => ?_)
    · refine hj_iconst hC (v := 0) d_Function_has_16 (by decide) ?_
      exact hj_zret hC d_Function_has_17 hr
    · refine hj_iconst hC (v := 1) d_Function_has_12 (by decide) ?_
      refine hj_goto hC 17 d_Function_has_13 (by decide) ?_
      exact hj_zret hC d_Function_has_17 hr
set_option maxHeartbeats 4000000 in
set_option maxRecDepth 100000 in
theorem m_Verifier_comeTo {l : Launch} {D : va_G} {dA : Nat → ClassId} (o : Option Nat) (x1 : Int32) (x2 : Int32) (x3 : Int32) (h0 : hc_H) (b : Unit) (C0 S0 : Nat) (h2 : hc_H) (hr : p_Verifier_comeTo o x1 x2 x3 h0 = some (b, C0, S0, h2)) : hc_Met l (gg D dA) y_Verifier_comeTo b_Verifier_comeTo 4 none tb 1 22 [vr_ o, vi_ x1, vi_ x2, vi_ x3] h0 C0 S0 none h2 := by
  refine hc_Met.of (by decide) (Nat.le_of_ble_eq_true rfl) ?_
  intro p e s m args below meth c hC
  unfold p_Verifier_comeTo at hr
  refine hj_sub (lv' := [(0, vr_ o), (1, vi_ x1), (2, vi_ x2), (3, vi_ x3)]) [0, 1, 2, 3] rfl ?_
  refine hj_aload_n hC 0 d_Verifier_comeTo_0 rfl rfl ?_
  refine hj_getr hC cf_Verifier (k := 6) (by decide) wq_175 rfl d_Verifier_comeTo_1 hr (fun a1 hr => ?_)
  refine hj_geti hC cf_Fault (k := 0) (by decide) wq_176 rfl d_Verifier_comeTo_4 hr (fun a2 hr => ?_)
  refine hj_if_ne hC 21 d_Verifier_comeTo_7 (by decide) hr (fun q7 hr => ?_) (fun q7 hr => ?_)
  · exact hj_vret hC d_Verifier_comeTo_21 hr
  · refine hj_aload_n hC 0 d_Verifier_comeTo_10 rfl rfl ?_
    refine hj_getr hC cf_Verifier (k := 5) (by decide) wq_177 rfl d_Verifier_comeTo_11 hr (fun a3 hr => ?_)
    refine hj_iload_n hC 1 d_Verifier_comeTo_14 rfl rfl ?_
    refine hj_callV hC hG (enc := (fun a : Int32 => some (vi_ a))) (As := [vi_ x1]) (st := []) (fun h a C S h1 hr => m_Function_has _ _ h a C S h1 hr) cf_Function wq_183 wq_184 wq_185 wq_33 wq_178 yk_Function_has rfl ⟨Nat.le_of_ble_eq_true rfl, Nat.le_of_ble_eq_true rfl⟩ rfl (Nat.le_of_ble_eq_true rfl) d_Verifier_comeTo_15 hr (fun a4 h C S hr => ?_)
    refine hj_if_ne hC 22 d_Verifier_comeTo_18 (by decide) hr (fun q18 hr => ?_) (fun q18 hr => ?_)
    · refine hj_aload_n hC 0 d_Verifier_comeTo_22 rfl rfl ?_
      refine hj_getr hC cf_Verifier (k := 0) (by decide) wq_12 rfl d_Verifier_comeTo_23 hr (fun a5 hr => ?_)
      refine hj_iload_n hC 1 d_Verifier_comeTo_26 rfl rfl ?_
      refine hj_iald hC (kd := 4) rfl d_Verifier_comeTo_27 hr (fun a6 hr => ?_)
      refine hj_iconst hC (v := (-1)) d_Verifier_comeTo_28 (by decide) ?_
      refine hj_icmp_ne hC 68 d_Verifier_comeTo_29 (by decide) hr (fun q29 hr => ?_) (fun q29 hr => ?_)
      · refine hj_aload_n hC 0 d_Verifier_comeTo_68 rfl rfl ?_
        refine hj_getr hC cf_Verifier (k := 0) (by decide) wq_12 rfl d_Verifier_comeTo_69 hr (fun a7 hr => ?_)
        refine hj_iload_n hC 1 d_Verifier_comeTo_72 rfl rfl ?_
        refine hj_iald hC (kd := 4) rfl d_Verifier_comeTo_73 hr (fun a8 hr => ?_)
        refine hj_iload_n hC 2 d_Verifier_comeTo_74 rfl rfl ?_
        refine hj_jn hC (K := hM Unit) (fun k => ∀  (h : hc_H) (C S : Nat), k  h = some (b, C, S, h2) → hj_J p l e { frames := 1, cells := C0, slots := S0, locals := 22 } s m args below meth c (gg D dA) h0 4 (hj_Q below args s { frames := 1, cells := C0, slots := S0, locals := 22 } (gg D dA) h0 none h2) C S h 88 [(0, vr_ o), (1, vi_ x1)] []) hr (fun  h C S hr => ?_) (fun k88 hk88 hr => ?_)
        · refine hj_aload_n hC 0 d_Verifier_comeTo_88 rfl rfl ?_
          refine hj_getr hC cf_Verifier (k := 6) (by decide) wq_175 rfl d_Verifier_comeTo_89 hr (fun a9 hr => ?_)
          refine hj_bipush hC (v := 7) d_Verifier_comeTo_92 (by decide) ?_
          refine hj_aload_n hC 0 d_Verifier_comeTo_94 rfl rfl ?_
          refine hj_geti hC cf_Verifier (k := 7) (by decide) wq_179 rfl d_Verifier_comeTo_95 hr (fun a10 hr => ?_)
          refine hj_iload_n hC 1 d_Verifier_comeTo_98 rfl rfl ?_
          refine hj_iadd hC d_Verifier_comeTo_99 ?_
          refine hj_callV hC hG (enc := (fun _ : Unit => none)) (As := [vi_ 7, vi_ (a10 + x1)]) (st := []) (fun h a C S h1 hr => m_Fault_tell _ _ _ h a C S h1 hr) cf_Fault wq_180 wq_111 wq_112 wq_47 wq_109 yk_Fault_tell rfl ⟨Nat.le_of_ble_eq_true rfl, Nat.le_of_ble_eq_true rfl⟩ rfl (Nat.le_of_ble_eq_true rfl) d_Verifier_comeTo_100 hr (fun _ h C S hr => ?_)
          exact hj_vret hC d_Verifier_comeTo_103 hr
        · refine hj_icmp_ne hC 88 d_Verifier_comeTo_75 (by decide) hr (fun q75 hr => ?_) (fun q75 hr => ?_)
          · refine hj_sub (lv' := [(0, vr_ o), (1, vi_ x1)]) [0, 1] rfl ?_
            exact hk88 _ _ _ hr
          · refine hj_aload_n hC 0 d_Verifier_comeTo_78 rfl rfl ?_
            refine hj_getr hC cf_Verifier (k := 1) (by decide) wq_13 rfl d_Verifier_comeTo_79 hr (fun a11 hr => ?_)
            refine hj_iload_n hC 1 d_Verifier_comeTo_82 rfl rfl ?_
            refine hj_iald hC (kd := 5) rfl d_Verifier_comeTo_83 hr (fun a12 hr => ?_)
            refine hj_iload_n hC 3 d_Verifier_comeTo_84 rfl rfl ?_
            refine hj_icmp_eq hC 103 d_Verifier_comeTo_85 (by decide) hr (fun q85 hr => ?_) (fun q85 hr => ?_)
            · exact hj_vret hC d_Verifier_comeTo_103 hr
            · refine hj_sub (lv' := [(0, vr_ o), (1, vi_ x1)]) [0, 1] rfl ?_
              exact hk88 _ _ _ hr
      · refine hj_aload_n hC 0 d_Verifier_comeTo_32 rfl rfl ?_
        refine hj_getr hC cf_Verifier (k := 0) (by decide) wq_12 rfl d_Verifier_comeTo_33 hr (fun a13 hr => ?_)
        refine hj_iload_n hC 1 d_Verifier_comeTo_36 rfl rfl ?_
        refine hj_iload_n hC 2 d_Verifier_comeTo_37 rfl rfl ?_
        refine hj_iast hC (kd := 4) rfl d_Verifier_comeTo_38 hr (fun h hr => ?_)
        refine hj_aload_n hC 0 d_Verifier_comeTo_39 rfl rfl ?_
        refine hj_getr hC cf_Verifier (k := 1) (by decide) wq_13 rfl d_Verifier_comeTo_40 hr (fun a14 hr => ?_)
        refine hj_iload_n hC 1 d_Verifier_comeTo_43 rfl rfl ?_
        refine hj_iload_n hC 3 d_Verifier_comeTo_44 rfl rfl ?_
        refine hj_iast hC (kd := 5) rfl d_Verifier_comeTo_45 hr (fun h hr => ?_)
        refine hj_aload_n hC 0 d_Verifier_comeTo_46 rfl rfl ?_
        refine hj_getr hC cf_Verifier (k := 2) (by decide) wq_15 rfl d_Verifier_comeTo_47 hr (fun a15 hr => ?_)
        refine hj_iload_n hC 1 d_Verifier_comeTo_50 rfl rfl ?_
        refine hj_iconst hC (v := 1) d_Verifier_comeTo_51 (by decide) ?_
        refine hj_zast hC (kd := 6) rfl d_Verifier_comeTo_52 hr (fun h hr => ?_)
        refine hj_aload_n hC 0 d_Verifier_comeTo_53 rfl rfl ?_
        refine hj_aload_n hC 0 d_Verifier_comeTo_54 rfl rfl ?_
        refine hj_geti hC cf_Verifier (k := 3) (by decide) wq_181 rfl d_Verifier_comeTo_55 hr (fun a16 hr => ?_)
        refine hj_iload_n hC 1 d_Verifier_comeTo_58 rfl rfl ?_
        refine hj_mmin hC wq_182 wq_69 wq_70 wq_71 (Nat.le_of_ble_eq_true rfl) (Nat.le_of_ble_eq_true rfl) d_Verifier_comeTo_59 ?_
        refine hj_puti hC cf_Verifier (k := 3) (by decide) wq_181 rfl (Or.inl rfl) rfl d_Verifier_comeTo_62 hr (fun h hr => ?_)
        refine hj_goto hC 103 d_Verifier_comeTo_65 (by decide) ?_
        exact hj_vret hC d_Verifier_comeTo_103 hr
    · exact hj_vret hC d_Verifier_comeTo_21 hr
set_option maxHeartbeats 4000000 in
set_option maxRecDepth 100000 in
theorem ml_Verifier_begin_2 {p : Program} {l : Launch} {e : Env} {s : State} {m : MethodId} {args : Array Value} {below : List Frame} {meth : Method} {c : Code} {D : va_G} {dA : Nat → ClassId} {h0 h2 : hc_H} {C0 S0 : Nat} {b : Unit} (hC : hj_C p s m args meth c (gg D dA) b_Verifier_begin 2 none R_Verifier "begin" tb) (x0 : Option Nat) (kx : hM Unit) (hk : ∀  (h : hc_H) (C S : Nat), kx  h = some (b, C, S, h2) → hj_J p l e { frames := 2, cells := C0, slots := S0, locals := 45 } s m args below meth c (gg D dA) h0 2 (hj_Q below args s { frames := 2, cells := C0, slots := S0, locals := 45 } (gg D dA) h0 none h2) C S h 40 [(0, vr_ x0)] []) : ∀ (fu : Nat) (v1 : Int32) (h : hc_H) (C S : Nat), p_Verifier_begin_2 x0 kx fu v1 h = some (b, C, S, h2) → hj_J p l e { frames := 2, cells := C0, slots := S0, locals := 45 } s m args below meth c (gg D dA) h0 2 (hj_Q below args s { frames := 2, cells := C0, slots := S0, locals := 45 } (gg D dA) h0 none h2) C S h 2 [(0, vr_ x0), (1, vi_ v1)] [] := by
  intro fu
  induction fu with
  | zero =>
    intro v1 h C S hr
    cases hr
  | succ fu ih =>
    intro v1 h C S hr
    rw [p_Verifier_begin_2] at hr
    refine hj_iload_n hC 1 d_Verifier_begin_2 rfl rfl ?_
    refine hj_aload_n hC 0 d_Verifier_begin_3 rfl rfl ?_
    refine hj_getr hC cf_Verifier (k := 5) (by decide) wq_177 rfl d_Verifier_begin_4 hr (fun a1 hr => ?_)
    refine hj_geti hC cf_Function (k := 4) (by decide) wq_186 rfl d_Verifier_begin_7 hr (fun a2 hr => ?_)
    refine hj_icmp_ge hC 40 d_Verifier_begin_10 (by decide) hr (fun q10 hr => ?_) (fun q10 hr => ?_)
    · refine hj_sub (lv' := [(0, vr_ x0)]) [0] rfl ?_
      exact hk _ _ _ hr
    · refine hj_aload_n hC 0 d_Verifier_begin_13 rfl rfl ?_
      refine hj_getr hC cf_Verifier (k := 0) (by decide) wq_12 rfl d_Verifier_begin_14 hr (fun a3 hr => ?_)
      refine hj_iload_n hC 1 d_Verifier_begin_17 rfl rfl ?_
      refine hj_iconst hC (v := (-1)) d_Verifier_begin_18 (by decide) ?_
      refine hj_iast hC (kd := 4) rfl d_Verifier_begin_19 hr (fun h hr => ?_)
      refine hj_aload_n hC 0 d_Verifier_begin_20 rfl rfl ?_
      refine hj_getr hC cf_Verifier (k := 1) (by decide) wq_13 rfl d_Verifier_begin_21 hr (fun a4 hr => ?_)
      refine hj_iload_n hC 1 d_Verifier_begin_24 rfl rfl ?_
      refine hj_iconst hC (v := 0) d_Verifier_begin_25 (by decide) ?_
      refine hj_iast hC (kd := 5) rfl d_Verifier_begin_26 hr (fun h hr => ?_)
      refine hj_aload_n hC 0 d_Verifier_begin_27 rfl rfl ?_
      refine hj_getr hC cf_Verifier (k := 2) (by decide) wq_15 rfl d_Verifier_begin_28 hr (fun a5 hr => ?_)
      refine hj_iload_n hC 1 d_Verifier_begin_31 rfl rfl ?_
      refine hj_iconst hC (v := 0) d_Verifier_begin_32 (by decide) ?_
      refine hj_zast hC (kd := 6) rfl d_Verifier_begin_33 hr (fun h hr => ?_)
      refine hj_iinc hC (lv' := [(1, vi_ (v1 + 1)), (0, vr_ x0)]) 1 d_Verifier_begin_34 rfl rfl (by decide) rfl ?_
      refine hj_goto hC 2 d_Verifier_begin_37 (by decide) ?_
      refine hj_sub (lv' := [(0, vr_ x0), (1, vi_ (v1 + 1))]) [1, 0] rfl ?_
      exact ih _ _ _ _ hr
set_option maxHeartbeats 4000000 in
set_option maxRecDepth 100000 in
theorem m_Verifier_begin {l : Launch} {D : va_G} {dA : Nat → ClassId} (o : Option Nat) (h0 : hc_H) (b : Unit) (C0 S0 : Nat) (h2 : hc_H) (hr : p_Verifier_begin o h0 = some (b, C0, S0, h2)) : hc_Met l (gg D dA) y_Verifier_begin b_Verifier_begin 2 none tb 2 45 [vr_ o] h0 C0 S0 none h2 := by
  refine hc_Met.of (by decide) (Nat.le_of_ble_eq_true rfl) ?_
  intro p e s m args below meth c hC
  unfold p_Verifier_begin at hr
  refine hj_sub (lv' := [(0, vr_ o)]) [0] rfl ?_
  refine hj_iconst hC (v := 0) d_Verifier_begin_0 (by decide) ?_
  refine hj_istore_n hC (lv' := [(1, vi_ 0), (0, vr_ o)]) d_Verifier_begin_1 rfl (by decide) rfl ?_
  refine hj_sub (lv' := [(0, vr_ o), (1, vi_ 0)]) [1, 0] rfl ?_
  refine ml_Verifier_begin_2 hC _ _ (fun  h C S hr => ?_) _ _ _ _ _ hr
  refine hj_aload_n hC 0 d_Verifier_begin_40 rfl rfl ?_
  refine hj_iconst hC (v := 0) d_Verifier_begin_41 (by decide) ?_
  refine hj_puti hC cf_Verifier (k := 3) (by decide) wq_181 rfl (Or.inl rfl) rfl d_Verifier_begin_42 hr (fun h hr => ?_)
  refine hj_aload_n hC 0 d_Verifier_begin_45 rfl rfl ?_
  refine hj_iconst hC (v := 0) d_Verifier_begin_46 (by decide) ?_
  refine hj_iconst hC (v := 0) d_Verifier_begin_47 (by decide) ?_
  refine hj_iconst hC (v := 0) d_Verifier_begin_48 (by decide) ?_
  refine hj_callV hC hG (enc := (fun _ : Unit => none)) (As := [vi_ 0, vi_ 0, vi_ 0]) (st := []) (fun h a C S h1 hr => m_Verifier_comeTo _ _ _ _ h a C S h1 hr) cf_Verifier wq_188 wq_189 wq_190 wq_52 wq_187 yk_Verifier_comeTo rfl ⟨Nat.le_of_ble_eq_true rfl, Nat.le_of_ble_eq_true rfl⟩ rfl (Nat.le_of_ble_eq_true rfl) d_Verifier_begin_49 hr (fun _ h C S hr => ?_)
  exact hj_vret hC d_Verifier_begin_52 hr
set_option maxHeartbeats 4000000 in
set_option maxRecDepth 100000 in
theorem ml_Verifier_findLeastWaiting_0 {p : Program} {l : Launch} {e : Env} {s : State} {m : MethodId} {args : Array Value} {below : List Frame} {meth : Method} {c : Code} {D : va_G} {dA : Nat → ClassId} {h0 h2 : hc_H} {C0 S0 : Nat} {b : Int32} (hC : hj_C p s m args meth c (gg D dA) b_Verifier_findLeastWaiting 1 (some .boolean) R_Verifier "findLeastWaiting" tb) (x0 : Option Nat) (kx : hM Int32) (hk : ∀  (h : hc_H) (C S : Nat), kx  h = some (b, C, S, h2) → hj_J p l e { frames := 0, cells := C0, slots := S0, locals := 0 } s m args below meth c (gg D dA) h0 1 (hj_Q below args s { frames := 0, cells := C0, slots := S0, locals := 0 } (gg D dA) h0 (some (vi_ b)) h2) C S h 39 [(0, vr_ x0)] []) : ∀ (fu : Nat)  (h : hc_H) (C S : Nat), p_Verifier_findLeastWaiting_0 x0 kx fu  h = some (b, C, S, h2) → hj_J p l e { frames := 0, cells := C0, slots := S0, locals := 0 } s m args below meth c (gg D dA) h0 1 (hj_Q below args s { frames := 0, cells := C0, slots := S0, locals := 0 } (gg D dA) h0 (some (vi_ b)) h2) C S h 0 [(0, vr_ x0)] [] := by
  intro fu
  induction fu with
  | zero =>
    intro  h C S hr
    cases hr
  | succ fu ih =>
    intro  h C S hr
    rw [p_Verifier_findLeastWaiting_0] at hr
    refine hj_aload_n hC 0 d_Verifier_findLeastWaiting_0 rfl rfl ?_
    refine hj_geti hC cf_Verifier (k := 3) (by decide) wq_181 rfl d_Verifier_findLeastWaiting_1 hr (fun a1 hr => ?_)
    refine hj_aload_n hC 0 d_Verifier_findLeastWaiting_4 rfl rfl ?_
    refine hj_getr hC cf_Verifier (k := 5) (by decide) wq_177 rfl d_Verifier_findLeastWaiting_5 hr (fun a2 hr => ?_)
    refine hj_geti hC cf_Function (k := 4) (by decide) wq_186 rfl d_Verifier_findLeastWaiting_8 hr (fun a3 hr => ?_)
    refine hj_icmp_ge hC 39 d_Verifier_findLeastWaiting_11 (by decide) hr (fun q11 hr => ?_) (fun q11 hr => ?_)
    · exact hk _ _ _ hr
    · refine hj_aload_n hC 0 d_Verifier_findLeastWaiting_14 rfl rfl ?_
      refine hj_getr hC cf_Verifier (k := 2) (by decide) wq_15 rfl d_Verifier_findLeastWaiting_15 hr (fun a4 hr => ?_)
      refine hj_aload_n hC 0 d_Verifier_findLeastWaiting_18 rfl rfl ?_
      refine hj_geti hC cf_Verifier (k := 3) (by decide) wq_181 rfl d_Verifier_findLeastWaiting_19 hr (fun a5 hr => ?_)
      refine hj_zald hC (kd := 6) rfl d_Verifier_findLeastWaiting_22 hr (fun a6 hr => ?_)
      refine hj_if_ne hC 39 d_Verifier_findLeastWaiting_23 (by decide) hr (fun q23 hr => ?_) (fun q23 hr => ?_)
      · exact hk _ _ _ hr
      · refine hj_aload_n hC 0 d_Verifier_findLeastWaiting_26 rfl rfl ?_
        refine hj_dup hC d_Verifier_findLeastWaiting_27 rfl ?_
        refine hj_geti hC cf_Verifier (k := 3) (by decide) wq_181 rfl d_Verifier_findLeastWaiting_28 hr (fun a7 hr => ?_)
        refine hj_iconst hC (v := 1) d_Verifier_findLeastWaiting_31 (by decide) ?_
        refine hj_iadd hC d_Verifier_findLeastWaiting_32 ?_
        refine hj_puti hC cf_Verifier (k := 3) (by decide) wq_181 rfl (Or.inl rfl) rfl d_Verifier_findLeastWaiting_33 hr (fun h hr => ?_)
        refine hj_goto hC 0 d_Verifier_findLeastWaiting_36 (by decide) ?_
        exact ih  _ _ _ hr
set_option maxHeartbeats 4000000 in
set_option maxRecDepth 100000 in
theorem m_Verifier_findLeastWaiting {l : Launch} {D : va_G} {dA : Nat → ClassId} (o : Option Nat) (h0 : hc_H) (b : Int32) (C0 S0 : Nat) (h2 : hc_H) (hr : p_Verifier_findLeastWaiting o h0 = some (b, C0, S0, h2)) : hc_Met l (gg D dA) y_Verifier_findLeastWaiting b_Verifier_findLeastWaiting 1 (some .boolean) tb 0 0 [vr_ o] h0 C0 S0 (some (vi_ b)) h2 := by
  refine hc_Met.of (by decide) (Nat.le_of_ble_eq_true rfl) ?_
  intro p e s m args below meth c hC
  unfold p_Verifier_findLeastWaiting at hr
  refine hj_sub (lv' := [(0, vr_ o)]) [0] rfl ?_
  refine ml_Verifier_findLeastWaiting_0 hC _ _ (fun  h C S hr => ?_) _  _ _ _ hr
  refine hj_aload_n hC 0 d_Verifier_findLeastWaiting_39 rfl rfl ?_
  refine hj_geti hC cf_Verifier (k := 3) (by decide) wq_181 rfl d_Verifier_findLeastWaiting_40 hr (fun a8 hr => ?_)
  refine hj_aload_n hC 0 d_Verifier_findLeastWaiting_43 rfl rfl ?_
  refine hj_getr hC cf_Verifier (k := 5) (by decide) wq_177 rfl d_Verifier_findLeastWaiting_44 hr (fun a9 hr => ?_)
  refine hj_geti hC cf_Function (k := 4) (by decide) wq_186 rfl d_Verifier_findLeastWaiting_47 hr (fun a10 hr => ?_)
  refine hj_icmp_ge hC 67 d_Verifier_findLeastWaiting_50 (by decide) hr (fun q50 hr => ?_) (fun q50 hr => ?_)
  · refine hj_iconst hC (v := 0) d_Verifier_findLeastWaiting_67 (by decide) ?_
    exact hj_zret hC d_Verifier_findLeastWaiting_68 hr
  · refine hj_aload_n hC 0 d_Verifier_findLeastWaiting_53 rfl rfl ?_
    refine hj_getr hC cf_Verifier (k := 6) (by decide) wq_175 rfl d_Verifier_findLeastWaiting_54 hr (fun a11 hr => ?_)
    refine hj_geti hC cf_Fault (k := 0) (by decide) wq_176 rfl d_Verifier_findLeastWaiting_57 hr (fun a12 hr => ?_)
    refine hj_if_ne hC 67 d_Verifier_findLeastWaiting_60 (by decide) hr (fun q60 hr => ?_) (fun q60 hr => ?_)
    · refine hj_iconst hC (v := 0) d_Verifier_findLeastWaiting_67 (by decide) ?_
      exact hj_zret hC d_Verifier_findLeastWaiting_68 hr
    · refine hj_iconst hC (v := 1) d_Verifier_findLeastWaiting_63 (by decide) ?_
      refine hj_goto hC 68 d_Verifier_findLeastWaiting_64 (by decide) ?_
      exact hj_zret hC d_Verifier_findLeastWaiting_68 hr
set_option maxHeartbeats 4000000 in
set_option maxRecDepth 100000 in
theorem m_Verifier_put {l : Launch} {D : va_G} {dA : Nat → ClassId} (o : Option Nat) (x1 : Int32) (h0 : hc_H) (b : Unit) (C0 S0 : Nat) (h2 : hc_H) (hr : p_Verifier_put o x1 h0 = some (b, C0, S0, h2)) : hc_Met l (gg D dA) y_Verifier_put b_Verifier_put 2 none tb 1 22 [vr_ o, vi_ x1] h0 C0 S0 none h2 := by
  refine hc_Met.of (by decide) (Nat.le_of_ble_eq_true rfl) ?_
  intro p e s m args below meth c hC
  unfold p_Verifier_put at hr
  refine hj_sub (lv' := [(0, vr_ o), (1, vi_ x1)]) [0, 1] rfl ?_
  refine hj_aload_n hC 0 d_Verifier_put_0 rfl rfl ?_
  refine hj_geti hC cf_Verifier (k := 9) (by decide) wq_191 rfl d_Verifier_put_1 hr (fun a1 hr => ?_)
  refine hj_bipush hC (v := 16) d_Verifier_put_4 (by decide) ?_
  refine hj_icmp_lt hC 28 d_Verifier_put_6 (by decide) hr (fun q6 hr => ?_) (fun q6 hr => ?_)
  · refine hj_iload_n hC 1 d_Verifier_put_28 rfl rfl ?_
    refine hj_iconst hC (v := 2) d_Verifier_put_29 (by decide) ?_
    refine hj_jn hC (K := hM Unit) (fun k => ∀  (h : hc_H) (C S : Nat), k  h = some (b, C, S, h2) → hj_J p l e { frames := 1, cells := C0, slots := S0, locals := 22 } s m args below meth c (gg D dA) h0 2 (hj_Q below args s { frames := 1, cells := C0, slots := S0, locals := 22 } (gg D dA) h0 none h2) C S h 48 [(0, vr_ o)] []) hr (fun  h C S hr => ?_) (fun k48 hk48 hr => ?_)
    · refine hj_aload_n hC 0 d_Verifier_put_48 rfl rfl ?_
      refine hj_dup hC d_Verifier_put_49 rfl ?_
      refine hj_geti hC cf_Verifier (k := 9) (by decide) wq_191 rfl d_Verifier_put_50 hr (fun a2 hr => ?_)
      refine hj_iconst hC (v := 1) d_Verifier_put_53 (by decide) ?_
      refine hj_iadd hC d_Verifier_put_54 ?_
      refine hj_puti hC cf_Verifier (k := 9) (by decide) wq_191 rfl (Or.inl rfl) rfl d_Verifier_put_55 hr (fun h hr => ?_)
      exact hj_vret hC d_Verifier_put_58 hr
    · refine hj_icmp_ne hC 48 d_Verifier_put_30 (by decide) hr (fun q30 hr => ?_) (fun q30 hr => ?_)
      · refine hj_sub (lv' := [(0, vr_ o)]) [0] rfl ?_
        exact hk48 _ _ _ hr
      · refine hj_aload_n hC 0 d_Verifier_put_33 rfl rfl ?_
        refine hj_dup hC d_Verifier_put_34 rfl ?_
        refine hj_geti hC cf_Verifier (k := 10) (by decide) wq_192 rfl d_Verifier_put_35 hr (fun a3 hr => ?_)
        refine hj_iconst hC (v := 1) d_Verifier_put_38 (by decide) ?_
        refine hj_aload_n hC 0 d_Verifier_put_39 rfl rfl ?_
        refine hj_geti hC cf_Verifier (k := 9) (by decide) wq_191 rfl d_Verifier_put_40 hr (fun a4 hr => ?_)
        refine hj_ishl hC d_Verifier_put_43 ?_
        refine hj_ior hC d_Verifier_put_44 ?_
        refine hj_puti hC cf_Verifier (k := 10) (by decide) wq_192 rfl (Or.inl rfl) rfl d_Verifier_put_45 hr (fun h hr => ?_)
        refine hj_sub (lv' := [(0, vr_ o)]) [0] rfl ?_
        exact hk48 _ _ _ hr
  · refine hj_aload_n hC 0 d_Verifier_put_9 rfl rfl ?_
    refine hj_getr hC cf_Verifier (k := 6) (by decide) wq_175 rfl d_Verifier_put_10 hr (fun a5 hr => ?_)
    refine hj_bipush hC (v := 6) d_Verifier_put_13 (by decide) ?_
    refine hj_aload_n hC 0 d_Verifier_put_15 rfl rfl ?_
    refine hj_geti hC cf_Verifier (k := 7) (by decide) wq_179 rfl d_Verifier_put_16 hr (fun a6 hr => ?_)
    refine hj_aload_n hC 0 d_Verifier_put_19 rfl rfl ?_
    refine hj_geti hC cf_Verifier (k := 8) (by decide) wq_193 rfl d_Verifier_put_20 hr (fun a7 hr => ?_)
    refine hj_iadd hC d_Verifier_put_23 ?_
    refine hj_callV hC hG (enc := (fun _ : Unit => none)) (As := [vi_ 6, vi_ (a6 + a7)]) (st := []) (fun h a C S h1 hr => m_Fault_tell _ _ _ h a C S h1 hr) cf_Fault wq_180 wq_111 wq_112 wq_47 wq_109 yk_Fault_tell rfl ⟨Nat.le_of_ble_eq_true rfl, Nat.le_of_ble_eq_true rfl⟩ rfl (Nat.le_of_ble_eq_true rfl) d_Verifier_put_24 hr (fun _ h C S hr => ?_)
    exact hj_vret hC d_Verifier_put_27 hr
set_option maxHeartbeats 4000000 in
set_option maxRecDepth 100000 in
theorem m_Verifier_take {l : Launch} {D : va_G} {dA : Nat → ClassId} (o : Option Nat) (x1 : Int32) (h0 : hc_H) (b : Int32) (C0 S0 : Nat) (h2 : hc_H) (hr : p_Verifier_take o x1 h0 = some (b, C0, S0, h2)) : hc_Met l (gg D dA) y_Verifier_take b_Verifier_take 3 (some .int) tb 1 22 [vr_ o, vi_ x1] h0 C0 S0 (some (vi_ b)) h2 := by
  refine hc_Met.of (by decide) (Nat.le_of_ble_eq_true rfl) ?_
  intro p e s m args below meth c hC
  unfold p_Verifier_take at hr
  refine hj_sub (lv' := [(0, vr_ o), (1, vi_ x1)]) [0, 1] rfl ?_
  refine hj_aload_n hC 0 d_Verifier_take_0 rfl rfl ?_
  refine hj_geti hC cf_Verifier (k := 9) (by decide) wq_191 rfl d_Verifier_take_1 hr (fun a1 hr => ?_)
  refine hj_jn hC (K := Int32 → hM Int32) (fun k => ∀ (z2 : Int32) (h : hc_H) (C S : Nat), k z2 h = some (b, C, S, h2) → hj_J p l e { frames := 1, cells := C0, slots := S0, locals := 22 } s m args below meth c (gg D dA) h0 3 (hj_Q below args s { frames := 1, cells := C0, slots := S0, locals := 22 } (gg D dA) h0 (some (vi_ b)) h2) C S h 33 [(0, vr_ o), (1, vi_ x1)] [vi_ z2]) hr (fun z2 h C S hr => ?_) (fun k33 hk33 hr => ?_)
  · refine hj_istore_n hC (lv' := [(2, vi_ z2), (0, vr_ o), (1, vi_ x1)]) d_Verifier_take_33 rfl (by decide) rfl ?_
    refine hj_iload_n hC 0 d_Verifier_take_34 rfl rfl ?_
    refine hj_jn hC (K := hM Int32) (fun k => ∀  (h : hc_H) (C S : Nat), k  h = some (b, C, S, h2) → hj_J p l e { frames := 1, cells := C0, slots := S0, locals := 22 } s m args below meth c (gg D dA) h0 3 (hj_Q below args s { frames := 1, cells := C0, slots := S0, locals := 22 } (gg D dA) h0 (some (vi_ b)) h2) C S h 47 [(0, vr_ o)] []) hr (fun  h C S hr => ?_) (fun k47 hk47 hr => ?_)
    · refine hj_aload_n hC 0 d_Verifier_take_47 rfl rfl ?_
      refine hj_getr hC cf_Verifier (k := 6) (by decide) wq_175 rfl d_Verifier_take_48 hr (fun a3 hr => ?_)
      refine hj_iconst hC (v := 5) d_Verifier_take_51 (by decide) ?_
      refine hj_aload_n hC 0 d_Verifier_take_52 rfl rfl ?_
      refine hj_geti hC cf_Verifier (k := 7) (by decide) wq_179 rfl d_Verifier_take_53 hr (fun a4 hr => ?_)
      refine hj_aload_n hC 0 d_Verifier_take_56 rfl rfl ?_
      refine hj_geti hC cf_Verifier (k := 8) (by decide) wq_193 rfl d_Verifier_take_57 hr (fun a5 hr => ?_)
      refine hj_iadd hC d_Verifier_take_60 ?_
      refine hj_callV hC hG (enc := (fun _ : Unit => none)) (As := [vi_ 5, vi_ (a4 + a5)]) (st := []) (fun h a C S h1 hr => m_Fault_tell _ _ _ h a C S h1 hr) cf_Fault wq_180 wq_111 wq_112 wq_47 wq_109 yk_Fault_tell rfl ⟨Nat.le_of_ble_eq_true rfl, Nat.le_of_ble_eq_true rfl⟩ rfl (Nat.le_of_ble_eq_true rfl) d_Verifier_take_61 hr (fun _ h C S hr => ?_)
      refine hj_iconst hC (v := 0) d_Verifier_take_64 (by decide) ?_
      exact hj_iret hC d_Verifier_take_65 hr
    · refine hj_if_eq hC 47 d_Verifier_take_35 (by decide) hr (fun q35 hr => ?_) (fun q35 hr => ?_)
      · refine hj_sub (lv' := [(0, vr_ o)]) [1] rfl ?_
        exact hk47 _ _ _ hr
      · refine hj_iload_n hC 2 d_Verifier_take_38 rfl rfl ?_
        refine hj_jn hC (K := hM Int32) (fun k => ∀  (h : hc_H) (C S : Nat), k  h = some (b, C, S, h2) → hj_J p l e { frames := 1, cells := C0, slots := S0, locals := 22 } s m args below meth c (gg D dA) h0 3 (hj_Q below args s { frames := 1, cells := C0, slots := S0, locals := 22 } (gg D dA) h0 (some (vi_ b)) h2) C S h 66 [(0, vr_ o), (2, vi_ z2)] []) hr (fun  h C S hr => ?_) (fun k66 hk66 hr => ?_)
        · refine hj_aload_n hC 0 d_Verifier_take_66 rfl rfl ?_
          refine hj_dup hC d_Verifier_take_67 rfl ?_
          refine hj_geti hC cf_Verifier (k := 9) (by decide) wq_191 rfl d_Verifier_take_68 hr (fun a6 hr => ?_)
          refine hj_iconst hC (v := 1) d_Verifier_take_71 (by decide) ?_
          refine hj_isub hC d_Verifier_take_72 ?_
          refine hj_puti hC cf_Verifier (k := 9) (by decide) wq_191 rfl (Or.inl rfl) rfl d_Verifier_take_73 hr (fun h hr => ?_)
          refine hj_aload_n hC 0 d_Verifier_take_76 rfl rfl ?_
          refine hj_dup hC d_Verifier_take_77 rfl ?_
          refine hj_geti hC cf_Verifier (k := 10) (by decide) wq_192 rfl d_Verifier_take_78 hr (fun a7 hr => ?_)
          refine hj_iconst hC (v := 1) d_Verifier_take_81 (by decide) ?_
          refine hj_aload_n hC 0 d_Verifier_take_82 rfl rfl ?_
          refine hj_geti hC cf_Verifier (k := 9) (by decide) wq_191 rfl d_Verifier_take_83 hr (fun a8 hr => ?_)
          refine hj_ishl hC d_Verifier_take_86 ?_
          refine hj_iconst hC (v := 1) d_Verifier_take_87 (by decide) ?_
          refine hj_isub hC d_Verifier_take_88 ?_
          refine hj_iand hC d_Verifier_take_89 ?_
          refine hj_puti hC cf_Verifier (k := 10) (by decide) wq_192 rfl (Or.inl rfl) rfl d_Verifier_take_90 hr (fun h hr => ?_)
          refine hj_iload_n hC 1 d_Verifier_take_93 rfl rfl ?_
          exact hj_iret hC d_Verifier_take_94 hr
        · refine hj_if_eq hC 66 d_Verifier_take_39 (by decide) hr (fun q39 hr => ?_) (fun q39 hr => ?_)
          · refine hj_sub (lv' := [(0, vr_ o), (2, vi_ z2)]) [1, 0] rfl ?_
            exact hk66 _ _ _ hr
          · refine hj_iload_n hC 2 d_Verifier_take_42 rfl rfl ?_
            refine hj_iload_n hC 0 d_Verifier_take_43 rfl rfl ?_
            refine hj_icmp_eq hC 66 d_Verifier_take_44 (by decide) hr (fun q44 hr => ?_) (fun q44 hr => ?_)
            · refine hj_sub (lv' := [(0, vr_ o), (2, vi_ z2)]) [1, 0] rfl ?_
              exact hk66 _ _ _ hr
            · refine hj_sub (lv' := [(0, vr_ o)]) [1] rfl ?_
              exact hk47 _ _ _ hr
  · refine hj_if_ne hC 11 d_Verifier_take_4 (by decide) hr (fun q4 hr => ?_) (fun q4 hr => ?_)
    · refine hj_aload_n hC 0 d_Verifier_take_11 rfl rfl ?_
      refine hj_geti hC cf_Verifier (k := 10) (by decide) wq_192 rfl d_Verifier_take_12 hr (fun a9 hr => ?_)
      refine hj_aload_n hC 0 d_Verifier_take_15 rfl rfl ?_
      refine hj_geti hC cf_Verifier (k := 9) (by decide) wq_191 rfl d_Verifier_take_16 hr (fun a10 hr => ?_)
      refine hj_iconst hC (v := 1) d_Verifier_take_19 (by decide) ?_
      refine hj_isub hC d_Verifier_take_20 ?_
      refine hj_ishr hC d_Verifier_take_21 ?_
      refine hj_iconst hC (v := 1) d_Verifier_take_22 (by decide) ?_
      refine hj_iand hC d_Verifier_take_23 ?_
      refine hj_iconst hC (v := 1) d_Verifier_take_24 (by decide) ?_
      refine hj_icmp_ne hC 32 d_Verifier_take_25 (by decide) hr (fun q25 hr => ?_) (fun q25 hr => ?_)
      · refine hj_iconst hC (v := 1) d_Verifier_take_32 (by decide) ?_
        exact hk33 _ _ _ _ hr
      · refine hj_iconst hC (v := 2) d_Verifier_take_28 (by decide) ?_
        refine hj_goto hC 33 d_Verifier_take_29 (by decide) ?_
        exact hk33 _ _ _ _ hr
    · refine hj_iconst hC (v := 0) d_Verifier_take_7 (by decide) ?_
      refine hj_goto hC 33 d_Verifier_take_8 (by decide) ?_
      exact hk33 _ _ _ _ hr
set_option maxHeartbeats 4000000 in
set_option maxRecDepth 100000 in
theorem m_Verifier_repeatTop {l : Launch} {D : va_G} {dA : Nat → ClassId} (o : Option Nat) (h0 : hc_H) (b : Unit) (C0 S0 : Nat) (h2 : hc_H) (hr : p_Verifier_repeatTop o h0 = some (b, C0, S0, h2)) : hc_Met l (gg D dA) y_Verifier_repeatTop b_Verifier_repeatTop 2 none tb 2 44 [vr_ o] h0 C0 S0 none h2 := by
  refine hc_Met.of (by decide) (Nat.le_of_ble_eq_true rfl) ?_
  intro p e s m args below meth c hC
  unfold p_Verifier_repeatTop at hr
  refine hj_sub (lv' := [(0, vr_ o)]) [0] rfl ?_
  refine hj_aload_n hC 0 d_Verifier_repeatTop_0 rfl rfl ?_
  refine hj_iconst hC (v := 0) d_Verifier_repeatTop_1 (by decide) ?_
  refine hj_callV hC hG (enc := (fun a : Int32 => some (vi_ a))) (As := [vi_ 0]) (st := []) (fun h a C S h1 hr => m_Verifier_take _ _ h a C S h1 hr) cf_Verifier wq_199 wq_200 wq_201 wq_52 wq_194 yk_Verifier_take rfl ⟨Nat.le_of_ble_eq_true rfl, Nat.le_of_ble_eq_true rfl⟩ rfl (Nat.le_of_ble_eq_true rfl) d_Verifier_repeatTop_2 hr (fun a1 h C S hr => ?_)
  refine hj_istore_n hC (lv' := [(1, vi_ a1), (0, vr_ o)]) d_Verifier_repeatTop_5 rfl (by decide) rfl ?_
  refine hj_aload_n hC 1 d_Verifier_repeatTop_6 rfl rfl ?_
  refine hj_iload_n hC 0 d_Verifier_repeatTop_7 rfl rfl ?_
  refine hj_callV hC hG (enc := (fun _ : Unit => none)) (As := [vi_ a1]) (st := []) (fun h a C S h1 hr => m_Verifier_put _ _ h a C S h1 hr) cf_Verifier wq_196 wq_197 wq_198 wq_52 wq_195 yk_Verifier_put rfl ⟨Nat.le_of_ble_eq_true rfl, Nat.le_of_ble_eq_true rfl⟩ rfl (Nat.le_of_ble_eq_true rfl) d_Verifier_repeatTop_8 hr (fun _ h C S hr => ?_)
  refine hj_aload_n hC 1 d_Verifier_repeatTop_11 rfl rfl ?_
  refine hj_iload_n hC 0 d_Verifier_repeatTop_12 rfl rfl ?_
  refine hj_callV hC hG (enc := (fun _ : Unit => none)) (As := [vi_ a1]) (st := []) (fun h a C S h1 hr => m_Verifier_put _ _ h a C S h1 hr) cf_Verifier wq_196 wq_197 wq_198 wq_52 wq_195 yk_Verifier_put rfl ⟨Nat.le_of_ble_eq_true rfl, Nat.le_of_ble_eq_true rfl⟩ rfl (Nat.le_of_ble_eq_true rfl) d_Verifier_repeatTop_13 hr (fun _ h C S hr => ?_)
  exact hj_vret hC d_Verifier_repeatTop_16 hr
set_option maxHeartbeats 4000000 in
set_option maxRecDepth 100000 in
theorem m_Verifier_swapUpperTwo {l : Launch} {D : va_G} {dA : Nat → ClassId} (o : Option Nat) (h0 : hc_H) (b : Unit) (C0 S0 : Nat) (h2 : hc_H) (hr : p_Verifier_swapUpperTwo o h0 = some (b, C0, S0, h2)) : hc_Met l (gg D dA) y_Verifier_swapUpperTwo b_Verifier_swapUpperTwo 3 none tb 2 44 [vr_ o] h0 C0 S0 none h2 := by
  refine hc_Met.of (by decide) (Nat.le_of_ble_eq_true rfl) ?_
  intro p e s m args below meth c hC
  unfold p_Verifier_swapUpperTwo at hr
  refine hj_sub (lv' := [(0, vr_ o)]) [0] rfl ?_
  refine hj_aload_n hC 0 d_Verifier_swapUpperTwo_0 rfl rfl ?_
  refine hj_iconst hC (v := 0) d_Verifier_swapUpperTwo_1 (by decide) ?_
  refine hj_callV hC hG (enc := (fun a : Int32 => some (vi_ a))) (As := [vi_ 0]) (st := []) (fun h a C S h1 hr => m_Verifier_take _ _ h a C S h1 hr) cf_Verifier wq_199 wq_200 wq_201 wq_52 wq_194 yk_Verifier_take rfl ⟨Nat.le_of_ble_eq_true rfl, Nat.le_of_ble_eq_true rfl⟩ rfl (Nat.le_of_ble_eq_true rfl) d_Verifier_swapUpperTwo_2 hr (fun a1 h C S hr => ?_)
  refine hj_istore_n hC (lv' := [(1, vi_ a1), (0, vr_ o)]) d_Verifier_swapUpperTwo_5 rfl (by decide) rfl ?_
  refine hj_aload_n hC 1 d_Verifier_swapUpperTwo_6 rfl rfl ?_
  refine hj_iconst hC (v := 0) d_Verifier_swapUpperTwo_7 (by decide) ?_
  refine hj_callV hC hG (enc := (fun a : Int32 => some (vi_ a))) (As := [vi_ 0]) (st := []) (fun h a C S h1 hr => m_Verifier_take _ _ h a C S h1 hr) cf_Verifier wq_199 wq_200 wq_201 wq_52 wq_194 yk_Verifier_take rfl ⟨Nat.le_of_ble_eq_true rfl, Nat.le_of_ble_eq_true rfl⟩ rfl (Nat.le_of_ble_eq_true rfl) d_Verifier_swapUpperTwo_8 hr (fun a2 h C S hr => ?_)
  refine hj_istore_n hC (lv' := [(2, vi_ a2), (1, vi_ a1), (0, vr_ o)]) d_Verifier_swapUpperTwo_11 rfl (by decide) rfl ?_
  refine hj_aload_n hC 2 d_Verifier_swapUpperTwo_12 rfl rfl ?_
  refine hj_iload_n hC 1 d_Verifier_swapUpperTwo_13 rfl rfl ?_
  refine hj_callV hC hG (enc := (fun _ : Unit => none)) (As := [vi_ a1]) (st := []) (fun h a C S h1 hr => m_Verifier_put _ _ h a C S h1 hr) cf_Verifier wq_196 wq_197 wq_198 wq_52 wq_195 yk_Verifier_put rfl ⟨Nat.le_of_ble_eq_true rfl, Nat.le_of_ble_eq_true rfl⟩ rfl (Nat.le_of_ble_eq_true rfl) d_Verifier_swapUpperTwo_14 hr (fun _ h C S hr => ?_)
  refine hj_aload_n hC 2 d_Verifier_swapUpperTwo_17 rfl rfl ?_
  refine hj_iload_n hC 0 d_Verifier_swapUpperTwo_18 rfl rfl ?_
  refine hj_callV hC hG (enc := (fun _ : Unit => none)) (As := [vi_ a2]) (st := []) (fun h a C S h1 hr => m_Verifier_put _ _ h a C S h1 hr) cf_Verifier wq_196 wq_197 wq_198 wq_52 wq_195 yk_Verifier_put rfl ⟨Nat.le_of_ble_eq_true rfl, Nat.le_of_ble_eq_true rfl⟩ rfl (Nat.le_of_ble_eq_true rfl) d_Verifier_swapUpperTwo_19 hr (fun _ h C S hr => ?_)
  exact hj_vret hC d_Verifier_swapUpperTwo_22 hr
