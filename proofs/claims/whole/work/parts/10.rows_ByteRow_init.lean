theorem d_ByteRow_init_0 : decode b_ByteRow_init 0 = .ok (.aload_n 0, 1) := by decide +kernel
theorem d_ByteRow_init_1 : decode b_ByteRow_init 1 = .ok (.invokespecial 3, 3) := by decide +kernel
theorem d_ByteRow_init_4 : decode b_ByteRow_init 4 = .ok (.aload_n 0, 1) := by decide +kernel
theorem d_ByteRow_init_5 : decode b_ByteRow_init 5 = .ok (.iload_n 1, 1) := by decide +kernel
theorem d_ByteRow_init_6 : decode b_ByteRow_init 6 = .ok (.putfield 9, 3) := by decide +kernel
theorem d_ByteRow_init_9 : decode b_ByteRow_init 9 = .ok (.aload_n 0, 1) := by decide +kernel
theorem d_ByteRow_init_10 : decode b_ByteRow_init 10 = .ok (.bipush 64, 2) := by decide +kernel
theorem d_ByteRow_init_12 : decode b_ByteRow_init 12 = .ok (.newarray .byte, 2) := by decide +kernel
theorem d_ByteRow_init_14 : decode b_ByteRow_init 14 = .ok (.putfield 15, 3) := by decide +kernel
theorem d_ByteRow_init_17 : decode b_ByteRow_init 17 = .ok (.aload_n 0, 1) := by decide +kernel
theorem d_ByteRow_init_18 : decode b_ByteRow_init 18 = .ok (.iconst 0, 1) := by decide +kernel
theorem d_ByteRow_init_19 : decode b_ByteRow_init 19 = .ok (.putfield 19, 3) := by decide +kernel
theorem d_ByteRow_init_22 : decode b_ByteRow_init 22 = .ok (.return_, 1) := by decide +kernel
theorem d_Fault_init_0 : decode b_Fault_init 0 = .ok (.aload_n 0, 1) := by decide +kernel
theorem d_Fault_init_1 : decode b_Fault_init 1 = .ok (.invokespecial 3, 3) := by decide +kernel
theorem d_Fault_init_4 : decode b_Fault_init 4 = .ok (.aload_n 0, 1) := by decide +kernel
theorem d_Fault_init_5 : decode b_Fault_init 5 = .ok (.iconst 0, 1) := by decide +kernel
theorem d_Fault_init_6 : decode b_Fault_init 6 = .ok (.putfield 9, 3) := by decide +kernel
theorem d_Fault_init_9 : decode b_Fault_init 9 = .ok (.aload_n 0, 1) := by decide +kernel
theorem d_Fault_init_10 : decode b_Fault_init 10 = .ok (.iconst (-1), 1) := by decide +kernel
theorem d_Fault_init_11 : decode b_Fault_init 11 = .ok (.putfield 15, 3) := by decide +kernel
theorem d_Fault_init_14 : decode b_Fault_init 14 = .ok (.return_, 1) := by decide +kernel
theorem d_Verifier_init_0 : decode b_Verifier_init 0 = .ok (.aload_n 0, 1) := by decide +kernel
theorem d_Verifier_init_1 : decode b_Verifier_init 1 = .ok (.invokespecial 3, 3) := by decide +kernel
theorem d_Verifier_init_4 : decode b_Verifier_init 4 = .ok (.aload_n 0, 1) := by decide +kernel
theorem d_Verifier_init_5 : decode b_Verifier_init 5 = .ok (.sipush 400, 3) := by decide +kernel
theorem d_Verifier_init_8 : decode b_Verifier_init 8 = .ok (.newarray .int, 2) := by decide +kernel
theorem d_Verifier_init_10 : decode b_Verifier_init 10 = .ok (.putfield 9, 3) := by decide +kernel
theorem d_Verifier_init_13 : decode b_Verifier_init 13 = .ok (.aload_n 0, 1) := by decide +kernel
theorem d_Verifier_init_14 : decode b_Verifier_init 14 = .ok (.sipush 400, 3) := by decide +kernel
theorem d_Verifier_init_17 : decode b_Verifier_init 17 = .ok (.newarray .int, 2) := by decide +kernel
theorem d_Verifier_init_19 : decode b_Verifier_init 19 = .ok (.putfield 15, 3) := by decide +kernel
theorem d_Verifier_init_22 : decode b_Verifier_init 22 = .ok (.aload_n 0, 1) := by decide +kernel
theorem d_Verifier_init_23 : decode b_Verifier_init 23 = .ok (.sipush 400, 3) := by decide +kernel
theorem d_Verifier_init_26 : decode b_Verifier_init 26 = .ok (.newarray .boolean, 2) := by decide +kernel
theorem d_Verifier_init_28 : decode b_Verifier_init 28 = .ok (.putfield 18, 3) := by decide +kernel
theorem d_Verifier_init_31 : decode b_Verifier_init 31 = .ok (.return_, 1) := by decide +kernel
theorem d_Handler_init_0 : decode b_Handler_init 0 = .ok (.aload_n 0, 1) := by decide +kernel
theorem d_Handler_init_1 : decode b_Handler_init 1 = .ok (.invokespecial 1, 3) := by decide +kernel
theorem d_Handler_init_4 : decode b_Handler_init 4 = .ok (.return_, 1) := by decide +kernel
theorem d_Function_init_0 : decode b_Function_init 0 = .ok (.aload_n 0, 1) := by decide +kernel
theorem d_Function_init_1 : decode b_Function_init 1 = .ok (.invokespecial 3, 3) := by decide +kernel
theorem d_Function_init_4 : decode b_Function_init 4 = .ok (.aload_n 0, 1) := by decide +kernel
theorem d_Function_init_5 : decode b_Function_init 5 = .ok (.sipush 400, 3) := by decide +kernel
theorem d_Function_init_8 : decode b_Function_init 8 = .ok (.newarray .int, 2) := by decide +kernel
theorem d_Function_init_10 : decode b_Function_init 10 = .ok (.putfield 9, 3) := by decide +kernel
theorem d_Function_init_13 : decode b_Function_init 13 = .ok (.aload_n 0, 1) := by decide +kernel
theorem d_Function_init_14 : decode b_Function_init 14 = .ok (.sipush 400, 3) := by decide +kernel
theorem d_Function_init_17 : decode b_Function_init 17 = .ok (.newarray .int, 2) := by decide +kernel
theorem d_Function_init_19 : decode b_Function_init 19 = .ok (.putfield 15, 3) := by decide +kernel
theorem d_Function_init_22 : decode b_Function_init 22 = .ok (.aload_n 0, 1) := by decide +kernel
theorem d_Function_init_23 : decode b_Function_init 23 = .ok (.sipush 400, 3) := by decide +kernel
theorem d_Function_init_26 : decode b_Function_init 26 = .ok (.newarray .int, 2) := by decide +kernel
theorem d_Function_init_28 : decode b_Function_init 28 = .ok (.putfield 18, 3) := by decide +kernel
theorem d_Function_init_31 : decode b_Function_init 31 = .ok (.aload_n 0, 1) := by decide +kernel
theorem d_Function_init_32 : decode b_Function_init 32 = .ok (.sipush 400, 3) := by decide +kernel
theorem d_Function_init_35 : decode b_Function_init 35 = .ok (.newarray .int, 2) := by decide +kernel
theorem d_Function_init_37 : decode b_Function_init 37 = .ok (.putfield 21, 3) := by decide +kernel
theorem d_Function_init_40 : decode b_Function_init 40 = .ok (.aload_n 0, 1) := by decide +kernel
theorem d_Function_init_41 : decode b_Function_init 41 = .ok (.bipush 6, 2) := by decide +kernel
theorem d_Function_init_43 : decode b_Function_init 43 = .ok (.anewarray 24, 3) := by decide +kernel
theorem d_Function_init_46 : decode b_Function_init 46 = .ok (.putfield 26, 3) := by decide +kernel
theorem d_Function_init_49 : decode b_Function_init 49 = .ok (.aload_n 0, 1) := by decide +kernel
theorem d_Function_init_50 : decode b_Function_init 50 = .ok (.iconst 1, 1) := by decide +kernel
theorem d_Function_init_51 : decode b_Function_init 51 = .ok (.putfield 30, 3) := by decide +kernel
theorem d_Function_init_54 : decode b_Function_init 54 = .ok (.aload_n 0, 1) := by decide +kernel
theorem d_Function_init_55 : decode b_Function_init 55 = .ok (.getfield 9, 3) := by decide +kernel
theorem d_Function_init_58 : decode b_Function_init 58 = .ok (.iconst 0, 1) := by decide +kernel
theorem d_Function_init_59 : decode b_Function_init 59 = .ok (.bipush 27, 2) := by decide +kernel
theorem d_Function_init_61 : decode b_Function_init 61 = .ok (.iastore, 1) := by decide +kernel
theorem d_Function_init_62 : decode b_Function_init 62 = .ok (.iconst 0, 1) := by decide +kernel
theorem d_Function_init_63 : decode b_Function_init 63 = .ok (.istore_n 1, 1) := by decide +kernel
theorem d_Function_init_64 : decode b_Function_init 64 = .ok (.iload_n 1, 1) := by decide +kernel
theorem d_Function_init_65 : decode b_Function_init 65 = .ok (.bipush 6, 2) := by decide +kernel
theorem d_Function_init_67 : decode b_Function_init 67 = .ok (.if_icmp .ge 22, 3) := by decide +kernel
theorem d_Function_init_70 : decode b_Function_init 70 = .ok (.aload_n 0, 1) := by decide +kernel
theorem d_Function_init_71 : decode b_Function_init 71 = .ok (.getfield 26, 3) := by decide +kernel
theorem d_Function_init_74 : decode b_Function_init 74 = .ok (.iload_n 1, 1) := by decide +kernel
theorem d_Function_init_75 : decode b_Function_init 75 = .ok (.new 24, 3) := by decide +kernel
theorem d_Function_init_78 : decode b_Function_init 78 = .ok (.dup, 1) := by decide +kernel
theorem d_Function_init_79 : decode b_Function_init 79 = .ok (.invokespecial 34, 3) := by decide +kernel
theorem d_Function_init_82 : decode b_Function_init 82 = .ok (.aastore, 1) := by decide +kernel
theorem d_Function_init_83 : decode b_Function_init 83 = .ok (.iinc 1 1, 3) := by decide +kernel
theorem d_Function_init_86 : decode b_Function_init 86 = .ok (.goto (-22), 3) := by decide +kernel
theorem d_Function_init_89 : decode b_Function_init 89 = .ok (.return_, 1) := by decide +kernel
theorem d_Program_init_0 : decode b_Program_init 0 = .ok (.aload_n 0, 1) := by decide +kernel
theorem d_Program_init_1 : decode b_Program_init 1 = .ok (.invokespecial 3, 3) := by decide +kernel
theorem d_Program_init_4 : decode b_Program_init 4 = .ok (.aload_n 0, 1) := by decide +kernel
theorem d_Program_init_5 : decode b_Program_init 5 = .ok (.bipush 12, 2) := by decide +kernel
theorem d_Program_init_7 : decode b_Program_init 7 = .ok (.anewarray 9, 3) := by decide +kernel
theorem d_Program_init_10 : decode b_Program_init 10 = .ok (.putfield 11, 3) := by decide +kernel
theorem d_Program_init_13 : decode b_Program_init 13 = .ok (.aload_n 0, 1) := by decide +kernel
theorem d_Program_init_14 : decode b_Program_init 14 = .ok (.getfield 11, 3) := by decide +kernel
theorem d_Program_init_17 : decode b_Program_init 17 = .ok (.iconst 0, 1) := by decide +kernel
theorem d_Program_init_18 : decode b_Program_init 18 = .ok (.new 9, 3) := by decide +kernel
theorem d_Program_init_21 : decode b_Program_init 21 = .ok (.dup, 1) := by decide +kernel
theorem d_Program_init_22 : decode b_Program_init 22 = .ok (.invokespecial 17, 3) := by decide +kernel
theorem d_Program_init_25 : decode b_Program_init 25 = .ok (.aastore, 1) := by decide +kernel
theorem d_Program_init_26 : decode b_Program_init 26 = .ok (.aload_n 0, 1) := by decide +kernel
theorem d_Program_init_27 : decode b_Program_init 27 = .ok (.iconst 1, 1) := by decide +kernel
theorem d_Program_init_28 : decode b_Program_init 28 = .ok (.putfield 18, 3) := by decide +kernel
theorem d_Program_init_31 : decode b_Program_init 31 = .ok (.return_, 1) := by decide +kernel
theorem d_SB_init_0 : decode b_SB_init 0 = .ok (.aload_n 0, 1) := by decide +kernel
theorem d_SB_init_1 : decode b_SB_init 1 = .ok (.invokespecial 3, 3) := by decide +kernel
theorem d_SB_init_4 : decode b_SB_init 4 = .ok (.aload_n 0, 1) := by decide +kernel
theorem d_SB_init_5 : decode b_SB_init 5 = .ok (.new 9, 3) := by decide +kernel
theorem d_SB_init_8 : decode b_SB_init 8 = .ok (.dup, 1) := by decide +kernel
theorem d_SB_init_9 : decode b_SB_init 9 = .ok (.sipush 4096, 3) := by decide +kernel
theorem d_SB_init_12 : decode b_SB_init 12 = .ok (.invokespecial 11, 3) := by decide +kernel
theorem d_SB_init_15 : decode b_SB_init 15 = .ok (.putfield 14, 3) := by decide +kernel
theorem d_SB_init_18 : decode b_SB_init 18 = .ok (.aload_n 0, 1) := by decide +kernel
theorem d_SB_init_19 : decode b_SB_init 19 = .ok (.new 9, 3) := by decide +kernel
theorem d_SB_init_22 : decode b_SB_init 22 = .ok (.dup, 1) := by decide +kernel
theorem d_SB_init_23 : decode b_SB_init 23 = .ok (.sipush 24892, 3) := by decide +kernel
theorem d_SB_init_26 : decode b_SB_init 26 = .ok (.invokespecial 11, 3) := by decide +kernel
theorem d_SB_init_29 : decode b_SB_init 29 = .ok (.putfield 18, 3) := by decide +kernel
theorem d_SB_init_32 : decode b_SB_init 32 = .ok (.aload_n 0, 1) := by decide +kernel
theorem d_SB_init_33 : decode b_SB_init 33 = .ok (.new 21, 3) := by decide +kernel
theorem d_SB_init_36 : decode b_SB_init 36 = .ok (.dup, 1) := by decide +kernel
theorem d_SB_init_37 : decode b_SB_init 37 = .ok (.invokespecial 23, 3) := by decide +kernel
theorem d_SB_init_40 : decode b_SB_init 40 = .ok (.putfield 24, 3) := by decide +kernel
theorem d_SB_init_43 : decode b_SB_init 43 = .ok (.aload_n 0, 1) := by decide +kernel
theorem d_SB_init_44 : decode b_SB_init 44 = .ok (.new 28, 3) := by decide +kernel
theorem d_SB_init_47 : decode b_SB_init 47 = .ok (.dup, 1) := by decide +kernel
theorem d_SB_init_48 : decode b_SB_init 48 = .ok (.invokespecial 30, 3) := by decide +kernel
theorem d_SB_init_51 : decode b_SB_init 51 = .ok (.putfield 31, 3) := by decide +kernel
theorem d_SB_init_54 : decode b_SB_init 54 = .ok (.aload_n 0, 1) := by decide +kernel
theorem d_SB_init_55 : decode b_SB_init 55 = .ok (.new 35, 3) := by decide +kernel
theorem d_SB_init_58 : decode b_SB_init 58 = .ok (.dup, 1) := by decide +kernel
theorem d_SB_init_59 : decode b_SB_init 59 = .ok (.invokespecial 37, 3) := by decide +kernel
theorem d_SB_init_62 : decode b_SB_init 62 = .ok (.putfield 38, 3) := by decide +kernel
theorem d_SB_init_65 : decode b_SB_init 65 = .ok (.aload_n 0, 1) := by decide +kernel
theorem d_SB_init_66 : decode b_SB_init 66 = .ok (.new 35, 3) := by decide +kernel
theorem d_SB_init_69 : decode b_SB_init 69 = .ok (.dup, 1) := by decide +kernel
theorem d_SB_init_70 : decode b_SB_init 70 = .ok (.invokespecial 37, 3) := by decide +kernel
theorem d_SB_init_73 : decode b_SB_init 73 = .ok (.putfield 42, 3) := by decide +kernel
theorem d_SB_init_76 : decode b_SB_init 76 = .ok (.return_, 1) := by decide +kernel
theorem d_Ar_copyOf_0 : decode b_Ar_copyOf 0 = .ok (.iload_n 1, 1) := by decide +kernel
theorem d_Ar_copyOf_1 : decode b_Ar_copyOf 1 = .ok (.aload_n 0, 1) := by decide +kernel
theorem d_Ar_copyOf_2 : decode b_Ar_copyOf 2 = .ok (.arraylength, 1) := by decide +kernel
theorem d_Ar_copyOf_3 : decode b_Ar_copyOf 3 = .ok (.if_icmp .ne 11, 3) := by decide +kernel
theorem d_Ar_copyOf_14 : decode b_Ar_copyOf 14 = .ok (.iload_n 1, 1) := by decide +kernel
theorem d_Ar_copyOf_15 : decode b_Ar_copyOf 15 = .ok (.newarray .byte, 2) := by decide +kernel
theorem d_Ar_copyOf_17 : decode b_Ar_copyOf 17 = .ok (.astore_n 2, 1) := by decide +kernel
theorem d_Ar_copyOf_18 : decode b_Ar_copyOf 18 = .ok (.aload_n 0, 1) := by decide +kernel
theorem d_Ar_copyOf_19 : decode b_Ar_copyOf 19 = .ok (.iconst 0, 1) := by decide +kernel
theorem d_Ar_copyOf_20 : decode b_Ar_copyOf 20 = .ok (.aload_n 2, 1) := by decide +kernel
theorem d_Ar_copyOf_21 : decode b_Ar_copyOf 21 = .ok (.iconst 0, 1) := by decide +kernel
theorem d_Ar_copyOf_22 : decode b_Ar_copyOf 22 = .ok (.aload_n 0, 1) := by decide +kernel
theorem d_Ar_copyOf_23 : decode b_Ar_copyOf 23 = .ok (.arraylength, 1) := by decide +kernel
theorem d_Ar_copyOf_24 : decode b_Ar_copyOf 24 = .ok (.iload_n 1, 1) := by decide +kernel
theorem d_Ar_copyOf_25 : decode b_Ar_copyOf 25 = .ok (.invokestatic 304, 3) := by decide +kernel
theorem d_Ar_copyOf_28 : decode b_Ar_copyOf 28 = .ok (.invokestatic 150, 3) := by decide +kernel
theorem d_Ar_copyOf_31 : decode b_Ar_copyOf 31 = .ok (.aload_n 2, 1) := by decide +kernel
theorem d_Ar_copyOf_32 : decode b_Ar_copyOf 32 = .ok (.areturn, 1) := by decide +kernel
theorem d_ByteRow_makeRoom_0 : decode b_ByteRow_makeRoom 0 = .ok (.iload_n 1, 1) := by decide +kernel
theorem d_ByteRow_makeRoom_1 : decode b_ByteRow_makeRoom 1 = .ok (.aload_n 0, 1) := by decide +kernel
theorem d_ByteRow_makeRoom_2 : decode b_ByteRow_makeRoom 2 = .ok (.getfield 15, 3) := by decide +kernel
theorem d_ByteRow_makeRoom_5 : decode b_ByteRow_makeRoom 5 = .ok (.arraylength, 1) := by decide +kernel
theorem d_ByteRow_makeRoom_6 : decode b_ByteRow_makeRoom 6 = .ok (.if_icmp .le 32, 3) := by decide +kernel
theorem d_ByteRow_makeRoom_9 : decode b_ByteRow_makeRoom 9 = .ok (.aload_n 0, 1) := by decide +kernel
theorem d_ByteRow_makeRoom_10 : decode b_ByteRow_makeRoom 10 = .ok (.aload_n 0, 1) := by decide +kernel
theorem d_ByteRow_makeRoom_11 : decode b_ByteRow_makeRoom 11 = .ok (.getfield 15, 3) := by decide +kernel
theorem d_ByteRow_makeRoom_14 : decode b_ByteRow_makeRoom 14 = .ok (.iload_n 1, 1) := by decide +kernel
theorem d_ByteRow_makeRoom_15 : decode b_ByteRow_makeRoom 15 = .ok (.aload_n 0, 1) := by decide +kernel
theorem d_ByteRow_makeRoom_16 : decode b_ByteRow_makeRoom 16 = .ok (.getfield 9, 3) := by decide +kernel
theorem d_ByteRow_makeRoom_19 : decode b_ByteRow_makeRoom 19 = .ok (.iconst 2, 1) := by decide +kernel
theorem d_ByteRow_makeRoom_20 : decode b_ByteRow_makeRoom 20 = .ok (.aload_n 0, 1) := by decide +kernel
theorem d_ByteRow_makeRoom_21 : decode b_ByteRow_makeRoom 21 = .ok (.getfield 15, 3) := by decide +kernel
theorem d_ByteRow_makeRoom_24 : decode b_ByteRow_makeRoom 24 = .ok (.arraylength, 1) := by decide +kernel
theorem d_ByteRow_makeRoom_25 : decode b_ByteRow_makeRoom 25 = .ok (.imul, 1) := by decide +kernel
theorem d_ByteRow_makeRoom_26 : decode b_ByteRow_makeRoom 26 = .ok (.invokestatic 32, 3) := by decide +kernel
theorem d_ByteRow_makeRoom_29 : decode b_ByteRow_makeRoom 29 = .ok (.invokestatic 38, 3) := by decide +kernel
theorem d_ByteRow_makeRoom_32 : decode b_ByteRow_makeRoom 32 = .ok (.invokestatic 41, 3) := by decide +kernel
theorem d_ByteRow_makeRoom_35 : decode b_ByteRow_makeRoom 35 = .ok (.putfield 15, 3) := by decide +kernel
theorem d_ByteRow_makeRoom_38 : decode b_ByteRow_makeRoom 38 = .ok (.return_, 1) := by decide +kernel
theorem d_ByteRow_add_0 : decode b_ByteRow_add 0 = .ok (.iload_n 3, 1) := by decide +kernel
theorem d_ByteRow_add_1 : decode b_ByteRow_add 1 = .ok (.aload_n 0, 1) := by decide +kernel
theorem d_ByteRow_add_2 : decode b_ByteRow_add 2 = .ok (.getfield 9, 3) := by decide +kernel
theorem d_ByteRow_add_5 : decode b_ByteRow_add 5 = .ok (.aload_n 0, 1) := by decide +kernel
theorem d_ByteRow_add_6 : decode b_ByteRow_add 6 = .ok (.getfield 19, 3) := by decide +kernel
theorem d_ByteRow_add_9 : decode b_ByteRow_add 9 = .ok (.isub, 1) := by decide +kernel
theorem d_ByteRow_add_10 : decode b_ByteRow_add 10 = .ok (.if_icmp .le 5, 3) := by decide +kernel
theorem d_ByteRow_add_13 : decode b_ByteRow_add 13 = .ok (.iconst 0, 1) := by decide +kernel
theorem d_ByteRow_add_14 : decode b_ByteRow_add 14 = .ok (.ireturn, 1) := by decide +kernel
theorem d_ByteRow_add_15 : decode b_ByteRow_add 15 = .ok (.aload_n 0, 1) := by decide +kernel
theorem d_ByteRow_add_16 : decode b_ByteRow_add 16 = .ok (.aload_n 0, 1) := by decide +kernel
theorem d_ByteRow_add_17 : decode b_ByteRow_add 17 = .ok (.getfield 19, 3) := by decide +kernel
theorem d_ByteRow_add_20 : decode b_ByteRow_add 20 = .ok (.iload_n 3, 1) := by decide +kernel
theorem d_ByteRow_add_21 : decode b_ByteRow_add 21 = .ok (.iadd, 1) := by decide +kernel
theorem d_ByteRow_add_22 : decode b_ByteRow_add 22 = .ok (.invokevirtual 22, 3) := by decide +kernel
theorem d_ByteRow_add_25 : decode b_ByteRow_add 25 = .ok (.iload_n 3, 1) := by decide +kernel
theorem d_ByteRow_add_26 : decode b_ByteRow_add 26 = .ok (.iconst 1, 1) := by decide +kernel
theorem d_ByteRow_add_27 : decode b_ByteRow_add 27 = .ok (.isub, 1) := by decide +kernel
theorem d_ByteRow_add_28 : decode b_ByteRow_add 28 = .ok (.istore 4, 2) := by decide +kernel
theorem d_ByteRow_add_30 : decode b_ByteRow_add 30 = .ok (.iload 4, 2) := by decide +kernel
theorem d_ByteRow_add_32 : decode b_ByteRow_add 32 = .ok (.ifCond .lt 37, 3) := by decide +kernel
theorem d_ByteRow_add_35 : decode b_ByteRow_add 35 = .ok (.aload_n 0, 1) := by decide +kernel
theorem d_ByteRow_add_36 : decode b_ByteRow_add 36 = .ok (.getfield 15, 3) := by decide +kernel
theorem d_ByteRow_add_39 : decode b_ByteRow_add 39 = .ok (.aload_n 0, 1) := by decide +kernel
theorem d_ByteRow_add_40 : decode b_ByteRow_add 40 = .ok (.getfield 19, 3) := by decide +kernel
theorem d_ByteRow_add_43 : decode b_ByteRow_add 43 = .ok (.lload_n 1, 1) := by decide +kernel
theorem d_ByteRow_add_44 : decode b_ByteRow_add 44 = .ok (.bipush 8, 2) := by decide +kernel
theorem d_ByteRow_add_46 : decode b_ByteRow_add 46 = .ok (.iload 4, 2) := by decide +kernel
theorem d_ByteRow_add_48 : decode b_ByteRow_add 48 = .ok (.imul, 1) := by decide +kernel
theorem d_ByteRow_add_49 : decode b_ByteRow_add 49 = .ok (.lshr, 1) := by decide +kernel
theorem d_ByteRow_add_50 : decode b_ByteRow_add 50 = .ok (.l2i, 1) := by decide +kernel
theorem d_ByteRow_add_51 : decode b_ByteRow_add 51 = .ok (.i2b, 1) := by decide +kernel
theorem d_ByteRow_add_52 : decode b_ByteRow_add 52 = .ok (.bastore, 1) := by decide +kernel
theorem d_ByteRow_add_53 : decode b_ByteRow_add 53 = .ok (.aload_n 0, 1) := by decide +kernel
theorem d_ByteRow_add_54 : decode b_ByteRow_add 54 = .ok (.dup, 1) := by decide +kernel
theorem d_ByteRow_add_55 : decode b_ByteRow_add 55 = .ok (.getfield 19, 3) := by decide +kernel
theorem d_ByteRow_add_58 : decode b_ByteRow_add 58 = .ok (.iconst 1, 1) := by decide +kernel
theorem d_ByteRow_add_59 : decode b_ByteRow_add 59 = .ok (.iadd, 1) := by decide +kernel
theorem d_ByteRow_add_60 : decode b_ByteRow_add 60 = .ok (.putfield 19, 3) := by decide +kernel
theorem d_ByteRow_add_63 : decode b_ByteRow_add 63 = .ok (.iinc 4 (-1), 3) := by decide +kernel
theorem d_ByteRow_add_66 : decode b_ByteRow_add 66 = .ok (.goto (-36), 3) := by decide +kernel
theorem d_ByteRow_add_69 : decode b_ByteRow_add 69 = .ok (.iconst 1, 1) := by decide +kernel
theorem d_ByteRow_add_70 : decode b_ByteRow_add 70 = .ok (.ireturn, 1) := by decide +kernel
theorem d_SB_give_0 : decode b_SB_give 0 = .ok (.iload_n 3, 1) := by decide +kernel
theorem d_SB_give_1 : decode b_SB_give 1 = .ok (.iconst 1, 1) := by decide +kernel
theorem d_SB_give_2 : decode b_SB_give 2 = .ok (.if_icmp .lt 25, 3) := by decide +kernel
theorem d_SB_give_5 : decode b_SB_give 5 = .ok (.iload_n 3, 1) := by decide +kernel
theorem d_SB_give_6 : decode b_SB_give 6 = .ok (.bipush 8, 2) := by decide +kernel
theorem d_SB_give_8 : decode b_SB_give 8 = .ok (.if_icmp .gt 19, 3) := by decide +kernel
theorem d_SB_give_11 : decode b_SB_give 11 = .ok (.aload_n 0, 1) := by decide +kernel
theorem d_SB_give_12 : decode b_SB_give 12 = .ok (.getfield 14, 3) := by decide +kernel
theorem d_SB_give_15 : decode b_SB_give 15 = .ok (.lload_n 1, 1) := by decide +kernel
theorem d_SB_give_16 : decode b_SB_give 16 = .ok (.iload_n 3, 1) := by decide +kernel
theorem d_SB_give_17 : decode b_SB_give 17 = .ok (.invokevirtual 45, 3) := by decide +kernel
theorem d_SB_give_20 : decode b_SB_give 20 = .ok (.ifCond .eq 7, 3) := by decide +kernel
theorem d_SB_give_23 : decode b_SB_give 23 = .ok (.iconst 1, 1) := by decide +kernel
theorem d_SB_give_24 : decode b_SB_give 24 = .ok (.goto 4, 3) := by decide +kernel
theorem d_SB_give_27 : decode b_SB_give 27 = .ok (.iconst 0, 1) := by decide +kernel
theorem d_SB_give_28 : decode b_SB_give 28 = .ok (.ireturn, 1) := by decide +kernel
theorem d_ByteRow_keepFirst_0 : decode b_ByteRow_keepFirst 0 = .ok (.iload_n 1, 1) := by decide +kernel
theorem d_ByteRow_keepFirst_1 : decode b_ByteRow_keepFirst 1 = .ok (.ifCond .lt 11, 3) := by decide +kernel
theorem d_ByteRow_keepFirst_4 : decode b_ByteRow_keepFirst 4 = .ok (.iload_n 1, 1) := by decide +kernel
theorem d_ByteRow_keepFirst_5 : decode b_ByteRow_keepFirst 5 = .ok (.aload_n 0, 1) := by decide +kernel
theorem d_ByteRow_keepFirst_6 : decode b_ByteRow_keepFirst 6 = .ok (.getfield 19, 3) := by decide +kernel
theorem d_ByteRow_keepFirst_9 : decode b_ByteRow_keepFirst 9 = .ok (.if_icmp .le 5, 3) := by decide +kernel
theorem d_ByteRow_keepFirst_12 : decode b_ByteRow_keepFirst 12 = .ok (.iconst 0, 1) := by decide +kernel
theorem d_ByteRow_keepFirst_13 : decode b_ByteRow_keepFirst 13 = .ok (.ireturn, 1) := by decide +kernel
theorem d_ByteRow_keepFirst_14 : decode b_ByteRow_keepFirst 14 = .ok (.aload_n 0, 1) := by decide +kernel
theorem d_ByteRow_keepFirst_15 : decode b_ByteRow_keepFirst 15 = .ok (.iload_n 1, 1) := by decide +kernel
theorem d_ByteRow_keepFirst_16 : decode b_ByteRow_keepFirst 16 = .ok (.putfield 19, 3) := by decide +kernel
theorem d_ByteRow_keepFirst_19 : decode b_ByteRow_keepFirst 19 = .ok (.iconst 1, 1) := by decide +kernel
theorem d_ByteRow_keepFirst_20 : decode b_ByteRow_keepFirst 20 = .ok (.ireturn, 1) := by decide +kernel
theorem d_SB_cut_0 : decode b_SB_cut 0 = .ok (.aload_n 0, 1) := by decide +kernel
theorem d_SB_cut_1 : decode b_SB_cut 1 = .ok (.getfield 14, 3) := by decide +kernel
theorem d_SB_cut_4 : decode b_SB_cut 4 = .ok (.iload_n 1, 1) := by decide +kernel
theorem d_SB_cut_5 : decode b_SB_cut 5 = .ok (.invokevirtual 49, 3) := by decide +kernel
theorem d_SB_cut_8 : decode b_SB_cut 8 = .ok (.ireturn, 1) := by decide +kernel
theorem d_ByteRow_set_0 : decode b_ByteRow_set 0 = .ok (.iload_n 1, 1) := by decide +kernel
theorem d_ByteRow_set_1 : decode b_ByteRow_set 1 = .ok (.ifCond .lt 11, 3) := by decide +kernel
theorem d_ByteRow_set_4 : decode b_ByteRow_set 4 = .ok (.iload_n 1, 1) := by decide +kernel
theorem d_ByteRow_set_5 : decode b_ByteRow_set 5 = .ok (.aload_n 0, 1) := by decide +kernel
theorem d_ByteRow_set_6 : decode b_ByteRow_set 6 = .ok (.getfield 19, 3) := by decide +kernel
theorem d_ByteRow_set_9 : decode b_ByteRow_set 9 = .ok (.if_icmp .lt 5, 3) := by decide +kernel
theorem d_ByteRow_set_12 : decode b_ByteRow_set 12 = .ok (.iconst 0, 1) := by decide +kernel
theorem d_ByteRow_set_13 : decode b_ByteRow_set 13 = .ok (.ireturn, 1) := by decide +kernel
theorem d_ByteRow_set_14 : decode b_ByteRow_set 14 = .ok (.aload_n 0, 1) := by decide +kernel
theorem d_ByteRow_set_15 : decode b_ByteRow_set 15 = .ok (.getfield 15, 3) := by decide +kernel
theorem d_ByteRow_set_18 : decode b_ByteRow_set 18 = .ok (.iload_n 1, 1) := by decide +kernel
theorem d_ByteRow_set_19 : decode b_ByteRow_set 19 = .ok (.iload_n 2, 1) := by decide +kernel
theorem d_ByteRow_set_20 : decode b_ByteRow_set 20 = .ok (.i2b, 1) := by decide +kernel
theorem d_ByteRow_set_21 : decode b_ByteRow_set 21 = .ok (.bastore, 1) := by decide +kernel
theorem d_ByteRow_set_22 : decode b_ByteRow_set 22 = .ok (.iconst 1, 1) := by decide +kernel
theorem d_ByteRow_set_23 : decode b_ByteRow_set 23 = .ok (.ireturn, 1) := by decide +kernel
theorem d_SB_poke_0 : decode b_SB_poke 0 = .ok (.aload_n 0, 1) := by decide +kernel
theorem d_SB_poke_1 : decode b_SB_poke 1 = .ok (.getfield 14, 3) := by decide +kernel
theorem d_SB_poke_4 : decode b_SB_poke 4 = .ok (.iload_n 1, 1) := by decide +kernel
theorem d_SB_poke_5 : decode b_SB_poke 5 = .ok (.iload_n 2, 1) := by decide +kernel
theorem d_SB_poke_6 : decode b_SB_poke 6 = .ok (.invokevirtual 53, 3) := by decide +kernel
theorem d_SB_poke_9 : decode b_SB_poke 9 = .ok (.ireturn, 1) := by decide +kernel
theorem d_Fault_clear_0 : decode b_Fault_clear 0 = .ok (.aload_n 0, 1) := by decide +kernel
theorem d_Fault_clear_1 : decode b_Fault_clear 1 = .ok (.iconst 0, 1) := by decide +kernel
theorem d_Fault_clear_2 : decode b_Fault_clear 2 = .ok (.putfield 9, 3) := by decide +kernel
theorem d_Fault_clear_5 : decode b_Fault_clear 5 = .ok (.aload_n 0, 1) := by decide +kernel
theorem d_Fault_clear_6 : decode b_Fault_clear 6 = .ok (.iconst (-1), 1) := by decide +kernel
theorem d_Fault_clear_7 : decode b_Fault_clear 7 = .ok (.putfield 15, 3) := by decide +kernel
theorem d_Fault_clear_10 : decode b_Fault_clear 10 = .ok (.return_, 1) := by decide +kernel
theorem d_Reader_init_0 : decode b_Reader_init 0 = .ok (.aload_n 0, 1) := by decide +kernel
theorem d_Reader_init_1 : decode b_Reader_init 1 = .ok (.invokespecial 3, 3) := by decide +kernel
theorem d_Reader_init_4 : decode b_Reader_init 4 = .ok (.aload_n 0, 1) := by decide +kernel
theorem d_Reader_init_5 : decode b_Reader_init 5 = .ok (.aload_n 1, 1) := by decide +kernel
theorem d_Reader_init_6 : decode b_Reader_init 6 = .ok (.putfield 9, 3) := by decide +kernel
theorem d_Reader_init_9 : decode b_Reader_init 9 = .ok (.aload_n 0, 1) := by decide +kernel
theorem d_Reader_init_10 : decode b_Reader_init 10 = .ok (.aload_n 2, 1) := by decide +kernel
theorem d_Reader_init_11 : decode b_Reader_init 11 = .ok (.putfield 15, 3) := by decide +kernel
theorem d_Reader_init_14 : decode b_Reader_init 14 = .ok (.aload_n 0, 1) := by decide +kernel
theorem d_Reader_init_15 : decode b_Reader_init 15 = .ok (.iconst 0, 1) := by decide +kernel
theorem d_Reader_init_16 : decode b_Reader_init 16 = .ok (.putfield 19, 3) := by decide +kernel
theorem d_Reader_init_19 : decode b_Reader_init 19 = .ok (.return_, 1) := by decide +kernel
theorem d_Fault_tell_0 : decode b_Fault_tell 0 = .ok (.aload_n 0, 1) := by decide +kernel
theorem d_Fault_tell_1 : decode b_Fault_tell 1 = .ok (.getfield 9, 3) := by decide +kernel
theorem d_Fault_tell_4 : decode b_Fault_tell 4 = .ok (.ifCond .ne 13, 3) := by decide +kernel
theorem d_Fault_tell_7 : decode b_Fault_tell 7 = .ok (.aload_n 0, 1) := by decide +kernel
theorem d_Fault_tell_8 : decode b_Fault_tell 8 = .ok (.iload_n 1, 1) := by decide +kernel
theorem d_Fault_tell_9 : decode b_Fault_tell 9 = .ok (.putfield 9, 3) := by decide +kernel
theorem d_Fault_tell_12 : decode b_Fault_tell 12 = .ok (.aload_n 0, 1) := by decide +kernel
theorem d_Fault_tell_13 : decode b_Fault_tell 13 = .ok (.iload_n 2, 1) := by decide +kernel
theorem d_Fault_tell_14 : decode b_Fault_tell 14 = .ok (.putfield 15, 3) := by decide +kernel
theorem d_Fault_tell_17 : decode b_Fault_tell 17 = .ok (.return_, 1) := by decide +kernel
theorem d_ByteRow_at_0 : decode b_ByteRow_at 0 = .ok (.iload_n 1, 1) := by decide +kernel
theorem d_ByteRow_at_1 : decode b_ByteRow_at 1 = .ok (.ifCond .lt 11, 3) := by decide +kernel
theorem d_ByteRow_at_4 : decode b_ByteRow_at 4 = .ok (.iload_n 1, 1) := by decide +kernel
theorem d_ByteRow_at_5 : decode b_ByteRow_at 5 = .ok (.aload_n 0, 1) := by decide +kernel
theorem d_ByteRow_at_6 : decode b_ByteRow_at 6 = .ok (.getfield 19, 3) := by decide +kernel
theorem d_ByteRow_at_9 : decode b_ByteRow_at 9 = .ok (.if_icmp .lt 7, 3) := by decide +kernel
theorem d_ByteRow_at_12 : decode b_ByteRow_at 12 = .ok (.iconst (-1), 1) := by decide +kernel
theorem d_ByteRow_at_13 : decode b_ByteRow_at 13 = .ok (.goto 13, 3) := by decide +kernel
theorem d_ByteRow_at_16 : decode b_ByteRow_at 16 = .ok (.aload_n 0, 1) := by decide +kernel
theorem d_ByteRow_at_17 : decode b_ByteRow_at 17 = .ok (.getfield 15, 3) := by decide +kernel
theorem d_ByteRow_at_20 : decode b_ByteRow_at 20 = .ok (.iload_n 1, 1) := by decide +kernel
theorem d_ByteRow_at_21 : decode b_ByteRow_at 21 = .ok (.baload, 1) := by decide +kernel
theorem d_ByteRow_at_22 : decode b_ByteRow_at 22 = .ok (.sipush 255, 3) := by decide +kernel
theorem d_ByteRow_at_25 : decode b_ByteRow_at 25 = .ok (.iand, 1) := by decide +kernel
theorem d_ByteRow_at_26 : decode b_ByteRow_at 26 = .ok (.ireturn, 1) := by decide +kernel
set_option maxHeartbeats 4000000 in
set_option maxRecDepth 100000 in
theorem m_ByteRow_init {l : Launch} {D : va_G} {dA : Nat → ClassId} (q0 : Nat) (x1 : Int32) (h0 : hc_H) (b : Unit) (C0 S0 : Nat) (h2 : hc_H) (hr : p_ByteRow_init (some q0) x1 h0 = some (b, C0, S0, h2)) : hc_Met l (gg D dA) y_ByteRow_init b_ByteRow_init 2 none tb 1 20 [vr_ (some q0), vi_ x1] h0 C0 S0 none h2 := by
  refine hc_Met.of (by decide) (Nat.le_of_ble_eq_true rfl) ?_
  intro p e s m args below meth c hC
  unfold p_ByteRow_init at hr
  refine hj_sub (lv' := [(0, vr_ (some q0)), (1, vi_ x1)]) [0, 1] rfl ?_
  refine hj_aload_n hC 0 d_ByteRow_init_0 rfl rfl ?_
  refine hj_objInit hC wq_0 wq_1 wq_2 (Nat.le_of_ble_eq_true rfl) (Nat.le_of_ble_eq_true rfl) d_ByteRow_init_1 ?_
  refine hj_aload_n hC 0 d_ByteRow_init_4 rfl rfl ?_
  refine hj_iload_n hC 1 d_ByteRow_init_5 rfl rfl ?_
  refine hj_puti hC cf_ByteRow (k := 0) (by decide) wq_3 rfl (Or.inr ⟨rfl, rfl, rfl⟩) rfl d_ByteRow_init_6 hr (fun h hr => ?_)
  refine hj_aload_n hC 0 d_ByteRow_init_9 rfl rfl ?_
  refine hj_bipush hC (v := 64) d_ByteRow_init_10 (by decide) ?_
  refine hj_newa hC (kd := 7) (atype := .byte) rfl rfl (by decide) wq_4 d_ByteRow_init_12 hr (fun q1 h C S hr => ?_)
  refine hj_putr hC cf_ByteRow (k := 1) (by decide) wq_5 rfl (Or.inl rfl) rfl d_ByteRow_init_14 hr (fun h hr => ?_)
  refine hj_aload_n hC 0 d_ByteRow_init_17 rfl rfl ?_
  refine hj_iconst hC (v := 0) d_ByteRow_init_18 (by decide) ?_
  refine hj_puti hC cf_ByteRow (k := 2) (by decide) wq_6 rfl (Or.inl rfl) rfl d_ByteRow_init_19 hr (fun h hr => ?_)
  exact hj_vret hC d_ByteRow_init_22 hr
set_option maxHeartbeats 4000000 in
set_option maxRecDepth 100000 in
theorem m_Fault_init {l : Launch} {D : va_G} {dA : Nat → ClassId} (q0 : Nat) (h0 : hc_H) (b : Unit) (C0 S0 : Nat) (h2 : hc_H) (hr : p_Fault_init (some q0) h0 = some (b, C0, S0, h2)) : hc_Met l (gg D dA) y_Fault_init b_Fault_init 1 none tb 1 20 [vr_ (some q0)] h0 C0 S0 none h2 := by
  refine hc_Met.of (by decide) (Nat.le_of_ble_eq_true rfl) ?_
  intro p e s m args below meth c hC
  unfold p_Fault_init at hr
  refine hj_sub (lv' := [(0, vr_ (some q0))]) [0] rfl ?_
  refine hj_aload_n hC 0 d_Fault_init_0 rfl rfl ?_
  refine hj_objInit hC wq_7 wq_1 wq_2 (Nat.le_of_ble_eq_true rfl) (Nat.le_of_ble_eq_true rfl) d_Fault_init_1 ?_
  refine hj_aload_n hC 0 d_Fault_init_4 rfl rfl ?_
  refine hj_iconst hC (v := 0) d_Fault_init_5 (by decide) ?_
  refine hj_puti hC cf_Fault (k := 0) (by decide) wq_8 rfl (Or.inl rfl) rfl d_Fault_init_6 hr (fun h hr => ?_)
  refine hj_aload_n hC 0 d_Fault_init_9 rfl rfl ?_
  refine hj_iconst hC (v := (-1)) d_Fault_init_10 (by decide) ?_
  refine hj_puti hC cf_Fault (k := 1) (by decide) wq_9 rfl (Or.inl rfl) rfl d_Fault_init_11 hr (fun h hr => ?_)
  exact hj_vret hC d_Fault_init_14 hr
set_option maxHeartbeats 4000000 in
set_option maxRecDepth 100000 in
theorem m_Verifier_init {l : Launch} {D : va_G} {dA : Nat → ClassId} (q0 : Nat) (h0 : hc_H) (b : Unit) (C0 S0 : Nat) (h2 : hc_H) (hr : p_Verifier_init (some q0) h0 = some (b, C0, S0, h2)) : hc_Met l (gg D dA) y_Verifier_init b_Verifier_init 1 none tb 1 20 [vr_ (some q0)] h0 C0 S0 none h2 := by
  refine hc_Met.of (by decide) (Nat.le_of_ble_eq_true rfl) ?_
  intro p e s m args below meth c hC
  unfold p_Verifier_init at hr
  refine hj_sub (lv' := [(0, vr_ (some q0))]) [0] rfl ?_
  refine hj_aload_n hC 0 d_Verifier_init_0 rfl rfl ?_
  refine hj_objInit hC wq_10 wq_1 wq_2 (Nat.le_of_ble_eq_true rfl) (Nat.le_of_ble_eq_true rfl) d_Verifier_init_1 ?_
  refine hj_aload_n hC 0 d_Verifier_init_4 rfl rfl ?_
  refine hj_sipush hC (v := 400) d_Verifier_init_5 (by decide) ?_
  refine hj_newa hC (kd := 4) (atype := .int) rfl rfl (by decide) wq_11 d_Verifier_init_8 hr (fun q1 h C S hr => ?_)
  refine hj_putr hC cf_Verifier (k := 0) (by decide) wq_12 rfl (Or.inr ⟨rfl, rfl, rfl⟩) rfl d_Verifier_init_10 hr (fun h hr => ?_)
  refine hj_aload_n hC 0 d_Verifier_init_13 rfl rfl ?_
  refine hj_sipush hC (v := 400) d_Verifier_init_14 (by decide) ?_
  refine hj_newa hC (kd := 5) (atype := .int) rfl rfl (by decide) wq_11 d_Verifier_init_17 hr (fun q2 h C S hr => ?_)
  refine hj_putr hC cf_Verifier (k := 1) (by decide) wq_13 rfl (Or.inr ⟨rfl, rfl, rfl⟩) rfl d_Verifier_init_19 hr (fun h hr => ?_)
  refine hj_aload_n hC 0 d_Verifier_init_22 rfl rfl ?_
  refine hj_sipush hC (v := 400) d_Verifier_init_23 (by decide) ?_
  refine hj_newa hC (kd := 6) (atype := .boolean) rfl rfl (by decide) wq_14 d_Verifier_init_26 hr (fun q3 h C S hr => ?_)
  refine hj_putr hC cf_Verifier (k := 2) (by decide) wq_15 rfl (Or.inr ⟨rfl, rfl, rfl⟩) rfl d_Verifier_init_28 hr (fun h hr => ?_)
  exact hj_vret hC d_Verifier_init_31 hr
set_option maxHeartbeats 4000000 in
set_option maxRecDepth 100000 in
theorem m_Handler_init {l : Launch} {D : va_G} {dA : Nat → ClassId} (q0 : Nat) (h0 : hc_H) (b : Unit) (C0 S0 : Nat) (h2 : hc_H) (hr : p_Handler_init (some q0) h0 = some (b, C0, S0, h2)) : hc_Met l (gg D dA) y_Handler_init b_Handler_init 1 none tb 1 20 [vr_ (some q0)] h0 C0 S0 none h2 := by
  refine hc_Met.of (by decide) (Nat.le_of_ble_eq_true rfl) ?_
  intro p e s m args below meth c hC
  unfold p_Handler_init at hr
  refine hj_sub (lv' := [(0, vr_ (some q0))]) [0] rfl ?_
  refine hj_aload_n hC 0 d_Handler_init_0 rfl rfl ?_
  refine hj_objInit hC wq_16 wq_1 wq_2 (Nat.le_of_ble_eq_true rfl) (Nat.le_of_ble_eq_true rfl) d_Handler_init_1 ?_
  exact hj_vret hC d_Handler_init_4 hr
set_option maxHeartbeats 4000000 in
set_option maxRecDepth 100000 in
theorem ml_Function_init_64 {p : Program} {l : Launch} {e : Env} {s : State} {m : MethodId} {args : Array Value} {below : List Frame} {meth : Method} {c : Code} {D : va_G} {dA : Nat → ClassId} {h0 h2 : hc_H} {C0 S0 : Nat} {b : Unit} (hC : hj_C p s m args meth c (gg D dA) b_Function_init 2 none R_Function "<init>" tb) (x0 : Option Nat) (kx : hM Unit) (hk : ∀  (h : hc_H) (C S : Nat), kx  h = some (b, C, S, h2) → hj_J p l e { frames := 2, cells := C0, slots := S0, locals := 40 } s m args below meth c (gg D dA) h0 2 (hj_Q below args s { frames := 2, cells := C0, slots := S0, locals := 40 } (gg D dA) h0 none h2) C S h 89 [] []) : ∀ (fu : Nat) (v1 : Int32) (h : hc_H) (C S : Nat), p_Function_init_64 x0 kx fu v1 h = some (b, C, S, h2) → hj_J p l e { frames := 2, cells := C0, slots := S0, locals := 40 } s m args below meth c (gg D dA) h0 2 (hj_Q below args s { frames := 2, cells := C0, slots := S0, locals := 40 } (gg D dA) h0 none h2) C S h 64 [(0, vr_ x0), (1, vi_ v1)] [] := by
  intro fu
  induction fu with
  | zero =>
    intro v1 h C S hr
    cases hr
  | succ fu ih =>
    intro v1 h C S hr
    rw [p_Function_init_64] at hr
    refine hj_iload_n hC 1 d_Function_init_64 rfl rfl ?_
    refine hj_bipush hC (v := 6) d_Function_init_65 (by decide) ?_
    refine hj_icmp_ge hC 89 d_Function_init_67 (by decide) hr (fun q67 hr => ?_) (fun q67 hr => ?_)
    · refine hj_sub (lv' := []) [] rfl ?_
      exact hk _ _ _ hr
    · refine hj_aload_n hC 0 d_Function_init_70 rfl rfl ?_
      refine hj_getr hC cf_Function (k := 10) (by decide) wq_23 rfl d_Function_init_71 hr (fun a7 hr => ?_)
      refine hj_iload_n hC 1 d_Function_init_74 rfl rfl ?_
      refine hj_new hC cf_Handler wq_22 wq_25 wq_26 (fs := [vi_ 0, vi_ 0, vi_ 0, vi_ 0, vi_ 0]) (fun j hj => by rcases (show j = 0 ∨ j = 1 ∨ j = 2 ∨ j = 3 ∨ j = 4 by omega) with rfl | rfl | rfl | rfl | rfl <;> rfl) d_Function_init_75 hr (fun q8 h C S hr => ?_)
      refine hj_dup hC d_Function_init_78 rfl ?_
      refine hj_callI hC hG (As := []) (st := [vr_ (some q8), vi_ v1, vr_ a7]) (fun h a C S h1 hr => m_Handler_init _  h a C S h1 hr) (Or.inr ⟨_, nq_Function_34⟩) wq_28 wq_26 wq_27 rfl yk_Handler_init rfl ⟨Nat.le_of_ble_eq_true rfl, Nat.le_of_ble_eq_true rfl⟩ rfl (Nat.le_of_ble_eq_true rfl) d_Function_init_79 hr (fun _ h C S hr => ?_)
      refine hj_aast hC (kd := 9) rfl cf_Handler d_Function_init_82 hr (fun h hr => ?_)
      refine hj_iinc hC (lv' := [(1, vi_ (v1 + 1)), (0, vr_ x0)]) 1 d_Function_init_83 rfl rfl (by decide) rfl ?_
      refine hj_goto hC 64 d_Function_init_86 (by decide) ?_
      refine hj_sub (lv' := [(0, vr_ x0), (1, vi_ (v1 + 1))]) [1, 0] rfl ?_
      exact ih _ _ _ _ hr
set_option maxHeartbeats 4000000 in
set_option maxRecDepth 100000 in
theorem m_Function_init {l : Launch} {D : va_G} {dA : Nat → ClassId} (q0 : Nat) (h0 : hc_H) (b : Unit) (C0 S0 : Nat) (h2 : hc_H) (hr : p_Function_init (some q0) h0 = some (b, C0, S0, h2)) : hc_Met l (gg D dA) y_Function_init b_Function_init 2 none tb 2 40 [vr_ (some q0)] h0 C0 S0 none h2 := by
  refine hc_Met.of (by decide) (Nat.le_of_ble_eq_true rfl) ?_
  intro p e s m args below meth c hC
  unfold p_Function_init at hr
  refine hj_sub (lv' := [(0, vr_ (some q0))]) [0] rfl ?_
  refine hj_aload_n hC 0 d_Function_init_0 rfl rfl ?_
  refine hj_objInit hC wq_17 wq_1 wq_2 (Nat.le_of_ble_eq_true rfl) (Nat.le_of_ble_eq_true rfl) d_Function_init_1 ?_
  refine hj_aload_n hC 0 d_Function_init_4 rfl rfl ?_
  refine hj_sipush hC (v := 400) d_Function_init_5 (by decide) ?_
  refine hj_newa hC (kd := 0) (atype := .int) rfl rfl (by decide) wq_11 d_Function_init_8 hr (fun q1 h C S hr => ?_)
  refine hj_putr hC cf_Function (k := 6) (by decide) wq_18 rfl (Or.inr ⟨rfl, rfl, rfl⟩) rfl d_Function_init_10 hr (fun h hr => ?_)
  refine hj_aload_n hC 0 d_Function_init_13 rfl rfl ?_
  refine hj_sipush hC (v := 400) d_Function_init_14 (by decide) ?_
  refine hj_newa hC (kd := 1) (atype := .int) rfl rfl (by decide) wq_11 d_Function_init_17 hr (fun q2 h C S hr => ?_)
  refine hj_putr hC cf_Function (k := 7) (by decide) wq_19 rfl (Or.inr ⟨rfl, rfl, rfl⟩) rfl d_Function_init_19 hr (fun h hr => ?_)
  refine hj_aload_n hC 0 d_Function_init_22 rfl rfl ?_
  refine hj_sipush hC (v := 400) d_Function_init_23 (by decide) ?_
  refine hj_newa hC (kd := 2) (atype := .int) rfl rfl (by decide) wq_11 d_Function_init_26 hr (fun q3 h C S hr => ?_)
  refine hj_putr hC cf_Function (k := 8) (by decide) wq_20 rfl (Or.inr ⟨rfl, rfl, rfl⟩) rfl d_Function_init_28 hr (fun h hr => ?_)
  refine hj_aload_n hC 0 d_Function_init_31 rfl rfl ?_
  refine hj_sipush hC (v := 400) d_Function_init_32 (by decide) ?_
  refine hj_newa hC (kd := 3) (atype := .int) rfl rfl (by decide) wq_11 d_Function_init_35 hr (fun q4 h C S hr => ?_)
  refine hj_putr hC cf_Function (k := 9) (by decide) wq_21 rfl (Or.inr ⟨rfl, rfl, rfl⟩) rfl d_Function_init_37 hr (fun h hr => ?_)
  refine hj_aload_n hC 0 d_Function_init_40 rfl rfl ?_
  refine hj_bipush hC (v := 6) d_Function_init_41 (by decide) ?_
  refine hj_anew hC (kd := 9) rfl wq_22 (List.mem_of_getElem? (i := 1) rfl) d_Function_init_43 hr (fun q5 h C S hr => ?_)
  refine hj_putr hC cf_Function (k := 10) (by decide) wq_23 rfl (Or.inr ⟨rfl, rfl, rfl⟩) rfl d_Function_init_46 hr (fun h hr => ?_)
  refine hj_aload_n hC 0 d_Function_init_49 rfl rfl ?_
  refine hj_iconst hC (v := 1) d_Function_init_50 (by decide) ?_
  refine hj_puti hC cf_Function (k := 4) (by decide) wq_24 rfl (Or.inl rfl) rfl d_Function_init_51 hr (fun h hr => ?_)
  refine hj_aload_n hC 0 d_Function_init_54 rfl rfl ?_
  refine hj_getr hC cf_Function (k := 6) (by decide) wq_18 rfl d_Function_init_55 hr (fun a6 hr => ?_)
  refine hj_iconst hC (v := 0) d_Function_init_58 (by decide) ?_
  refine hj_bipush hC (v := 27) d_Function_init_59 (by decide) ?_
  refine hj_iast hC (kd := 0) rfl d_Function_init_61 hr (fun h hr => ?_)
  refine hj_iconst hC (v := 0) d_Function_init_62 (by decide) ?_
  refine hj_istore_n hC (lv' := [(1, vi_ 0), (0, vr_ (some q0))]) d_Function_init_63 rfl (by decide) rfl ?_
  refine hj_sub (lv' := [(0, vr_ (some q0)), (1, vi_ 0)]) [1, 0] rfl ?_
  refine ml_Function_init_64 hC _ _ (fun  h C S hr => ?_) _ _ _ _ _ hr
  exact hj_vret hC d_Function_init_89 hr
set_option maxHeartbeats 4000000 in
set_option maxRecDepth 100000 in
theorem m_Program_init {l : Launch} {D : va_G} {dA : Nat → ClassId} (q0 : Nat) (h0 : hc_H) (b : Unit) (C0 S0 : Nat) (h2 : hc_H) (hr : p_Program_init (some q0) h0 = some (b, C0, S0, h2)) : hc_Met l (gg D dA) y_Program_init b_Program_init 1 none tb 3 61 [vr_ (some q0)] h0 C0 S0 none h2 := by
  refine hc_Met.of (by decide) (Nat.le_of_ble_eq_true rfl) ?_
  intro p e s m args below meth c hC
  unfold p_Program_init at hr
  refine hj_sub (lv' := [(0, vr_ (some q0))]) [0] rfl ?_
  refine hj_aload_n hC 0 d_Program_init_0 rfl rfl ?_
  refine hj_objInit hC wq_29 wq_1 wq_2 (Nat.le_of_ble_eq_true rfl) (Nat.le_of_ble_eq_true rfl) d_Program_init_1 ?_
  refine hj_aload_n hC 0 d_Program_init_4 rfl rfl ?_
  refine hj_bipush hC (v := 12) d_Program_init_5 (by decide) ?_
  refine hj_anew hC (kd := 8) rfl wq_30 (List.mem_of_getElem? (i := 0) rfl) d_Program_init_7 hr (fun q1 h C S hr => ?_)
  refine hj_putr hC cf_Program (k := 0) (by decide) wq_31 rfl (Or.inr ⟨rfl, rfl, rfl⟩) rfl d_Program_init_10 hr (fun h hr => ?_)
  refine hj_aload_n hC 0 d_Program_init_13 rfl rfl ?_
  refine hj_getr hC cf_Program (k := 0) (by decide) wq_31 rfl d_Program_init_14 hr (fun a2 hr => ?_)
  refine hj_iconst hC (v := 0) d_Program_init_17 (by decide) ?_
  refine hj_new hC cf_Function wq_30 wq_32 wq_33 (fs := [vi_ 0, vi_ 0, vi_ 0, vi_ 0, vi_ 0, vi_ 0, vr_ none, vr_ none, vr_ none, vr_ none, vr_ none]) (fun j hj => by rcases (show j = 0 ∨ j = 1 ∨ j = 2 ∨ j = 3 ∨ j = 4 ∨ j = 5 ∨ j = 6 ∨ j = 7 ∨ j = 8 ∨ j = 9 ∨ j = 10 by omega) with rfl | rfl | rfl | rfl | rfl | rfl | rfl | rfl | rfl | rfl | rfl <;> rfl) d_Program_init_18 hr (fun q3 h C S hr => ?_)
  refine hj_dup hC d_Program_init_21 rfl ?_
  refine hj_callI hC hG (As := []) (st := [vr_ (some q3), vi_ 0, vr_ a2]) (fun h a C S h1 hr => m_Function_init _  h a C S h1 hr) (Or.inl wq_36) wq_37 wq_33 wq_34 rfl yk_Function_init rfl ⟨Nat.le_of_ble_eq_true rfl, Nat.le_of_ble_eq_true rfl⟩ rfl (Nat.le_of_ble_eq_true rfl) d_Program_init_22 hr (fun _ h C S hr => ?_)
  refine hj_aast hC (kd := 8) rfl cf_Function d_Program_init_25 hr (fun h hr => ?_)
  refine hj_aload_n hC 0 d_Program_init_26 rfl rfl ?_
  refine hj_iconst hC (v := 1) d_Program_init_27 (by decide) ?_
  refine hj_puti hC cf_Program (k := 1) (by decide) wq_35 rfl (Or.inl rfl) rfl d_Program_init_28 hr (fun h hr => ?_)
  exact hj_vret hC d_Program_init_31 hr
set_option maxHeartbeats 4000000 in
set_option maxRecDepth 100000 in
theorem m_SB_init {l : Launch} {D : va_G} {dA : Nat → ClassId} (q0 : Nat) (h0 : hc_H) (b : Unit) (C0 S0 : Nat) (h2 : hc_H) (hr : p_SB_init (some q0) h0 = some (b, C0, S0, h2)) : hc_Met l (gg D dA) y_SB_init b_SB_init 1 none tb 4 81 [vr_ (some q0)] h0 C0 S0 none h2 := by
  refine hc_Met.of (by decide) (Nat.le_of_ble_eq_true rfl) ?_
  intro p e s m args below meth c hC
  unfold p_SB_init at hr
  refine hj_sub (lv' := [(0, vr_ (some q0))]) [0] rfl ?_
  refine hj_aload_n hC 0 d_SB_init_0 rfl rfl ?_
  refine hj_objInit hC wq_38 wq_1 wq_2 (Nat.le_of_ble_eq_true rfl) (Nat.le_of_ble_eq_true rfl) d_SB_init_1 ?_
  refine hj_aload_n hC 0 d_SB_init_4 rfl rfl ?_
  refine hj_new hC cf_ByteRow wq_39 wq_40 wq_41 (fs := [vi_ 0, vr_ none, vi_ 0]) (fun j hj => by rcases (show j = 0 ∨ j = 1 ∨ j = 2 by omega) with rfl | rfl | rfl <;> rfl) d_SB_init_5 hr (fun q1 h C S hr => ?_)
  refine hj_dup hC d_SB_init_8 rfl ?_
  refine hj_sipush hC (v := 4096) d_SB_init_9 (by decide) ?_
  refine hj_callI hC hG (As := [vi_ 4096]) (st := [vr_ (some q1), vr_ (some q0)]) (fun h a C S h1 hr => m_ByteRow_init _ _ h a C S h1 hr) (Or.inl wq_66) wq_67 wq_41 wq_42 rfl yk_ByteRow_init rfl ⟨Nat.le_of_ble_eq_true rfl, Nat.le_of_ble_eq_true rfl⟩ rfl (Nat.le_of_ble_eq_true rfl) d_SB_init_12 hr (fun _ h C S hr => ?_)
  refine hj_putr hC cf_SB (k := 0) (by decide) wq_43 rfl (Or.inr ⟨rfl, rfl, rfl⟩) rfl d_SB_init_15 hr (fun h hr => ?_)
  refine hj_aload_n hC 0 d_SB_init_18 rfl rfl ?_
  refine hj_new hC cf_ByteRow wq_39 wq_40 wq_41 (fs := [vi_ 0, vr_ none, vi_ 0]) (fun j hj => by rcases (show j = 0 ∨ j = 1 ∨ j = 2 by omega) with rfl | rfl | rfl <;> rfl) d_SB_init_19 hr (fun q2 h C S hr => ?_)
  refine hj_dup hC d_SB_init_22 rfl ?_
  refine hj_sipush hC (v := 24892) d_SB_init_23 (by decide) ?_
  refine hj_callI hC hG (As := [vi_ 24892]) (st := [vr_ (some q2), vr_ (some q0)]) (fun h a C S h1 hr => m_ByteRow_init _ _ h a C S h1 hr) (Or.inl wq_66) wq_67 wq_41 wq_42 rfl yk_ByteRow_init rfl ⟨Nat.le_of_ble_eq_true rfl, Nat.le_of_ble_eq_true rfl⟩ rfl (Nat.le_of_ble_eq_true rfl) d_SB_init_26 hr (fun _ h C S hr => ?_)
  refine hj_putr hC cf_SB (k := 1) (by decide) wq_44 rfl (Or.inr ⟨rfl, rfl, rfl⟩) rfl d_SB_init_29 hr (fun h hr => ?_)
  refine hj_aload_n hC 0 d_SB_init_32 rfl rfl ?_
  refine hj_new hC cf_Fault wq_45 wq_46 wq_47 (fs := [vi_ 0, vi_ 0]) (fun j hj => by rcases (show j = 0 ∨ j = 1 by omega) with rfl | rfl <;> rfl) d_SB_init_33 hr (fun q3 h C S hr => ?_)
  refine hj_dup hC d_SB_init_36 rfl ?_
  refine hj_callI hC hG (As := []) (st := [vr_ (some q3), vr_ (some q0)]) (fun h a C S h1 hr => m_Fault_init _  h a C S h1 hr) (Or.inl wq_64) wq_65 wq_47 wq_48 rfl yk_Fault_init rfl ⟨Nat.le_of_ble_eq_true rfl, Nat.le_of_ble_eq_true rfl⟩ rfl (Nat.le_of_ble_eq_true rfl) d_SB_init_37 hr (fun _ h C S hr => ?_)
  refine hj_putr hC cf_SB (k := 2) (by decide) wq_49 rfl (Or.inr ⟨rfl, rfl, rfl⟩) rfl d_SB_init_40 hr (fun h hr => ?_)
  refine hj_aload_n hC 0 d_SB_init_43 rfl rfl ?_
  refine hj_new hC cf_Verifier wq_50 wq_51 wq_52 (fs := [vr_ none, vr_ none, vr_ none, vi_ 0, vr_ none, vr_ none, vr_ none, vi_ 0, vi_ 0, vi_ 0, vi_ 0]) (fun j hj => by rcases (show j = 0 ∨ j = 1 ∨ j = 2 ∨ j = 3 ∨ j = 4 ∨ j = 5 ∨ j = 6 ∨ j = 7 ∨ j = 8 ∨ j = 9 ∨ j = 10 by omega) with rfl | rfl | rfl | rfl | rfl | rfl | rfl | rfl | rfl | rfl | rfl <;> rfl) d_SB_init_44 hr (fun q4 h C S hr => ?_)
  refine hj_dup hC d_SB_init_47 rfl ?_
  refine hj_callI hC hG (As := []) (st := [vr_ (some q4), vr_ (some q0)]) (fun h a C S h1 hr => m_Verifier_init _  h a C S h1 hr) (Or.inr ⟨_, nq_SB_30⟩) wq_63 wq_52 wq_53 rfl yk_Verifier_init rfl ⟨Nat.le_of_ble_eq_true rfl, Nat.le_of_ble_eq_true rfl⟩ rfl (Nat.le_of_ble_eq_true rfl) d_SB_init_48 hr (fun _ h C S hr => ?_)
  refine hj_putr hC cf_SB (k := 3) (by decide) wq_54 rfl (Or.inr ⟨rfl, rfl, rfl⟩) rfl d_SB_init_51 hr (fun h hr => ?_)
  refine hj_aload_n hC 0 d_SB_init_54 rfl rfl ?_
  refine hj_new hC cf_Program wq_55 wq_56 wq_57 (fs := [vr_ none, vi_ 0]) (fun j hj => by rcases (show j = 0 ∨ j = 1 by omega) with rfl | rfl <;> rfl) d_SB_init_55 hr (fun q5 h C S hr => ?_)
  refine hj_dup hC d_SB_init_58 rfl ?_
  refine hj_callI hC hG (As := []) (st := [vr_ (some q5), vr_ (some q0)]) (fun h a C S h1 hr => m_Program_init _  h a C S h1 hr) (Or.inl wq_61) wq_62 wq_57 wq_58 rfl yk_Program_init rfl ⟨Nat.le_of_ble_eq_true rfl, Nat.le_of_ble_eq_true rfl⟩ rfl (Nat.le_of_ble_eq_true rfl) d_SB_init_59 hr (fun _ h C S hr => ?_)
  refine hj_putr hC cf_SB (k := 4) (by decide) wq_59 rfl (Or.inl rfl) rfl d_SB_init_62 hr (fun h hr => ?_)
  refine hj_aload_n hC 0 d_SB_init_65 rfl rfl ?_
  refine hj_new hC cf_Program wq_55 wq_56 wq_57 (fs := [vr_ none, vi_ 0]) (fun j hj => by rcases (show j = 0 ∨ j = 1 by omega) with rfl | rfl <;> rfl) d_SB_init_66 hr (fun q6 h C S hr => ?_)
  refine hj_dup hC d_SB_init_69 rfl ?_
  refine hj_callI hC hG (As := []) (st := [vr_ (some q6), vr_ (some q0)]) (fun h a C S h1 hr => m_Program_init _  h a C S h1 hr) (Or.inl wq_61) wq_62 wq_57 wq_58 rfl yk_Program_init rfl ⟨Nat.le_of_ble_eq_true rfl, Nat.le_of_ble_eq_true rfl⟩ rfl (Nat.le_of_ble_eq_true rfl) d_SB_init_70 hr (fun _ h C S hr => ?_)
  refine hj_putr hC cf_SB (k := 5) (by decide) wq_60 rfl (Or.inl rfl) rfl d_SB_init_73 hr (fun h hr => ?_)
  exact hj_vret hC d_SB_init_76 hr
set_option maxHeartbeats 4000000 in
set_option maxRecDepth 100000 in
theorem m_Ar_copyOf {l : Launch} {D : va_G} {dA : Nat → ClassId} (x0 : Option Nat) (x1 : Int32) (h0 : hc_H) (b : Option Nat) (C0 S0 : Nat) (h2 : hc_H) (hr : p_Ar_copyOf x0 x1 h0 = some (b, C0, S0, h2)) : hc_Met l (gg D dA) y_Ar_copyOf b_Ar_copyOf 3 (some (.array .byte)) tb 1 26 [vr_ x0, vi_ x1] h0 C0 S0 (some (vr_ b)) h2 := by
  refine hc_Met.of (by decide) (Nat.le_of_ble_eq_true rfl) ?_
  intro p e s m args below meth c hC
  unfold p_Ar_copyOf at hr
  refine hj_sub (lv' := [(0, vr_ x0), (1, vi_ x1)]) [0, 1] rfl ?_
  refine hj_iload_n hC 1 d_Ar_copyOf_0 rfl rfl ?_
  refine hj_aload_n hC 0 d_Ar_copyOf_1 rfl rfl ?_
  refine hj_leni hC (kd := 7) rfl d_Ar_copyOf_2 hr (fun a1 hr => ?_)
  refine hj_icmp_ne hC 14 d_Ar_copyOf_3 (by decide) hr (fun q3 hr => ?_) (fun q3 hr => ?_)
  · refine hj_iload_n hC 1 d_Ar_copyOf_14 rfl rfl ?_
    refine hj_newa hC (kd := 7) (atype := .byte) rfl rfl (by decide) wq_4 d_Ar_copyOf_15 hr (fun q2 h C S hr => ?_)
    refine hj_astore_n hC (lv' := [(2, vr_ (some q2)), (0, vr_ x0), (1, vi_ x1)]) d_Ar_copyOf_17 rfl (by decide) rfl ?_
    refine hj_aload_n hC 1 d_Ar_copyOf_18 rfl rfl ?_
    refine hj_iconst hC (v := 0) d_Ar_copyOf_19 (by decide) ?_
    refine hj_aload_n hC 0 d_Ar_copyOf_20 rfl rfl ?_
    refine hj_iconst hC (v := 0) d_Ar_copyOf_21 (by decide) ?_
    refine hj_aload_n hC 1 d_Ar_copyOf_22 rfl rfl ?_
    refine hj_leni hC (kd := 7) rfl d_Ar_copyOf_23 hr (fun a3 hr => ?_)
    refine hj_iload_n hC 2 d_Ar_copyOf_24 rfl rfl ?_
    refine hj_mmin hC wq_68 wq_69 wq_70 wq_71 (Nat.le_of_ble_eq_true rfl) (Nat.le_of_ble_eq_true rfl) d_Ar_copyOf_25 ?_
    refine hj_copy hC (k1 := 7) (k2 := 7) rfl rfl rfl wq_72 wq_73 wq_74 wq_75 (Nat.le_of_ble_eq_true rfl) (Nat.le_of_ble_eq_true rfl) d_Ar_copyOf_28 hr (fun h hr => ?_)
    refine hj_aload_n hC 0 d_Ar_copyOf_31 rfl rfl ?_
    exact hj_aret hC (by first | exact Or.inl ⟨_, rfl⟩ | exact Or.inr ⟨_, rfl⟩) d_Ar_copyOf_32 hr
  · cases hr
set_option maxHeartbeats 4000000 in
set_option maxRecDepth 100000 in
theorem m_ByteRow_makeRoom {l : Launch} {D : va_G} {dA : Nat → ClassId} (o : Option Nat) (x1 : Int32) (h0 : hc_H) (b : Unit) (C0 S0 : Nat) (h2 : hc_H) (hr : p_ByteRow_makeRoom o x1 h0 = some (b, C0, S0, h2)) : hc_Met l (gg D dA) y_ByteRow_makeRoom b_ByteRow_makeRoom 2 none tb 2 48 [vr_ o, vi_ x1] h0 C0 S0 none h2 := by
  refine hc_Met.of (by decide) (Nat.le_of_ble_eq_true rfl) ?_
  intro p e s m args below meth c hC
  unfold p_ByteRow_makeRoom at hr
  refine hj_sub (lv' := [(0, vr_ o), (1, vi_ x1)]) [0, 1] rfl ?_
  refine hj_iload_n hC 1 d_ByteRow_makeRoom_0 rfl rfl ?_
  refine hj_aload_n hC 0 d_ByteRow_makeRoom_1 rfl rfl ?_
  refine hj_getr hC cf_ByteRow (k := 1) (by decide) wq_5 rfl d_ByteRow_makeRoom_2 hr (fun a1 hr => ?_)
  refine hj_leni hC (kd := 7) rfl d_ByteRow_makeRoom_5 hr (fun a2 hr => ?_)
  refine hj_icmp_le hC 38 d_ByteRow_makeRoom_6 (by decide) hr (fun q6 hr => ?_) (fun q6 hr => ?_)
  · exact hj_vret hC d_ByteRow_makeRoom_38 hr
  · refine hj_aload_n hC 0 d_ByteRow_makeRoom_9 rfl rfl ?_
    refine hj_aload_n hC 0 d_ByteRow_makeRoom_10 rfl rfl ?_
    refine hj_getr hC cf_ByteRow (k := 1) (by decide) wq_5 rfl d_ByteRow_makeRoom_11 hr (fun a3 hr => ?_)
    refine hj_iload_n hC 1 d_ByteRow_makeRoom_14 rfl rfl ?_
    refine hj_aload_n hC 0 d_ByteRow_makeRoom_15 rfl rfl ?_
    refine hj_geti hC cf_ByteRow (k := 0) (by decide) wq_3 rfl d_ByteRow_makeRoom_16 hr (fun a4 hr => ?_)
    refine hj_iconst hC (v := 2) d_ByteRow_makeRoom_19 (by decide) ?_
    refine hj_aload_n hC 0 d_ByteRow_makeRoom_20 rfl rfl ?_
    refine hj_getr hC cf_ByteRow (k := 1) (by decide) wq_5 rfl d_ByteRow_makeRoom_21 hr (fun a5 hr => ?_)
    refine hj_leni hC (kd := 7) rfl d_ByteRow_makeRoom_24 hr (fun a6 hr => ?_)
    refine hj_imul hC d_ByteRow_makeRoom_25 ?_
    refine hj_mmin hC wq_76 wq_69 wq_70 wq_71 (Nat.le_of_ble_eq_true rfl) (Nat.le_of_ble_eq_true rfl) d_ByteRow_makeRoom_26 ?_
    refine hj_mmax hC wq_77 wq_78 wq_70 wq_79 (Nat.le_of_ble_eq_true rfl) (Nat.le_of_ble_eq_true rfl) d_ByteRow_makeRoom_29 ?_
    refine hj_callS hC hG (enc := (fun a : Option Nat => some (vr_ a))) (As := [vr_ a3, vi_ (if x1 < (if (2 * a6) < a4 then (2 * a6) else a4) then (if (2 * a6) < a4 then (2 * a6) else a4) else x1)]) (st := [vr_ o]) (fun h a C S h1 hr => m_Ar_copyOf _ _ h a C S h1 hr) wq_81 wq_82 wq_83 wq_80 yk_Ar_copyOf rfl ⟨Nat.le_of_ble_eq_true rfl, Nat.le_of_ble_eq_true rfl⟩ rfl (Nat.le_of_ble_eq_true rfl) d_ByteRow_makeRoom_32 hr (fun a7 h C S hr => ?_)
    refine hj_putr hC cf_ByteRow (k := 1) (by decide) wq_5 rfl (Or.inl rfl) rfl d_ByteRow_makeRoom_35 hr (fun h hr => ?_)
    exact hj_vret hC d_ByteRow_makeRoom_38 hr
set_option maxHeartbeats 4000000 in
set_option maxRecDepth 100000 in
theorem ml_ByteRow_add_30 {p : Program} {l : Launch} {e : Env} {s : State} {m : MethodId} {args : Array Value} {below : List Frame} {meth : Method} {c : Code} {D : va_G} {dA : Nat → ClassId} {h0 h2 : hc_H} {C0 S0 : Nat} {b : Int32} (hC : hj_C p s m args meth c (gg D dA) b_ByteRow_add 5 (some .boolean) R_ByteRow "add" tb) (x0 : Option Nat) (x1 : Int64) (kx : hM Int32) (hk : ∀  (h : hc_H) (C S : Nat), kx  h = some (b, C, S, h2) → hj_J p l e { frames := 3, cells := C0, slots := S0, locals := 69 } s m args below meth c (gg D dA) h0 5 (hj_Q below args s { frames := 3, cells := C0, slots := S0, locals := 69 } (gg D dA) h0 (some (vi_ b)) h2) C S h 69 [] []) : ∀ (fu : Nat) (v4 : Int32) (h : hc_H) (C S : Nat), p_ByteRow_add_30 x0 x1 kx fu v4 h = some (b, C, S, h2) → hj_J p l e { frames := 3, cells := C0, slots := S0, locals := 69 } s m args below meth c (gg D dA) h0 5 (hj_Q below args s { frames := 3, cells := C0, slots := S0, locals := 69 } (gg D dA) h0 (some (vi_ b)) h2) C S h 30 [(0, vr_ x0), (1, vl_ x1), (4, vi_ v4)] [] := by
  intro fu
  induction fu with
  | zero =>
    intro v4 h C S hr
    cases hr
  | succ fu ih =>
    intro v4 h C S hr
    rw [p_ByteRow_add_30] at hr
    refine hj_iload hC 2 d_ByteRow_add_30 rfl ?_
    refine hj_if_lt hC 69 d_ByteRow_add_32 (by decide) hr (fun q32 hr => ?_) (fun q32 hr => ?_)
    · refine hj_sub (lv' := []) [] rfl ?_
      exact hk _ _ _ hr
    · refine hj_aload_n hC 0 d_ByteRow_add_35 rfl rfl ?_
      refine hj_getr hC cf_ByteRow (k := 1) (by decide) wq_5 rfl d_ByteRow_add_36 hr (fun a4 hr => ?_)
      refine hj_aload_n hC 0 d_ByteRow_add_39 rfl rfl ?_
      refine hj_geti hC cf_ByteRow (k := 2) (by decide) wq_6 rfl d_ByteRow_add_40 hr (fun a5 hr => ?_)
      refine hj_lload_n hC 1 d_ByteRow_add_43 rfl rfl ?_
      refine hj_bipush hC (v := 8) d_ByteRow_add_44 (by decide) ?_
      refine hj_iload hC 2 d_ByteRow_add_46 rfl ?_
      refine hj_imul hC d_ByteRow_add_48 ?_
      refine hj_lshr hC d_ByteRow_add_49 ?_
      refine hj_l2i hC d_ByteRow_add_50 ?_
      refine hj_i2b hC d_ByteRow_add_51 ?_
      refine hj_bast hC (kd := 7) rfl d_ByteRow_add_52 hr (fun h hr => ?_)
      refine hj_aload_n hC 0 d_ByteRow_add_53 rfl rfl ?_
      refine hj_dup hC d_ByteRow_add_54 rfl ?_
      refine hj_geti hC cf_ByteRow (k := 2) (by decide) wq_6 rfl d_ByteRow_add_55 hr (fun a6 hr => ?_)
      refine hj_iconst hC (v := 1) d_ByteRow_add_58 (by decide) ?_
      refine hj_iadd hC d_ByteRow_add_59 ?_
      refine hj_puti hC cf_ByteRow (k := 2) (by decide) wq_6 rfl (Or.inl rfl) rfl d_ByteRow_add_60 hr (fun h hr => ?_)
      refine hj_iinc hC (lv' := [(4, vi_ (v4 + (-1))), (0, vr_ x0), (1, vl_ x1)]) 2 d_ByteRow_add_63 rfl rfl (by decide) rfl ?_
      refine hj_goto hC 30 d_ByteRow_add_66 (by decide) ?_
      refine hj_sub (lv' := [(0, vr_ x0), (1, vl_ x1), (4, vi_ (v4 + (-1)))]) [1, 2, 0] rfl ?_
      exact ih _ _ _ _ hr
set_option maxHeartbeats 4000000 in
set_option maxRecDepth 100000 in
theorem m_ByteRow_add {l : Launch} {D : va_G} {dA : Nat → ClassId} (o : Option Nat) (x1 : Int64) (x3 : Int32) (h0 : hc_H) (b : Int32) (C0 S0 : Nat) (h2 : hc_H) (hr : p_ByteRow_add o x1 x3 h0 = some (b, C0, S0, h2)) : hc_Met l (gg D dA) y_ByteRow_add b_ByteRow_add 5 (some .boolean) tb 3 69 [vr_ o, vl_ x1, vi_ x3] h0 C0 S0 (some (vi_ b)) h2 := by
  refine hc_Met.of (by decide) (Nat.le_of_ble_eq_true rfl) ?_
  intro p e s m args below meth c hC
  unfold p_ByteRow_add at hr
  refine hj_sub (lv' := [(0, vr_ o), (1, vl_ x1), (3, vi_ x3)]) [0, 1, 2] rfl ?_
  refine hj_iload_n hC 2 d_ByteRow_add_0 rfl rfl ?_
  refine hj_aload_n hC 0 d_ByteRow_add_1 rfl rfl ?_
  refine hj_geti hC cf_ByteRow (k := 0) (by decide) wq_3 rfl d_ByteRow_add_2 hr (fun a1 hr => ?_)
  refine hj_aload_n hC 0 d_ByteRow_add_5 rfl rfl ?_
  refine hj_geti hC cf_ByteRow (k := 2) (by decide) wq_6 rfl d_ByteRow_add_6 hr (fun a2 hr => ?_)
  refine hj_isub hC d_ByteRow_add_9 ?_
  refine hj_icmp_le hC 15 d_ByteRow_add_10 (by decide) hr (fun q10 hr => ?_) (fun q10 hr => ?_)
  · refine hj_aload_n hC 0 d_ByteRow_add_15 rfl rfl ?_
    refine hj_aload_n hC 0 d_ByteRow_add_16 rfl rfl ?_
    refine hj_geti hC cf_ByteRow (k := 2) (by decide) wq_6 rfl d_ByteRow_add_17 hr (fun a3 hr => ?_)
    refine hj_iload_n hC 2 d_ByteRow_add_20 rfl rfl ?_
    refine hj_iadd hC d_ByteRow_add_21 ?_
    refine hj_callV hC hG (enc := (fun _ : Unit => none)) (As := [vi_ (a3 + x3)]) (st := []) (fun h a C S h1 hr => m_ByteRow_makeRoom _ _ h a C S h1 hr) cf_ByteRow wq_85 wq_86 wq_87 wq_41 wq_84 yk_ByteRow_makeRoom rfl ⟨Nat.le_of_ble_eq_true rfl, Nat.le_of_ble_eq_true rfl⟩ rfl (Nat.le_of_ble_eq_true rfl) d_ByteRow_add_22 hr (fun _ h C S hr => ?_)
    refine hj_iload_n hC 2 d_ByteRow_add_25 rfl rfl ?_
    refine hj_iconst hC (v := 1) d_ByteRow_add_26 (by decide) ?_
    refine hj_isub hC d_ByteRow_add_27 ?_
    refine hj_istore hC (lv' := [(4, vi_ (x3 - 1)), (0, vr_ o), (1, vl_ x1), (3, vi_ x3)]) d_ByteRow_add_28 (by decide) rfl ?_
    refine hj_sub (lv' := [(0, vr_ o), (1, vl_ x1), (4, vi_ (x3 - 1))]) [1, 2, 0] rfl ?_
    refine ml_ByteRow_add_30 hC _ _ _ (fun  h C S hr => ?_) _ _ _ _ _ hr
    refine hj_iconst hC (v := 1) d_ByteRow_add_69 (by decide) ?_
    exact hj_zret hC d_ByteRow_add_70 hr
  · refine hj_iconst hC (v := 0) d_ByteRow_add_13 (by decide) ?_
    exact hj_zret hC d_ByteRow_add_14 hr
set_option maxHeartbeats 4000000 in
set_option maxRecDepth 100000 in
theorem m_SB_give {l : Launch} {D : va_G} {dA : Nat → ClassId} (o : Option Nat) (x1 : Int64) (x3 : Int32) (h0 : hc_H) (b : Int32) (C0 S0 : Nat) (h2 : hc_H) (hr : p_SB_give o x1 x3 h0 = some (b, C0, S0, h2)) : hc_Met l (gg D dA) y_SB_give b_SB_give 4 (some .boolean) tb 4 93 [vr_ o, vl_ x1, vi_ x3] h0 C0 S0 (some (vi_ b)) h2 := by
  refine hc_Met.of (by decide) (Nat.le_of_ble_eq_true rfl) ?_
  intro p e s m args below meth c hC
  unfold p_SB_give at hr
  refine hj_sub (lv' := [(0, vr_ o), (1, vl_ x1), (3, vi_ x3)]) [0, 1, 2] rfl ?_
  refine hj_iload_n hC 2 d_SB_give_0 rfl rfl ?_
  refine hj_iconst hC (v := 1) d_SB_give_1 (by decide) ?_
  refine hj_icmp_lt hC 27 d_SB_give_2 (by decide) hr (fun q2 hr => ?_) (fun q2 hr => ?_)
  · refine hj_iconst hC (v := 0) d_SB_give_27 (by decide) ?_
    exact hj_zret hC d_SB_give_28 hr
  · refine hj_iload_n hC 2 d_SB_give_5 rfl rfl ?_
    refine hj_bipush hC (v := 8) d_SB_give_6 (by decide) ?_
    refine hj_icmp_gt hC 27 d_SB_give_8 (by decide) hr (fun q8 hr => ?_) (fun q8 hr => ?_)
    · refine hj_iconst hC (v := 0) d_SB_give_27 (by decide) ?_
      exact hj_zret hC d_SB_give_28 hr
    · refine hj_aload_n hC 0 d_SB_give_11 rfl rfl ?_
      refine hj_getr hC cf_SB (k := 0) (by decide) wq_43 rfl d_SB_give_12 hr (fun a1 hr => ?_)
      refine hj_lload_n hC 1 d_SB_give_15 rfl rfl ?_
      refine hj_iload_n hC 2 d_SB_give_16 rfl rfl ?_
      refine hj_callV hC hG (enc := (fun a : Int32 => some (vi_ a))) (As := [vl_ x1, vi_ x3]) (st := []) (fun h a C S h1 hr => m_ByteRow_add _ _ _ h a C S h1 hr) cf_ByteRow wq_89 wq_90 wq_91 wq_41 wq_88 yk_ByteRow_add rfl ⟨Nat.le_of_ble_eq_true rfl, Nat.le_of_ble_eq_true rfl⟩ rfl (Nat.le_of_ble_eq_true rfl) d_SB_give_17 hr (fun a2 h C S hr => ?_)
      refine hj_if_eq hC 27 d_SB_give_20 (by decide) hr (fun q20 hr => ?_) (fun q20 hr => ?_)
      · refine hj_iconst hC (v := 0) d_SB_give_27 (by decide) ?_
        exact hj_zret hC d_SB_give_28 hr
      · refine hj_iconst hC (v := 1) d_SB_give_23 (by decide) ?_
        refine hj_goto hC 28 d_SB_give_24 (by decide) ?_
        exact hj_zret hC d_SB_give_28 hr
set_option maxHeartbeats 4000000 in
set_option maxRecDepth 100000 in
theorem m_ByteRow_keepFirst {l : Launch} {D : va_G} {dA : Nat → ClassId} (o : Option Nat) (x1 : Int32) (h0 : hc_H) (b : Int32) (C0 S0 : Nat) (h2 : hc_H) (hr : p_ByteRow_keepFirst o x1 h0 = some (b, C0, S0, h2)) : hc_Met l (gg D dA) y_ByteRow_keepFirst b_ByteRow_keepFirst 2 (some .boolean) tb 0 0 [vr_ o, vi_ x1] h0 C0 S0 (some (vi_ b)) h2 := by
  refine hc_Met.of (by decide) (Nat.le_of_ble_eq_true rfl) ?_
  intro p e s m args below meth c hC
  unfold p_ByteRow_keepFirst at hr
  refine hj_sub (lv' := [(0, vr_ o), (1, vi_ x1)]) [0, 1] rfl ?_
  refine hj_iload_n hC 1 d_ByteRow_keepFirst_0 rfl rfl ?_
  refine hj_if_lt hC 12 d_ByteRow_keepFirst_1 (by decide) hr (fun q1 hr => ?_) (fun q1 hr => ?_)
  · refine hj_iconst hC (v := 0) d_ByteRow_keepFirst_12 (by decide) ?_
    exact hj_zret hC d_ByteRow_keepFirst_13 hr
  · refine hj_iload_n hC 1 d_ByteRow_keepFirst_4 rfl rfl ?_
    refine hj_aload_n hC 0 d_ByteRow_keepFirst_5 rfl rfl ?_
    refine hj_geti hC cf_ByteRow (k := 2) (by decide) wq_6 rfl d_ByteRow_keepFirst_6 hr (fun a1 hr => ?_)
    refine hj_icmp_le hC 14 d_ByteRow_keepFirst_9 (by decide) hr (fun q9 hr => ?_) (fun q9 hr => ?_)
    · refine hj_aload_n hC 0 d_ByteRow_keepFirst_14 rfl rfl ?_
      refine hj_iload_n hC 1 d_ByteRow_keepFirst_15 rfl rfl ?_
      refine hj_puti hC cf_ByteRow (k := 2) (by decide) wq_6 rfl (Or.inl rfl) rfl d_ByteRow_keepFirst_16 hr (fun h hr => ?_)
      refine hj_iconst hC (v := 1) d_ByteRow_keepFirst_19 (by decide) ?_
      exact hj_zret hC d_ByteRow_keepFirst_20 hr
    · refine hj_iconst hC (v := 0) d_ByteRow_keepFirst_12 (by decide) ?_
      exact hj_zret hC d_ByteRow_keepFirst_13 hr
set_option maxHeartbeats 4000000 in
set_option maxRecDepth 100000 in
theorem m_SB_cut {l : Launch} {D : va_G} {dA : Nat → ClassId} (o : Option Nat) (x1 : Int32) (h0 : hc_H) (b : Int32) (C0 S0 : Nat) (h2 : hc_H) (hr : p_SB_cut o x1 h0 = some (b, C0, S0, h2)) : hc_Met l (gg D dA) y_SB_cut b_SB_cut 2 (some .boolean) tb 1 21 [vr_ o, vi_ x1] h0 C0 S0 (some (vi_ b)) h2 := by
  refine hc_Met.of (by decide) (Nat.le_of_ble_eq_true rfl) ?_
  intro p e s m args below meth c hC
  unfold p_SB_cut at hr
  refine hj_sub (lv' := [(0, vr_ o), (1, vi_ x1)]) [0, 1] rfl ?_
  refine hj_aload_n hC 0 d_SB_cut_0 rfl rfl ?_
  refine hj_getr hC cf_SB (k := 0) (by decide) wq_43 rfl d_SB_cut_1 hr (fun a1 hr => ?_)
  refine hj_iload_n hC 1 d_SB_cut_4 rfl rfl ?_
  refine hj_callV hC hG (enc := (fun a : Int32 => some (vi_ a))) (As := [vi_ x1]) (st := []) (fun h a C S h1 hr => m_ByteRow_keepFirst _ _ h a C S h1 hr) cf_ByteRow wq_93 wq_94 wq_95 wq_41 wq_92 yk_ByteRow_keepFirst rfl ⟨Nat.le_of_ble_eq_true rfl, Nat.le_of_ble_eq_true rfl⟩ rfl (Nat.le_of_ble_eq_true rfl) d_SB_cut_5 hr (fun a2 h C S hr => ?_)
  exact hj_zret hC d_SB_cut_8 hr
set_option maxHeartbeats 4000000 in
set_option maxRecDepth 100000 in
theorem m_ByteRow_set {l : Launch} {D : va_G} {dA : Nat → ClassId} (o : Option Nat) (x1 : Int32) (x2 : Int32) (h0 : hc_H) (b : Int32) (C0 S0 : Nat) (h2 : hc_H) (hr : p_ByteRow_set o x1 x2 h0 = some (b, C0, S0, h2)) : hc_Met l (gg D dA) y_ByteRow_set b_ByteRow_set 3 (some .boolean) tb 0 0 [vr_ o, vi_ x1, vi_ x2] h0 C0 S0 (some (vi_ b)) h2 := by
  refine hc_Met.of (by decide) (Nat.le_of_ble_eq_true rfl) ?_
  intro p e s m args below meth c hC
  unfold p_ByteRow_set at hr
  refine hj_sub (lv' := [(0, vr_ o), (1, vi_ x1), (2, vi_ x2)]) [0, 1, 2] rfl ?_
  refine hj_iload_n hC 1 d_ByteRow_set_0 rfl rfl ?_
  refine hj_if_lt hC 12 d_ByteRow_set_1 (by decide) hr (fun q1 hr => ?_) (fun q1 hr => ?_)
  · refine hj_iconst hC (v := 0) d_ByteRow_set_12 (by decide) ?_
    exact hj_zret hC d_ByteRow_set_13 hr
  · refine hj_iload_n hC 1 d_ByteRow_set_4 rfl rfl ?_
    refine hj_aload_n hC 0 d_ByteRow_set_5 rfl rfl ?_
    refine hj_geti hC cf_ByteRow (k := 2) (by decide) wq_6 rfl d_ByteRow_set_6 hr (fun a1 hr => ?_)
    refine hj_icmp_lt hC 14 d_ByteRow_set_9 (by decide) hr (fun q9 hr => ?_) (fun q9 hr => ?_)
    · refine hj_aload_n hC 0 d_ByteRow_set_14 rfl rfl ?_
      refine hj_getr hC cf_ByteRow (k := 1) (by decide) wq_5 rfl d_ByteRow_set_15 hr (fun a2 hr => ?_)
      refine hj_iload_n hC 1 d_ByteRow_set_18 rfl rfl ?_
      refine hj_iload_n hC 2 d_ByteRow_set_19 rfl rfl ?_
      refine hj_i2b hC d_ByteRow_set_20 ?_
      refine hj_bast hC (kd := 7) rfl d_ByteRow_set_21 hr (fun h hr => ?_)
      refine hj_iconst hC (v := 1) d_ByteRow_set_22 (by decide) ?_
      exact hj_zret hC d_ByteRow_set_23 hr
    · refine hj_iconst hC (v := 0) d_ByteRow_set_12 (by decide) ?_
      exact hj_zret hC d_ByteRow_set_13 hr
set_option maxHeartbeats 4000000 in
set_option maxRecDepth 100000 in
theorem m_SB_poke {l : Launch} {D : va_G} {dA : Nat → ClassId} (o : Option Nat) (x1 : Int32) (x2 : Int32) (h0 : hc_H) (b : Int32) (C0 S0 : Nat) (h2 : hc_H) (hr : p_SB_poke o x1 x2 h0 = some (b, C0, S0, h2)) : hc_Met l (gg D dA) y_SB_poke b_SB_poke 3 (some .boolean) tb 1 22 [vr_ o, vi_ x1, vi_ x2] h0 C0 S0 (some (vi_ b)) h2 := by
  refine hc_Met.of (by decide) (Nat.le_of_ble_eq_true rfl) ?_
  intro p e s m args below meth c hC
  unfold p_SB_poke at hr
  refine hj_sub (lv' := [(0, vr_ o), (1, vi_ x1), (2, vi_ x2)]) [0, 1, 2] rfl ?_
  refine hj_aload_n hC 0 d_SB_poke_0 rfl rfl ?_
  refine hj_getr hC cf_SB (k := 0) (by decide) wq_43 rfl d_SB_poke_1 hr (fun a1 hr => ?_)
  refine hj_iload_n hC 1 d_SB_poke_4 rfl rfl ?_
  refine hj_iload_n hC 2 d_SB_poke_5 rfl rfl ?_
  refine hj_callV hC hG (enc := (fun a : Int32 => some (vi_ a))) (As := [vi_ x1, vi_ x2]) (st := []) (fun h a C S h1 hr => m_ByteRow_set _ _ _ h a C S h1 hr) cf_ByteRow wq_97 wq_98 wq_99 wq_41 wq_96 yk_ByteRow_set rfl ⟨Nat.le_of_ble_eq_true rfl, Nat.le_of_ble_eq_true rfl⟩ rfl (Nat.le_of_ble_eq_true rfl) d_SB_poke_6 hr (fun a2 h C S hr => ?_)
  exact hj_zret hC d_SB_poke_9 hr
set_option maxHeartbeats 4000000 in
set_option maxRecDepth 100000 in
theorem m_Fault_clear {l : Launch} {D : va_G} {dA : Nat → ClassId} (o : Option Nat) (h0 : hc_H) (b : Unit) (C0 S0 : Nat) (h2 : hc_H) (hr : p_Fault_clear o h0 = some (b, C0, S0, h2)) : hc_Met l (gg D dA) y_Fault_clear b_Fault_clear 1 none tb 0 0 [vr_ o] h0 C0 S0 none h2 := by
  refine hc_Met.of (by decide) (Nat.le_of_ble_eq_true rfl) ?_
  intro p e s m args below meth c hC
  unfold p_Fault_clear at hr
  refine hj_sub (lv' := [(0, vr_ o)]) [0] rfl ?_
  refine hj_aload_n hC 0 d_Fault_clear_0 rfl rfl ?_
  refine hj_iconst hC (v := 0) d_Fault_clear_1 (by decide) ?_
  refine hj_puti hC cf_Fault (k := 0) (by decide) wq_8 rfl (Or.inl rfl) rfl d_Fault_clear_2 hr (fun h hr => ?_)
  refine hj_aload_n hC 0 d_Fault_clear_5 rfl rfl ?_
  refine hj_iconst hC (v := (-1)) d_Fault_clear_6 (by decide) ?_
  refine hj_puti hC cf_Fault (k := 1) (by decide) wq_9 rfl (Or.inl rfl) rfl d_Fault_clear_7 hr (fun h hr => ?_)
  exact hj_vret hC d_Fault_clear_10 hr
set_option maxHeartbeats 4000000 in
set_option maxRecDepth 100000 in
theorem m_Reader_init {l : Launch} {D : va_G} {dA : Nat → ClassId} (q0 : Nat) (x1 : Option Nat) (x2 : Option Nat) (h0 : hc_H) (b : Unit) (C0 S0 : Nat) (h2 : hc_H) (hr : p_Reader_init (some q0) x1 x2 h0 = some (b, C0, S0, h2)) : hc_Met l (gg D dA) y_Reader_init b_Reader_init 3 none tb 1 20 [vr_ (some q0), vr_ x1, vr_ x2] h0 C0 S0 none h2 := by
  refine hc_Met.of (by decide) (Nat.le_of_ble_eq_true rfl) ?_
  intro p e s m args below meth c hC
  unfold p_Reader_init at hr
  refine hj_sub (lv' := [(0, vr_ (some q0)), (1, vr_ x1), (2, vr_ x2)]) [0, 1, 2] rfl ?_
  refine hj_aload_n hC 0 d_Reader_init_0 rfl rfl ?_
  refine hj_objInit hC wq_100 wq_1 wq_2 (Nat.le_of_ble_eq_true rfl) (Nat.le_of_ble_eq_true rfl) d_Reader_init_1 ?_
  refine hj_aload_n hC 0 d_Reader_init_4 rfl rfl ?_
  refine hj_aload_n hC 1 d_Reader_init_5 rfl rfl ?_
  refine hj_putr hC cf_Reader (k := 0) (by decide) wq_101 rfl (Or.inr ⟨rfl, rfl, rfl⟩) rfl d_Reader_init_6 hr (fun h hr => ?_)
  refine hj_aload_n hC 0 d_Reader_init_9 rfl rfl ?_
  refine hj_aload_n hC 2 d_Reader_init_10 rfl rfl ?_
  refine hj_putr hC cf_Reader (k := 1) (by decide) wq_102 rfl (Or.inr ⟨rfl, rfl, rfl⟩) rfl d_Reader_init_11 hr (fun h hr => ?_)
  refine hj_aload_n hC 0 d_Reader_init_14 rfl rfl ?_
  refine hj_iconst hC (v := 0) d_Reader_init_15 (by decide) ?_
  refine hj_puti hC cf_Reader (k := 2) (by decide) wq_103 rfl (Or.inl rfl) rfl d_Reader_init_16 hr (fun h hr => ?_)
  exact hj_vret hC d_Reader_init_19 hr
set_option maxHeartbeats 4000000 in
set_option maxRecDepth 100000 in
theorem m_Fault_tell {l : Launch} {D : va_G} {dA : Nat → ClassId} (o : Option Nat) (x1 : Int32) (x2 : Int32) (h0 : hc_H) (b : Unit) (C0 S0 : Nat) (h2 : hc_H) (hr : p_Fault_tell o x1 x2 h0 = some (b, C0, S0, h2)) : hc_Met l (gg D dA) y_Fault_tell b_Fault_tell 3 none tb 0 0 [vr_ o, vi_ x1, vi_ x2] h0 C0 S0 none h2 := by
  refine hc_Met.of (by decide) (Nat.le_of_ble_eq_true rfl) ?_
  intro p e s m args below meth c hC
  unfold p_Fault_tell at hr
  refine hj_sub (lv' := [(0, vr_ o), (1, vi_ x1), (2, vi_ x2)]) [0, 1, 2] rfl ?_
  refine hj_aload_n hC 0 d_Fault_tell_0 rfl rfl ?_
  refine hj_geti hC cf_Fault (k := 0) (by decide) wq_8 rfl d_Fault_tell_1 hr (fun a1 hr => ?_)
  refine hj_if_ne hC 17 d_Fault_tell_4 (by decide) hr (fun q4 hr => ?_) (fun q4 hr => ?_)
  · exact hj_vret hC d_Fault_tell_17 hr
  · refine hj_aload_n hC 0 d_Fault_tell_7 rfl rfl ?_
    refine hj_iload_n hC 1 d_Fault_tell_8 rfl rfl ?_
    refine hj_puti hC cf_Fault (k := 0) (by decide) wq_8 rfl (Or.inl rfl) rfl d_Fault_tell_9 hr (fun h hr => ?_)
    refine hj_aload_n hC 0 d_Fault_tell_12 rfl rfl ?_
    refine hj_iload_n hC 2 d_Fault_tell_13 rfl rfl ?_
    refine hj_puti hC cf_Fault (k := 1) (by decide) wq_9 rfl (Or.inl rfl) rfl d_Fault_tell_14 hr (fun h hr => ?_)
    exact hj_vret hC d_Fault_tell_17 hr
set_option maxHeartbeats 4000000 in
set_option maxRecDepth 100000 in
theorem m_ByteRow_at {l : Launch} {D : va_G} {dA : Nat → ClassId} (o : Option Nat) (x1 : Int32) (h0 : hc_H) (b : Int32) (C0 S0 : Nat) (h2 : hc_H) (hr : p_ByteRow_at o x1 h0 = some (b, C0, S0, h2)) : hc_Met l (gg D dA) y_ByteRow_at b_ByteRow_at 2 (some .int) tb 0 0 [vr_ o, vi_ x1] h0 C0 S0 (some (vi_ b)) h2 := by
  refine hc_Met.of (by decide) (Nat.le_of_ble_eq_true rfl) ?_
  intro p e s m args below meth c hC
  unfold p_ByteRow_at at hr
  refine hj_sub (lv' := [(0, vr_ o), (1, vi_ x1)]) [0, 1] rfl ?_
  refine hj_iload_n hC 1 d_ByteRow_at_0 rfl rfl ?_
  refine hj_if_lt hC 12 d_ByteRow_at_1 (by decide) hr (fun q1 hr => ?_) (fun q1 hr => ?_)
  · refine hj_iconst hC (v := (-1)) d_ByteRow_at_12 (by decide) ?_
    refine hj_goto hC 26 d_ByteRow_at_13 (by decide) ?_
    exact hj_iret hC d_ByteRow_at_26 hr
  · refine hj_iload_n hC 1 d_ByteRow_at_4 rfl rfl ?_
    refine hj_aload_n hC 0 d_ByteRow_at_5 rfl rfl ?_
    refine hj_geti hC cf_ByteRow (k := 2) (by decide) wq_6 rfl d_ByteRow_at_6 hr (fun a1 hr => ?_)
    refine hj_icmp_lt hC 16 d_ByteRow_at_9 (by decide) hr (fun q9 hr => ?_) (fun q9 hr => ?_)
    · refine hj_aload_n hC 0 d_ByteRow_at_16 rfl rfl ?_
      refine hj_getr hC cf_ByteRow (k := 1) (by decide) wq_5 rfl d_ByteRow_at_17 hr (fun a2 hr => ?_)
      refine hj_iload_n hC 1 d_ByteRow_at_20 rfl rfl ?_
      refine hj_bald hC (kd := 7) rfl d_ByteRow_at_21 hr (fun a3 hr => ?_)
      refine hj_sipush hC (v := 255) d_ByteRow_at_22 (by decide) ?_
      refine hj_iand hC d_ByteRow_at_25 ?_
      exact hj_iret hC d_ByteRow_at_26 hr
    · refine hj_iconst hC (v := (-1)) d_ByteRow_at_12 (by decide) ?_
      refine hj_goto hC 26 d_ByteRow_at_13 (by decide) ?_
      exact hj_iret hC d_ByteRow_at_26 hr
