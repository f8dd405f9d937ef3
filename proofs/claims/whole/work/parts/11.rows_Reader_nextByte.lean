theorem d_Reader_nextByte_0 : decode b_Reader_nextByte 0 = .ok (.aload_n 0, 1) := by decide +kernel
theorem d_Reader_nextByte_1 : decode b_Reader_nextByte 1 = .ok (.getfield 19, 3) := by decide +kernel
theorem d_Reader_nextByte_4 : decode b_Reader_nextByte 4 = .ok (.aload_n 0, 1) := by decide +kernel
theorem d_Reader_nextByte_5 : decode b_Reader_nextByte 5 = .ok (.getfield 9, 3) := by decide +kernel
theorem d_Reader_nextByte_8 : decode b_Reader_nextByte 8 = .ok (.getfield 60, 3) := by decide +kernel
theorem d_Reader_nextByte_11 : decode b_Reader_nextByte 11 = .ok (.if_icmp .lt 20, 3) := by decide +kernel
theorem d_Reader_nextByte_14 : decode b_Reader_nextByte 14 = .ok (.aload_n 0, 1) := by decide +kernel
theorem d_Reader_nextByte_15 : decode b_Reader_nextByte 15 = .ok (.getfield 15, 3) := by decide +kernel
theorem d_Reader_nextByte_18 : decode b_Reader_nextByte 18 = .ok (.iconst 1, 1) := by decide +kernel
theorem d_Reader_nextByte_19 : decode b_Reader_nextByte 19 = .ok (.aload_n 0, 1) := by decide +kernel
theorem d_Reader_nextByte_20 : decode b_Reader_nextByte 20 = .ok (.getfield 9, 3) := by decide +kernel
theorem d_Reader_nextByte_23 : decode b_Reader_nextByte 23 = .ok (.getfield 60, 3) := by decide +kernel
theorem d_Reader_nextByte_26 : decode b_Reader_nextByte 26 = .ok (.invokevirtual 63, 3) := by decide +kernel
theorem d_Reader_nextByte_29 : decode b_Reader_nextByte 29 = .ok (.iconst 0, 1) := by decide +kernel
theorem d_Reader_nextByte_30 : decode b_Reader_nextByte 30 = .ok (.ireturn, 1) := by decide +kernel
theorem d_Reader_nextByte_31 : decode b_Reader_nextByte 31 = .ok (.aload_n 0, 1) := by decide +kernel
theorem d_Reader_nextByte_32 : decode b_Reader_nextByte 32 = .ok (.getfield 9, 3) := by decide +kernel
theorem d_Reader_nextByte_35 : decode b_Reader_nextByte 35 = .ok (.aload_n 0, 1) := by decide +kernel
theorem d_Reader_nextByte_36 : decode b_Reader_nextByte 36 = .ok (.getfield 19, 3) := by decide +kernel
theorem d_Reader_nextByte_39 : decode b_Reader_nextByte 39 = .ok (.invokevirtual 132, 3) := by decide +kernel
theorem d_Reader_nextByte_42 : decode b_Reader_nextByte 42 = .ok (.istore_n 1, 1) := by decide +kernel
theorem d_Reader_nextByte_43 : decode b_Reader_nextByte 43 = .ok (.aload_n 0, 1) := by decide +kernel
theorem d_Reader_nextByte_44 : decode b_Reader_nextByte 44 = .ok (.dup, 1) := by decide +kernel
theorem d_Reader_nextByte_45 : decode b_Reader_nextByte 45 = .ok (.getfield 19, 3) := by decide +kernel
theorem d_Reader_nextByte_48 : decode b_Reader_nextByte 48 = .ok (.iconst 1, 1) := by decide +kernel
theorem d_Reader_nextByte_49 : decode b_Reader_nextByte 49 = .ok (.iadd, 1) := by decide +kernel
theorem d_Reader_nextByte_50 : decode b_Reader_nextByte 50 = .ok (.putfield 19, 3) := by decide +kernel
theorem d_Reader_nextByte_53 : decode b_Reader_nextByte 53 = .ok (.iload_n 1, 1) := by decide +kernel
theorem d_Reader_nextByte_54 : decode b_Reader_nextByte 54 = .ok (.ireturn, 1) := by decide +kernel
theorem d_Reader_start_0 : decode b_Reader_start 0 = .ok (.aload_n 0, 1) := by decide +kernel
theorem d_Reader_start_1 : decode b_Reader_start 1 = .ok (.getfield 19, 3) := by decide +kernel
theorem d_Reader_start_4 : decode b_Reader_start 4 = .ok (.istore_n 2, 1) := by decide +kernel
theorem d_Reader_start_5 : decode b_Reader_start 5 = .ok (.aload_n 0, 1) := by decide +kernel
theorem d_Reader_start_6 : decode b_Reader_start 6 = .ok (.invokevirtual 67, 3) := by decide +kernel
theorem d_Reader_start_9 : decode b_Reader_start 9 = .ok (.iload_n 1, 1) := by decide +kernel
theorem d_Reader_start_10 : decode b_Reader_start 10 = .ok (.if_icmp .eq 12, 3) := by decide +kernel
theorem d_Reader_start_13 : decode b_Reader_start 13 = .ok (.aload_n 0, 1) := by decide +kernel
theorem d_Reader_start_14 : decode b_Reader_start 14 = .ok (.getfield 15, 3) := by decide +kernel
theorem d_Reader_start_17 : decode b_Reader_start 17 = .ok (.iconst 2, 1) := by decide +kernel
theorem d_Reader_start_18 : decode b_Reader_start 18 = .ok (.iload_n 2, 1) := by decide +kernel
theorem d_Reader_start_19 : decode b_Reader_start 19 = .ok (.invokevirtual 63, 3) := by decide +kernel
theorem d_Reader_start_22 : decode b_Reader_start 22 = .ok (.return_, 1) := by decide +kernel
theorem d_Reader_number_0 : decode b_Reader_number 0 = .ok (.aload_n 0, 1) := by decide +kernel
theorem d_Reader_number_1 : decode b_Reader_number 1 = .ok (.getfield 19, 3) := by decide +kernel
theorem d_Reader_number_4 : decode b_Reader_number 4 = .ok (.istore 4, 2) := by decide +kernel
theorem d_Reader_number_6 : decode b_Reader_number 6 = .ok (.iconst 0, 1) := by decide +kernel
theorem d_Reader_number_7 : decode b_Reader_number 7 = .ok (.istore 5, 2) := by decide +kernel
theorem d_Reader_number_9 : decode b_Reader_number 9 = .ok (.iconst 0, 1) := by decide +kernel
theorem d_Reader_number_10 : decode b_Reader_number 10 = .ok (.istore 6, 2) := by decide +kernel
theorem d_Reader_number_12 : decode b_Reader_number 12 = .ok (.iload 6, 2) := by decide +kernel
theorem d_Reader_number_14 : decode b_Reader_number 14 = .ok (.iload_n 1, 1) := by decide +kernel
theorem d_Reader_number_15 : decode b_Reader_number 15 = .ok (.if_icmp .ge 21, 3) := by decide +kernel
theorem d_Reader_number_18 : decode b_Reader_number 18 = .ok (.iload 5, 2) := by decide +kernel
theorem d_Reader_number_20 : decode b_Reader_number 20 = .ok (.bipush 8, 2) := by decide +kernel
theorem d_Reader_number_22 : decode b_Reader_number 22 = .ok (.ishl, 1) := by decide +kernel
theorem d_Reader_number_23 : decode b_Reader_number 23 = .ok (.aload_n 0, 1) := by decide +kernel
theorem d_Reader_number_24 : decode b_Reader_number 24 = .ok (.invokevirtual 67, 3) := by decide +kernel
theorem d_Reader_number_27 : decode b_Reader_number 27 = .ok (.ior, 1) := by decide +kernel
theorem d_Reader_number_28 : decode b_Reader_number 28 = .ok (.istore 5, 2) := by decide +kernel
theorem d_Reader_number_30 : decode b_Reader_number 30 = .ok (.iinc 6 1, 3) := by decide +kernel
theorem d_Reader_number_33 : decode b_Reader_number 33 = .ok (.goto (-21), 3) := by decide +kernel
theorem d_Reader_number_36 : decode b_Reader_number 36 = .ok (.iload 5, 2) := by decide +kernel
theorem d_Reader_number_38 : decode b_Reader_number 38 = .ok (.iload_n 2, 1) := by decide +kernel
theorem d_Reader_number_39 : decode b_Reader_number 39 = .ok (.if_icmp .lt 9, 3) := by decide +kernel
theorem d_Reader_number_42 : decode b_Reader_number 42 = .ok (.iload 5, 2) := by decide +kernel
theorem d_Reader_number_44 : decode b_Reader_number 44 = .ok (.iload_n 3, 1) := by decide +kernel
theorem d_Reader_number_45 : decode b_Reader_number 45 = .ok (.if_icmp .le 13, 3) := by decide +kernel
theorem d_Reader_number_48 : decode b_Reader_number 48 = .ok (.aload_n 0, 1) := by decide +kernel
theorem d_Reader_number_49 : decode b_Reader_number 49 = .ok (.getfield 15, 3) := by decide +kernel
theorem d_Reader_number_52 : decode b_Reader_number 52 = .ok (.iconst 3, 1) := by decide +kernel
theorem d_Reader_number_53 : decode b_Reader_number 53 = .ok (.iload 4, 2) := by decide +kernel
theorem d_Reader_number_55 : decode b_Reader_number 55 = .ok (.invokevirtual 63, 3) := by decide +kernel
theorem d_Reader_number_58 : decode b_Reader_number 58 = .ok (.aload_n 0, 1) := by decide +kernel
theorem d_Reader_number_59 : decode b_Reader_number 59 = .ok (.getfield 15, 3) := by decide +kernel
theorem d_Reader_number_62 : decode b_Reader_number 62 = .ok (.getfield 39, 3) := by decide +kernel
theorem d_Reader_number_65 : decode b_Reader_number 65 = .ok (.ifCond .ne 8, 3) := by decide +kernel
theorem d_Reader_number_68 : decode b_Reader_number 68 = .ok (.iload 5, 2) := by decide +kernel
theorem d_Reader_number_70 : decode b_Reader_number 70 = .ok (.goto 4, 3) := by decide +kernel
theorem d_Reader_number_73 : decode b_Reader_number 73 = .ok (.iload_n 2, 1) := by decide +kernel
theorem d_Reader_number_74 : decode b_Reader_number 74 = .ok (.ireturn, 1) := by decide +kernel
theorem d_Program_setCount_0 : decode b_Program_setCount 0 = .ok (.iconst 0, 1) := by decide +kernel
theorem d_Program_setCount_1 : decode b_Program_setCount 1 = .ok (.istore_n 2, 1) := by decide +kernel
theorem d_Program_setCount_2 : decode b_Program_setCount 2 = .ok (.iload_n 2, 1) := by decide +kernel
theorem d_Program_setCount_3 : decode b_Program_setCount 3 = .ok (.iload_n 1, 1) := by decide +kernel
theorem d_Program_setCount_4 : decode b_Program_setCount 4 = .ok (.if_icmp .ge 31, 3) := by decide +kernel
theorem d_Program_setCount_7 : decode b_Program_setCount 7 = .ok (.aload_n 0, 1) := by decide +kernel
theorem d_Program_setCount_8 : decode b_Program_setCount 8 = .ok (.getfield 11, 3) := by decide +kernel
theorem d_Program_setCount_11 : decode b_Program_setCount 11 = .ok (.iload_n 2, 1) := by decide +kernel
theorem d_Program_setCount_12 : decode b_Program_setCount 12 = .ok (.aaload, 1) := by decide +kernel
theorem d_Program_setCount_13 : decode b_Program_setCount 13 = .ok (.ifnonnull 16, 3) := by decide +kernel
theorem d_Program_setCount_16 : decode b_Program_setCount 16 = .ok (.aload_n 0, 1) := by decide +kernel
theorem d_Program_setCount_17 : decode b_Program_setCount 17 = .ok (.getfield 11, 3) := by decide +kernel
theorem d_Program_setCount_20 : decode b_Program_setCount 20 = .ok (.iload_n 2, 1) := by decide +kernel
theorem d_Program_setCount_21 : decode b_Program_setCount 21 = .ok (.new 9, 3) := by decide +kernel
theorem d_Program_setCount_24 : decode b_Program_setCount 24 = .ok (.dup, 1) := by decide +kernel
theorem d_Program_setCount_25 : decode b_Program_setCount 25 = .ok (.invokespecial 17, 3) := by decide +kernel
theorem d_Program_setCount_28 : decode b_Program_setCount 28 = .ok (.aastore, 1) := by decide +kernel
theorem d_Program_setCount_29 : decode b_Program_setCount 29 = .ok (.iinc 2 1, 3) := by decide +kernel
theorem d_Program_setCount_32 : decode b_Program_setCount 32 = .ok (.goto (-30), 3) := by decide +kernel
theorem d_Program_setCount_35 : decode b_Program_setCount 35 = .ok (.aload_n 0, 1) := by decide +kernel
theorem d_Program_setCount_36 : decode b_Program_setCount 36 = .ok (.iload_n 1, 1) := by decide +kernel
theorem d_Program_setCount_37 : decode b_Program_setCount 37 = .ok (.putfield 18, 3) := by decide +kernel
theorem d_Program_setCount_40 : decode b_Program_setCount 40 = .ok (.return_, 1) := by decide +kernel
theorem d_Reader_head_0 : decode b_Reader_head 0 = .ok (.aload_n 1, 1) := by decide +kernel
theorem d_Reader_head_1 : decode b_Reader_head 1 = .ok (.aload_n 0, 1) := by decide +kernel
theorem d_Reader_head_2 : decode b_Reader_head 2 = .ok (.iconst 1, 1) := by decide +kernel
theorem d_Reader_head_3 : decode b_Reader_head 3 = .ok (.iconst 0, 1) := by decide +kernel
theorem d_Reader_head_4 : decode b_Reader_head 4 = .ok (.iload_n 2, 1) := by decide +kernel
theorem d_Reader_head_5 : decode b_Reader_head 5 = .ok (.ifCond .eq 7, 3) := by decide +kernel
theorem d_Reader_head_8 : decode b_Reader_head 8 = .ok (.iconst 0, 1) := by decide +kernel
theorem d_Reader_head_9 : decode b_Reader_head 9 = .ok (.goto 4, 3) := by decide +kernel
theorem d_Reader_head_12 : decode b_Reader_head 12 = .ok (.iconst 4, 1) := by decide +kernel
theorem d_Reader_head_13 : decode b_Reader_head 13 = .ok (.invokevirtual 27, 3) := by decide +kernel
theorem d_Reader_head_16 : decode b_Reader_head 16 = .ok (.putfield 71, 3) := by decide +kernel
theorem d_Reader_head_19 : decode b_Reader_head 19 = .ok (.aload_n 1, 1) := by decide +kernel
theorem d_Reader_head_20 : decode b_Reader_head 20 = .ok (.aload_n 0, 1) := by decide +kernel
theorem d_Reader_head_21 : decode b_Reader_head 21 = .ok (.iconst 1, 1) := by decide +kernel
theorem d_Reader_head_22 : decode b_Reader_head 22 = .ok (.aload_n 1, 1) := by decide +kernel
theorem d_Reader_head_23 : decode b_Reader_head 23 = .ok (.getfield 71, 3) := by decide +kernel
theorem d_Reader_head_26 : decode b_Reader_head 26 = .ok (.bipush 12, 2) := by decide +kernel
theorem d_Reader_head_28 : decode b_Reader_head 28 = .ok (.invokevirtual 27, 3) := by decide +kernel
theorem d_Reader_head_31 : decode b_Reader_head 31 = .ok (.putfield 76, 3) := by decide +kernel
theorem d_Reader_head_34 : decode b_Reader_head 34 = .ok (.aload_n 1, 1) := by decide +kernel
theorem d_Reader_head_35 : decode b_Reader_head 35 = .ok (.aload_n 0, 1) := by decide +kernel
theorem d_Reader_head_36 : decode b_Reader_head 36 = .ok (.iconst 2, 1) := by decide +kernel
theorem d_Reader_head_37 : decode b_Reader_head 37 = .ok (.iconst 0, 1) := by decide +kernel
theorem d_Reader_head_38 : decode b_Reader_head 38 = .ok (.iconst 1, 1) := by decide +kernel
theorem d_Reader_head_39 : decode b_Reader_head 39 = .ok (.aload_n 1, 1) := by decide +kernel
theorem d_Reader_head_40 : decode b_Reader_head 40 = .ok (.getfield 76, 3) := by decide +kernel
theorem d_Reader_head_43 : decode b_Reader_head 43 = .ok (.ishl, 1) := by decide +kernel
theorem d_Reader_head_44 : decode b_Reader_head 44 = .ok (.iconst 1, 1) := by decide +kernel
theorem d_Reader_head_45 : decode b_Reader_head 45 = .ok (.isub, 1) := by decide +kernel
theorem d_Reader_head_46 : decode b_Reader_head 46 = .ok (.invokevirtual 27, 3) := by decide +kernel
theorem d_Reader_head_49 : decode b_Reader_head 49 = .ok (.putfield 79, 3) := by decide +kernel
theorem d_Reader_head_52 : decode b_Reader_head 52 = .ok (.aload_n 1, 1) := by decide +kernel
theorem d_Reader_head_53 : decode b_Reader_head 53 = .ok (.aload_n 0, 1) := by decide +kernel
theorem d_Reader_head_54 : decode b_Reader_head 54 = .ok (.iconst 1, 1) := by decide +kernel
theorem d_Reader_head_55 : decode b_Reader_head 55 = .ok (.iconst 0, 1) := by decide +kernel
theorem d_Reader_head_56 : decode b_Reader_head 56 = .ok (.iload_n 2, 1) := by decide +kernel
theorem d_Reader_head_57 : decode b_Reader_head 57 = .ok (.ifCond .eq 7, 3) := by decide +kernel
theorem d_Reader_head_60 : decode b_Reader_head 60 = .ok (.iconst 1, 1) := by decide +kernel
theorem d_Reader_head_61 : decode b_Reader_head 61 = .ok (.goto 4, 3) := by decide +kernel
theorem d_Reader_head_64 : decode b_Reader_head 64 = .ok (.iconst 2, 1) := by decide +kernel
theorem d_Reader_head_65 : decode b_Reader_head 65 = .ok (.invokevirtual 27, 3) := by decide +kernel
theorem d_Reader_head_68 : decode b_Reader_head 68 = .ok (.putfield 82, 3) := by decide +kernel
theorem d_Reader_head_71 : decode b_Reader_head 71 = .ok (.aload_n 1, 1) := by decide +kernel
theorem d_Reader_head_72 : decode b_Reader_head 72 = .ok (.aload_n 0, 1) := by decide +kernel
theorem d_Reader_head_73 : decode b_Reader_head 73 = .ok (.iconst 2, 1) := by decide +kernel
theorem d_Reader_head_74 : decode b_Reader_head 74 = .ok (.iconst 1, 1) := by decide +kernel
theorem d_Reader_head_75 : decode b_Reader_head 75 = .ok (.sipush 400, 3) := by decide +kernel
theorem d_Reader_head_78 : decode b_Reader_head 78 = .ok (.invokevirtual 27, 3) := by decide +kernel
theorem d_Reader_head_81 : decode b_Reader_head 81 = .ok (.putfield 85, 3) := by decide +kernel
theorem d_Reader_head_84 : decode b_Reader_head 84 = .ok (.return_, 1) := by decide +kernel
theorem d_Kinds_bytesBehind_0 : decode b_Kinds_bytesBehind 0 = .ok (.iload_n 0, 1) := by decide +kernel
theorem d_Kinds_bytesBehind_1 : decode b_Kinds_bytesBehind 1 = .ok (.tableswitch 141 0 29 #[135, 141, 141, 141, 139, 139, 141, 141, 141, 141, 141, 141, 141, 141, 141, 141, 141, 141, 137, 137, 137, 141, 141, 141, 141, 139, 139, 141, 141, 139], 135) := by decide +kernel
theorem d_Kinds_bytesBehind_136 : decode b_Kinds_bytesBehind 136 = .ok (.iconst 4, 1) := by decide +kernel
theorem d_Kinds_bytesBehind_137 : decode b_Kinds_bytesBehind 137 = .ok (.ireturn, 1) := by decide +kernel
theorem d_Kinds_bytesBehind_138 : decode b_Kinds_bytesBehind 138 = .ok (.iconst 2, 1) := by decide +kernel
theorem d_Kinds_bytesBehind_139 : decode b_Kinds_bytesBehind 139 = .ok (.ireturn, 1) := by decide +kernel
theorem d_Kinds_bytesBehind_140 : decode b_Kinds_bytesBehind 140 = .ok (.iconst 1, 1) := by decide +kernel
theorem d_Kinds_bytesBehind_141 : decode b_Kinds_bytesBehind 141 = .ok (.ireturn, 1) := by decide +kernel
theorem d_Kinds_bytesBehind_142 : decode b_Kinds_bytesBehind 142 = .ok (.iconst 0, 1) := by decide +kernel
theorem d_Kinds_bytesBehind_143 : decode b_Kinds_bytesBehind 143 = .ok (.ireturn, 1) := by decide +kernel
theorem d_Kinds_leastBehind_0 : decode b_Kinds_leastBehind 0 = .ok (.iload_n 0, 1) := by decide +kernel
theorem d_Kinds_leastBehind_1 : decode b_Kinds_leastBehind 1 = .ok (.ifCond .ne 8, 3) := by decide +kernel
theorem d_Kinds_leastBehind_4 : decode b_Kinds_leastBehind 4 = .ok (.ldc 9, 2) := by decide +kernel
theorem d_Kinds_leastBehind_6 : decode b_Kinds_leastBehind 6 = .ok (.goto 4, 3) := by decide +kernel
theorem d_Kinds_leastBehind_9 : decode b_Kinds_leastBehind 9 = .ok (.iconst 0, 1) := by decide +kernel
theorem d_Kinds_leastBehind_10 : decode b_Kinds_leastBehind 10 = .ok (.ireturn, 1) := by decide +kernel
theorem d_Kinds_mostBehind_0 : decode b_Kinds_mostBehind 0 = .ok (.iload_n 0, 1) := by decide +kernel
theorem d_Kinds_mostBehind_1 : decode b_Kinds_mostBehind 1 = .ok (.tableswitch 159 0 29 #[135, 159, 159, 159, 138, 138, 159, 159, 159, 159, 159, 159, 159, 159, 159, 159, 159, 159, 145, 145, 145, 159, 159, 159, 159, 152, 156, 159, 159, 156], 135) := by decide +kernel
theorem d_Kinds_mostBehind_136 : decode b_Kinds_mostBehind 136 = .ok (.ldc 10, 2) := by decide +kernel
theorem d_Kinds_mostBehind_138 : decode b_Kinds_mostBehind 138 = .ok (.ireturn, 1) := by decide +kernel
theorem d_Kinds_mostBehind_139 : decode b_Kinds_mostBehind 139 = .ok (.aload_n 1, 1) := by decide +kernel
theorem d_Kinds_mostBehind_140 : decode b_Kinds_mostBehind 140 = .ok (.getfield 11, 3) := by decide +kernel
theorem d_Kinds_mostBehind_143 : decode b_Kinds_mostBehind 143 = .ok (.iconst 1, 1) := by decide +kernel
theorem d_Kinds_mostBehind_144 : decode b_Kinds_mostBehind 144 = .ok (.isub, 1) := by decide +kernel
theorem d_Kinds_mostBehind_145 : decode b_Kinds_mostBehind 145 = .ok (.ireturn, 1) := by decide +kernel
theorem d_Kinds_mostBehind_146 : decode b_Kinds_mostBehind 146 = .ok (.aload_n 1, 1) := by decide +kernel
theorem d_Kinds_mostBehind_147 : decode b_Kinds_mostBehind 147 = .ok (.getfield 17, 3) := by decide +kernel
theorem d_Kinds_mostBehind_150 : decode b_Kinds_mostBehind 150 = .ok (.iconst 1, 1) := by decide +kernel
theorem d_Kinds_mostBehind_151 : decode b_Kinds_mostBehind 151 = .ok (.isub, 1) := by decide +kernel
theorem d_Kinds_mostBehind_152 : decode b_Kinds_mostBehind 152 = .ok (.ireturn, 1) := by decide +kernel
theorem d_Kinds_mostBehind_153 : decode b_Kinds_mostBehind 153 = .ok (.iload_n 2, 1) := by decide +kernel
theorem d_Kinds_mostBehind_154 : decode b_Kinds_mostBehind 154 = .ok (.iconst 1, 1) := by decide +kernel
theorem d_Kinds_mostBehind_155 : decode b_Kinds_mostBehind 155 = .ok (.isub, 1) := by decide +kernel
theorem d_Kinds_mostBehind_156 : decode b_Kinds_mostBehind 156 = .ok (.ireturn, 1) := by decide +kernel
theorem d_Kinds_mostBehind_157 : decode b_Kinds_mostBehind 157 = .ok (.bipush 15, 2) := by decide +kernel
theorem d_Kinds_mostBehind_159 : decode b_Kinds_mostBehind 159 = .ok (.ireturn, 1) := by decide +kernel
theorem d_Kinds_mostBehind_160 : decode b_Kinds_mostBehind 160 = .ok (.iconst 0, 1) := by decide +kernel
theorem d_Kinds_mostBehind_161 : decode b_Kinds_mostBehind 161 = .ok (.ireturn, 1) := by decide +kernel
theorem d_Reader_instructions_0 : decode b_Reader_instructions 0 = .ok (.iconst 0, 1) := by decide +kernel
theorem d_Reader_instructions_1 : decode b_Reader_instructions 1 = .ok (.istore_n 3, 1) := by decide +kernel
theorem d_Reader_instructions_2 : decode b_Reader_instructions 2 = .ok (.iload_n 3, 1) := by decide +kernel
theorem d_Reader_instructions_3 : decode b_Reader_instructions 3 = .ok (.aload_n 1, 1) := by decide +kernel
theorem d_Reader_instructions_4 : decode b_Reader_instructions 4 = .ok (.getfield 85, 3) := by decide +kernel
theorem d_Reader_instructions_7 : decode b_Reader_instructions 7 = .ok (.if_icmp .ge 64, 3) := by decide +kernel
theorem d_Reader_instructions_10 : decode b_Reader_instructions 10 = .ok (.aload_n 0, 1) := by decide +kernel
theorem d_Reader_instructions_11 : decode b_Reader_instructions 11 = .ok (.getfield 15, 3) := by decide +kernel
theorem d_Reader_instructions_14 : decode b_Reader_instructions 14 = .ok (.getfield 39, 3) := by decide +kernel
theorem d_Reader_instructions_17 : decode b_Reader_instructions 17 = .ok (.ifCond .ne 54, 3) := by decide +kernel
theorem d_Reader_instructions_20 : decode b_Reader_instructions 20 = .ok (.aload_n 0, 1) := by decide +kernel
theorem d_Reader_instructions_21 : decode b_Reader_instructions 21 = .ok (.iconst 1, 1) := by decide +kernel
theorem d_Reader_instructions_22 : decode b_Reader_instructions 22 = .ok (.iconst 0, 1) := by decide +kernel
theorem d_Reader_instructions_23 : decode b_Reader_instructions 23 = .ok (.bipush 29, 2) := by decide +kernel
theorem d_Reader_instructions_25 : decode b_Reader_instructions 25 = .ok (.invokevirtual 27, 3) := by decide +kernel
theorem d_Reader_instructions_28 : decode b_Reader_instructions 28 = .ok (.istore 4, 2) := by decide +kernel
theorem d_Reader_instructions_30 : decode b_Reader_instructions 30 = .ok (.aload_n 1, 1) := by decide +kernel
theorem d_Reader_instructions_31 : decode b_Reader_instructions 31 = .ok (.getfield 86, 3) := by decide +kernel
theorem d_Reader_instructions_34 : decode b_Reader_instructions 34 = .ok (.iload_n 3, 1) := by decide +kernel
theorem d_Reader_instructions_35 : decode b_Reader_instructions 35 = .ok (.iload 4, 2) := by decide +kernel
theorem d_Reader_instructions_37 : decode b_Reader_instructions 37 = .ok (.iastore, 1) := by decide +kernel
theorem d_Reader_instructions_38 : decode b_Reader_instructions 38 = .ok (.aload_n 1, 1) := by decide +kernel
theorem d_Reader_instructions_39 : decode b_Reader_instructions 39 = .ok (.getfield 90, 3) := by decide +kernel
theorem d_Reader_instructions_42 : decode b_Reader_instructions 42 = .ok (.iload_n 3, 1) := by decide +kernel
theorem d_Reader_instructions_43 : decode b_Reader_instructions 43 = .ok (.aload_n 0, 1) := by decide +kernel
theorem d_Reader_instructions_44 : decode b_Reader_instructions 44 = .ok (.iload 4, 2) := by decide +kernel
theorem d_Reader_instructions_46 : decode b_Reader_instructions 46 = .ok (.invokestatic 93, 3) := by decide +kernel
theorem d_Reader_instructions_49 : decode b_Reader_instructions 49 = .ok (.iload 4, 2) := by decide +kernel
theorem d_Reader_instructions_51 : decode b_Reader_instructions 51 = .ok (.invokestatic 99, 3) := by decide +kernel
theorem d_Reader_instructions_54 : decode b_Reader_instructions 54 = .ok (.iload 4, 2) := by decide +kernel
theorem d_Reader_instructions_56 : decode b_Reader_instructions 56 = .ok (.aload_n 1, 1) := by decide +kernel
theorem d_Reader_instructions_57 : decode b_Reader_instructions 57 = .ok (.iload_n 2, 1) := by decide +kernel
theorem d_Reader_instructions_58 : decode b_Reader_instructions 58 = .ok (.invokestatic 102, 3) := by decide +kernel
theorem d_Reader_instructions_61 : decode b_Reader_instructions 61 = .ok (.invokevirtual 27, 3) := by decide +kernel
theorem d_Reader_instructions_64 : decode b_Reader_instructions 64 = .ok (.iastore, 1) := by decide +kernel
theorem d_Reader_instructions_65 : decode b_Reader_instructions 65 = .ok (.iinc 3 1, 3) := by decide +kernel
theorem d_Reader_instructions_68 : decode b_Reader_instructions 68 = .ok (.goto (-66), 3) := by decide +kernel
theorem d_Reader_instructions_71 : decode b_Reader_instructions 71 = .ok (.return_, 1) := by decide +kernel
theorem d_Reader_handlers_0 : decode b_Reader_handlers 0 = .ok (.aload_n 1, 1) := by decide +kernel
theorem d_Reader_handlers_1 : decode b_Reader_handlers 1 = .ok (.aload_n 0, 1) := by decide +kernel
theorem d_Reader_handlers_2 : decode b_Reader_handlers 2 = .ok (.iconst 1, 1) := by decide +kernel
theorem d_Reader_handlers_3 : decode b_Reader_handlers 3 = .ok (.iconst 0, 1) := by decide +kernel
theorem d_Reader_handlers_4 : decode b_Reader_handlers 4 = .ok (.bipush 6, 2) := by decide +kernel
theorem d_Reader_handlers_6 : decode b_Reader_handlers 6 = .ok (.invokevirtual 27, 3) := by decide +kernel
theorem d_Reader_handlers_9 : decode b_Reader_handlers 9 = .ok (.putfield 106, 3) := by decide +kernel
theorem d_Reader_handlers_12 : decode b_Reader_handlers 12 = .ok (.iconst 0, 1) := by decide +kernel
theorem d_Reader_handlers_13 : decode b_Reader_handlers 13 = .ok (.istore_n 2, 1) := by decide +kernel
theorem d_Reader_handlers_14 : decode b_Reader_handlers 14 = .ok (.iload_n 2, 1) := by decide +kernel
theorem d_Reader_handlers_15 : decode b_Reader_handlers 15 = .ok (.aload_n 1, 1) := by decide +kernel
theorem d_Reader_handlers_16 : decode b_Reader_handlers 16 = .ok (.getfield 106, 3) := by decide +kernel
theorem d_Reader_handlers_19 : decode b_Reader_handlers 19 = .ok (.if_icmp .ge 120, 3) := by decide +kernel
theorem d_Reader_handlers_22 : decode b_Reader_handlers 22 = .ok (.aload_n 0, 1) := by decide +kernel
theorem d_Reader_handlers_23 : decode b_Reader_handlers 23 = .ok (.getfield 15, 3) := by decide +kernel
theorem d_Reader_handlers_26 : decode b_Reader_handlers 26 = .ok (.getfield 39, 3) := by decide +kernel
theorem d_Reader_handlers_29 : decode b_Reader_handlers 29 = .ok (.ifCond .ne 110, 3) := by decide +kernel
theorem d_Reader_handlers_32 : decode b_Reader_handlers 32 = .ok (.aload_n 1, 1) := by decide +kernel
theorem d_Reader_handlers_33 : decode b_Reader_handlers 33 = .ok (.getfield 109, 3) := by decide +kernel
theorem d_Reader_handlers_36 : decode b_Reader_handlers 36 = .ok (.iload_n 2, 1) := by decide +kernel
theorem d_Reader_handlers_37 : decode b_Reader_handlers 37 = .ok (.aaload, 1) := by decide +kernel
theorem d_Reader_handlers_38 : decode b_Reader_handlers 38 = .ok (.astore_n 3, 1) := by decide +kernel
theorem d_Reader_handlers_39 : decode b_Reader_handlers 39 = .ok (.aload_n 3, 1) := by decide +kernel
theorem d_Reader_handlers_40 : decode b_Reader_handlers 40 = .ok (.aload_n 0, 1) := by decide +kernel
theorem d_Reader_handlers_41 : decode b_Reader_handlers 41 = .ok (.iconst 2, 1) := by decide +kernel
theorem d_Reader_handlers_42 : decode b_Reader_handlers 42 = .ok (.iconst 0, 1) := by decide +kernel
theorem d_Reader_handlers_43 : decode b_Reader_handlers 43 = .ok (.aload_n 1, 1) := by decide +kernel
theorem d_Reader_handlers_44 : decode b_Reader_handlers 44 = .ok (.getfield 85, 3) := by decide +kernel
theorem d_Reader_handlers_47 : decode b_Reader_handlers 47 = .ok (.iconst 1, 1) := by decide +kernel
theorem d_Reader_handlers_48 : decode b_Reader_handlers 48 = .ok (.isub, 1) := by decide +kernel
theorem d_Reader_handlers_49 : decode b_Reader_handlers 49 = .ok (.invokevirtual 27, 3) := by decide +kernel
theorem d_Reader_handlers_52 : decode b_Reader_handlers 52 = .ok (.putfield 112, 3) := by decide +kernel
theorem d_Reader_handlers_55 : decode b_Reader_handlers 55 = .ok (.aload_n 3, 1) := by decide +kernel
theorem d_Reader_handlers_56 : decode b_Reader_handlers 56 = .ok (.aload_n 0, 1) := by decide +kernel
theorem d_Reader_handlers_57 : decode b_Reader_handlers 57 = .ok (.iconst 2, 1) := by decide +kernel
theorem d_Reader_handlers_58 : decode b_Reader_handlers 58 = .ok (.aload_n 3, 1) := by decide +kernel
theorem d_Reader_handlers_59 : decode b_Reader_handlers 59 = .ok (.getfield 112, 3) := by decide +kernel
theorem d_Reader_handlers_62 : decode b_Reader_handlers 62 = .ok (.iconst 1, 1) := by decide +kernel
theorem d_Reader_handlers_63 : decode b_Reader_handlers 63 = .ok (.iadd, 1) := by decide +kernel
theorem d_Reader_handlers_64 : decode b_Reader_handlers 64 = .ok (.aload_n 1, 1) := by decide +kernel
theorem d_Reader_handlers_65 : decode b_Reader_handlers 65 = .ok (.getfield 85, 3) := by decide +kernel
theorem d_Reader_handlers_68 : decode b_Reader_handlers 68 = .ok (.invokevirtual 27, 3) := by decide +kernel
theorem d_Reader_handlers_71 : decode b_Reader_handlers 71 = .ok (.putfield 117, 3) := by decide +kernel
theorem d_Reader_handlers_74 : decode b_Reader_handlers 74 = .ok (.aload_n 3, 1) := by decide +kernel
theorem d_Reader_handlers_75 : decode b_Reader_handlers 75 = .ok (.aload_n 0, 1) := by decide +kernel
theorem d_Reader_handlers_76 : decode b_Reader_handlers 76 = .ok (.iconst 2, 1) := by decide +kernel
theorem d_Reader_handlers_77 : decode b_Reader_handlers 77 = .ok (.iconst 0, 1) := by decide +kernel
theorem d_Reader_handlers_78 : decode b_Reader_handlers 78 = .ok (.aload_n 1, 1) := by decide +kernel
theorem d_Reader_handlers_79 : decode b_Reader_handlers 79 = .ok (.getfield 85, 3) := by decide +kernel
theorem d_Reader_handlers_82 : decode b_Reader_handlers 82 = .ok (.iconst 1, 1) := by decide +kernel
theorem d_Reader_handlers_83 : decode b_Reader_handlers 83 = .ok (.isub, 1) := by decide +kernel
theorem d_Reader_handlers_84 : decode b_Reader_handlers 84 = .ok (.invokevirtual 27, 3) := by decide +kernel
theorem d_Reader_handlers_87 : decode b_Reader_handlers 87 = .ok (.putfield 120, 3) := by decide +kernel
theorem d_Reader_handlers_90 : decode b_Reader_handlers 90 = .ok (.aload_n 3, 1) := by decide +kernel
theorem d_Reader_handlers_91 : decode b_Reader_handlers 91 = .ok (.aload_n 0, 1) := by decide +kernel
theorem d_Reader_handlers_92 : decode b_Reader_handlers 92 = .ok (.iconst 1, 1) := by decide +kernel
theorem d_Reader_handlers_93 : decode b_Reader_handlers 93 = .ok (.iconst 0, 1) := by decide +kernel
theorem d_Reader_handlers_94 : decode b_Reader_handlers 94 = .ok (.iconst 1, 1) := by decide +kernel
theorem d_Reader_handlers_95 : decode b_Reader_handlers 95 = .ok (.invokevirtual 27, 3) := by decide +kernel
theorem d_Reader_handlers_98 : decode b_Reader_handlers 98 = .ok (.ifCond .ne 7, 3) := by decide +kernel
theorem d_Reader_handlers_101 : decode b_Reader_handlers 101 = .ok (.iconst 1, 1) := by decide +kernel
theorem d_Reader_handlers_102 : decode b_Reader_handlers 102 = .ok (.goto 4, 3) := by decide +kernel
theorem d_Reader_handlers_105 : decode b_Reader_handlers 105 = .ok (.iconst 0, 1) := by decide +kernel
theorem d_Reader_handlers_106 : decode b_Reader_handlers 106 = .ok (.putfield 123, 3) := by decide +kernel
theorem d_Reader_handlers_109 : decode b_Reader_handlers 109 = .ok (.aload_n 3, 1) := by decide +kernel
theorem d_Reader_handlers_110 : decode b_Reader_handlers 110 = .ok (.aload_n 0, 1) := by decide +kernel
theorem d_Reader_handlers_111 : decode b_Reader_handlers 111 = .ok (.aload_n 3, 1) := by decide +kernel
theorem d_Reader_handlers_112 : decode b_Reader_handlers 112 = .ok (.getfield 123, 3) := by decide +kernel
theorem d_Reader_handlers_115 : decode b_Reader_handlers 115 = .ok (.ifCond .eq 7, 3) := by decide +kernel
theorem d_Reader_handlers_118 : decode b_Reader_handlers 118 = .ok (.iconst 0, 1) := by decide +kernel
theorem d_Reader_handlers_119 : decode b_Reader_handlers 119 = .ok (.goto 4, 3) := by decide +kernel
theorem d_Reader_handlers_122 : decode b_Reader_handlers 122 = .ok (.iconst 4, 1) := by decide +kernel
theorem d_Reader_handlers_123 : decode b_Reader_handlers 123 = .ok (.ldc 127, 2) := by decide +kernel
theorem d_Reader_handlers_125 : decode b_Reader_handlers 125 = .ok (.ldc 128, 2) := by decide +kernel
theorem d_Reader_handlers_127 : decode b_Reader_handlers 127 = .ok (.invokevirtual 27, 3) := by decide +kernel
theorem d_Reader_handlers_130 : decode b_Reader_handlers 130 = .ok (.putfield 129, 3) := by decide +kernel
theorem d_Reader_handlers_133 : decode b_Reader_handlers 133 = .ok (.iinc 2 1, 3) := by decide +kernel
theorem d_Reader_handlers_136 : decode b_Reader_handlers 136 = .ok (.goto (-122), 3) := by decide +kernel
theorem d_Reader_handlers_139 : decode b_Reader_handlers 139 = .ok (.return_, 1) := by decide +kernel
set_option maxHeartbeats 4000000 in
set_option maxRecDepth 100000 in
theorem m_Reader_nextByte {l : Launch} {D : va_G} {dA : Nat → ClassId} (o : Option Nat) (h0 : hc_H) (b : Int32) (C0 S0 : Nat) (h2 : hc_H) (hr : p_Reader_nextByte o h0 = some (b, C0, S0, h2)) : hc_Met l (gg D dA) y_Reader_nextByte b_Reader_nextByte 2 (some .int) tb 1 22 [vr_ o] h0 C0 S0 (some (vi_ b)) h2 := by
  refine hc_Met.of (by decide) (Nat.le_of_ble_eq_true rfl) ?_
  intro p e s m args below meth c hC
  unfold p_Reader_nextByte at hr
  refine hj_sub (lv' := [(0, vr_ o)]) [0] rfl ?_
  refine hj_aload_n hC 0 d_Reader_nextByte_0 rfl rfl ?_
  refine hj_geti hC cf_Reader (k := 2) (by decide) wq_103 rfl d_Reader_nextByte_1 hr (fun a1 hr => ?_)
  refine hj_aload_n hC 0 d_Reader_nextByte_4 rfl rfl ?_
  refine hj_getr hC cf_Reader (k := 0) (by decide) wq_101 rfl d_Reader_nextByte_5 hr (fun a2 hr => ?_)
  refine hj_geti hC cf_ByteRow (k := 2) (by decide) wq_104 rfl d_Reader_nextByte_8 hr (fun a3 hr => ?_)
  refine hj_icmp_lt hC 31 d_Reader_nextByte_11 (by decide) hr (fun q11 hr => ?_) (fun q11 hr => ?_)
  · refine hj_aload_n hC 0 d_Reader_nextByte_31 rfl rfl ?_
    refine hj_getr hC cf_Reader (k := 0) (by decide) wq_101 rfl d_Reader_nextByte_32 hr (fun a4 hr => ?_)
    refine hj_aload_n hC 0 d_Reader_nextByte_35 rfl rfl ?_
    refine hj_geti hC cf_Reader (k := 2) (by decide) wq_103 rfl d_Reader_nextByte_36 hr (fun a5 hr => ?_)
    refine hj_callV hC hG (enc := (fun a : Int32 => some (vi_ a))) (As := [vi_ a5]) (st := []) (fun h a C S h1 hr => m_ByteRow_at _ _ h a C S h1 hr) cf_ByteRow wq_106 wq_107 wq_108 wq_41 wq_105 yk_ByteRow_at rfl ⟨Nat.le_of_ble_eq_true rfl, Nat.le_of_ble_eq_true rfl⟩ rfl (Nat.le_of_ble_eq_true rfl) d_Reader_nextByte_39 hr (fun a6 h C S hr => ?_)
    refine hj_istore_n hC (lv' := [(1, vi_ a6), (0, vr_ o)]) d_Reader_nextByte_42 rfl (by decide) rfl ?_
    refine hj_aload_n hC 1 d_Reader_nextByte_43 rfl rfl ?_
    refine hj_dup hC d_Reader_nextByte_44 rfl ?_
    refine hj_geti hC cf_Reader (k := 2) (by decide) wq_103 rfl d_Reader_nextByte_45 hr (fun a7 hr => ?_)
    refine hj_iconst hC (v := 1) d_Reader_nextByte_48 (by decide) ?_
    refine hj_iadd hC d_Reader_nextByte_49 ?_
    refine hj_puti hC cf_Reader (k := 2) (by decide) wq_103 rfl (Or.inl rfl) rfl d_Reader_nextByte_50 hr (fun h hr => ?_)
    refine hj_iload_n hC 0 d_Reader_nextByte_53 rfl rfl ?_
    exact hj_iret hC d_Reader_nextByte_54 hr
  · refine hj_aload_n hC 0 d_Reader_nextByte_14 rfl rfl ?_
    refine hj_getr hC cf_Reader (k := 1) (by decide) wq_102 rfl d_Reader_nextByte_15 hr (fun a8 hr => ?_)
    refine hj_iconst hC (v := 1) d_Reader_nextByte_18 (by decide) ?_
    refine hj_aload_n hC 0 d_Reader_nextByte_19 rfl rfl ?_
    refine hj_getr hC cf_Reader (k := 0) (by decide) wq_101 rfl d_Reader_nextByte_20 hr (fun a9 hr => ?_)
    refine hj_geti hC cf_ByteRow (k := 2) (by decide) wq_104 rfl d_Reader_nextByte_23 hr (fun a10 hr => ?_)
    refine hj_callV hC hG (enc := (fun _ : Unit => none)) (As := [vi_ 1, vi_ a10]) (st := []) (fun h a C S h1 hr => m_Fault_tell _ _ _ h a C S h1 hr) cf_Fault wq_110 wq_111 wq_112 wq_47 wq_109 yk_Fault_tell rfl ⟨Nat.le_of_ble_eq_true rfl, Nat.le_of_ble_eq_true rfl⟩ rfl (Nat.le_of_ble_eq_true rfl) d_Reader_nextByte_26 hr (fun _ h C S hr => ?_)
    refine hj_iconst hC (v := 0) d_Reader_nextByte_29 (by decide) ?_
    exact hj_iret hC d_Reader_nextByte_30 hr
set_option maxHeartbeats 4000000 in
set_option maxRecDepth 100000 in
theorem m_Reader_start {l : Launch} {D : va_G} {dA : Nat → ClassId} (o : Option Nat) (x1 : Int32) (h0 : hc_H) (b : Unit) (C0 S0 : Nat) (h2 : hc_H) (hr : p_Reader_start o x1 h0 = some (b, C0, S0, h2)) : hc_Met l (gg D dA) y_Reader_start b_Reader_start 3 none tb 2 43 [vr_ o, vi_ x1] h0 C0 S0 none h2 := by
  refine hc_Met.of (by decide) (Nat.le_of_ble_eq_true rfl) ?_
  intro p e s m args below meth c hC
  unfold p_Reader_start at hr
  refine hj_sub (lv' := [(0, vr_ o), (1, vi_ x1)]) [0, 1] rfl ?_
  refine hj_aload_n hC 0 d_Reader_start_0 rfl rfl ?_
  refine hj_geti hC cf_Reader (k := 2) (by decide) wq_103 rfl d_Reader_start_1 hr (fun a1 hr => ?_)
  refine hj_istore_n hC (lv' := [(2, vi_ a1), (0, vr_ o), (1, vi_ x1)]) d_Reader_start_4 rfl (by decide) rfl ?_
  refine hj_aload_n hC 1 d_Reader_start_5 rfl rfl ?_
  refine hj_callV hC hG (enc := (fun a : Int32 => some (vi_ a))) (As := []) (st := []) (fun h a C S h1 hr => m_Reader_nextByte _  h a C S h1 hr) cf_Reader wq_114 wq_115 wq_116 wq_117 wq_113 yk_Reader_nextByte rfl ⟨Nat.le_of_ble_eq_true rfl, Nat.le_of_ble_eq_true rfl⟩ rfl (Nat.le_of_ble_eq_true rfl) d_Reader_start_6 hr (fun a2 h C S hr => ?_)
  refine hj_iload_n hC 2 d_Reader_start_9 rfl rfl ?_
  refine hj_icmp_eq hC 22 d_Reader_start_10 (by decide) hr (fun q10 hr => ?_) (fun q10 hr => ?_)
  · exact hj_vret hC d_Reader_start_22 hr
  · refine hj_aload_n hC 1 d_Reader_start_13 rfl rfl ?_
    refine hj_getr hC cf_Reader (k := 1) (by decide) wq_102 rfl d_Reader_start_14 hr (fun a3 hr => ?_)
    refine hj_iconst hC (v := 2) d_Reader_start_17 (by decide) ?_
    refine hj_iload_n hC 0 d_Reader_start_18 rfl rfl ?_
    refine hj_callV hC hG (enc := (fun _ : Unit => none)) (As := [vi_ 2, vi_ a1]) (st := []) (fun h a C S h1 hr => m_Fault_tell _ _ _ h a C S h1 hr) cf_Fault wq_110 wq_111 wq_112 wq_47 wq_109 yk_Fault_tell rfl ⟨Nat.le_of_ble_eq_true rfl, Nat.le_of_ble_eq_true rfl⟩ rfl (Nat.le_of_ble_eq_true rfl) d_Reader_start_19 hr (fun _ h C S hr => ?_)
    exact hj_vret hC d_Reader_start_22 hr
set_option maxHeartbeats 4000000 in
set_option maxRecDepth 100000 in
theorem ml_Reader_number_12 {p : Program} {l : Launch} {e : Env} {s : State} {m : MethodId} {args : Array Value} {below : List Frame} {meth : Method} {c : Code} {D : va_G} {dA : Nat → ClassId} {h0 h2 : hc_H} {C0 S0 : Nat} {b : Int32} (hC : hj_C p s m args meth c (gg D dA) b_Reader_number 7 (some .int) R_Reader "number" tb) (x0 : Option Nat) (x1 : Int32) (x2 : Int32) (x3 : Int32) (x4 : Int32) (kx : Int32 → hM Int32) (hk : ∀ (v5 : Int32) (h : hc_H) (C S : Nat), kx v5 h = some (b, C, S, h2) → hj_J p l e { frames := 2, cells := C0, slots := S0, locals := 43 } s m args below meth c (gg D dA) h0 7 (hj_Q below args s { frames := 2, cells := C0, slots := S0, locals := 43 } (gg D dA) h0 (some (vi_ b)) h2) C S h 36 [(0, vr_ x0), (2, vi_ x2), (3, vi_ x3), (4, vi_ x4), (5, vi_ v5)] []) : ∀ (fu : Nat) (v5 : Int32) (v6 : Int32) (h : hc_H) (C S : Nat), p_Reader_number_12 x0 x1 x2 x3 x4 kx fu v5 v6 h = some (b, C, S, h2) → hj_J p l e { frames := 2, cells := C0, slots := S0, locals := 43 } s m args below meth c (gg D dA) h0 7 (hj_Q below args s { frames := 2, cells := C0, slots := S0, locals := 43 } (gg D dA) h0 (some (vi_ b)) h2) C S h 12 [(0, vr_ x0), (1, vi_ x1), (2, vi_ x2), (3, vi_ x3), (4, vi_ x4), (5, vi_ v5), (6, vi_ v6)] [] := by
  intro fu
  induction fu with
  | zero =>
    intro v5 v6 h C S hr
    cases hr
  | succ fu ih =>
    intro v5 v6 h C S hr
    rw [p_Reader_number_12] at hr
    refine hj_iload hC 6 d_Reader_number_12 rfl ?_
    refine hj_iload_n hC 1 d_Reader_number_14 rfl rfl ?_
    refine hj_icmp_ge hC 36 d_Reader_number_15 (by decide) hr (fun q15 hr => ?_) (fun q15 hr => ?_)
    · refine hj_sub (lv' := [(0, vr_ x0), (2, vi_ x2), (3, vi_ x3), (4, vi_ x4), (5, vi_ v5)]) [0, 2, 3, 4, 5] rfl ?_
      exact hk _ _ _ _ hr
    · refine hj_iload hC 5 d_Reader_number_18 rfl ?_
      refine hj_bipush hC (v := 8) d_Reader_number_20 (by decide) ?_
      refine hj_ishl hC d_Reader_number_22 ?_
      refine hj_aload_n hC 0 d_Reader_number_23 rfl rfl ?_
      refine hj_callV hC hG (enc := (fun a : Int32 => some (vi_ a))) (As := []) (st := [vi_ (v5 <<< ((8 : Int32) &&& 31))]) (fun h a C S h1 hr => m_Reader_nextByte _  h a C S h1 hr) cf_Reader wq_114 wq_115 wq_116 wq_117 wq_113 yk_Reader_nextByte rfl ⟨Nat.le_of_ble_eq_true rfl, Nat.le_of_ble_eq_true rfl⟩ rfl (Nat.le_of_ble_eq_true rfl) d_Reader_number_24 hr (fun a2 h C S hr => ?_)
      refine hj_ior hC d_Reader_number_27 ?_
      refine hj_istore hC (lv' := [(5, vi_ ((v5 <<< ((8 : Int32) &&& 31)) ||| a2)), (0, vr_ x0), (1, vi_ x1), (2, vi_ x2), (3, vi_ x3), (4, vi_ x4), (6, vi_ v6)]) d_Reader_number_28 (by decide) rfl ?_
      refine hj_iinc hC (lv' := [(6, vi_ (v6 + 1)), (5, vi_ ((v5 <<< ((8 : Int32) &&& 31)) ||| a2)), (0, vr_ x0), (1, vi_ x1), (2, vi_ x2), (3, vi_ x3), (4, vi_ x4)]) 6 d_Reader_number_30 rfl rfl (by decide) rfl ?_
      refine hj_goto hC 12 d_Reader_number_33 (by decide) ?_
      refine hj_sub (lv' := [(0, vr_ x0), (1, vi_ x1), (2, vi_ x2), (3, vi_ x3), (4, vi_ x4), (5, vi_ ((v5 <<< ((8 : Int32) &&& 31)) ||| a2)), (6, vi_ (v6 + 1))]) [2, 3, 4, 5, 6, 1, 0] rfl ?_
      exact ih _ _ _ _ _ hr
set_option maxHeartbeats 4000000 in
set_option maxRecDepth 100000 in
theorem m_Reader_number {l : Launch} {D : va_G} {dA : Nat → ClassId} (o : Option Nat) (x1 : Int32) (x2 : Int32) (x3 : Int32) (h0 : hc_H) (b : Int32) (C0 S0 : Nat) (h2 : hc_H) (hr : p_Reader_number o x1 x2 x3 h0 = some (b, C0, S0, h2)) : hc_Met l (gg D dA) y_Reader_number b_Reader_number 7 (some .int) tb 2 43 [vr_ o, vi_ x1, vi_ x2, vi_ x3] h0 C0 S0 (some (vi_ b)) h2 := by
  refine hc_Met.of (by decide) (Nat.le_of_ble_eq_true rfl) ?_
  intro p e s m args below meth c hC
  unfold p_Reader_number at hr
  refine hj_sub (lv' := [(0, vr_ o), (1, vi_ x1), (2, vi_ x2), (3, vi_ x3)]) [0, 1, 2, 3] rfl ?_
  refine hj_aload_n hC 0 d_Reader_number_0 rfl rfl ?_
  refine hj_geti hC cf_Reader (k := 2) (by decide) wq_103 rfl d_Reader_number_1 hr (fun a1 hr => ?_)
  refine hj_istore hC (lv' := [(4, vi_ a1), (0, vr_ o), (1, vi_ x1), (2, vi_ x2), (3, vi_ x3)]) d_Reader_number_4 (by decide) rfl ?_
  refine hj_iconst hC (v := 0) d_Reader_number_6 (by decide) ?_
  refine hj_istore hC (lv' := [(5, vi_ 0), (4, vi_ a1), (0, vr_ o), (1, vi_ x1), (2, vi_ x2), (3, vi_ x3)]) d_Reader_number_7 (by decide) rfl ?_
  refine hj_iconst hC (v := 0) d_Reader_number_9 (by decide) ?_
  refine hj_istore hC (lv' := [(6, vi_ 0), (5, vi_ 0), (4, vi_ a1), (0, vr_ o), (1, vi_ x1), (2, vi_ x2), (3, vi_ x3)]) d_Reader_number_10 (by decide) rfl ?_
  refine hj_sub (lv' := [(0, vr_ o), (1, vi_ x1), (2, vi_ x2), (3, vi_ x3), (4, vi_ a1), (5, vi_ 0), (6, vi_ 0)]) [3, 4, 5, 6, 2, 1, 0] rfl ?_
  refine ml_Reader_number_12 hC _ _ _ _ _ _ (fun v5_3 h C S hr => ?_) _ _ _ _ _ _ hr
  refine hj_iload hC 4 d_Reader_number_36 rfl ?_
  refine hj_iload_n hC 1 d_Reader_number_38 rfl rfl ?_
  refine hj_jn hC (K := hM Int32) (fun k => ∀  (h : hc_H) (C S : Nat), k  h = some (b, C, S, h2) → hj_J p l e { frames := 2, cells := C0, slots := S0, locals := 43 } s m args below meth c (gg D dA) h0 7 (hj_Q below args s { frames := 2, cells := C0, slots := S0, locals := 43 } (gg D dA) h0 (some (vi_ b)) h2) C S h 58 [(0, vr_ o), (2, vi_ x2), (5, vi_ v5_3)] []) hr (fun  h C S hr => ?_) (fun k58 hk58 hr => ?_)
  · refine hj_aload_n hC 0 d_Reader_number_58 rfl rfl ?_
    refine hj_getr hC cf_Reader (k := 1) (by decide) wq_102 rfl d_Reader_number_59 hr (fun a4 hr => ?_)
    refine hj_geti hC cf_Fault (k := 0) (by decide) wq_118 rfl d_Reader_number_62 hr (fun a5 hr => ?_)
    refine hj_if_ne hC 73 d_Reader_number_65 (by decide) hr (fun q65 hr => ?_) (fun q65 hr => ?_)
    · refine hj_iload_n hC 1 d_Reader_number_73 rfl rfl ?_
      exact hj_iret hC d_Reader_number_74 hr
    · refine hj_iload hC 2 d_Reader_number_68 rfl ?_
      refine hj_goto hC 74 d_Reader_number_70 (by decide) ?_
      exact hj_iret hC d_Reader_number_74 hr
  · refine hj_jn hC (K := hM Int32) (fun k => ∀  (h : hc_H) (C S : Nat), k  h = some (b, C, S, h2) → hj_J p l e { frames := 2, cells := C0, slots := S0, locals := 43 } s m args below meth c (gg D dA) h0 7 (hj_Q below args s { frames := 2, cells := C0, slots := S0, locals := 43 } (gg D dA) h0 (some (vi_ b)) h2) C S h 48 [(0, vr_ o), (2, vi_ x2), (4, vi_ a1), (5, vi_ v5_3)] []) hr (fun  h C S hr => ?_) (fun k48 hk48 hr => ?_)
    · refine hj_aload_n hC 0 d_Reader_number_48 rfl rfl ?_
      refine hj_getr hC cf_Reader (k := 1) (by decide) wq_102 rfl d_Reader_number_49 hr (fun a6 hr => ?_)
      refine hj_iconst hC (v := 3) d_Reader_number_52 (by decide) ?_
      refine hj_iload hC 2 d_Reader_number_53 rfl ?_
      refine hj_callV hC hG (enc := (fun _ : Unit => none)) (As := [vi_ 3, vi_ a1]) (st := []) (fun h a C S h1 hr => m_Fault_tell _ _ _ h a C S h1 hr) cf_Fault wq_110 wq_111 wq_112 wq_47 wq_109 yk_Fault_tell rfl ⟨Nat.le_of_ble_eq_true rfl, Nat.le_of_ble_eq_true rfl⟩ rfl (Nat.le_of_ble_eq_true rfl) d_Reader_number_55 hr (fun _ h C S hr => ?_)
      refine hj_sub (lv' := [(0, vr_ o), (2, vi_ x2), (5, vi_ v5_3)]) [0, 1, 3] rfl ?_
      exact hk58 _ _ _ hr
    · refine hj_icmp_lt hC 48 d_Reader_number_39 (by decide) hr (fun q39 hr => ?_) (fun q39 hr => ?_)
      · refine hj_sub (lv' := [(0, vr_ o), (2, vi_ x2), (4, vi_ a1), (5, vi_ v5_3)]) [0, 1, 3, 4] rfl ?_
        exact hk48 _ _ _ hr
      · refine hj_iload hC 4 d_Reader_number_42 rfl ?_
        refine hj_iload_n hC 2 d_Reader_number_44 rfl rfl ?_
        refine hj_icmp_le hC 58 d_Reader_number_45 (by decide) hr (fun q45 hr => ?_) (fun q45 hr => ?_)
        · refine hj_sub (lv' := [(0, vr_ o), (2, vi_ x2), (5, vi_ v5_3)]) [0, 1, 4] rfl ?_
          exact hk58 _ _ _ hr
        · refine hj_sub (lv' := [(0, vr_ o), (2, vi_ x2), (4, vi_ a1), (5, vi_ v5_3)]) [0, 1, 3, 4] rfl ?_
          exact hk48 _ _ _ hr
set_option maxHeartbeats 4000000 in
set_option maxRecDepth 100000 in
theorem ml_Program_setCount_2 {p : Program} {l : Launch} {e : Env} {s : State} {m : MethodId} {args : Array Value} {below : List Frame} {meth : Method} {c : Code} {D : va_G} {dA : Nat → ClassId} {h0 h2 : hc_H} {C0 S0 : Nat} {b : Unit} (hC : hj_C p s m args meth c (gg D dA) b_Program_setCount 3 none R_Program "setCount" tb) (x0 : Option Nat) (x1 : Int32) (kx : hM Unit) (hk : ∀  (h : hc_H) (C S : Nat), kx  h = some (b, C, S, h2) → hj_J p l e { frames := 3, cells := C0, slots := S0, locals := 61 } s m args below meth c (gg D dA) h0 3 (hj_Q below args s { frames := 3, cells := C0, slots := S0, locals := 61 } (gg D dA) h0 none h2) C S h 35 [(0, vr_ x0), (1, vi_ x1)] []) : ∀ (fu : Nat) (v2 : Int32) (h : hc_H) (C S : Nat), p_Program_setCount_2 x0 x1 kx fu v2 h = some (b, C, S, h2) → hj_J p l e { frames := 3, cells := C0, slots := S0, locals := 61 } s m args below meth c (gg D dA) h0 3 (hj_Q below args s { frames := 3, cells := C0, slots := S0, locals := 61 } (gg D dA) h0 none h2) C S h 2 [(0, vr_ x0), (1, vi_ x1), (2, vi_ v2)] [] := by
  intro fu
  induction fu with
  | zero =>
    intro v2 h C S hr
    cases hr
  | succ fu ih =>
    intro v2 h C S hr
    rw [p_Program_setCount_2] at hr
    refine hj_iload_n hC 2 d_Program_setCount_2 rfl rfl ?_
    refine hj_iload_n hC 1 d_Program_setCount_3 rfl rfl ?_
    refine hj_icmp_ge hC 35 d_Program_setCount_4 (by decide) hr (fun q4 hr => ?_) (fun q4 hr => ?_)
    · refine hj_sub (lv' := [(0, vr_ x0), (1, vi_ x1)]) [0, 1] rfl ?_
      exact hk _ _ _ hr
    · refine hj_aload_n hC 0 d_Program_setCount_7 rfl rfl ?_
      refine hj_getr hC cf_Program (k := 0) (by decide) wq_31 rfl d_Program_setCount_8 hr (fun a1 hr => ?_)
      refine hj_iload_n hC 2 d_Program_setCount_11 rfl rfl ?_
      refine hj_aald hC (kd := 8) rfl d_Program_setCount_12 hr (fun a2 hr => ?_)
      refine hj_jn hC (K := hM Unit) (fun k => ∀  (h : hc_H) (C S : Nat), k  h = some (b, C, S, h2) → hj_J p l e { frames := 3, cells := C0, slots := S0, locals := 61 } s m args below meth c (gg D dA) h0 3 (hj_Q below args s { frames := 3, cells := C0, slots := S0, locals := 61 } (gg D dA) h0 none h2) C S h 29 [(0, vr_ x0), (1, vi_ x1), (2, vi_ v2)] []) hr (fun  h C S hr => ?_) (fun k29 hk29 hr => ?_)
      · refine hj_iinc hC (lv' := [(2, vi_ (v2 + 1)), (0, vr_ x0), (1, vi_ x1)]) 2 d_Program_setCount_29 rfl rfl (by decide) rfl ?_
        refine hj_goto hC 2 d_Program_setCount_32 (by decide) ?_
        refine hj_sub (lv' := [(0, vr_ x0), (1, vi_ x1), (2, vi_ (v2 + 1))]) [1, 2, 0] rfl ?_
        exact ih _ _ _ _ hr
      · refine hj_ifnonnull hC 29 d_Program_setCount_13 (by decide) hr (fun q13 hr => ?_) (fun q13 hr => ?_)
        · exact hk29 _ _ _ hr
        · refine hj_aload_n hC 0 d_Program_setCount_16 rfl rfl ?_
          refine hj_getr hC cf_Program (k := 0) (by decide) wq_31 rfl d_Program_setCount_17 hr (fun a3 hr => ?_)
          refine hj_iload_n hC 2 d_Program_setCount_20 rfl rfl ?_
          refine hj_new hC cf_Function wq_30 wq_32 wq_33 (fs := [vi_ 0, vi_ 0, vi_ 0, vi_ 0, vi_ 0, vi_ 0, vr_ none, vr_ none, vr_ none, vr_ none, vr_ none]) (fun j hj => by rcases (show j = 0 ∨ j = 1 ∨ j = 2 ∨ j = 3 ∨ j = 4 ∨ j = 5 ∨ j = 6 ∨ j = 7 ∨ j = 8 ∨ j = 9 ∨ j = 10 by omega) with rfl | rfl | rfl | rfl | rfl | rfl | rfl | rfl | rfl | rfl | rfl <;> rfl) d_Program_setCount_21 hr (fun q4 h C S hr => ?_)
          refine hj_dup hC d_Program_setCount_24 rfl ?_
          refine hj_callI hC hG (As := []) (st := [vr_ (some q4), vi_ v2, vr_ a3]) (fun h a C S h1 hr => m_Function_init _  h a C S h1 hr) (Or.inl wq_36) wq_37 wq_33 wq_34 rfl yk_Function_init rfl ⟨Nat.le_of_ble_eq_true rfl, Nat.le_of_ble_eq_true rfl⟩ rfl (Nat.le_of_ble_eq_true rfl) d_Program_setCount_25 hr (fun _ h C S hr => ?_)
          refine hj_aast hC (kd := 8) rfl cf_Function d_Program_setCount_28 hr (fun h hr => ?_)
          exact hk29 _ _ _ hr
set_option maxHeartbeats 4000000 in
set_option maxRecDepth 100000 in
theorem m_Program_setCount {l : Launch} {D : va_G} {dA : Nat → ClassId} (o : Option Nat) (x1 : Int32) (h0 : hc_H) (b : Unit) (C0 S0 : Nat) (h2 : hc_H) (hr : p_Program_setCount o x1 h0 = some (b, C0, S0, h2)) : hc_Met l (gg D dA) y_Program_setCount b_Program_setCount 3 none tb 3 61 [vr_ o, vi_ x1] h0 C0 S0 none h2 := by
  refine hc_Met.of (by decide) (Nat.le_of_ble_eq_true rfl) ?_
  intro p e s m args below meth c hC
  unfold p_Program_setCount at hr
  refine hj_sub (lv' := [(0, vr_ o), (1, vi_ x1)]) [0, 1] rfl ?_
  refine hj_iconst hC (v := 0) d_Program_setCount_0 (by decide) ?_
  refine hj_istore_n hC (lv' := [(2, vi_ 0), (0, vr_ o), (1, vi_ x1)]) d_Program_setCount_1 rfl (by decide) rfl ?_
  refine hj_sub (lv' := [(0, vr_ o), (1, vi_ x1), (2, vi_ 0)]) [1, 2, 0] rfl ?_
  refine ml_Program_setCount_2 hC _ _ _ (fun  h C S hr => ?_) _ _ _ _ _ hr
  refine hj_aload_n hC 0 d_Program_setCount_35 rfl rfl ?_
  refine hj_iload_n hC 1 d_Program_setCount_36 rfl rfl ?_
  refine hj_puti hC cf_Program (k := 1) (by decide) wq_35 rfl (Or.inl rfl) rfl d_Program_setCount_37 hr (fun h hr => ?_)
  exact hj_vret hC d_Program_setCount_40 hr
set_option maxHeartbeats 4000000 in
set_option maxRecDepth 100000 in
theorem m_Reader_head {l : Launch} {D : va_G} {dA : Nat → ClassId} (o : Option Nat) (x1 : Option Nat) (x2 : Int32) (h0 : hc_H) (b : Unit) (C0 S0 : Nat) (h2 : hc_H) (hr : p_Reader_head o x1 x2 h0 = some (b, C0, S0, h2)) : hc_Met l (gg D dA) y_Reader_head b_Reader_head 3 none tb 3 69 [vr_ o, vr_ x1, vi_ x2] h0 C0 S0 none h2 := by
  refine hc_Met.of (by decide) (Nat.le_of_ble_eq_true rfl) ?_
  intro p e s m args below meth c hC
  unfold p_Reader_head at hr
  refine hj_sub (lv' := [(0, vr_ o), (1, vr_ x1), (2, vi_ x2)]) [0, 1, 2] rfl ?_
  refine hj_aload_n hC 1 d_Reader_head_0 rfl rfl ?_
  refine hj_aload_n hC 0 d_Reader_head_1 rfl rfl ?_
  refine hj_iconst hC (v := 1) d_Reader_head_2 (by decide) ?_
  refine hj_iconst hC (v := 0) d_Reader_head_3 (by decide) ?_
  refine hj_iload_n hC 2 d_Reader_head_4 rfl rfl ?_
  refine hj_jn hC (K := Int32 → hM Unit) (fun k => ∀ (z1 : Int32) (h : hc_H) (C S : Nat), k z1 h = some (b, C, S, h2) → hj_J p l e { frames := 3, cells := C0, slots := S0, locals := 69 } s m args below meth c (gg D dA) h0 3 (hj_Q below args s { frames := 3, cells := C0, slots := S0, locals := 69 } (gg D dA) h0 none h2) C S h 13 [(0, vr_ o), (1, vr_ x1), (2, vi_ x2)] [vi_ z1, vi_ 0, vi_ 1, vr_ o, vr_ x1]) hr (fun z1 h C S hr => ?_) (fun k13 hk13 hr => ?_)
  · refine hj_callV hC hG (enc := (fun a : Int32 => some (vi_ a))) (As := [vi_ 1, vi_ 0, vi_ z1]) (st := [vr_ x1]) (fun h a C S h1 hr => m_Reader_number _ _ _ _ h a C S h1 hr) cf_Reader wq_125 wq_126 wq_127 wq_117 wq_119 yk_Reader_number rfl ⟨Nat.le_of_ble_eq_true rfl, Nat.le_of_ble_eq_true rfl⟩ rfl (Nat.le_of_ble_eq_true rfl) d_Reader_head_13 hr (fun a2 h C S hr => ?_)
    refine hj_puti hC cf_Function (k := 0) (by decide) wq_120 rfl (Or.inl rfl) rfl d_Reader_head_16 hr (fun h hr => ?_)
    refine hj_aload_n hC 1 d_Reader_head_19 rfl rfl ?_
    refine hj_aload_n hC 0 d_Reader_head_20 rfl rfl ?_
    refine hj_iconst hC (v := 1) d_Reader_head_21 (by decide) ?_
    refine hj_aload_n hC 1 d_Reader_head_22 rfl rfl ?_
    refine hj_geti hC cf_Function (k := 0) (by decide) wq_120 rfl d_Reader_head_23 hr (fun a3 hr => ?_)
    refine hj_bipush hC (v := 12) d_Reader_head_26 (by decide) ?_
    refine hj_callV hC hG (enc := (fun a : Int32 => some (vi_ a))) (As := [vi_ 1, vi_ a3, vi_ 12]) (st := [vr_ x1]) (fun h a C S h1 hr => m_Reader_number _ _ _ _ h a C S h1 hr) cf_Reader wq_125 wq_126 wq_127 wq_117 wq_119 yk_Reader_number rfl ⟨Nat.le_of_ble_eq_true rfl, Nat.le_of_ble_eq_true rfl⟩ rfl (Nat.le_of_ble_eq_true rfl) d_Reader_head_28 hr (fun a4 h C S hr => ?_)
    refine hj_puti hC cf_Function (k := 1) (by decide) wq_121 rfl (Or.inl rfl) rfl d_Reader_head_31 hr (fun h hr => ?_)
    refine hj_aload_n hC 1 d_Reader_head_34 rfl rfl ?_
    refine hj_aload_n hC 0 d_Reader_head_35 rfl rfl ?_
    refine hj_iconst hC (v := 2) d_Reader_head_36 (by decide) ?_
    refine hj_iconst hC (v := 0) d_Reader_head_37 (by decide) ?_
    refine hj_iconst hC (v := 1) d_Reader_head_38 (by decide) ?_
    refine hj_aload_n hC 1 d_Reader_head_39 rfl rfl ?_
    refine hj_geti hC cf_Function (k := 1) (by decide) wq_121 rfl d_Reader_head_40 hr (fun a5 hr => ?_)
    refine hj_ishl hC d_Reader_head_43 ?_
    refine hj_iconst hC (v := 1) d_Reader_head_44 (by decide) ?_
    refine hj_isub hC d_Reader_head_45 ?_
    refine hj_callV hC hG (enc := (fun a : Int32 => some (vi_ a))) (As := [vi_ 2, vi_ 0, vi_ (((1 : Int32) <<< (a5 &&& 31)) - 1)]) (st := [vr_ x1]) (fun h a C S h1 hr => m_Reader_number _ _ _ _ h a C S h1 hr) cf_Reader wq_125 wq_126 wq_127 wq_117 wq_119 yk_Reader_number rfl ⟨Nat.le_of_ble_eq_true rfl, Nat.le_of_ble_eq_true rfl⟩ rfl (Nat.le_of_ble_eq_true rfl) d_Reader_head_46 hr (fun a6 h C S hr => ?_)
    refine hj_puti hC cf_Function (k := 2) (by decide) wq_122 rfl (Or.inl rfl) rfl d_Reader_head_49 hr (fun h hr => ?_)
    refine hj_aload_n hC 1 d_Reader_head_52 rfl rfl ?_
    refine hj_aload_n hC 0 d_Reader_head_53 rfl rfl ?_
    refine hj_iconst hC (v := 1) d_Reader_head_54 (by decide) ?_
    refine hj_iconst hC (v := 0) d_Reader_head_55 (by decide) ?_
    refine hj_iload_n hC 2 d_Reader_head_56 rfl rfl ?_
    refine hj_jn hC (K := Int32 → hM Unit) (fun k => ∀ (z7 : Int32) (h : hc_H) (C S : Nat), k z7 h = some (b, C, S, h2) → hj_J p l e { frames := 3, cells := C0, slots := S0, locals := 69 } s m args below meth c (gg D dA) h0 3 (hj_Q below args s { frames := 3, cells := C0, slots := S0, locals := 69 } (gg D dA) h0 none h2) C S h 65 [(0, vr_ o), (1, vr_ x1)] [vi_ z7, vi_ 0, vi_ 1, vr_ o, vr_ x1]) hr (fun z7 h C S hr => ?_) (fun k65 hk65 hr => ?_)
    · refine hj_callV hC hG (enc := (fun a : Int32 => some (vi_ a))) (As := [vi_ 1, vi_ 0, vi_ z7]) (st := [vr_ x1]) (fun h a C S h1 hr => m_Reader_number _ _ _ _ h a C S h1 hr) cf_Reader wq_125 wq_126 wq_127 wq_117 wq_119 yk_Reader_number rfl ⟨Nat.le_of_ble_eq_true rfl, Nat.le_of_ble_eq_true rfl⟩ rfl (Nat.le_of_ble_eq_true rfl) d_Reader_head_65 hr (fun a8 h C S hr => ?_)
      refine hj_puti hC cf_Function (k := 3) (by decide) wq_123 rfl (Or.inl rfl) rfl d_Reader_head_68 hr (fun h hr => ?_)
      refine hj_aload_n hC 1 d_Reader_head_71 rfl rfl ?_
      refine hj_aload_n hC 0 d_Reader_head_72 rfl rfl ?_
      refine hj_iconst hC (v := 2) d_Reader_head_73 (by decide) ?_
      refine hj_iconst hC (v := 1) d_Reader_head_74 (by decide) ?_
      refine hj_sipush hC (v := 400) d_Reader_head_75 (by decide) ?_
      refine hj_callV hC hG (enc := (fun a : Int32 => some (vi_ a))) (As := [vi_ 2, vi_ 1, vi_ 400]) (st := [vr_ x1]) (fun h a C S h1 hr => m_Reader_number _ _ _ _ h a C S h1 hr) cf_Reader wq_125 wq_126 wq_127 wq_117 wq_119 yk_Reader_number rfl ⟨Nat.le_of_ble_eq_true rfl, Nat.le_of_ble_eq_true rfl⟩ rfl (Nat.le_of_ble_eq_true rfl) d_Reader_head_78 hr (fun a9 h C S hr => ?_)
      refine hj_puti hC cf_Function (k := 4) (by decide) wq_124 rfl (Or.inl rfl) rfl d_Reader_head_81 hr (fun h hr => ?_)
      exact hj_vret hC d_Reader_head_84 hr
    · refine hj_if_eq hC 64 d_Reader_head_57 (by decide) hr (fun q57 hr => ?_) (fun q57 hr => ?_)
      · refine hj_iconst hC (v := 2) d_Reader_head_64 (by decide) ?_
        refine hj_sub (lv' := [(0, vr_ o), (1, vr_ x1)]) [0, 1] rfl ?_
        exact hk65 _ _ _ _ hr
      · refine hj_iconst hC (v := 1) d_Reader_head_60 (by decide) ?_
        refine hj_goto hC 65 d_Reader_head_61 (by decide) ?_
        refine hj_sub (lv' := [(0, vr_ o), (1, vr_ x1)]) [0, 1] rfl ?_
        exact hk65 _ _ _ _ hr
  · refine hj_if_eq hC 12 d_Reader_head_5 (by decide) hr (fun q5 hr => ?_) (fun q5 hr => ?_)
    · refine hj_iconst hC (v := 4) d_Reader_head_12 (by decide) ?_
      exact hk13 _ _ _ _ hr
    · refine hj_iconst hC (v := 0) d_Reader_head_8 (by decide) ?_
      refine hj_goto hC 13 d_Reader_head_9 (by decide) ?_
      exact hk13 _ _ _ _ hr
set_option maxHeartbeats 4000000 in
set_option maxRecDepth 100000 in
theorem m_Kinds_bytesBehind {l : Launch} {D : va_G} {dA : Nat → ClassId} (x0 : Int32) (h0 : hc_H) (b : Int32) (C0 S0 : Nat) (h2 : hc_H) (hr : p_Kinds_bytesBehind x0 h0 = some (b, C0, S0, h2)) : hc_Met l (gg D dA) y_Kinds_bytesBehind b_Kinds_bytesBehind 1 (some .int) tb 0 0 [vi_ x0] h0 C0 S0 (some (vi_ b)) h2 := by
  refine hc_Met.of (by decide) (Nat.le_of_ble_eq_true rfl) ?_
  intro p e s m args below meth c hC
  unfold p_Kinds_bytesBehind at hr
  refine hj_sub (lv' := [(0, vi_ x0)]) [0] rfl ?_
  refine hj_iload_n hC 0 d_Kinds_bytesBehind_0 rfl rfl ?_
  by_cases s1_0 : x0 = 0
  · rw [if_pos s1_0] at hr
    refine hj_tableIn hC 136 d_Kinds_bytesBehind_1 (by rw [s1_0]; decide) (by rw [s1_0]; decide) (by rw [s1_0]; rfl) (by decide) ?_
    refine hj_iconst hC (v := 4) d_Kinds_bytesBehind_136 (by decide) ?_
    exact hj_iret hC d_Kinds_bytesBehind_137 hr
  · rw [if_neg s1_0] at hr
    by_cases s1_1 : x0 = 4 ∨ x0 = 5 ∨ x0 = 25 ∨ x0 = 26 ∨ x0 = 29
    · rw [if_pos s1_1] at hr
      refine hj_tableIn hC (off := 139) 140 d_Kinds_bytesBehind_1 (by rcases s1_1 with u | u | u | u | u <;> rw [u] <;> decide) (by rcases s1_1 with u | u | u | u | u <;> rw [u] <;> decide) (by rcases s1_1 with u | u | u | u | u <;> rw [u] <;> rfl) (by decide) ?_
      refine hj_iconst hC (v := 1) d_Kinds_bytesBehind_140 (by decide) ?_
      exact hj_iret hC d_Kinds_bytesBehind_141 hr
    · rw [if_neg s1_1] at hr
      have s1_1_0 : ¬ x0 = 4 := fun u => s1_1 (Or.inl u)
      have s1_1_1 : ¬ x0 = 5 := fun u => s1_1 (Or.inr (Or.inl u))
      have s1_1_2 : ¬ x0 = 25 := fun u => s1_1 (Or.inr (Or.inr (Or.inl u)))
      have s1_1_3 : ¬ x0 = 26 := fun u => s1_1 (Or.inr (Or.inr (Or.inr (Or.inl u))))
      have s1_1_4 : ¬ x0 = 29 := fun u => s1_1 (Or.inr (Or.inr (Or.inr (Or.inr (u)))))
      by_cases s1_2 : x0 = 18 ∨ x0 = 19 ∨ x0 = 20
      · rw [if_pos s1_2] at hr
        refine hj_tableIn hC (off := 137) 138 d_Kinds_bytesBehind_1 (by rcases s1_2 with u | u | u <;> rw [u] <;> decide) (by rcases s1_2 with u | u | u <;> rw [u] <;> decide) (by rcases s1_2 with u | u | u <;> rw [u] <;> rfl) (by decide) ?_
        refine hj_iconst hC (v := 2) d_Kinds_bytesBehind_138 (by decide) ?_
        exact hj_iret hC d_Kinds_bytesBehind_139 hr
      · rw [if_neg s1_2] at hr
        have s1_2_0 : ¬ x0 = 18 := fun u => s1_2 (Or.inl u)
        have s1_2_1 : ¬ x0 = 19 := fun u => s1_2 (Or.inr (Or.inl u))
        have s1_2_2 : ¬ x0 = 20 := fun u => s1_2 (Or.inr (Or.inr (u)))
        refine hj_tableDf hC 142 d_Kinds_bytesBehind_1 ?_ (by decide) ?_
        · by_cases qh0 : x0 = 1
          · exact Or.inr ⟨by rw [qh0]; decide, by rw [qh0]; decide, by rw [qh0]; rfl⟩
          have eh0 := lv_neT qh0 (a := 1) (by decide)
          by_cases qh1 : x0 = 2
          · exact Or.inr ⟨by rw [qh1]; decide, by rw [qh1]; decide, by rw [qh1]; rfl⟩
          have eh1 := lv_neT qh1 (a := 2) (by decide)
          by_cases qh2 : x0 = 3
          · exact Or.inr ⟨by rw [qh2]; decide, by rw [qh2]; decide, by rw [qh2]; rfl⟩
          have eh2 := lv_neT qh2 (a := 3) (by decide)
          by_cases qh3 : x0 = 6
          · exact Or.inr ⟨by rw [qh3]; decide, by rw [qh3]; decide, by rw [qh3]; rfl⟩
          have eh3 := lv_neT qh3 (a := 6) (by decide)
          by_cases qh4 : x0 = 7
          · exact Or.inr ⟨by rw [qh4]; decide, by rw [qh4]; decide, by rw [qh4]; rfl⟩
          have eh4 := lv_neT qh4 (a := 7) (by decide)
          by_cases qh5 : x0 = 8
          · exact Or.inr ⟨by rw [qh5]; decide, by rw [qh5]; decide, by rw [qh5]; rfl⟩
          have eh5 := lv_neT qh5 (a := 8) (by decide)
          by_cases qh6 : x0 = 9
          · exact Or.inr ⟨by rw [qh6]; decide, by rw [qh6]; decide, by rw [qh6]; rfl⟩
          have eh6 := lv_neT qh6 (a := 9) (by decide)
          by_cases qh7 : x0 = 10
          · exact Or.inr ⟨by rw [qh7]; decide, by rw [qh7]; decide, by rw [qh7]; rfl⟩
          have eh7 := lv_neT qh7 (a := 10) (by decide)
          by_cases qh8 : x0 = 11
          · exact Or.inr ⟨by rw [qh8]; decide, by rw [qh8]; decide, by rw [qh8]; rfl⟩
          have eh8 := lv_neT qh8 (a := 11) (by decide)
          by_cases qh9 : x0 = 12
          · exact Or.inr ⟨by rw [qh9]; decide, by rw [qh9]; decide, by rw [qh9]; rfl⟩
          have eh9 := lv_neT qh9 (a := 12) (by decide)
          by_cases qh10 : x0 = 13
          · exact Or.inr ⟨by rw [qh10]; decide, by rw [qh10]; decide, by rw [qh10]; rfl⟩
          have eh10 := lv_neT qh10 (a := 13) (by decide)
          by_cases qh11 : x0 = 14
          · exact Or.inr ⟨by rw [qh11]; decide, by rw [qh11]; decide, by rw [qh11]; rfl⟩
          have eh11 := lv_neT qh11 (a := 14) (by decide)
          by_cases qh12 : x0 = 15
          · exact Or.inr ⟨by rw [qh12]; decide, by rw [qh12]; decide, by rw [qh12]; rfl⟩
          have eh12 := lv_neT qh12 (a := 15) (by decide)
          by_cases qh13 : x0 = 16
          · exact Or.inr ⟨by rw [qh13]; decide, by rw [qh13]; decide, by rw [qh13]; rfl⟩
          have eh13 := lv_neT qh13 (a := 16) (by decide)
          by_cases qh14 : x0 = 17
          · exact Or.inr ⟨by rw [qh14]; decide, by rw [qh14]; decide, by rw [qh14]; rfl⟩
          have eh14 := lv_neT qh14 (a := 17) (by decide)
          by_cases qh15 : x0 = 21
          · exact Or.inr ⟨by rw [qh15]; decide, by rw [qh15]; decide, by rw [qh15]; rfl⟩
          have eh15 := lv_neT qh15 (a := 21) (by decide)
          by_cases qh16 : x0 = 22
          · exact Or.inr ⟨by rw [qh16]; decide, by rw [qh16]; decide, by rw [qh16]; rfl⟩
          have eh16 := lv_neT qh16 (a := 22) (by decide)
          by_cases qh17 : x0 = 23
          · exact Or.inr ⟨by rw [qh17]; decide, by rw [qh17]; decide, by rw [qh17]; rfl⟩
          have eh17 := lv_neT qh17 (a := 23) (by decide)
          by_cases qh18 : x0 = 24
          · exact Or.inr ⟨by rw [qh18]; decide, by rw [qh18]; decide, by rw [qh18]; rfl⟩
          have eh18 := lv_neT qh18 (a := 24) (by decide)
          by_cases qh19 : x0 = 27
          · exact Or.inr ⟨by rw [qh19]; decide, by rw [qh19]; decide, by rw [qh19]; rfl⟩
          have eh19 := lv_neT qh19 (a := 27) (by decide)
          by_cases qh20 : x0 = 28
          · exact Or.inr ⟨by rw [qh20]; decide, by rw [qh20]; decide, by rw [qh20]; rfl⟩
          have eh20 := lv_neT qh20 (a := 28) (by decide)
          have e0 := lv_neT s1_0 (a := 0) (by decide)
          have e1 := lv_neT s1_1_0 (a := 4) (by decide)
          have e2 := lv_neT s1_1_1 (a := 5) (by decide)
          have e3 := lv_neT s1_1_2 (a := 25) (by decide)
          have e4 := lv_neT s1_1_3 (a := 26) (by decide)
          have e5 := lv_neT s1_1_4 (a := 29) (by decide)
          have e6 := lv_neT s1_2_0 (a := 18) (by decide)
          have e7 := lv_neT s1_2_1 (a := 19) (by decide)
          have e8 := lv_neT s1_2_2 (a := 20) (by decide)
          exact Or.inl (by omega)
        · refine hj_iconst hC (v := 0) d_Kinds_bytesBehind_142 (by decide) ?_
          exact hj_iret hC d_Kinds_bytesBehind_143 hr
set_option maxHeartbeats 4000000 in
set_option maxRecDepth 100000 in
theorem m_Kinds_leastBehind {l : Launch} {D : va_G} {dA : Nat → ClassId} (x0 : Int32) (h0 : hc_H) (b : Int32) (C0 S0 : Nat) (h2 : hc_H) (hr : p_Kinds_leastBehind x0 h0 = some (b, C0, S0, h2)) : hc_Met l (gg D dA) y_Kinds_leastBehind b_Kinds_leastBehind 1 (some .int) tb 0 0 [vi_ x0] h0 C0 S0 (some (vi_ b)) h2 := by
  refine hc_Met.of (by decide) (Nat.le_of_ble_eq_true rfl) ?_
  intro p e s m args below meth c hC
  unfold p_Kinds_leastBehind at hr
  refine hj_sub (lv' := [(0, vi_ x0)]) [0] rfl ?_
  refine hj_iload_n hC 0 d_Kinds_leastBehind_0 rfl rfl ?_
  refine hj_if_ne hC 9 d_Kinds_leastBehind_1 (by decide) hr (fun q1 hr => ?_) (fun q1 hr => ?_)
  · refine hj_iconst hC (v := 0) d_Kinds_leastBehind_9 (by decide) ?_
    exact hj_iret hC d_Kinds_leastBehind_10 hr
  · refine hj_ldc hC (v := (-2147483648)) wq_128 d_Kinds_leastBehind_4 ?_
    refine hj_goto hC 10 d_Kinds_leastBehind_6 (by decide) ?_
    exact hj_iret hC d_Kinds_leastBehind_10 hr
set_option maxHeartbeats 4000000 in
set_option maxRecDepth 100000 in
theorem m_Kinds_mostBehind {l : Launch} {D : va_G} {dA : Nat → ClassId} (x0 : Int32) (x1 : Option Nat) (x2 : Int32) (h0 : hc_H) (b : Int32) (C0 S0 : Nat) (h2 : hc_H) (hr : p_Kinds_mostBehind x0 x1 x2 h0 = some (b, C0, S0, h2)) : hc_Met l (gg D dA) y_Kinds_mostBehind b_Kinds_mostBehind 3 (some .int) tb 0 0 [vi_ x0, vr_ x1, vi_ x2] h0 C0 S0 (some (vi_ b)) h2 := by
  refine hc_Met.of (by decide) (Nat.le_of_ble_eq_true rfl) ?_
  intro p e s m args below meth c hC
  unfold p_Kinds_mostBehind at hr
  refine hj_sub (lv' := [(0, vi_ x0), (1, vr_ x1), (2, vi_ x2)]) [0, 1, 2] rfl ?_
  refine hj_iload_n hC 0 d_Kinds_mostBehind_0 rfl rfl ?_
  by_cases s1_0 : x0 = 0
  · rw [if_pos s1_0] at hr
    refine hj_tableIn hC 136 d_Kinds_mostBehind_1 (by rw [s1_0]; decide) (by rw [s1_0]; decide) (by rw [s1_0]; rfl) (by decide) ?_
    refine hj_ldc hC (v := 2147483647) wq_129 d_Kinds_mostBehind_136 ?_
    exact hj_iret hC d_Kinds_mostBehind_138 hr
  · rw [if_neg s1_0] at hr
    by_cases s1_1 : x0 = 4 ∨ x0 = 5
    · rw [if_pos s1_1] at hr
      refine hj_tableIn hC (off := 138) 139 d_Kinds_mostBehind_1 (by rcases s1_1 with u | u <;> rw [u] <;> decide) (by rcases s1_1 with u | u <;> rw [u] <;> decide) (by rcases s1_1 with u | u <;> rw [u] <;> rfl) (by decide) ?_
      refine hj_aload_n hC 1 d_Kinds_mostBehind_139 rfl rfl ?_
      refine hj_geti hC cf_Function (k := 1) (by decide) wq_130 rfl d_Kinds_mostBehind_140 hr (fun a1 hr => ?_)
      refine hj_iconst hC (v := 1) d_Kinds_mostBehind_143 (by decide) ?_
      refine hj_isub hC d_Kinds_mostBehind_144 ?_
      exact hj_iret hC d_Kinds_mostBehind_145 hr
    · rw [if_neg s1_1] at hr
      have s1_1_0 : ¬ x0 = 4 := fun u => s1_1 (Or.inl u)
      have s1_1_1 : ¬ x0 = 5 := fun u => s1_1 (Or.inr (u))
      by_cases s1_2 : x0 = 18 ∨ x0 = 19 ∨ x0 = 20
      · rw [if_pos s1_2] at hr
        refine hj_tableIn hC (off := 145) 146 d_Kinds_mostBehind_1 (by rcases s1_2 with u | u | u <;> rw [u] <;> decide) (by rcases s1_2 with u | u | u <;> rw [u] <;> decide) (by rcases s1_2 with u | u | u <;> rw [u] <;> rfl) (by decide) ?_
        refine hj_aload_n hC 1 d_Kinds_mostBehind_146 rfl rfl ?_
        refine hj_geti hC cf_Function (k := 4) (by decide) wq_131 rfl d_Kinds_mostBehind_147 hr (fun a2 hr => ?_)
        refine hj_iconst hC (v := 1) d_Kinds_mostBehind_150 (by decide) ?_
        refine hj_isub hC d_Kinds_mostBehind_151 ?_
        exact hj_iret hC d_Kinds_mostBehind_152 hr
      · rw [if_neg s1_2] at hr
        have s1_2_0 : ¬ x0 = 18 := fun u => s1_2 (Or.inl u)
        have s1_2_1 : ¬ x0 = 19 := fun u => s1_2 (Or.inr (Or.inl u))
        have s1_2_2 : ¬ x0 = 20 := fun u => s1_2 (Or.inr (Or.inr (u)))
        by_cases s1_3 : x0 = 25
        · rw [if_pos s1_3] at hr
          refine hj_tableIn hC 153 d_Kinds_mostBehind_1 (by rw [s1_3]; decide) (by rw [s1_3]; decide) (by rw [s1_3]; rfl) (by decide) ?_
          refine hj_iload_n hC 2 d_Kinds_mostBehind_153 rfl rfl ?_
          refine hj_iconst hC (v := 1) d_Kinds_mostBehind_154 (by decide) ?_
          refine hj_isub hC d_Kinds_mostBehind_155 ?_
          exact hj_iret hC d_Kinds_mostBehind_156 hr
        · rw [if_neg s1_3] at hr
          by_cases s1_4 : x0 = 26 ∨ x0 = 29
          · rw [if_pos s1_4] at hr
            refine hj_tableIn hC (off := 156) 157 d_Kinds_mostBehind_1 (by rcases s1_4 with u | u <;> rw [u] <;> decide) (by rcases s1_4 with u | u <;> rw [u] <;> decide) (by rcases s1_4 with u | u <;> rw [u] <;> rfl) (by decide) ?_
            refine hj_bipush hC (v := 15) d_Kinds_mostBehind_157 (by decide) ?_
            exact hj_iret hC d_Kinds_mostBehind_159 hr
          · rw [if_neg s1_4] at hr
            have s1_4_0 : ¬ x0 = 26 := fun u => s1_4 (Or.inl u)
            have s1_4_1 : ¬ x0 = 29 := fun u => s1_4 (Or.inr (u))
            refine hj_tableDf hC 160 d_Kinds_mostBehind_1 ?_ (by decide) ?_
            · by_cases qh0 : x0 = 1
              · exact Or.inr ⟨by rw [qh0]; decide, by rw [qh0]; decide, by rw [qh0]; rfl⟩
              have eh0 := lv_neT qh0 (a := 1) (by decide)
              by_cases qh1 : x0 = 2
              · exact Or.inr ⟨by rw [qh1]; decide, by rw [qh1]; decide, by rw [qh1]; rfl⟩
              have eh1 := lv_neT qh1 (a := 2) (by decide)
              by_cases qh2 : x0 = 3
              · exact Or.inr ⟨by rw [qh2]; decide, by rw [qh2]; decide, by rw [qh2]; rfl⟩
              have eh2 := lv_neT qh2 (a := 3) (by decide)
              by_cases qh3 : x0 = 6
              · exact Or.inr ⟨by rw [qh3]; decide, by rw [qh3]; decide, by rw [qh3]; rfl⟩
              have eh3 := lv_neT qh3 (a := 6) (by decide)
              by_cases qh4 : x0 = 7
              · exact Or.inr ⟨by rw [qh4]; decide, by rw [qh4]; decide, by rw [qh4]; rfl⟩
              have eh4 := lv_neT qh4 (a := 7) (by decide)
              by_cases qh5 : x0 = 8
              · exact Or.inr ⟨by rw [qh5]; decide, by rw [qh5]; decide, by rw [qh5]; rfl⟩
              have eh5 := lv_neT qh5 (a := 8) (by decide)
              by_cases qh6 : x0 = 9
              · exact Or.inr ⟨by rw [qh6]; decide, by rw [qh6]; decide, by rw [qh6]; rfl⟩
              have eh6 := lv_neT qh6 (a := 9) (by decide)
              by_cases qh7 : x0 = 10
              · exact Or.inr ⟨by rw [qh7]; decide, by rw [qh7]; decide, by rw [qh7]; rfl⟩
              have eh7 := lv_neT qh7 (a := 10) (by decide)
              by_cases qh8 : x0 = 11
              · exact Or.inr ⟨by rw [qh8]; decide, by rw [qh8]; decide, by rw [qh8]; rfl⟩
              have eh8 := lv_neT qh8 (a := 11) (by decide)
              by_cases qh9 : x0 = 12
              · exact Or.inr ⟨by rw [qh9]; decide, by rw [qh9]; decide, by rw [qh9]; rfl⟩
              have eh9 := lv_neT qh9 (a := 12) (by decide)
              by_cases qh10 : x0 = 13
              · exact Or.inr ⟨by rw [qh10]; decide, by rw [qh10]; decide, by rw [qh10]; rfl⟩
              have eh10 := lv_neT qh10 (a := 13) (by decide)
              by_cases qh11 : x0 = 14
              · exact Or.inr ⟨by rw [qh11]; decide, by rw [qh11]; decide, by rw [qh11]; rfl⟩
              have eh11 := lv_neT qh11 (a := 14) (by decide)
              by_cases qh12 : x0 = 15
              · exact Or.inr ⟨by rw [qh12]; decide, by rw [qh12]; decide, by rw [qh12]; rfl⟩
              have eh12 := lv_neT qh12 (a := 15) (by decide)
              by_cases qh13 : x0 = 16
              · exact Or.inr ⟨by rw [qh13]; decide, by rw [qh13]; decide, by rw [qh13]; rfl⟩
              have eh13 := lv_neT qh13 (a := 16) (by decide)
              by_cases qh14 : x0 = 17
              · exact Or.inr ⟨by rw [qh14]; decide, by rw [qh14]; decide, by rw [qh14]; rfl⟩
              have eh14 := lv_neT qh14 (a := 17) (by decide)
              by_cases qh15 : x0 = 21
              · exact Or.inr ⟨by rw [qh15]; decide, by rw [qh15]; decide, by rw [qh15]; rfl⟩
              have eh15 := lv_neT qh15 (a := 21) (by decide)
              by_cases qh16 : x0 = 22
              · exact Or.inr ⟨by rw [qh16]; decide, by rw [qh16]; decide, by rw [qh16]; rfl⟩
              have eh16 := lv_neT qh16 (a := 22) (by decide)
              by_cases qh17 : x0 = 23
              · exact Or.inr ⟨by rw [qh17]; decide, by rw [qh17]; decide, by rw [qh17]; rfl⟩
              have eh17 := lv_neT qh17 (a := 23) (by decide)
              by_cases qh18 : x0 = 24
              · exact Or.inr ⟨by rw [qh18]; decide, by rw [qh18]; decide, by rw [qh18]; rfl⟩
              have eh18 := lv_neT qh18 (a := 24) (by decide)
              by_cases qh19 : x0 = 27
              · exact Or.inr ⟨by rw [qh19]; decide, by rw [qh19]; decide, by rw [qh19]; rfl⟩
              have eh19 := lv_neT qh19 (a := 27) (by decide)
              by_cases qh20 : x0 = 28
              · exact Or.inr ⟨by rw [qh20]; decide, by rw [qh20]; decide, by rw [qh20]; rfl⟩
              have eh20 := lv_neT qh20 (a := 28) (by decide)
              have e0 := lv_neT s1_0 (a := 0) (by decide)
              have e1 := lv_neT s1_1_0 (a := 4) (by decide)
              have e2 := lv_neT s1_1_1 (a := 5) (by decide)
              have e3 := lv_neT s1_2_0 (a := 18) (by decide)
              have e4 := lv_neT s1_2_1 (a := 19) (by decide)
              have e5 := lv_neT s1_2_2 (a := 20) (by decide)
              have e6 := lv_neT s1_3 (a := 25) (by decide)
              have e7 := lv_neT s1_4_0 (a := 26) (by decide)
              have e8 := lv_neT s1_4_1 (a := 29) (by decide)
              exact Or.inl (by omega)
            · refine hj_iconst hC (v := 0) d_Kinds_mostBehind_160 (by decide) ?_
              exact hj_iret hC d_Kinds_mostBehind_161 hr
set_option maxHeartbeats 4000000 in
set_option maxRecDepth 100000 in
theorem ml_Reader_instructions_2 {p : Program} {l : Launch} {e : Env} {s : State} {m : MethodId} {args : Array Value} {below : List Frame} {meth : Method} {c : Code} {D : va_G} {dA : Nat → ClassId} {h0 h2 : hc_H} {C0 S0 : Nat} {b : Unit} (hC : hj_C p s m args meth c (gg D dA) b_Reader_instructions 5 none R_Reader "instructions" tb) (x0 : Option Nat) (x1 : Option Nat) (x2 : Int32) (kx : hM Unit) (hk : ∀  (h : hc_H) (C S : Nat), kx  h = some (b, C, S, h2) → hj_J p l e { frames := 3, cells := C0, slots := S0, locals := 69 } s m args below meth c (gg D dA) h0 5 (hj_Q below args s { frames := 3, cells := C0, slots := S0, locals := 69 } (gg D dA) h0 none h2) C S h 71 [] []) : ∀ (fu : Nat) (v3 : Int32) (h : hc_H) (C S : Nat), p_Reader_instructions_2 x0 x1 x2 kx fu v3 h = some (b, C, S, h2) → hj_J p l e { frames := 3, cells := C0, slots := S0, locals := 69 } s m args below meth c (gg D dA) h0 5 (hj_Q below args s { frames := 3, cells := C0, slots := S0, locals := 69 } (gg D dA) h0 none h2) C S h 2 [(0, vr_ x0), (1, vr_ x1), (2, vi_ x2), (3, vi_ v3)] [] := by
  intro fu
  induction fu with
  | zero =>
    intro v3 h C S hr
    cases hr
  | succ fu ih =>
    intro v3 h C S hr
    rw [p_Reader_instructions_2] at hr
    refine hj_iload_n hC 3 d_Reader_instructions_2 rfl rfl ?_
    refine hj_aload_n hC 1 d_Reader_instructions_3 rfl rfl ?_
    refine hj_geti hC cf_Function (k := 4) (by decide) wq_124 rfl d_Reader_instructions_4 hr (fun a1 hr => ?_)
    refine hj_icmp_ge hC 71 d_Reader_instructions_7 (by decide) hr (fun q7 hr => ?_) (fun q7 hr => ?_)
    · refine hj_sub (lv' := []) [] rfl ?_
      exact hk _ _ _ hr
    · refine hj_aload_n hC 0 d_Reader_instructions_10 rfl rfl ?_
      refine hj_getr hC cf_Reader (k := 1) (by decide) wq_102 rfl d_Reader_instructions_11 hr (fun a2 hr => ?_)
      refine hj_geti hC cf_Fault (k := 0) (by decide) wq_118 rfl d_Reader_instructions_14 hr (fun a3 hr => ?_)
      refine hj_if_ne hC 71 d_Reader_instructions_17 (by decide) hr (fun q17 hr => ?_) (fun q17 hr => ?_)
      · refine hj_sub (lv' := []) [] rfl ?_
        exact hk _ _ _ hr
      · refine hj_aload_n hC 0 d_Reader_instructions_20 rfl rfl ?_
        refine hj_iconst hC (v := 1) d_Reader_instructions_21 (by decide) ?_
        refine hj_iconst hC (v := 0) d_Reader_instructions_22 (by decide) ?_
        refine hj_bipush hC (v := 29) d_Reader_instructions_23 (by decide) ?_
        refine hj_callV hC hG (enc := (fun a : Int32 => some (vi_ a))) (As := [vi_ 1, vi_ 0, vi_ 29]) (st := []) (fun h a C S h1 hr => m_Reader_number _ _ _ _ h a C S h1 hr) cf_Reader wq_125 wq_126 wq_127 wq_117 wq_119 yk_Reader_number rfl ⟨Nat.le_of_ble_eq_true rfl, Nat.le_of_ble_eq_true rfl⟩ rfl (Nat.le_of_ble_eq_true rfl) d_Reader_instructions_25 hr (fun a4 h C S hr => ?_)
        refine hj_istore hC (lv' := [(4, vi_ a4), (0, vr_ x0), (1, vr_ x1), (2, vi_ x2), (3, vi_ v3)]) d_Reader_instructions_28 (by decide) rfl ?_
        refine hj_aload_n hC 2 d_Reader_instructions_30 rfl rfl ?_
        refine hj_getr hC cf_Function (k := 6) (by decide) wq_132 rfl d_Reader_instructions_31 hr (fun a5 hr => ?_)
        refine hj_iload_n hC 4 d_Reader_instructions_34 rfl rfl ?_
        refine hj_iload hC 0 d_Reader_instructions_35 rfl ?_
        refine hj_iast hC (kd := 0) rfl d_Reader_instructions_37 hr (fun h hr => ?_)
        refine hj_aload_n hC 2 d_Reader_instructions_38 rfl rfl ?_
        refine hj_getr hC cf_Function (k := 7) (by decide) wq_133 rfl d_Reader_instructions_39 hr (fun a6 hr => ?_)
        refine hj_iload_n hC 4 d_Reader_instructions_42 rfl rfl ?_
        refine hj_aload_n hC 1 d_Reader_instructions_43 rfl rfl ?_
        refine hj_iload hC 0 d_Reader_instructions_44 rfl ?_
        refine hj_callS hC hG (enc := (fun a : Int32 => some (vi_ a))) (As := [vi_ a4]) (st := [vr_ x0, vi_ v3, vr_ a6]) (fun h a C S h1 hr => m_Kinds_bytesBehind _ h a C S h1 hr) wq_142 wq_143 wq_139 wq_134 yk_Kinds_bytesBehind rfl ⟨Nat.le_of_ble_eq_true rfl, Nat.le_of_ble_eq_true rfl⟩ rfl (Nat.le_of_ble_eq_true rfl) d_Reader_instructions_46 hr (fun a7 h C S hr => ?_)
        refine hj_iload hC 0 d_Reader_instructions_49 rfl ?_
        refine hj_callS hC hG (enc := (fun a : Int32 => some (vi_ a))) (As := [vi_ a4]) (st := [vi_ a7, vr_ x0, vi_ v3, vr_ a6]) (fun h a C S h1 hr => m_Kinds_leastBehind _ h a C S h1 hr) wq_140 wq_141 wq_139 wq_135 yk_Kinds_leastBehind rfl ⟨Nat.le_of_ble_eq_true rfl, Nat.le_of_ble_eq_true rfl⟩ rfl (Nat.le_of_ble_eq_true rfl) d_Reader_instructions_51 hr (fun a8 h C S hr => ?_)
        refine hj_iload hC 0 d_Reader_instructions_54 rfl ?_
        refine hj_aload_n hC 2 d_Reader_instructions_56 rfl rfl ?_
        refine hj_iload_n hC 3 d_Reader_instructions_57 rfl rfl ?_
        refine hj_callS hC hG (enc := (fun a : Int32 => some (vi_ a))) (As := [vi_ a4, vr_ x1, vi_ x2]) (st := [vi_ a8, vi_ a7, vr_ x0, vi_ v3, vr_ a6]) (fun h a C S h1 hr => m_Kinds_mostBehind _ _ _ h a C S h1 hr) wq_137 wq_138 wq_139 wq_136 yk_Kinds_mostBehind rfl ⟨Nat.le_of_ble_eq_true rfl, Nat.le_of_ble_eq_true rfl⟩ rfl (Nat.le_of_ble_eq_true rfl) d_Reader_instructions_58 hr (fun a9 h C S hr => ?_)
        refine hj_callV hC hG (enc := (fun a : Int32 => some (vi_ a))) (As := [vi_ a7, vi_ a8, vi_ a9]) (st := [vi_ v3, vr_ a6]) (fun h a C S h1 hr => m_Reader_number _ _ _ _ h a C S h1 hr) cf_Reader wq_125 wq_126 wq_127 wq_117 wq_119 yk_Reader_number rfl ⟨Nat.le_of_ble_eq_true rfl, Nat.le_of_ble_eq_true rfl⟩ rfl (Nat.le_of_ble_eq_true rfl) d_Reader_instructions_61 hr (fun a10 h C S hr => ?_)
        refine hj_iast hC (kd := 1) rfl d_Reader_instructions_64 hr (fun h hr => ?_)
        refine hj_iinc hC (lv' := [(3, vi_ (v3 + 1)), (4, vi_ a4), (0, vr_ x0), (1, vr_ x1), (2, vi_ x2)]) 4 d_Reader_instructions_65 rfl rfl (by decide) rfl ?_
        refine hj_goto hC 2 d_Reader_instructions_68 (by decide) ?_
        refine hj_sub (lv' := [(0, vr_ x0), (1, vr_ x1), (2, vi_ x2), (3, vi_ (v3 + 1))]) [2, 3, 4, 0] rfl ?_
        exact ih _ _ _ _ hr
set_option maxHeartbeats 4000000 in
set_option maxRecDepth 100000 in
theorem m_Reader_instructions {l : Launch} {D : va_G} {dA : Nat → ClassId} (o : Option Nat) (x1 : Option Nat) (x2 : Int32) (h0 : hc_H) (b : Unit) (C0 S0 : Nat) (h2 : hc_H) (hr : p_Reader_instructions o x1 x2 h0 = some (b, C0, S0, h2)) : hc_Met l (gg D dA) y_Reader_instructions b_Reader_instructions 5 none tb 3 69 [vr_ o, vr_ x1, vi_ x2] h0 C0 S0 none h2 := by
  refine hc_Met.of (by decide) (Nat.le_of_ble_eq_true rfl) ?_
  intro p e s m args below meth c hC
  unfold p_Reader_instructions at hr
  refine hj_sub (lv' := [(0, vr_ o), (1, vr_ x1), (2, vi_ x2)]) [0, 1, 2] rfl ?_
  refine hj_iconst hC (v := 0) d_Reader_instructions_0 (by decide) ?_
  refine hj_istore_n hC (lv' := [(3, vi_ 0), (0, vr_ o), (1, vr_ x1), (2, vi_ x2)]) d_Reader_instructions_1 rfl (by decide) rfl ?_
  refine hj_sub (lv' := [(0, vr_ o), (1, vr_ x1), (2, vi_ x2), (3, vi_ 0)]) [1, 2, 3, 0] rfl ?_
  refine ml_Reader_instructions_2 hC _ _ _ _ (fun  h C S hr => ?_) _ _ _ _ _ hr
  exact hj_vret hC d_Reader_instructions_71 hr
set_option maxHeartbeats 4000000 in
set_option maxRecDepth 100000 in
theorem ml_Reader_handlers_14 {p : Program} {l : Launch} {e : Env} {s : State} {m : MethodId} {args : Array Value} {below : List Frame} {meth : Method} {c : Code} {D : va_G} {dA : Nat → ClassId} {h0 h2 : hc_H} {C0 S0 : Nat} {b : Unit} (hC : hj_C p s m args meth c (gg D dA) b_Reader_handlers 4 none R_Reader "handlers" tb) (x0 : Option Nat) (x1 : Option Nat) (kx : hM Unit) (hk : ∀  (h : hc_H) (C S : Nat), kx  h = some (b, C, S, h2) → hj_J p l e { frames := 3, cells := C0, slots := S0, locals := 69 } s m args below meth c (gg D dA) h0 4 (hj_Q below args s { frames := 3, cells := C0, slots := S0, locals := 69 } (gg D dA) h0 none h2) C S h 139 [] []) : ∀ (fu : Nat) (v2 : Int32) (h : hc_H) (C S : Nat), p_Reader_handlers_14 x0 x1 kx fu v2 h = some (b, C, S, h2) → hj_J p l e { frames := 3, cells := C0, slots := S0, locals := 69 } s m args below meth c (gg D dA) h0 4 (hj_Q below args s { frames := 3, cells := C0, slots := S0, locals := 69 } (gg D dA) h0 none h2) C S h 14 [(0, vr_ x0), (1, vr_ x1), (2, vi_ v2)] [] := by
  intro fu
  induction fu with
  | zero =>
    intro v2 h C S hr
    cases hr
  | succ fu ih =>
    intro v2 h C S hr
    rw [p_Reader_handlers_14] at hr
    refine hj_iload_n hC 2 d_Reader_handlers_14 rfl rfl ?_
    refine hj_aload_n hC 1 d_Reader_handlers_15 rfl rfl ?_
    refine hj_geti hC cf_Function (k := 5) (by decide) wq_144 rfl d_Reader_handlers_16 hr (fun a2 hr => ?_)
    refine hj_icmp_ge hC 139 d_Reader_handlers_19 (by decide) hr (fun q19 hr => ?_) (fun q19 hr => ?_)
    · refine hj_sub (lv' := []) [] rfl ?_
      exact hk _ _ _ hr
    · refine hj_aload_n hC 0 d_Reader_handlers_22 rfl rfl ?_
      refine hj_getr hC cf_Reader (k := 1) (by decide) wq_102 rfl d_Reader_handlers_23 hr (fun a3 hr => ?_)
      refine hj_geti hC cf_Fault (k := 0) (by decide) wq_118 rfl d_Reader_handlers_26 hr (fun a4 hr => ?_)
      refine hj_if_ne hC 139 d_Reader_handlers_29 (by decide) hr (fun q29 hr => ?_) (fun q29 hr => ?_)
      · refine hj_sub (lv' := []) [] rfl ?_
        exact hk _ _ _ hr
      · refine hj_aload_n hC 1 d_Reader_handlers_32 rfl rfl ?_
        refine hj_getr hC cf_Function (k := 10) (by decide) wq_145 rfl d_Reader_handlers_33 hr (fun a5 hr => ?_)
        refine hj_iload_n hC 2 d_Reader_handlers_36 rfl rfl ?_
        refine hj_aald hC (kd := 9) rfl d_Reader_handlers_37 hr (fun a6 hr => ?_)
        refine hj_astore_n hC (lv' := [(3, vr_ a6), (0, vr_ x0), (1, vr_ x1), (2, vi_ v2)]) d_Reader_handlers_38 rfl (by decide) rfl ?_
        refine hj_aload_n hC 0 d_Reader_handlers_39 rfl rfl ?_
        refine hj_aload_n hC 1 d_Reader_handlers_40 rfl rfl ?_
        refine hj_iconst hC (v := 2) d_Reader_handlers_41 (by decide) ?_
        refine hj_iconst hC (v := 0) d_Reader_handlers_42 (by decide) ?_
        refine hj_aload_n hC 2 d_Reader_handlers_43 rfl rfl ?_
        refine hj_geti hC cf_Function (k := 4) (by decide) wq_124 rfl d_Reader_handlers_44 hr (fun a7 hr => ?_)
        refine hj_iconst hC (v := 1) d_Reader_handlers_47 (by decide) ?_
        refine hj_isub hC d_Reader_handlers_48 ?_
        refine hj_callV hC hG (enc := (fun a : Int32 => some (vi_ a))) (As := [vi_ 2, vi_ 0, vi_ (a7 - 1)]) (st := [vr_ a6]) (fun h a C S h1 hr => m_Reader_number _ _ _ _ h a C S h1 hr) cf_Reader wq_125 wq_126 wq_127 wq_117 wq_119 yk_Reader_number rfl ⟨Nat.le_of_ble_eq_true rfl, Nat.le_of_ble_eq_true rfl⟩ rfl (Nat.le_of_ble_eq_true rfl) d_Reader_handlers_49 hr (fun a8 h C S hr => ?_)
        refine hj_puti hC cf_Handler (k := 0) (by decide) wq_146 rfl (Or.inl rfl) rfl d_Reader_handlers_52 hr (fun h hr => ?_)
        refine hj_aload_n hC 0 d_Reader_handlers_55 rfl rfl ?_
        refine hj_aload_n hC 1 d_Reader_handlers_56 rfl rfl ?_
        refine hj_iconst hC (v := 2) d_Reader_handlers_57 (by decide) ?_
        refine hj_aload_n hC 0 d_Reader_handlers_58 rfl rfl ?_
        refine hj_geti hC cf_Handler (k := 0) (by decide) wq_146 rfl d_Reader_handlers_59 hr (fun a9 hr => ?_)
        refine hj_iconst hC (v := 1) d_Reader_handlers_62 (by decide) ?_
        refine hj_iadd hC d_Reader_handlers_63 ?_
        refine hj_aload_n hC 2 d_Reader_handlers_64 rfl rfl ?_
        refine hj_geti hC cf_Function (k := 4) (by decide) wq_124 rfl d_Reader_handlers_65 hr (fun a10 hr => ?_)
        refine hj_callV hC hG (enc := (fun a : Int32 => some (vi_ a))) (As := [vi_ 2, vi_ (a9 + 1), vi_ a10]) (st := [vr_ a6]) (fun h a C S h1 hr => m_Reader_number _ _ _ _ h a C S h1 hr) cf_Reader wq_125 wq_126 wq_127 wq_117 wq_119 yk_Reader_number rfl ⟨Nat.le_of_ble_eq_true rfl, Nat.le_of_ble_eq_true rfl⟩ rfl (Nat.le_of_ble_eq_true rfl) d_Reader_handlers_68 hr (fun a11 h C S hr => ?_)
        refine hj_puti hC cf_Handler (k := 1) (by decide) wq_147 rfl (Or.inl rfl) rfl d_Reader_handlers_71 hr (fun h hr => ?_)
        refine hj_aload_n hC 0 d_Reader_handlers_74 rfl rfl ?_
        refine hj_aload_n hC 1 d_Reader_handlers_75 rfl rfl ?_
        refine hj_iconst hC (v := 2) d_Reader_handlers_76 (by decide) ?_
        refine hj_iconst hC (v := 0) d_Reader_handlers_77 (by decide) ?_
        refine hj_aload_n hC 2 d_Reader_handlers_78 rfl rfl ?_
        refine hj_geti hC cf_Function (k := 4) (by decide) wq_124 rfl d_Reader_handlers_79 hr (fun a12 hr => ?_)
        refine hj_iconst hC (v := 1) d_Reader_handlers_82 (by decide) ?_
        refine hj_isub hC d_Reader_handlers_83 ?_
        refine hj_callV hC hG (enc := (fun a : Int32 => some (vi_ a))) (As := [vi_ 2, vi_ 0, vi_ (a12 - 1)]) (st := [vr_ a6]) (fun h a C S h1 hr => m_Reader_number _ _ _ _ h a C S h1 hr) cf_Reader wq_125 wq_126 wq_127 wq_117 wq_119 yk_Reader_number rfl ⟨Nat.le_of_ble_eq_true rfl, Nat.le_of_ble_eq_true rfl⟩ rfl (Nat.le_of_ble_eq_true rfl) d_Reader_handlers_84 hr (fun a13 h C S hr => ?_)
        refine hj_puti hC cf_Handler (k := 2) (by decide) wq_148 rfl (Or.inl rfl) rfl d_Reader_handlers_87 hr (fun h hr => ?_)
        refine hj_aload_n hC 0 d_Reader_handlers_90 rfl rfl ?_
        refine hj_aload_n hC 1 d_Reader_handlers_91 rfl rfl ?_
        refine hj_iconst hC (v := 1) d_Reader_handlers_92 (by decide) ?_
        refine hj_iconst hC (v := 0) d_Reader_handlers_93 (by decide) ?_
        refine hj_iconst hC (v := 1) d_Reader_handlers_94 (by decide) ?_
        refine hj_callV hC hG (enc := (fun a : Int32 => some (vi_ a))) (As := [vi_ 1, vi_ 0, vi_ 1]) (st := [vr_ a6]) (fun h a C S h1 hr => m_Reader_number _ _ _ _ h a C S h1 hr) cf_Reader wq_125 wq_126 wq_127 wq_117 wq_119 yk_Reader_number rfl ⟨Nat.le_of_ble_eq_true rfl, Nat.le_of_ble_eq_true rfl⟩ rfl (Nat.le_of_ble_eq_true rfl) d_Reader_handlers_95 hr (fun a14 h C S hr => ?_)
        refine hj_jn hC (K := Int32 → hM Unit) (fun k => ∀ (z15 : Int32) (h : hc_H) (C S : Nat), k z15 h = some (b, C, S, h2) → hj_J p l e { frames := 3, cells := C0, slots := S0, locals := 69 } s m args below meth c (gg D dA) h0 4 (hj_Q below args s { frames := 3, cells := C0, slots := S0, locals := 69 } (gg D dA) h0 none h2) C S h 106 [(0, vr_ x0), (1, vr_ x1), (2, vi_ v2), (3, vr_ a6)] [vi_ z15, vr_ a6]) hr (fun z15 h C S hr => ?_) (fun k106 hk106 hr => ?_)
        · refine hj_putz hC cf_Handler (k := 3) (by decide) wq_149 rfl (Or.inl rfl) rfl d_Reader_handlers_106 hr (fun h hr => ?_)
          refine hj_aload_n hC 3 d_Reader_handlers_109 rfl rfl ?_
          refine hj_aload_n hC 0 d_Reader_handlers_110 rfl rfl ?_
          refine hj_aload_n hC 3 d_Reader_handlers_111 rfl rfl ?_
          refine hj_geti hC cf_Handler (k := 3) (by decide) wq_149 rfl d_Reader_handlers_112 hr (fun a16 hr => ?_)
          refine hj_jn hC (K := Int32 → hM Unit) (fun k => ∀ (z17 : Int32) (h : hc_H) (C S : Nat), k z17 h = some (b, C, S, h2) → hj_J p l e { frames := 3, cells := C0, slots := S0, locals := 69 } s m args below meth c (gg D dA) h0 4 (hj_Q below args s { frames := 3, cells := C0, slots := S0, locals := 69 } (gg D dA) h0 none h2) C S h 123 [(0, vr_ x0), (1, vr_ x1), (2, vi_ v2)] [vi_ z17, vr_ x0, vr_ a6]) hr (fun z17 h C S hr => ?_) (fun k123 hk123 hr => ?_)
          · refine hj_ldc hC (v := (-2147483648)) wq_150 d_Reader_handlers_123 ?_
            refine hj_ldc hC (v := 2147483647) wq_151 d_Reader_handlers_125 ?_
            refine hj_callV hC hG (enc := (fun a : Int32 => some (vi_ a))) (As := [vi_ z17, vi_ (-2147483648), vi_ 2147483647]) (st := [vr_ a6]) (fun h a C S h1 hr => m_Reader_number _ _ _ _ h a C S h1 hr) cf_Reader wq_125 wq_126 wq_127 wq_117 wq_119 yk_Reader_number rfl ⟨Nat.le_of_ble_eq_true rfl, Nat.le_of_ble_eq_true rfl⟩ rfl (Nat.le_of_ble_eq_true rfl) d_Reader_handlers_127 hr (fun a18 h C S hr => ?_)
            refine hj_puti hC cf_Handler (k := 4) (by decide) wq_152 rfl (Or.inl rfl) rfl d_Reader_handlers_130 hr (fun h hr => ?_)
            refine hj_iinc hC (lv' := [(2, vi_ (v2 + 1)), (0, vr_ x0), (1, vr_ x1)]) 2 d_Reader_handlers_133 rfl rfl (by decide) rfl ?_
            refine hj_goto hC 14 d_Reader_handlers_136 (by decide) ?_
            refine hj_sub (lv' := [(0, vr_ x0), (1, vr_ x1), (2, vi_ (v2 + 1))]) [1, 2, 0] rfl ?_
            exact ih _ _ _ _ hr
          · refine hj_if_eq hC 122 d_Reader_handlers_115 (by decide) hr (fun q115 hr => ?_) (fun q115 hr => ?_)
            · refine hj_iconst hC (v := 4) d_Reader_handlers_122 (by decide) ?_
              refine hj_sub (lv' := [(0, vr_ x0), (1, vr_ x1), (2, vi_ v2)]) [0, 1, 2] rfl ?_
              exact hk123 _ _ _ _ hr
            · refine hj_iconst hC (v := 0) d_Reader_handlers_118 (by decide) ?_
              refine hj_goto hC 123 d_Reader_handlers_119 (by decide) ?_
              refine hj_sub (lv' := [(0, vr_ x0), (1, vr_ x1), (2, vi_ v2)]) [0, 1, 2] rfl ?_
              exact hk123 _ _ _ _ hr
        · refine hj_if_ne hC 105 d_Reader_handlers_98 (by decide) hr (fun q98 hr => ?_) (fun q98 hr => ?_)
          · refine hj_iconst hC (v := 0) d_Reader_handlers_105 (by decide) ?_
            refine hj_sub (lv' := [(0, vr_ x0), (1, vr_ x1), (2, vi_ v2), (3, vr_ a6)]) [1, 2, 3, 0] rfl ?_
            exact hk106 _ _ _ _ hr
          · refine hj_iconst hC (v := 1) d_Reader_handlers_101 (by decide) ?_
            refine hj_goto hC 106 d_Reader_handlers_102 (by decide) ?_
            refine hj_sub (lv' := [(0, vr_ x0), (1, vr_ x1), (2, vi_ v2), (3, vr_ a6)]) [1, 2, 3, 0] rfl ?_
            exact hk106 _ _ _ _ hr
set_option maxHeartbeats 4000000 in
set_option maxRecDepth 100000 in
theorem m_Reader_handlers {l : Launch} {D : va_G} {dA : Nat → ClassId} (o : Option Nat) (x1 : Option Nat) (h0 : hc_H) (b : Unit) (C0 S0 : Nat) (h2 : hc_H) (hr : p_Reader_handlers o x1 h0 = some (b, C0, S0, h2)) : hc_Met l (gg D dA) y_Reader_handlers b_Reader_handlers 4 none tb 3 69 [vr_ o, vr_ x1] h0 C0 S0 none h2 := by
  refine hc_Met.of (by decide) (Nat.le_of_ble_eq_true rfl) ?_
  intro p e s m args below meth c hC
  unfold p_Reader_handlers at hr
  refine hj_sub (lv' := [(0, vr_ o), (1, vr_ x1)]) [0, 1] rfl ?_
  refine hj_aload_n hC 1 d_Reader_handlers_0 rfl rfl ?_
  refine hj_aload_n hC 0 d_Reader_handlers_1 rfl rfl ?_
  refine hj_iconst hC (v := 1) d_Reader_handlers_2 (by decide) ?_
  refine hj_iconst hC (v := 0) d_Reader_handlers_3 (by decide) ?_
  refine hj_bipush hC (v := 6) d_Reader_handlers_4 (by decide) ?_
  refine hj_callV hC hG (enc := (fun a : Int32 => some (vi_ a))) (As := [vi_ 1, vi_ 0, vi_ 6]) (st := [vr_ x1]) (fun h a C S h1 hr => m_Reader_number _ _ _ _ h a C S h1 hr) cf_Reader wq_125 wq_126 wq_127 wq_117 wq_119 yk_Reader_number rfl ⟨Nat.le_of_ble_eq_true rfl, Nat.le_of_ble_eq_true rfl⟩ rfl (Nat.le_of_ble_eq_true rfl) d_Reader_handlers_6 hr (fun a1 h C S hr => ?_)
  refine hj_puti hC cf_Function (k := 5) (by decide) wq_144 rfl (Or.inl rfl) rfl d_Reader_handlers_9 hr (fun h hr => ?_)
  refine hj_iconst hC (v := 0) d_Reader_handlers_12 (by decide) ?_
  refine hj_istore_n hC (lv' := [(2, vi_ 0), (0, vr_ o), (1, vr_ x1)]) d_Reader_handlers_13 rfl (by decide) rfl ?_
  refine hj_sub (lv' := [(0, vr_ o), (1, vr_ x1), (2, vi_ 0)]) [1, 2, 0] rfl ?_
  refine ml_Reader_handlers_14 hC _ _ _ (fun  h C S hr => ?_) _ _ _ _ _ hr
  exact hj_vret hC d_Reader_handlers_139 hr
