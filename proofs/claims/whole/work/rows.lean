section
-- ===== PART A: goes FIRST, ahead of the names: the tables' words, and 'selects' of the private methods out of them =====
/-- a private method of a class that the tables say can be made, by its rows of tables_1 -/
def lw_okq (q : MethodName × Nat) : Prop := (q.1.cls ≠ "java/lang/invoke/MethodHandle" ∧ q.1.cls ≠ "java/lang/invoke/VarHandle") ∧ Cond.instantiable q.1.cls q.2 ∈ tables_1 ∧ Cond.privateMethod q.1 ∈ tables_1 ∧ Cond.instanceMethod q.1 ∈ tables_1
theorem lw_p0 : lw_okq (⟨"StackBytes$ByteRow", "makeRoom", "(I)V"⟩, 3) := ⟨⟨by decide +kernel, by decide +kernel⟩, List.mem_of_getElem? (i := 23) (by decide +kernel), List.mem_of_getElem? (i := 271) (by decide +kernel), List.mem_of_getElem? (i := 272) (by decide +kernel)⟩
theorem lw_p1 : lw_okq (⟨"StackBytes$Reader", "start", "(I)V"⟩, 3) := ⟨⟨by decide +kernel, by decide +kernel⟩, List.mem_of_getElem? (i := 59) (by decide +kernel), List.mem_of_getElem? (i := 323) (by decide +kernel), List.mem_of_getElem? (i := 324) (by decide +kernel)⟩
theorem lw_p2 : lw_okq (⟨"StackBytes$Reader", "nextByte", "()I"⟩, 3) := ⟨⟨by decide +kernel, by decide +kernel⟩, List.mem_of_getElem? (i := 59) (by decide +kernel), List.mem_of_getElem? (i := 327) (by decide +kernel), List.mem_of_getElem? (i := 328) (by decide +kernel)⟩
theorem lw_p3 : lw_okq (⟨"StackBytes$Reader", "number", "(III)I"⟩, 3) := ⟨⟨by decide +kernel, by decide +kernel⟩, List.mem_of_getElem? (i := 59) (by decide +kernel), List.mem_of_getElem? (i := 339) (by decide +kernel), List.mem_of_getElem? (i := 340) (by decide +kernel)⟩
theorem lw_p4 : lw_okq (⟨"StackBytes$Reader", "head", "(LStackBytes$Function;Z)V"⟩, 3) := ⟨⟨by decide +kernel, by decide +kernel⟩, List.mem_of_getElem? (i := 59) (by decide +kernel), List.mem_of_getElem? (i := 347) (by decide +kernel), List.mem_of_getElem? (i := 348) (by decide +kernel)⟩
theorem lw_p5 : lw_okq (⟨"StackBytes$Reader", "instructions", "(LStackBytes$Function;I)V"⟩, 3) := ⟨⟨by decide +kernel, by decide +kernel⟩, List.mem_of_getElem? (i := 59) (by decide +kernel), List.mem_of_getElem? (i := 351) (by decide +kernel), List.mem_of_getElem? (i := 352) (by decide +kernel)⟩
theorem lw_p6 : lw_okq (⟨"StackBytes$Reader", "handlers", "(LStackBytes$Function;)V"⟩, 3) := ⟨⟨by decide +kernel, by decide +kernel⟩, List.mem_of_getElem? (i := 59) (by decide +kernel), List.mem_of_getElem? (i := 366) (by decide +kernel), List.mem_of_getElem? (i := 367) (by decide +kernel)⟩
theorem lw_p7 : lw_okq (⟨"StackBytes$Verifier", "lookAtAll", "()V"⟩, 11) := ⟨⟨by decide +kernel, by decide +kernel⟩, List.mem_of_getElem? (i := 75) (by decide +kernel), List.mem_of_getElem? (i := 380) (by decide +kernel), List.mem_of_getElem? (i := 381) (by decide +kernel)⟩
theorem lw_p8 : lw_okq (⟨"StackBytes$Verifier", "comeTo", "(III)V"⟩, 11) := ⟨⟨by decide +kernel, by decide +kernel⟩, List.mem_of_getElem? (i := 75) (by decide +kernel), List.mem_of_getElem? (i := 384) (by decide +kernel), List.mem_of_getElem? (i := 385) (by decide +kernel)⟩
theorem lw_p9 : lw_okq (⟨"StackBytes$Verifier", "findLeastWaiting", "()V"⟩, 11) := ⟨⟨by decide +kernel, by decide +kernel⟩, List.mem_of_getElem? (i := 75) (by decide +kernel), List.mem_of_getElem? (i := 394) (by decide +kernel), List.mem_of_getElem? (i := 395) (by decide +kernel)⟩
theorem lw_p10 : lw_okq (⟨"StackBytes$Verifier", "lookAt", "(I)V"⟩, 11) := ⟨⟨by decide +kernel, by decide +kernel⟩, List.mem_of_getElem? (i := 75) (by decide +kernel), List.mem_of_getElem? (i := 398) (by decide +kernel), List.mem_of_getElem? (i := 399) (by decide +kernel)⟩
theorem lw_p11 : lw_okq (⟨"StackBytes$Verifier", "takeAndPut", "(II)V"⟩, 11) := ⟨⟨by decide +kernel, by decide +kernel⟩, List.mem_of_getElem? (i := 75) (by decide +kernel), List.mem_of_getElem? (i := 402) (by decide +kernel), List.mem_of_getElem? (i := 403) (by decide +kernel)⟩
theorem lw_p12 : lw_okq (⟨"StackBytes$Verifier", "put", "(I)V"⟩, 11) := ⟨⟨by decide +kernel, by decide +kernel⟩, List.mem_of_getElem? (i := 75) (by decide +kernel), List.mem_of_getElem? (i := 406) (by decide +kernel), List.mem_of_getElem? (i := 407) (by decide +kernel)⟩
theorem lw_p13 : lw_okq (⟨"StackBytes$Verifier", "take", "(I)I"⟩, 11) := ⟨⟨by decide +kernel, by decide +kernel⟩, List.mem_of_getElem? (i := 75) (by decide +kernel), List.mem_of_getElem? (i := 410) (by decide +kernel), List.mem_of_getElem? (i := 411) (by decide +kernel)⟩
theorem lw_p14 : lw_okq (⟨"StackBytes$Verifier", "repeatTop", "()V"⟩, 11) := ⟨⟨by decide +kernel, by decide +kernel⟩, List.mem_of_getElem? (i := 75) (by decide +kernel), List.mem_of_getElem? (i := 414) (by decide +kernel), List.mem_of_getElem? (i := 415) (by decide +kernel)⟩
theorem lw_p15 : lw_okq (⟨"StackBytes$Verifier", "swapUpperTwo", "()V"⟩, 11) := ⟨⟨by decide +kernel, by decide +kernel⟩, List.mem_of_getElem? (i := 75) (by decide +kernel), List.mem_of_getElem? (i := 418) (by decide +kernel), List.mem_of_getElem? (i := 419) (by decide +kernel)⟩
def lw_privs_1 : List (MethodName × Nat) := [(⟨"StackBytes$ByteRow", "makeRoom", "(I)V"⟩, 3), (⟨"StackBytes$Reader", "start", "(I)V"⟩, 3), (⟨"StackBytes$Reader", "nextByte", "()I"⟩, 3), (⟨"StackBytes$Reader", "number", "(III)I"⟩, 3), (⟨"StackBytes$Reader", "head", "(LStackBytes$Function;Z)V"⟩, 3), (⟨"StackBytes$Reader", "instructions", "(LStackBytes$Function;I)V"⟩, 3), (⟨"StackBytes$Reader", "handlers", "(LStackBytes$Function;)V"⟩, 3), (⟨"StackBytes$Verifier", "lookAtAll", "()V"⟩, 11), (⟨"StackBytes$Verifier", "comeTo", "(III)V"⟩, 11), (⟨"StackBytes$Verifier", "findLeastWaiting", "()V"⟩, 11), (⟨"StackBytes$Verifier", "lookAt", "(I)V"⟩, 11), (⟨"StackBytes$Verifier", "takeAndPut", "(II)V"⟩, 11), (⟨"StackBytes$Verifier", "put", "(I)V"⟩, 11), (⟨"StackBytes$Verifier", "take", "(I)I"⟩, 11), (⟨"StackBytes$Verifier", "repeatTop", "()V"⟩, 11), (⟨"StackBytes$Verifier", "swapUpperTwo", "()V"⟩, 11)]
theorem lw_r1 : ∀ q ∈ lw_privs_1, lw_okq q := List.forall_mem_cons.mpr ⟨lw_p0, List.forall_mem_cons.mpr ⟨lw_p1, List.forall_mem_cons.mpr ⟨lw_p2, List.forall_mem_cons.mpr ⟨lw_p3, List.forall_mem_cons.mpr ⟨lw_p4, List.forall_mem_cons.mpr ⟨lw_p5, List.forall_mem_cons.mpr ⟨lw_p6, List.forall_mem_cons.mpr ⟨lw_p7, List.forall_mem_cons.mpr ⟨lw_p8, List.forall_mem_cons.mpr ⟨lw_p9, List.forall_mem_cons.mpr ⟨lw_p10, List.forall_mem_cons.mpr ⟨lw_p11, List.forall_mem_cons.mpr ⟨lw_p12, List.forall_mem_cons.mpr ⟨lw_p13, List.forall_mem_cons.mpr ⟨lw_p14, List.forall_mem_cons.mpr ⟨lw_p15, fun _ h => absurd h List.not_mem_nil⟩⟩⟩⟩⟩⟩⟩⟩⟩⟩⟩⟩⟩⟩⟩⟩
theorem lw_p16 : lw_okq (⟨"StackBytes$Verifier", "useRow", "(I)V"⟩, 11) := ⟨⟨by decide +kernel, by decide +kernel⟩, List.mem_of_getElem? (i := 75) (by decide +kernel), List.mem_of_getElem? (i := 426) (by decide +kernel), List.mem_of_getElem? (i := 427) (by decide +kernel)⟩
theorem lw_p17 : lw_okq (⟨"StackBytes$Verifier", "takeInts", "(I)V"⟩, 11) := ⟨⟨by decide +kernel, by decide +kernel⟩, List.mem_of_getElem? (i := 75) (by decide +kernel), List.mem_of_getElem? (i := 430) (by decide +kernel), List.mem_of_getElem? (i := 431) (by decide +kernel)⟩
theorem lw_p18 : lw_okq (⟨"StackBytes$Verifier", "callFunction", "(LStackBytes$Function;)V"⟩, 11) := ⟨⟨by decide +kernel, by decide +kernel⟩, List.mem_of_getElem? (i := 75) (by decide +kernel), List.mem_of_getElem? (i := 434) (by decide +kernel), List.mem_of_getElem? (i := 435) (by decide +kernel)⟩
theorem lw_p19 : lw_okq (⟨"StackBytes$Verifier", "takeResult", "()V"⟩, 11) := ⟨⟨by decide +kernel, by decide +kernel⟩, List.mem_of_getElem? (i := 75) (by decide +kernel), List.mem_of_getElem? (i := 438) (by decide +kernel), List.mem_of_getElem? (i := 439) (by decide +kernel)⟩
theorem lw_p20 : lw_okq (⟨"StackBytes$Verifier", "putInts", "(I)V"⟩, 11) := ⟨⟨by decide +kernel, by decide +kernel⟩, List.mem_of_getElem? (i := 75) (by decide +kernel), List.mem_of_getElem? (i := 442) (by decide +kernel), List.mem_of_getElem? (i := 443) (by decide +kernel)⟩
theorem lw_p21 : lw_okq (⟨"StackBytes$Verifier", "comeToHandlers", "()V"⟩, 11) := ⟨⟨by decide +kernel, by decide +kernel⟩, List.mem_of_getElem? (i := 75) (by decide +kernel), List.mem_of_getElem? (i := 446) (by decide +kernel), List.mem_of_getElem? (i := 447) (by decide +kernel)⟩
theorem lw_p22 : lw_okq (⟨"StackBytes$Verifier", "comeToNext", "()V"⟩, 11) := ⟨⟨by decide +kernel, by decide +kernel⟩, List.mem_of_getElem? (i := 75) (by decide +kernel), List.mem_of_getElem? (i := 460) (by decide +kernel), List.mem_of_getElem? (i := 461) (by decide +kernel)⟩
theorem lw_p23 : lw_okq (⟨"StackBytesModel", "verify", "(II)V"⟩, 29) := ⟨⟨by decide +kernel, by decide +kernel⟩, List.mem_of_getElem? (i := 547) (by decide +kernel), List.mem_of_getElem? (i := 553) (by decide +kernel), List.mem_of_getElem? (i := 554) (by decide +kernel)⟩
theorem lw_p24 : lw_okq (⟨"StackBytesModel", "comeTo", "(IIIII)V"⟩, 29) := ⟨⟨by decide +kernel, by decide +kernel⟩, List.mem_of_getElem? (i := 547) (by decide +kernel), List.mem_of_getElem? (i := 557) (by decide +kernel), List.mem_of_getElem? (i := 558) (by decide +kernel)⟩
theorem lw_p25 : lw_okq (⟨"StackBytesModel", "wrong", "(II)V"⟩, 29) := ⟨⟨by decide +kernel, by decide +kernel⟩, List.mem_of_getElem? (i := 547) (by decide +kernel), List.mem_of_getElem? (i := 561) (by decide +kernel), List.mem_of_getElem? (i := 562) (by decide +kernel)⟩
theorem lw_p26 : lw_okq (⟨"StackBytesModel", "lookAtOne", "(III)V"⟩, 29) := ⟨⟨by decide +kernel, by decide +kernel⟩, List.mem_of_getElem? (i := 547) (by decide +kernel), List.mem_of_getElem? (i := 565) (by decide +kernel), List.mem_of_getElem? (i := 566) (by decide +kernel)⟩
theorem lw_p27 : lw_okq (⟨"StackBytesModel", "moves", "(IIII)Z"⟩, 29) := ⟨⟨by decide +kernel, by decide +kernel⟩, List.mem_of_getElem? (i := 547) (by decide +kernel), List.mem_of_getElem? (i := 569) (by decide +kernel), List.mem_of_getElem? (i := 570) (by decide +kernel)⟩
theorem lw_p28 : lw_okq (⟨"StackBytesModel", "puts", "(I)V"⟩, 29) := ⟨⟨by decide +kernel, by decide +kernel⟩, List.mem_of_getElem? (i := 547) (by decide +kernel), List.mem_of_getElem? (i := 573) (by decide +kernel), List.mem_of_getElem? (i := 574) (by decide +kernel)⟩
theorem lw_p29 : lw_okq (⟨"StackBytesModel", "takes", "(I)Z"⟩, 29) := ⟨⟨by decide +kernel, by decide +kernel⟩, List.mem_of_getElem? (i := 547) (by decide +kernel), List.mem_of_getElem? (i := 577) (by decide +kernel), List.mem_of_getElem? (i := 578) (by decide +kernel)⟩
theorem lw_p30 : lw_okq (⟨"StackBytesModel", "isRow", "(II)I"⟩, 29) := ⟨⟨by decide +kernel, by decide +kernel⟩, List.mem_of_getElem? (i := 547) (by decide +kernel), List.mem_of_getElem? (i := 581) (by decide +kernel), List.mem_of_getElem? (i := 582) (by decide +kernel)⟩
theorem lw_p31 : lw_okq (⟨"StackBytesModel", "takesInts", "(I)Z"⟩, 29) := ⟨⟨by decide +kernel, by decide +kernel⟩, List.mem_of_getElem? (i := 547) (by decide +kernel), List.mem_of_getElem? (i := 585) (by decide +kernel), List.mem_of_getElem? (i := 586) (by decide +kernel)⟩
def lw_privs_2 : List (MethodName × Nat) := [(⟨"StackBytes$Verifier", "useRow", "(I)V"⟩, 11), (⟨"StackBytes$Verifier", "takeInts", "(I)V"⟩, 11), (⟨"StackBytes$Verifier", "callFunction", "(LStackBytes$Function;)V"⟩, 11), (⟨"StackBytes$Verifier", "takeResult", "()V"⟩, 11), (⟨"StackBytes$Verifier", "putInts", "(I)V"⟩, 11), (⟨"StackBytes$Verifier", "comeToHandlers", "()V"⟩, 11), (⟨"StackBytes$Verifier", "comeToNext", "()V"⟩, 11), (⟨"StackBytesModel", "verify", "(II)V"⟩, 29), (⟨"StackBytesModel", "comeTo", "(IIIII)V"⟩, 29), (⟨"StackBytesModel", "wrong", "(II)V"⟩, 29), (⟨"StackBytesModel", "lookAtOne", "(III)V"⟩, 29), (⟨"StackBytesModel", "moves", "(IIII)Z"⟩, 29), (⟨"StackBytesModel", "puts", "(I)V"⟩, 29), (⟨"StackBytesModel", "takes", "(I)Z"⟩, 29), (⟨"StackBytesModel", "isRow", "(II)I"⟩, 29), (⟨"StackBytesModel", "takesInts", "(I)Z"⟩, 29)]
theorem lw_r2 : ∀ q ∈ lw_privs_2, lw_okq q := List.forall_mem_cons.mpr ⟨lw_p16, List.forall_mem_cons.mpr ⟨lw_p17, List.forall_mem_cons.mpr ⟨lw_p18, List.forall_mem_cons.mpr ⟨lw_p19, List.forall_mem_cons.mpr ⟨lw_p20, List.forall_mem_cons.mpr ⟨lw_p21, List.forall_mem_cons.mpr ⟨lw_p22, List.forall_mem_cons.mpr ⟨lw_p23, List.forall_mem_cons.mpr ⟨lw_p24, List.forall_mem_cons.mpr ⟨lw_p25, List.forall_mem_cons.mpr ⟨lw_p26, List.forall_mem_cons.mpr ⟨lw_p27, List.forall_mem_cons.mpr ⟨lw_p28, List.forall_mem_cons.mpr ⟨lw_p29, List.forall_mem_cons.mpr ⟨lw_p30, List.forall_mem_cons.mpr ⟨lw_p31, fun _ h => absurd h List.not_mem_nil⟩⟩⟩⟩⟩⟩⟩⟩⟩⟩⟩⟩⟩⟩⟩⟩
theorem lw_p32 : lw_okq (⟨"StackBytesModel", "readProgram", "()V"⟩, 29) := ⟨⟨by decide +kernel, by decide +kernel⟩, List.mem_of_getElem? (i := 547) (by decide +kernel), List.mem_of_getElem? (i := 702) (by decide +kernel), List.mem_of_getElem? (i := 703) (by decide +kernel)⟩
theorem lw_p33 : lw_okq (⟨"StackBytesModel", "byteNext", "()I"⟩, 29) := ⟨⟨by decide +kernel, by decide +kernel⟩, List.mem_of_getElem? (i := 547) (by decide +kernel), List.mem_of_getElem? (i := 706) (by decide +kernel), List.mem_of_getElem? (i := 707) (by decide +kernel)⟩
theorem lw_p34 : lw_okq (⟨"StackBytesModel", "numberNext", "(III)I"⟩, 29) := ⟨⟨by decide +kernel, by decide +kernel⟩, List.mem_of_getElem? (i := 547) (by decide +kernel), List.mem_of_getElem? (i := 710) (by decide +kernel), List.mem_of_getElem? (i := 711) (by decide +kernel)⟩
theorem lw_p35 : lw_okq (⟨"StackBytesModel", "readFunction", "(II)V"⟩, 29) := ⟨⟨by decide +kernel, by decide +kernel⟩, List.mem_of_getElem? (i := 547) (by decide +kernel), List.mem_of_getElem? (i := 714) (by decide +kernel), List.mem_of_getElem? (i := 715) (by decide +kernel)⟩
theorem lw_p36 : lw_okq (⟨"StackBytesModel", "readInstruction", "(IIII)V"⟩, 29) := ⟨⟨by decide +kernel, by decide +kernel⟩, List.mem_of_getElem? (i := 547) (by decide +kernel), List.mem_of_getElem? (i := 718) (by decide +kernel), List.mem_of_getElem? (i := 719) (by decide +kernel)⟩
theorem lw_p37 : lw_okq (⟨"StackBytesModel", "copyProgram", "(II)V"⟩, 29) := ⟨⟨by decide +kernel, by decide +kernel⟩, List.mem_of_getElem? (i := 547) (by decide +kernel), List.mem_of_getElem? (i := 724) (by decide +kernel), List.mem_of_getElem? (i := 725) (by decide +kernel)⟩
theorem lw_p38 : lw_okq (⟨"StackBytesModel", "told", "()I"⟩, 29) := ⟨⟨by decide +kernel, by decide +kernel⟩, List.mem_of_getElem? (i := 547) (by decide +kernel), List.mem_of_getElem? (i := 728) (by decide +kernel), List.mem_of_getElem? (i := 729) (by decide +kernel)⟩
theorem lw_p39 : lw_okq (⟨"StackBytesModel", "canStand", "(III)Z"⟩, 29) := ⟨⟨by decide +kernel, by decide +kernel⟩, List.mem_of_getElem? (i := 547) (by decide +kernel), List.mem_of_getElem? (i := 736) (by decide +kernel), List.mem_of_getElem? (i := 737) (by decide +kernel)⟩
theorem lw_p40 : lw_okq (⟨"StackBytesModel", "put", "(II)V"⟩, 29) := ⟨⟨by decide +kernel, by decide +kernel⟩, List.mem_of_getElem? (i := 547) (by decide +kernel), List.mem_of_getElem? (i := 744) (by decide +kernel), List.mem_of_getElem? (i := 745) (by decide +kernel)⟩
theorem lw_p41 : lw_okq (⟨"StackBytesModel", "isFunction", "(I)Z"⟩, 29) := ⟨⟨by decide +kernel, by decide +kernel⟩, List.mem_of_getElem? (i := 547) (by decide +kernel), List.mem_of_getElem? (i := 755) (by decide +kernel), List.mem_of_getElem? (i := 756) (by decide +kernel)⟩
theorem lw_p42 : lw_okq (⟨"StackBytesModel", "isGoal", "(II)I"⟩, 29) := ⟨⟨by decide +kernel, by decide +kernel⟩, List.mem_of_getElem? (i := 547) (by decide +kernel), List.mem_of_getElem? (i := 759) (by decide +kernel), List.mem_of_getElem? (i := 760) (by decide +kernel)⟩
theorem lw_p43 : lw_okq (⟨"StackBytesModel", "known", "(IZ)I"⟩, 29) := ⟨⟨by decide +kernel, by decide +kernel⟩, List.mem_of_getElem? (i := 547) (by decide +kernel), List.mem_of_getElem? (i := 767) (by decide +kernel), List.mem_of_getElem? (i := 768) (by decide +kernel)⟩
theorem lw_p44 : lw_okq (⟨"StackBytesModel", "codes", "()I"⟩, 29) := ⟨⟨by decide +kernel, by decide +kernel⟩, List.mem_of_getElem? (i := 547) (by decide +kernel), List.mem_of_getElem? (i := 779) (by decide +kernel), List.mem_of_getElem? (i := 780) (by decide +kernel)⟩
def lw_privs_3 : List (MethodName × Nat) := [(⟨"StackBytesModel", "readProgram", "()V"⟩, 29), (⟨"StackBytesModel", "byteNext", "()I"⟩, 29), (⟨"StackBytesModel", "numberNext", "(III)I"⟩, 29), (⟨"StackBytesModel", "readFunction", "(II)V"⟩, 29), (⟨"StackBytesModel", "readInstruction", "(IIII)V"⟩, 29), (⟨"StackBytesModel", "copyProgram", "(II)V"⟩, 29), (⟨"StackBytesModel", "told", "()I"⟩, 29), (⟨"StackBytesModel", "canStand", "(III)Z"⟩, 29), (⟨"StackBytesModel", "put", "(II)V"⟩, 29), (⟨"StackBytesModel", "isFunction", "(I)Z"⟩, 29), (⟨"StackBytesModel", "isGoal", "(II)I"⟩, 29), (⟨"StackBytesModel", "known", "(IZ)I"⟩, 29), (⟨"StackBytesModel", "codes", "()I"⟩, 29)]
theorem lw_r3 : ∀ q ∈ lw_privs_3, lw_okq q := List.forall_mem_cons.mpr ⟨lw_p32, List.forall_mem_cons.mpr ⟨lw_p33, List.forall_mem_cons.mpr ⟨lw_p34, List.forall_mem_cons.mpr ⟨lw_p35, List.forall_mem_cons.mpr ⟨lw_p36, List.forall_mem_cons.mpr ⟨lw_p37, List.forall_mem_cons.mpr ⟨lw_p38, List.forall_mem_cons.mpr ⟨lw_p39, List.forall_mem_cons.mpr ⟨lw_p40, List.forall_mem_cons.mpr ⟨lw_p41, List.forall_mem_cons.mpr ⟨lw_p42, List.forall_mem_cons.mpr ⟨lw_p43, List.forall_mem_cons.mpr ⟨lw_p44, fun _ h => absurd h List.not_mem_nil⟩⟩⟩⟩⟩⟩⟩⟩⟩⟩⟩⟩⟩
def lw_privs : List (MethodName × Nat) := lw_privs_1 ++ (lw_privs_2 ++ (lw_privs_3))
def lw_tbl : List Cond := k2_sels lw_privs ++ tables_1
theorem lw_privs_ok : ∀ q ∈ lw_privs, lw_okq q := by
  show ∀ q ∈ lw_privs_1 ++ (lw_privs_2 ++ (lw_privs_3)), lw_okq q
  exact List.forall_mem_append.mpr ⟨lw_r1, List.forall_mem_append.mpr ⟨lw_r2, lw_r3⟩⟩
end
section
/-! THE LAYER: a heap as functions, programs over it in a small monad, and one judgement for the machine at a place of a method. -/
-- values: an int, a long, a reference that may be null
abbrev lc_V : Type := Int32 ⊕ Int64 ⊕ Option Nat
abbrev vi_ (x : Int32) : lc_V := .inl x
abbrev vl_ (x : Int64) : lc_V := .inr (.inl x)
abbrev vr_ (r : Option Nat) : lc_V := .inr (.inr r)
def lc_val (v : lc_V) : Value := match v with
  | .inl x => .int x
  | .inr (.inl x) => .long x
  | .inr (.inr r) => va_rf r
def lc_two (v : lc_V) : Bool := match v with
  | .inr (.inl _) => true
  | _ => false
theorem lc_cat (v : lc_V) : (lc_val v).category = if lc_two v = true then 2 else 1 := by
  rcases v with x | x | r
  · rfl
  · rfl
  · cases r <;> rfl
theorem lc_cat1 {v : lc_V} (h : lc_two v = false) : (lc_val v).category = 1 := by rw [lc_cat, h]; rfl
theorem lc_cat2 {v : lc_V} (h : lc_two v = true) : (lc_val v).category = 2 := by rw [lc_cat, h]; rfl
theorem lc_cat_eq (v : lc_V) : ((lc_val v).category == 2) = lc_two v := by
  rw [lc_cat]
  cases lc_two v <;> rfl
def lc_w (st : List lc_V) : Nat := (st.map fun v => if lc_two v = true then 2 else 1).sum
theorem lc_w_eq (st : List lc_V) : ((st.map lc_val).map fun v => v.category).sum = lc_w st := by
  unfold lc_w
  rw [List.map_map]
  congr 2
  funext v
  exact lc_cat v
-- a cell: an array of ints or of references (number of its kind, length, contents), or an object (number of its class, fields)
abbrev hc_E : Type := (Nat × Nat × (Nat → Int32)) ⊕ (Nat × Nat × (Nat → Option Nat)) ⊕ (Nat × List lc_V)
-- a heap: how many cells the machine has; what is known of them, kind by kind
abbrev hc_H : Type := Nat × (Nat → Nat → Option (Nat × (Nat → Int32))) × (Nat → Nat → Option (Nat × (Nat → Option Nat))) × (Nat → Nat → Option (List lc_V))
-- tables: places of classes and fields, of array classes; the classes; the kinds of arrays; links to private members of nest mates; classes that arrays are made over
abbrev hc_G : Type := va_G × (Nat → ClassId) × List vw_C × List FieldType × List (String × Nat × MethodName × String) × List String
def hc_em (dA : Nat → ClassId) (e : hc_E) : va_E := match e with
  | .inl q => .inl (dA q.1, q.2.1, .inl q.2.2)
  | .inr (.inl q) => .inl (dA q.1, q.2.1, .inr (.inr (.inr (.inr q.2.2))))
  | .inr (.inr o) => .inr (o.1, o.2.map lc_val)
def hc_fit (tys : List FieldType) (e : hc_E) : Prop := match e with
  | .inl q => ∀ ty, tys[q.1]? = some ty → ∀ j, fits ty (.int (q.2.2 j)) = true
  | _ => True
def hc_kd (e : hc_E) : Nat × Nat := match e with
  | .inl q => (0, q.1)
  | .inr (.inl q) => (1, q.1)
  | .inr (.inr o) => (2, o.1)
def hc_has (h : hc_H) (a : Nat) (e : hc_E) : Prop := match e with
  | .inl q => h.2.1 q.1 a = some q.2
  | .inr (.inl q) => h.2.2.1 q.1 a = some q.2
  | .inr (.inr o) => h.2.2.2 o.1 a = some o.2
def hc_P (G : hc_G) (h : hc_H) (H : Heap) : Prop := H.size = h.1 ∧ (∀ (a : Nat) (e : hc_E), hc_has h a e → va_at G.1 G.2.2.1 (a, hc_em G.2.1 e) H ∧ hc_fit G.2.2.2.1 e) ∧ ∀ (a : Nat) (e e' : hc_E), hc_has h a e → hc_has h a e' → hc_kd e = hc_kd e'
def hc_A (h : hc_H) : Nat → Prop := fun q => (∃ e, hc_has h q e) ∨ h.1 ≤ q
def hc_in (h0 h : hc_H) : Prop := ∀ a e, hc_has h a e → hc_A h0 a
def hc_K (G : hc_G) (U : State) : Prop := (∀ (c : Nat) (q : vw_C), G.2.2.1[c]? = some q → u_Kn U q.1 q.2.1 q.2.2 (G.1.1 c) (G.1.2 c)) ∧ (∀ (k : Nat) (ty : FieldType), G.2.2.2.1[k]? = some ty → ArrOfT U (G.2.1 k) ty ∧ va_RA U (G.2.1 k) ty) ∧ (∀ q ∈ G.2.2.2.2.1, va_Nw (.methodLinkNest q.1 q.2.1 q.2.2.1 q.2.2.2) U) ∧ ∀ E ∈ G.2.2.2.2.2, va_AO E U
theorem hc_K.warm {G : hc_G} {u U : State} (hW : u.WarmedH U.vm) (h : hc_K G u) : hc_K G U := ⟨fun c q hq => u_Kn_moved hW.alike (h.1 c q hq), fun k q hk => ⟨arrOfT_moved hW.alike (h.2.1 k q hk).1, (h.2.1 k q hk).2.moved hW.alike⟩, fun q hq => va_Nw.warmM hW (h.2.2.1 q hq), fun E hE => va_AO.moved hW.alike (h.2.2.2 E hE)⟩
def hc_up (h : hc_H) (a : Nat) (e : hc_E) : hc_H := match e with
  | .inl q => (h.1, fun k' a' => if k' = q.1 ∧ a' = a then some q.2 else h.2.1 k' a', h.2.2.1, h.2.2.2)
  | .inr (.inl q) => (h.1, h.2.1, fun k' a' => if k' = q.1 ∧ a' = a then some q.2 else h.2.2.1 k' a', h.2.2.2)
  | .inr (.inr o) => (h.1, h.2.1, h.2.2.1, fun k' a' => if k' = o.1 ∧ a' = a then some o.2 else h.2.2.2 k' a')
def hc_nw (h : hc_H) (e : hc_E) : hc_H := (h.1 + 1, (hc_up h h.1 e).2)
theorem hc_up_has {h : hc_H} {a b : Nat} {e e' : hc_E} (hh : hc_has (hc_up h a e) b e') : (b = a ∧ e' = e) ∨ (hc_has h b e' ∧ ¬ (b = a ∧ hc_kd e' = hc_kd e)) := by
  rcases e with q | q | q <;> rcases e' with q' | q' | q' <;> simp only [hc_has, hc_up, hc_kd] at hh ⊢
  · by_cases hc : q'.1 = q.1 ∧ b = a
    · rw [if_pos hc] at hh
      refine Or.inl ⟨hc.2, ?_⟩
      have := Option.some.inj hh
      exact congrArg Sum.inl (Prod.ext hc.1 this.symm)
    · rw [if_neg hc] at hh
      exact Or.inr ⟨hh, fun z => hc ⟨(Prod.mk.inj z.2).2, z.1⟩⟩
  · exact Or.inr ⟨hh, fun z => by cases z.2⟩
  · exact Or.inr ⟨hh, fun z => by cases z.2⟩
  · exact Or.inr ⟨hh, fun z => by cases z.2⟩
  · by_cases hc : q'.1 = q.1 ∧ b = a
    · rw [if_pos hc] at hh
      refine Or.inl ⟨hc.2, ?_⟩
      have := Option.some.inj hh
      exact congrArg (fun z => Sum.inr (Sum.inl z)) (Prod.ext hc.1 this.symm)
    · rw [if_neg hc] at hh
      exact Or.inr ⟨hh, fun z => hc ⟨(Prod.mk.inj z.2).2, z.1⟩⟩
  · exact Or.inr ⟨hh, fun z => by cases z.2⟩
  · exact Or.inr ⟨hh, fun z => by cases z.2⟩
  · exact Or.inr ⟨hh, fun z => by cases z.2⟩
  · by_cases hc : q'.1 = q.1 ∧ b = a
    · rw [if_pos hc] at hh
      refine Or.inl ⟨hc.2, ?_⟩
      have := Option.some.inj hh
      exact congrArg (fun z => Sum.inr (Sum.inr z)) (Prod.ext hc.1 this.symm)
    · rw [if_neg hc] at hh
      exact Or.inr ⟨hh, fun z => hc ⟨(Prod.mk.inj z.2).2, z.1⟩⟩
theorem hc_up_1 (h : hc_H) (a : Nat) (e : hc_E) : (hc_up h a e).1 = h.1 := by rcases e with q | q | q <;> rfl
theorem hc_nw_has {h : hc_H} {b : Nat} {e e' : hc_E} (hh : hc_has (hc_nw h e) b e') : hc_has (hc_up h h.1 e) b e' := by
  rcases e' with q' | q' | q' <;> exact hh
theorem hc_P.lt {G : hc_G} {h : hc_H} {H : Heap} (hP : hc_P G h H) {a : Nat} {e : hc_E} (ha : hc_has h a e) : a < H.size := (hP.2.1 a e ha).1.lt
theorem hc_P.set {G : hc_G} {h : hc_H} {H H1 : Heap} (hP : hc_P G h H) {a : Nat} {e0 e : hc_E} (ha : hc_has h a e0) (hk : hc_kd e0 = hc_kd e) (he : va_at G.1 G.2.2.1 (a, hc_em G.2.1 e) H1) (hf : hc_fit G.2.2.2.1 e) (z : H1.size = H.size) (oq : ∀ q : Nat, q ≠ a → H1[q]? = H[q]?) : hc_P G (hc_up h a e) H1 := by
  have key : ∀ b e', hc_has (hc_up h a e) b e' → (b = a ∧ e' = e) ∨ (hc_has h b e' ∧ b ≠ a) := by
    intro b e' hb
    rcases hc_up_has hb with h1 | ⟨h1, h2⟩
    · exact Or.inl h1
    · refine Or.inr ⟨h1, fun z => h2 ⟨z, ?_⟩⟩
      subst z
      exact (hP.2.2 b e' e0 h1 ha).trans hk
  refine ⟨(z.trans hP.1).trans (hc_up_1 h a e).symm, fun b e' hb => ?_, fun b e1 e2 h1 h2 => ?_⟩
  · rcases key b e' hb with ⟨rfl, rfl⟩ | ⟨h1, h2⟩
    · exact ⟨he, hf⟩
    · exact ⟨(hP.2.1 b e' h1).1.kept (oq b h2), (hP.2.1 b e' h1).2⟩
  · rcases key b e1 h1 with ⟨r1, rfl⟩ | ⟨q1, q2⟩ <;> rcases key b e2 h2 with ⟨r2, rfl⟩ | ⟨q3, q4⟩
    · rfl
    · exact absurd r1 q4
    · exact absurd r2 q2
    · exact hP.2.2 b e1 e2 q1 q3
theorem hc_P.push {G : hc_G} {h : hc_H} {H H1 : Heap} (hP : hc_P G h H) {e : hc_E} (he : va_at G.1 G.2.2.1 (h.1, hc_em G.2.1 e) H1) (hf : hc_fit G.2.2.2.1 e) (z : H1.size = H.size + 1) (oq : ∀ q : Nat, q < H.size → H1[q]? = H[q]?) : hc_P G (hc_nw h e) H1 := by
  have key : ∀ b e', hc_has (hc_nw h e) b e' → (b = h.1 ∧ e' = e) ∨ (hc_has h b e' ∧ b < H.size) := by
    intro b e' hb
    rcases hc_up_has (hc_nw_has hb) with h1 | ⟨h1, h2⟩
    · exact Or.inl h1
    · exact Or.inr ⟨h1, hP.lt h1⟩
  have hz := hP.1
  refine ⟨by rw [z, hP.1]; rfl, fun b e' hb => ?_, fun b e1 e2 h1 h2 => ?_⟩
  · rcases key b e' hb with ⟨rfl, rfl⟩ | ⟨h1, h2⟩
    · exact ⟨he, hf⟩
    · exact ⟨(hP.2.1 b e' h1).1.kept (oq b h2), (hP.2.1 b e' h1).2⟩
  · rcases key b e1 h1 with ⟨r1, rfl⟩ | ⟨q1, q2⟩ <;> rcases key b e2 h2 with ⟨r2, rfl⟩ | ⟨q3, q4⟩
    · rfl
    · omega
    · omega
    · exact hP.2.2 b e1 e2 q1 q3
theorem hc_in.set {h0 h : hc_H} {a : Nat} {e0 e : hc_E} (hI : hc_in h0 h) (ha : hc_has h a e0) : hc_in h0 (hc_up h a e) := by
  intro b e' hb
  rcases hc_up_has hb with ⟨rfl, rfl⟩ | ⟨h1, -⟩
  · exact hI b e0 ha
  · exact hI b e' h1
theorem hc_in.push {h0 h : hc_H} {e : hc_E} (hI : hc_in h0 h) (hz : h0.1 ≤ h.1) : hc_in h0 (hc_nw h e) := by
  intro b e' hb
  rcases hc_up_has (hc_nw_has hb) with ⟨rfl, rfl⟩ | ⟨h1, -⟩
  · exact Or.inr hz
  · exact hI b e' h1
-- programs: what they answer, how many cells and slots they made, the heap behind them
abbrev hM (α : Type) : Type := hc_H → Option (α × Nat × Nat × hc_H)
def hm_ret {α : Type} (a : α) : hM α := fun h => some (a, 0, 0, h)
def hm_fail {α : Type} : hM α := fun _ => none
def hm_bind {α β : Type} (m : hM α) (k : α → hM β) : hM β := fun h => match m h with
  | none => none
  | some (a, c1, s1, h1) => match k a h1 with
    | none => none
    | some (b, c2, s2, h2) => some (b, c1 + c2, s1 + s2, h2)
theorem hm_bind_inv {α β : Type} {m : hM α} {k : α → hM β} {h h2 : hc_H} {b : β} {C S : Nat} (hr : hm_bind m k h = some (b, C, S, h2)) : ∃ a c1 s1 h1 c2 s2, m h = some (a, c1, s1, h1) ∧ k a h1 = some (b, c2, s2, h2) ∧ C = c1 + c2 ∧ S = s1 + s2 := by
  unfold hm_bind at hr
  split at hr
  · cases hr
  · next a c1 s1 h1 hm =>
    split at hr
    · cases hr
    · next b' c2 s2 h2' hk =>
      cases hr
      exact ⟨a, c1, s1, h1, c2, s2, hm, hk, rfl, rfl⟩
def hc_fld (h : hc_H) (ci k : Nat) (r : Option Nat) : Option lc_V := match r with
  | none => none
  | some a => match h.2.2.2 ci a with
    | some fs => fs[k]?
    | none => none
theorem hc_fld_inv {h : hc_H} {ci k : Nat} {r : Option Nat} {v : lc_V} (hr : hc_fld h ci k r = some v) : ∃ a fs, r = some a ∧ h.2.2.2 ci a = some fs ∧ fs[k]? = some v := by
  unfold hc_fld at hr
  split at hr
  · cases hr
  · next a =>
    split at hr
    · next fs hc => exact ⟨a, fs, rfl, hc, hr⟩
    · cases hr
def hm_geti (ci k : Nat) (r : Option Nat) : hM Int32 := fun h => match hc_fld h ci k r with
  | some (.inl v) => some (v, 0, 0, h)
  | _ => none
def hm_getr (ci k : Nat) (r : Option Nat) : hM (Option Nat) := fun h => match hc_fld h ci k r with
  | some (.inr (.inr v)) => some (v, 0, 0, h)
  | _ => none
def hm_put (ci k : Nat) (r : Option Nat) (v : lc_V) : hM Unit := fun h => match r with
  | none => none
  | some a => match h.2.2.2 ci a with
    | some fs => if k < fs.length then some ((), 0, 0, hc_up h a (.inr (.inr (ci, fs.set k v)))) else none
    | none => none
def hm_puti (ci k : Nat) (r : Option Nat) (v : Int32) : hM Unit := hm_put ci k r (vi_ v)
def hm_putr (ci k : Nat) (r : Option Nat) (v : Option Nat) : hM Unit := hm_put ci k r (vr_ v)
def hm_putz (ci k : Nat) (r : Option Nat) (v : Int32) : hM Unit := if v = 0 ∨ v = 1 then hm_put ci k r (vi_ v) else hm_fail
theorem hm_put_inv {ci k : Nat} {r : Option Nat} {v : lc_V} {h h1 : hc_H} {u : Unit} {c s : Nat} (hr : hm_put ci k r v h = some (u, c, s, h1)) : ∃ a fs, r = some a ∧ h.2.2.2 ci a = some fs ∧ k < fs.length ∧ c = 0 ∧ s = 0 ∧ h1 = hc_up h a (.inr (.inr (ci, fs.set k v))) := by
  unfold hm_put at hr
  split at hr
  · cases hr
  · next a =>
    split at hr
    · next fs hc =>
      split at hr
      · next hk =>
        cases hr
        exact ⟨a, fs, rfl, hc, hk, rfl, rfl, rfl⟩
      · cases hr
    · cases hr
def hc_iar (h : hc_H) (kd : Nat) (r : Option Nat) : Option (Nat × Nat × (Nat → Int32)) := match r with
  | none => none
  | some a => match h.2.1 kd a with
    | some q => some (a, q)
    | none => none
theorem hc_iar_inv {h : hc_H} {kd : Nat} {r : Option Nat} {a n : Nat} {f : Nat → Int32} (hr : hc_iar h kd r = some (a, n, f)) : r = some a ∧ h.2.1 kd a = some (n, f) := by
  unfold hc_iar at hr
  split at hr
  · cases hr
  · next a' =>
    split at hr
    · next q hc => cases hr; exact ⟨rfl, hc⟩
    · cases hr
def hc_qar (h : hc_H) (kd : Nat) (r : Option Nat) : Option (Nat × Nat × (Nat → Option Nat)) := match r with
  | none => none
  | some a => match h.2.2.1 kd a with
    | some q => some (a, q)
    | none => none
theorem hc_qar_inv {h : hc_H} {kd : Nat} {r : Option Nat} {a n : Nat} {f : Nat → Option Nat} (hr : hc_qar h kd r = some (a, n, f)) : r = some a ∧ h.2.2.1 kd a = some (n, f) := by
  unfold hc_qar at hr
  split at hr
  · cases hr
  · next a' =>
    split at hr
    · next q hc => cases hr; exact ⟨rfl, hc⟩
    · cases hr
def hm_ild (kd : Nat) (r : Option Nat) (i : Int32) : hM Int32 := fun h => match hc_iar h kd r with
  | some (_, n, f) => if i < 0 ∨ n ≤ i.toNatClampNeg then none else some (f i.toNatClampNeg, 0, 0, h)
  | none => none
def hm_ist (kd : Nat) (r : Option Nat) (i x : Int32) : hM Unit := fun h => match hc_iar h kd r with
  | some (a, n, f) => if i < 0 ∨ n ≤ i.toNatClampNeg then none else some ((), 0, 0, hc_up h a (.inl (kd, n, va_up f i.toNatClampNeg x)))
  | none => none
def hm_qld (kd : Nat) (r : Option Nat) (i : Int32) : hM (Option Nat) := fun h => match hc_qar h kd r with
  | some (_, n, f) => if i < 0 ∨ n ≤ i.toNatClampNeg then none else some (f i.toNatClampNeg, 0, 0, h)
  | none => none
def hc_isO (h : hc_H) (ci : Nat) (r : Option Nat) : Bool := match r with
  | none => false
  | some a => (h.2.2.2 ci a).isSome
theorem hc_isO_inv {h : hc_H} {ci : Nat} {r : Option Nat} (hr : hc_isO h ci r = true) : ∃ a fs, r = some a ∧ h.2.2.2 ci a = some fs := by
  unfold hc_isO at hr
  split at hr
  · cases hr
  · next a =>
    obtain ⟨fs, hfs⟩ := Option.isSome_iff_exists.mp hr
    exact ⟨a, fs, rfl, hfs⟩
def hm_qst (kd ci : Nat) (r : Option Nat) (i : Int32) (v : Option Nat) : hM Unit := fun h => match hc_qar h kd r with
  | some (a, n, f) => if (i < 0 ∨ n ≤ i.toNatClampNeg) ∨ hc_isO h ci v = false then none else some ((), 0, 0, hc_up h a (.inr (.inl (kd, n, va_up f i.toNatClampNeg v))))
  | none => none
def hm_leni (kd : Nat) (r : Option Nat) : hM Int32 := fun h => match hc_iar h kd r with
  | some (_, n, _) => some (Int32.ofNat n, 0, 0, h)
  | none => none
def hm_lenq (kd : Nat) (r : Option Nat) : hM Int32 := fun h => match hc_qar h kd r with
  | some (_, n, _) => some (Int32.ofNat n, 0, 0, h)
  | none => none
def hm_new (ci N : Nat) (fs : List lc_V) : hM Nat := fun h => some (h.1, 1, N, hc_nw h (.inr (.inr (ci, fs))))
def hm_newi (kd : Nat) (n : Int32) : hM Nat := fun h => if n < 0 ∨ 134217728 < n.toNatClampNeg then none else some (h.1, 1, n.toNatClampNeg, hc_nw h (.inl (kd, n.toNatClampNeg, fun _ => 0)))
def hm_newq (kd : Nat) (n : Int32) : hM Nat := fun h => if n < 0 ∨ 134217728 < n.toNatClampNeg then none else some (h.1, 1, n.toNatClampNeg, hc_nw h (.inr (.inl (kd, n.toNatClampNeg, fun _ => none))))
def hm_copy (k1 k2 : Nat) (r1 : Option Nat) (sp : Int32) (r2 : Option Nat) (dp n : Int32) : hM Unit := fun h => match hc_iar h k1 r1, hc_iar h k2 r2 with
  | some (_, n0, f), some (a, n1, g) => if (sp < 0 ∨ dp < 0 ∨ n < 0) ∨ n0 < sp.toNatClampNeg + n.toNatClampNeg ∨ n1 < dp.toNatClampNeg + n.toNatClampNeg then none else some ((), 0, 0, hc_up h a (.inl (k2, n1, va_cpy f g sp.toNatClampNeg dp.toNatClampNeg n.toNatClampNeg)))
  | _, _ => none
-- a call of a method on an object of the class ci
def hm_on {α : Type} (ci : Nat) (r : Option Nat) (m : hM α) : hM α := fun h => if hc_isO h ci r = true then m h else none
def hm_z (v : Int32) : hM Int32 := if v = 0 ∨ v = 1 then hm_ret v else hm_fail
def hm_ne {α : Type} (y : Int32) (m : hM α) : hM α := if y = 0 then hm_fail else m
def hm_fuel : Nat := 100000
-- a place that several roads come to
abbrev hm_jn {K β : Type} (k : K) (f : K → hM β) : hM β := f k
/-! THE JUDGEMENT hj_J: the machine stands at pc of a method with locals lv and stack st over the heap h, C cells and S slots are still to come; it comes to Q. -/
abbrev hj_F : Type := Program × Launch × Env × Room × State × MethodId × Array Value × List Frame × Method × Code
def hj_J (p : Program) (l : Launch) (e : Env) (R : Room) (s : State) (m : MethodId) (args : Array Value) (below : List Frame) (meth : Method) (c : Code) (G : hc_G) (h0 : hc_H) (nL : Nat) (Q : State → Prop) (C S : Nat) (h : hc_H) (pc : Nat) (lv : List (Nat × lc_V)) (st : List lc_V) : Prop :=
  ∀ (H : Heap) (locs : List Loc) (cells slots : Nat) (ls : Array Slot), hc_P G h H → hc_in h0 h → va_S (hc_A h0) s.heap H locs → h0.1 = s.heap.size → cells + C ≤ R.cells → slots + S ≤ R.slots → lv_has ls nL (lv.map fun q => (q.1, lc_val q.2)) →
    W p l e R s m args below meth c H locs cells slots Q (F0 m pc ls (st.map lc_val))
/-- what stays the same all through a method -/
def hj_C (p : Program) (s : State) (m : MethodId) (args : Array Value) (meth : Method) (c : Code) (G : hc_G) (cc : ByteArray) (nL : Nat) (ret : Option FieldType) (own nm : String) (Ts : List Cond) : Prop :=
  p.tables.exec = Jvm.exec ∧ c.code = cc ∧ c.maxLocals = nL ∧ meth.sig.returnType = ret ∧ meth.locks = false ∧ meth.name = nm ∧ s.vm.findClass own = some m.cls ∧ (∀ w ∈ Ts, w.before args s = true) ∧ hc_K G s
/-- what the tables say of a class -/
def hc_cls (Ts : List Cond) (cl : List vw_C) (ci : Nat) (C : String) (T : u_T) (N : Nat) (ty : Nat → FieldType) : Prop :=
  cl[ci]? = some (C, T, N) ∧ (∀ w ∈ u_ws C T N, w ∈ Ts) ∧ (∀ k, k < N → parseFieldDescriptor (T k).2.2.1 = some (ty k)) ∧ (∀ a, a < N → ∀ b, b < N → a ≠ b → (T a).2.1 ≠ (T b).2.1)
section HJ
variable {p : Program} {l : Launch} {e : Env} {R : Room} {s : State} {m : MethodId} {args : Array Value} {below : List Frame} {meth : Method} {c : Code} {G : hc_G} {h0 h h2 : hc_H} {nL : Nat} {Q : State → Prop} {C S pc : Nat} {lv lv' : List (Nat × lc_V)} {st : List lc_V}
variable {cc : ByteArray} {ret : Option FieldType} {own nm : String} {Ts : List Cond}
theorem hj_get_at {ls : Array Slot} {j i : Nat} {v : lc_V} (hl : lv_has ls nL (lv.map fun q => (q.1, lc_val q.2))) (hk : lv[j]? = some (i, v)) : ls[i]? = some (.val (lc_val v)) :=
  hl.2.2 (i, lc_val v) (List.mem_map.mpr ⟨(i, v), List.mem_of_getElem? hk, rfl⟩)
theorem hj_filt1 (lv : List (Nat × lc_V)) (i : Nat) : (lv.map fun q => (q.1, lc_val q.2)).filter (fun q => !(q.1 == i) && !(q.1 + 1 == i && q.2.category == 2)) = (lv.filter (fun q => !(q.1 == i) && !(q.1 + 1 == i && lc_two q.2))).map fun q => (q.1, lc_val q.2) := by
  rw [List.filter_map]
  congr 2
  funext q
  simp only [Function.comp, lc_cat_eq]
theorem hj_filt2 (lv : List (Nat × lc_V)) (i : Nat) : (lv.map fun q => (q.1, lc_val q.2)).filter (fun q => !(q.1 == i) && (!(q.1 == i + 1) && !(q.1 + 1 == i && q.2.category == 2))) = (lv.filter (fun q => !(q.1 == i) && (!(q.1 == i + 1) && !(q.1 + 1 == i && lc_two q.2)))).map fun q => (q.1, lc_val q.2) := by
  rw [List.filter_map]
  congr 2
  funext q
  simp only [Function.comp, lc_cat_eq]
-- constants
theorem hj_iconst (hC : hj_C p s m args meth c G cc nL ret own nm Ts) {n : Int} {v : Int32} (hd : decode cc pc = .ok (.iconst n, 1)) (hv : Int32.ofInt n = v) (kk : hj_J p l e R s m args below meth c G h0 nL Q C S h (pc + 1) lv (vi_ v :: st)) : hj_J p l e R s m args below meth c G h0 nL Q C S h pc lv st :=
  fun H locs cells slots ls hP hI hS hz hc hs hl => lv_iconst hC.1 hC.2.1 hd hv (kk H locs cells slots ls hP hI hS hz hc hs hl)
theorem hj_bipush (hC : hj_C p s m args meth c G cc nL ret own nm Ts) {n : Int} {v : Int32} (hd : decode cc pc = .ok (.bipush n, 2)) (hv : (Int8.ofInt n).toInt32 = v) (kk : hj_J p l e R s m args below meth c G h0 nL Q C S h (pc + 2) lv (vi_ v :: st)) : hj_J p l e R s m args below meth c G h0 nL Q C S h pc lv st :=
  fun H locs cells slots ls hP hI hS hz hc hs hl => lv_bipush hC.1 hC.2.1 hd hv (kk H locs cells slots ls hP hI hS hz hc hs hl)
theorem hj_sipush (hC : hj_C p s m args meth c G cc nL ret own nm Ts) {n : Int} {v : Int32} (hd : decode cc pc = .ok (.sipush n, 3)) (hv : (Int16.ofInt n).toInt32 = v) (kk : hj_J p l e R s m args below meth c G h0 nL Q C S h (pc + 3) lv (vi_ v :: st)) : hj_J p l e R s m args below meth c G h0 nL Q C S h pc lv st :=
  fun H locs cells slots ls hP hI hS hz hc hs hl => lv_sipush hC.1 hC.2.1 hd hv (kk H locs cells slots ls hP hI hS hz hc hs hl)
theorem hj_ldc (hC : hj_C p s m args meth c G cc nL ret own nm Ts) {index : Nat} {v : Int32} (hw : Cond.constant own index v ∈ Ts) (hd : decode cc pc = .ok (.ldc index, 2)) (kk : hj_J p l e R s m args below meth c G h0 nL Q C S h (pc + 2) lv (vi_ v :: st)) : hj_J p l e R s m args below meth c G h0 nL Q C S h pc lv st :=
  fun H locs cells slots ls hP hI hS hz hc hs hl => lv_ldc hC.1 hC.2.1 hC.2.2.2.2.2.2.1 (hC.2.2.2.2.2.2.2.1 _ hw) hd (kk H locs cells slots ls hP hI hS hz hc hs hl)
theorem hj_ldc2 (hC : hj_C p s m args meth c G cc nL ret own nm Ts) {index : Nat} {v : Int64} (hw : Cond.constantLong own index v ∈ Ts) (hd : decode cc pc = .ok (.ldc2_w index, 3)) (kk : hj_J p l e R s m args below meth c G h0 nL Q C S h (pc + 3) lv (vl_ v :: st)) : hj_J p l e R s m args below meth c G h0 nL Q C S h pc lv st :=
  fun H locs cells slots ls hP hI hS hz hc hs hl => lv_ldc2 hC.1 hC.2.1 hC.2.2.2.2.2.2.1 (hC.2.2.2.2.2.2.2.1 _ hw) hd (kk H locs cells slots ls hP hI hS hz hc hs hl)
theorem hj_lconst (hC : hj_C p s m args meth c G cc nL ret own nm Ts) {n : Fin 2} {v : Int64} (hd : decode cc pc = .ok (.lconst n, 1)) (hv : Int64.ofNat (n : Nat) = v) (kk : hj_J p l e R s m args below meth c G h0 nL Q C S h (pc + 1) lv (vl_ v :: st)) : hj_J p l e R s m args below meth c G h0 nL Q C S h pc lv st :=
  fun H locs cells slots ls hP hI hS hz hc hs hl => lv_lconst hC.1 hC.2.1 hd hv (kk H locs cells slots ls hP hI hS hz hc hs hl)
theorem hj_null (hC : hj_C p s m args meth c G cc nL ret own nm Ts) (hd : decode cc pc = .ok (.aconst_null, 1)) (kk : hj_J p l e R s m args below meth c G h0 nL Q C S h (pc + 1) lv (vr_ none :: st)) : hj_J p l e R s m args below meth c G h0 nL Q C S h pc lv st :=
  fun H locs cells slots ls hP hI hS hz hc hs hl => lv_null hC.1 hC.2.1 hd (kk H locs cells slots ls hP hI hS hz hc hs hl)
-- loads
theorem hj_iload_n (hC : hj_C p s m args meth c G cc nL ret own nm Ts) {k : Fin 4} {i : Nat} {x : Int32} (j : Nat) (hd : decode cc pc = .ok (.iload_n k, 1)) (hi : (k : Nat) = i) (hk : lv[j]? = some (i, vi_ x)) (kk : hj_J p l e R s m args below meth c G h0 nL Q C S h (pc + 1) lv (vi_ x :: st)) : hj_J p l e R s m args below meth c G h0 nL Q C S h pc lv st :=
  fun H locs cells slots ls hP hI hS hz hc hs hl => lv_iload_n hC.1 hC.2.1 hd hi (hj_get_at hl hk) (kk H locs cells slots ls hP hI hS hz hc hs hl)
theorem hj_iload (hC : hj_C p s m args meth c G cc nL ret own nm Ts) {i : Nat} {x : Int32} (j : Nat) (hd : decode cc pc = .ok (.iload i, 2)) (hk : lv[j]? = some (i, vi_ x)) (kk : hj_J p l e R s m args below meth c G h0 nL Q C S h (pc + 2) lv (vi_ x :: st)) : hj_J p l e R s m args below meth c G h0 nL Q C S h pc lv st :=
  fun H locs cells slots ls hP hI hS hz hc hs hl => lv_iload hC.1 hC.2.1 hd (hj_get_at hl hk) (kk H locs cells slots ls hP hI hS hz hc hs hl)
theorem hj_lload_n (hC : hj_C p s m args meth c G cc nL ret own nm Ts) {k : Fin 4} {i : Nat} {x : Int64} (j : Nat) (hd : decode cc pc = .ok (.lload_n k, 1)) (hi : (k : Nat) = i) (hk : lv[j]? = some (i, vl_ x)) (kk : hj_J p l e R s m args below meth c G h0 nL Q C S h (pc + 1) lv (vl_ x :: st)) : hj_J p l e R s m args below meth c G h0 nL Q C S h pc lv st :=
  fun H locs cells slots ls hP hI hS hz hc hs hl => lv_lload_n hC.1 hC.2.1 hd hi (hj_get_at hl hk) (kk H locs cells slots ls hP hI hS hz hc hs hl)
theorem hj_lload (hC : hj_C p s m args meth c G cc nL ret own nm Ts) {i : Nat} {x : Int64} (j : Nat) (hd : decode cc pc = .ok (.lload i, 2)) (hk : lv[j]? = some (i, vl_ x)) (kk : hj_J p l e R s m args below meth c G h0 nL Q C S h (pc + 2) lv (vl_ x :: st)) : hj_J p l e R s m args below meth c G h0 nL Q C S h pc lv st :=
  fun H locs cells slots ls hP hI hS hz hc hs hl => lv_lload hC.1 hC.2.1 hd (hj_get_at hl hk) (kk H locs cells slots ls hP hI hS hz hc hs hl)
theorem hj_aload_n (hC : hj_C p s m args meth c G cc nL ret own nm Ts) {k : Fin 4} {i : Nat} {r : Option Nat} (j : Nat) (hd : decode cc pc = .ok (.aload_n k, 1)) (hi : (k : Nat) = i) (hk : lv[j]? = some (i, vr_ r)) (kk : hj_J p l e R s m args below meth c G h0 nL Q C S h (pc + 1) lv (vr_ r :: st)) : hj_J p l e R s m args below meth c G h0 nL Q C S h pc lv st := by
  intro H locs cells slots ls hP hI hS hz hc hs hl
  cases r with
  | none => exact lv_aload_nN hC.1 hC.2.1 hd hi (hj_get_at hl hk) (kk H locs cells slots ls hP hI hS hz hc hs hl)
  | some a => exact lv_aload_n hC.1 hC.2.1 hd hi (hj_get_at hl hk) (kk H locs cells slots ls hP hI hS hz hc hs hl)
theorem hj_aload (hC : hj_C p s m args meth c G cc nL ret own nm Ts) {i : Nat} {r : Option Nat} (j : Nat) (hd : decode cc pc = .ok (.aload i, 2)) (hk : lv[j]? = some (i, vr_ r)) (kk : hj_J p l e R s m args below meth c G h0 nL Q C S h (pc + 2) lv (vr_ r :: st)) : hj_J p l e R s m args below meth c G h0 nL Q C S h pc lv st := by
  intro H locs cells slots ls hP hI hS hz hc hs hl
  cases r with
  | none => exact lv_aloadN hC.1 hC.2.1 hd (hj_get_at hl hk) (kk H locs cells slots ls hP hI hS hz hc hs hl)
  | some a => exact lv_aload hC.1 hC.2.1 hd (hj_get_at hl hk) (kk H locs cells slots ls hP hI hS hz hc hs hl)
-- stores
theorem hj_istore_n (hC : hj_C p s m args meth c G cc nL ret own nm Ts) {k : Fin 4} {i : Nat} {x : Int32} (hd : decode cc pc = .ok (.istore_n k, 1)) (hi : (k : Nat) = i) (hn : i < nL) (hv : (i, vi_ x) :: lv.filter (fun q => !(q.1 == i) && !(q.1 + 1 == i && lc_two q.2)) = lv') (kk : hj_J p l e R s m args below meth c G h0 nL Q C S h (pc + 1) lv' st) : hj_J p l e R s m args below meth c G h0 nL Q C S h pc lv (vi_ x :: st) :=
  fun H locs cells slots ls hP hI hS hz hc hs hl => lv_istore_n hC.1 hC.2.1 hd hi hl hn (lv' := lv'.map fun q => (q.1, lc_val q.2)) (by rw [hj_filt1, ← hv]; rfl) (fun ls' hl' => kk H locs cells slots ls' hP hI hS hz hc hs hl')
theorem hj_istore (hC : hj_C p s m args meth c G cc nL ret own nm Ts) {i : Nat} {x : Int32} (hd : decode cc pc = .ok (.istore i, 2)) (hn : i < nL) (hv : (i, vi_ x) :: lv.filter (fun q => !(q.1 == i) && !(q.1 + 1 == i && lc_two q.2)) = lv') (kk : hj_J p l e R s m args below meth c G h0 nL Q C S h (pc + 2) lv' st) : hj_J p l e R s m args below meth c G h0 nL Q C S h pc lv (vi_ x :: st) :=
  fun H locs cells slots ls hP hI hS hz hc hs hl => lv_istore hC.1 hC.2.1 hd hl hn (lv' := lv'.map fun q => (q.1, lc_val q.2)) (by rw [hj_filt1, ← hv]; rfl) (fun ls' hl' => kk H locs cells slots ls' hP hI hS hz hc hs hl')
theorem hj_lstore_n (hC : hj_C p s m args meth c G cc nL ret own nm Ts) {k : Fin 4} {i : Nat} {x : Int64} (hd : decode cc pc = .ok (.lstore_n k, 1)) (hi : (k : Nat) = i) (hn : i + 1 < nL) (hv : (i, vl_ x) :: lv.filter (fun q => !(q.1 == i) && (!(q.1 == i + 1) && !(q.1 + 1 == i && lc_two q.2))) = lv') (kk : hj_J p l e R s m args below meth c G h0 nL Q C S h (pc + 1) lv' st) : hj_J p l e R s m args below meth c G h0 nL Q C S h pc lv (vl_ x :: st) :=
  fun H locs cells slots ls hP hI hS hz hc hs hl => lv_lstore_n hC.1 hC.2.1 hd hi hl hn (lv' := lv'.map fun q => (q.1, lc_val q.2)) (by rw [hj_filt2, ← hv]; rfl) (fun ls' hl' => kk H locs cells slots ls' hP hI hS hz hc hs hl')
theorem hj_lstore (hC : hj_C p s m args meth c G cc nL ret own nm Ts) {i : Nat} {x : Int64} (hd : decode cc pc = .ok (.lstore i, 2)) (hn : i + 1 < nL) (hv : (i, vl_ x) :: lv.filter (fun q => !(q.1 == i) && (!(q.1 == i + 1) && !(q.1 + 1 == i && lc_two q.2))) = lv') (kk : hj_J p l e R s m args below meth c G h0 nL Q C S h (pc + 2) lv' st) : hj_J p l e R s m args below meth c G h0 nL Q C S h pc lv (vl_ x :: st) :=
  fun H locs cells slots ls hP hI hS hz hc hs hl => lv_lstore hC.1 hC.2.1 hd hl hn (lv' := lv'.map fun q => (q.1, lc_val q.2)) (by rw [hj_filt2, ← hv]; rfl) (fun ls' hl' => kk H locs cells slots ls' hP hI hS hz hc hs hl')
theorem hj_astore_n (hC : hj_C p s m args meth c G cc nL ret own nm Ts) {k : Fin 4} {i : Nat} {r : Option Nat} (hd : decode cc pc = .ok (.astore_n k, 1)) (hi : (k : Nat) = i) (hn : i < nL) (hv : (i, vr_ r) :: lv.filter (fun q => !(q.1 == i) && !(q.1 + 1 == i && lc_two q.2)) = lv') (kk : hj_J p l e R s m args below meth c G h0 nL Q C S h (pc + 1) lv' st) : hj_J p l e R s m args below meth c G h0 nL Q C S h pc lv (vr_ r :: st) := by
  intro H locs cells slots ls hP hI hS hz hc hs hl
  cases r with
  | none => exact lv_astore_nN hC.1 hC.2.1 hd hi hl hn (lv' := lv'.map fun q => (q.1, lc_val q.2)) (by rw [hj_filt1, ← hv]; rfl) (fun ls' hl' => kk H locs cells slots ls' hP hI hS hz hc hs hl')
  | some a => exact lv_astore_n hC.1 hC.2.1 hd hi hl hn (lv' := lv'.map fun q => (q.1, lc_val q.2)) (by rw [hj_filt1, ← hv]; rfl) (fun ls' hl' => kk H locs cells slots ls' hP hI hS hz hc hs hl')
theorem hj_astore (hC : hj_C p s m args meth c G cc nL ret own nm Ts) {i : Nat} {r : Option Nat} (hd : decode cc pc = .ok (.astore i, 2)) (hn : i < nL) (hv : (i, vr_ r) :: lv.filter (fun q => !(q.1 == i) && !(q.1 + 1 == i && lc_two q.2)) = lv') (kk : hj_J p l e R s m args below meth c G h0 nL Q C S h (pc + 2) lv' st) : hj_J p l e R s m args below meth c G h0 nL Q C S h pc lv (vr_ r :: st) := by
  intro H locs cells slots ls hP hI hS hz hc hs hl
  cases r with
  | none => exact lv_astoreN hC.1 hC.2.1 hd hl hn (lv' := lv'.map fun q => (q.1, lc_val q.2)) (by rw [hj_filt1, ← hv]; rfl) (fun ls' hl' => kk H locs cells slots ls' hP hI hS hz hc hs hl')
  | some a => exact lv_astore hC.1 hC.2.1 hd hl hn (lv' := lv'.map fun q => (q.1, lc_val q.2)) (by rw [hj_filt1, ← hv]; rfl) (fun ls' hl' => kk H locs cells slots ls' hP hI hS hz hc hs hl')
theorem hj_iinc (hC : hj_C p s m args meth c G cc nL ret own nm Ts) {i : Nat} {n : Int} {x v : Int32} (j : Nat) (hd : decode cc pc = .ok (.iinc i n, 3)) (hk : lv[j]? = some (i, vi_ x)) (hx : x + Int32.ofInt n = v) (hn : i < nL) (hv : (i, vi_ v) :: lv.filter (fun q => !(q.1 == i) && !(q.1 + 1 == i && lc_two q.2)) = lv') (kk : hj_J p l e R s m args below meth c G h0 nL Q C S h (pc + 3) lv' st) : hj_J p l e R s m args below meth c G h0 nL Q C S h pc lv st :=
  fun H locs cells slots ls hP hI hS hz hc hs hl => lv_iinc hC.1 hC.2.1 hd hl (k := j) (by rw [List.getElem?_map, hk]; rfl) hx hn (lv' := lv'.map fun q => (q.1, lc_val q.2)) (by rw [hj_filt1, ← hv]; rfl) (fun ls' hl' => kk H locs cells slots ls' hP hI hS hz hc hs hl')
/-- fewer locals, in another order -/
theorem hj_sub (ks : List Nat) (hk : ks.filterMap (fun k => lv[k]?) = lv') (kk : hj_J p l e R s m args below meth c G h0 nL Q C S h pc lv' st) : hj_J p l e R s m args below meth c G h0 nL Q C S h pc lv st := by
  intro H locs cells slots ls hP hI hS hz hc hs hl
  refine kk H locs cells slots ls hP hI hS hz hc hs ⟨hl.1, hl.2.1, fun q hq => ?_⟩
  obtain ⟨q', hq', rfl⟩ := List.mem_map.mp hq
  rw [← hk] at hq'
  obtain ⟨k, -, hk'⟩ := List.mem_filterMap.mp hq'
  exact hl.2.2 _ (List.mem_map.mpr ⟨q', List.mem_of_getElem? hk', rfl⟩)
-- the stack
theorem hj_dup (hC : hj_C p s m args meth c G cc nL ret own nm Ts) {v : lc_V} (hd : decode cc pc = .ok (.dup, 1)) (hv : lc_two v = false) (kk : hj_J p l e R s m args below meth c G h0 nL Q C S h (pc + 1) lv (v :: v :: st)) : hj_J p l e R s m args below meth c G h0 nL Q C S h pc lv (v :: st) :=
  fun H locs cells slots ls hP hI hS hz hc hs hl => lv_dup hC.1 hC.2.1 hd (lc_cat1 hv) (kk H locs cells slots ls hP hI hS hz hc hs hl)
theorem hj_pop (hC : hj_C p s m args meth c G cc nL ret own nm Ts) {v : lc_V} (hd : decode cc pc = .ok (.pop, 1)) (hv : lc_two v = false) (kk : hj_J p l e R s m args below meth c G h0 nL Q C S h (pc + 1) lv st) : hj_J p l e R s m args below meth c G h0 nL Q C S h pc lv (v :: st) :=
  fun H locs cells slots ls hP hI hS hz hc hs hl => lv_pop hC.1 hC.2.1 hd (lc_cat1 hv) (kk H locs cells slots ls hP hI hS hz hc hs hl)
theorem hj_dup_x1 (hC : hj_C p s m args meth c G cc nL ret own nm Ts) {v w : lc_V} (hd : decode cc pc = .ok (.dup_x1, 1)) (hv : lc_two v = false) (hw : lc_two w = false) (kk : hj_J p l e R s m args below meth c G h0 nL Q C S h (pc + 1) lv (v :: w :: v :: st)) : hj_J p l e R s m args below meth c G h0 nL Q C S h pc lv (v :: w :: st) :=
  fun H locs cells slots ls hP hI hS hz hc hs hl => lv_dup_x1 hC.1 hC.2.1 hd (lc_cat1 hv) (lc_cat1 hw) (kk H locs cells slots ls hP hI hS hz hc hs hl)
theorem hj_dup_x2 (hC : hj_C p s m args meth c G cc nL ret own nm Ts) {v w x : lc_V} (hd : decode cc pc = .ok (.dup_x2, 1)) (hv : lc_two v = false) (hw : lc_two w = false) (hx : lc_two x = false) (kk : hj_J p l e R s m args below meth c G h0 nL Q C S h (pc + 1) lv (v :: w :: x :: v :: st)) : hj_J p l e R s m args below meth c G h0 nL Q C S h pc lv (v :: w :: x :: st) :=
  fun H locs cells slots ls hP hI hS hz hc hs hl => lv_dup_x2 hC.1 hC.2.1 hd (lc_cat1 hv) (lc_cat1 hw) (lc_cat1 hx) (kk H locs cells slots ls hP hI hS hz hc hs hl)
theorem hj_dup2 (hC : hj_C p s m args meth c G cc nL ret own nm Ts) {v w : lc_V} (hd : decode cc pc = .ok (.dup2, 1)) (hv : lc_two v = false) (hw : lc_two w = false) (kk : hj_J p l e R s m args below meth c G h0 nL Q C S h (pc + 1) lv (v :: w :: v :: w :: st)) : hj_J p l e R s m args below meth c G h0 nL Q C S h pc lv (v :: w :: st) :=
  fun H locs cells slots ls hP hI hS hz hc hs hl => lv_dup2_11 hC.1 hC.2.1 hd (lc_cat1 hv) (lc_cat1 hw) (kk H locs cells slots ls hP hI hS hz hc hs hl)
theorem hj_iadd (hC : hj_C p s m args meth c G cc nL ret own nm Ts) {x y : Int32} (hd : decode cc pc = .ok (.iadd, 1)) (kk : hj_J p l e R s m args below meth c G h0 nL Q C S h (pc + 1) lv (vi_ (x + y) :: st)) : hj_J p l e R s m args below meth c G h0 nL Q C S h pc lv (vi_ y :: vi_ x :: st) :=
  fun H locs cells slots ls hP hI hS hz hc hs hl => lv_iadd hC.1 hC.2.1 hd (kk H locs cells slots ls hP hI hS hz hc hs hl)
theorem hj_isub (hC : hj_C p s m args meth c G cc nL ret own nm Ts) {x y : Int32} (hd : decode cc pc = .ok (.isub, 1)) (kk : hj_J p l e R s m args below meth c G h0 nL Q C S h (pc + 1) lv (vi_ (x - y) :: st)) : hj_J p l e R s m args below meth c G h0 nL Q C S h pc lv (vi_ y :: vi_ x :: st) :=
  fun H locs cells slots ls hP hI hS hz hc hs hl => lv_isub hC.1 hC.2.1 hd (kk H locs cells slots ls hP hI hS hz hc hs hl)
theorem hj_imul (hC : hj_C p s m args meth c G cc nL ret own nm Ts) {x y : Int32} (hd : decode cc pc = .ok (.imul, 1)) (kk : hj_J p l e R s m args below meth c G h0 nL Q C S h (pc + 1) lv (vi_ (x * y) :: st)) : hj_J p l e R s m args below meth c G h0 nL Q C S h pc lv (vi_ y :: vi_ x :: st) :=
  fun H locs cells slots ls hP hI hS hz hc hs hl => lv_imul hC.1 hC.2.1 hd (kk H locs cells slots ls hP hI hS hz hc hs hl)
theorem hj_iand (hC : hj_C p s m args meth c G cc nL ret own nm Ts) {x y : Int32} (hd : decode cc pc = .ok (.iand, 1)) (kk : hj_J p l e R s m args below meth c G h0 nL Q C S h (pc + 1) lv (vi_ (x &&& y) :: st)) : hj_J p l e R s m args below meth c G h0 nL Q C S h pc lv (vi_ y :: vi_ x :: st) :=
  fun H locs cells slots ls hP hI hS hz hc hs hl => lv_iand hC.1 hC.2.1 hd (kk H locs cells slots ls hP hI hS hz hc hs hl)
theorem hj_ior (hC : hj_C p s m args meth c G cc nL ret own nm Ts) {x y : Int32} (hd : decode cc pc = .ok (.ior, 1)) (kk : hj_J p l e R s m args below meth c G h0 nL Q C S h (pc + 1) lv (vi_ (x ||| y) :: st)) : hj_J p l e R s m args below meth c G h0 nL Q C S h pc lv (vi_ y :: vi_ x :: st) :=
  fun H locs cells slots ls hP hI hS hz hc hs hl => lv_ior hC.1 hC.2.1 hd (kk H locs cells slots ls hP hI hS hz hc hs hl)
theorem hj_ixor (hC : hj_C p s m args meth c G cc nL ret own nm Ts) {x y : Int32} (hd : decode cc pc = .ok (.ixor, 1)) (kk : hj_J p l e R s m args below meth c G h0 nL Q C S h (pc + 1) lv (vi_ (x ^^^ y) :: st)) : hj_J p l e R s m args below meth c G h0 nL Q C S h pc lv (vi_ y :: vi_ x :: st) :=
  fun H locs cells slots ls hP hI hS hz hc hs hl => lv_ixor hC.1 hC.2.1 hd (kk H locs cells slots ls hP hI hS hz hc hs hl)
theorem hj_ladd (hC : hj_C p s m args meth c G cc nL ret own nm Ts) {x y : Int64} (hd : decode cc pc = .ok (.ladd, 1)) (kk : hj_J p l e R s m args below meth c G h0 nL Q C S h (pc + 1) lv (vl_ (x + y) :: st)) : hj_J p l e R s m args below meth c G h0 nL Q C S h pc lv (vl_ y :: vl_ x :: st) :=
  fun H locs cells slots ls hP hI hS hz hc hs hl => lv_ladd hC.1 hC.2.1 hd (kk H locs cells slots ls hP hI hS hz hc hs hl)
theorem hj_lsub (hC : hj_C p s m args meth c G cc nL ret own nm Ts) {x y : Int64} (hd : decode cc pc = .ok (.lsub, 1)) (kk : hj_J p l e R s m args below meth c G h0 nL Q C S h (pc + 1) lv (vl_ (x - y) :: st)) : hj_J p l e R s m args below meth c G h0 nL Q C S h pc lv (vl_ y :: vl_ x :: st) :=
  fun H locs cells slots ls hP hI hS hz hc hs hl => lv_lsub hC.1 hC.2.1 hd (kk H locs cells slots ls hP hI hS hz hc hs hl)
theorem hj_lmul (hC : hj_C p s m args meth c G cc nL ret own nm Ts) {x y : Int64} (hd : decode cc pc = .ok (.lmul, 1)) (kk : hj_J p l e R s m args below meth c G h0 nL Q C S h (pc + 1) lv (vl_ (x * y) :: st)) : hj_J p l e R s m args below meth c G h0 nL Q C S h pc lv (vl_ y :: vl_ x :: st) :=
  fun H locs cells slots ls hP hI hS hz hc hs hl => lv_lmul hC.1 hC.2.1 hd (kk H locs cells slots ls hP hI hS hz hc hs hl)
theorem hj_land (hC : hj_C p s m args meth c G cc nL ret own nm Ts) {x y : Int64} (hd : decode cc pc = .ok (.land, 1)) (kk : hj_J p l e R s m args below meth c G h0 nL Q C S h (pc + 1) lv (vl_ (x &&& y) :: st)) : hj_J p l e R s m args below meth c G h0 nL Q C S h pc lv (vl_ y :: vl_ x :: st) :=
  fun H locs cells slots ls hP hI hS hz hc hs hl => lv_land hC.1 hC.2.1 hd (kk H locs cells slots ls hP hI hS hz hc hs hl)
theorem hj_lor (hC : hj_C p s m args meth c G cc nL ret own nm Ts) {x y : Int64} (hd : decode cc pc = .ok (.lor, 1)) (kk : hj_J p l e R s m args below meth c G h0 nL Q C S h (pc + 1) lv (vl_ (x ||| y) :: st)) : hj_J p l e R s m args below meth c G h0 nL Q C S h pc lv (vl_ y :: vl_ x :: st) :=
  fun H locs cells slots ls hP hI hS hz hc hs hl => lv_lor hC.1 hC.2.1 hd (kk H locs cells slots ls hP hI hS hz hc hs hl)
theorem hj_lxor (hC : hj_C p s m args meth c G cc nL ret own nm Ts) {x y : Int64} (hd : decode cc pc = .ok (.lxor, 1)) (kk : hj_J p l e R s m args below meth c G h0 nL Q C S h (pc + 1) lv (vl_ (x ^^^ y) :: st)) : hj_J p l e R s m args below meth c G h0 nL Q C S h pc lv (vl_ y :: vl_ x :: st) :=
  fun H locs cells slots ls hP hI hS hz hc hs hl => lv_lxor hC.1 hC.2.1 hd (kk H locs cells slots ls hP hI hS hz hc hs hl)
theorem hj_ineg (hC : hj_C p s m args meth c G cc nL ret own nm Ts) {x : Int32} (hd : decode cc pc = .ok (.ineg, 1)) (kk : hj_J p l e R s m args below meth c G h0 nL Q C S h (pc + 1) lv (vi_ (-x) :: st)) : hj_J p l e R s m args below meth c G h0 nL Q C S h pc lv (vi_ x :: st) :=
  fun H locs cells slots ls hP hI hS hz hc hs hl => lv_ineg hC.1 hC.2.1 hd (kk H locs cells slots ls hP hI hS hz hc hs hl)
theorem hj_ishl (hC : hj_C p s m args meth c G cc nL ret own nm Ts) {x y : Int32} (hd : decode cc pc = .ok (.ishl, 1)) (kk : hj_J p l e R s m args below meth c G h0 nL Q C S h (pc + 1) lv (vi_ (x <<< (y &&& 31)) :: st)) : hj_J p l e R s m args below meth c G h0 nL Q C S h pc lv (vi_ y :: vi_ x :: st) :=
  fun H locs cells slots ls hP hI hS hz hc hs hl => lv_ishl hC.1 hC.2.1 hd (kk H locs cells slots ls hP hI hS hz hc hs hl)
theorem hj_ishr (hC : hj_C p s m args meth c G cc nL ret own nm Ts) {x y : Int32} (hd : decode cc pc = .ok (.ishr, 1)) (kk : hj_J p l e R s m args below meth c G h0 nL Q C S h (pc + 1) lv (vi_ (x >>> (y &&& 31)) :: st)) : hj_J p l e R s m args below meth c G h0 nL Q C S h pc lv (vi_ y :: vi_ x :: st) :=
  fun H locs cells slots ls hP hI hS hz hc hs hl => lv_ishr hC.1 hC.2.1 hd (kk H locs cells slots ls hP hI hS hz hc hs hl)
theorem hj_i2l (hC : hj_C p s m args meth c G cc nL ret own nm Ts) {x : Int32} (hd : decode cc pc = .ok (.i2l, 1)) (kk : hj_J p l e R s m args below meth c G h0 nL Q C S h (pc + 1) lv (vl_ (x.toInt64) :: st)) : hj_J p l e R s m args below meth c G h0 nL Q C S h pc lv (vi_ x :: st) :=
  fun H locs cells slots ls hP hI hS hz hc hs hl => lv_i2l hC.1 hC.2.1 hd rfl (kk H locs cells slots ls hP hI hS hz hc hs hl)
theorem hj_i2b (hC : hj_C p s m args meth c G cc nL ret own nm Ts) {x : Int32} (hd : decode cc pc = .ok (.i2b, 1)) (kk : hj_J p l e R s m args below meth c G h0 nL Q C S h (pc + 1) lv (vi_ (x.toInt8.toInt32) :: st)) : hj_J p l e R s m args below meth c G h0 nL Q C S h pc lv (vi_ x :: st) :=
  fun H locs cells slots ls hP hI hS hz hc hs hl => lv_i2b hC.1 hC.2.1 hd rfl (kk H locs cells slots ls hP hI hS hz hc hs hl)
theorem hj_l2i (hC : hj_C p s m args meth c G cc nL ret own nm Ts) {x : Int64} (hd : decode cc pc = .ok (.l2i, 1)) (kk : hj_J p l e R s m args below meth c G h0 nL Q C S h (pc + 1) lv (vi_ (x.toInt32) :: st)) : hj_J p l e R s m args below meth c G h0 nL Q C S h pc lv (vl_ x :: st) :=
  fun H locs cells slots ls hP hI hS hz hc hs hl => lv_l2i hC.1 hC.2.1 hd rfl (kk H locs cells slots ls hP hI hS hz hc hs hl)
theorem hj_i2c (hC : hj_C p s m args meth c G cc nL ret own nm Ts) {x : Int32} (hd : decode cc pc = .ok (.i2c, 1)) (kk : hj_J p l e R s m args below meth c G h0 nL Q C S h (pc + 1) lv (vi_ ((x.toUInt32 % 65536).toInt32) :: st)) : hj_J p l e R s m args below meth c G h0 nL Q C S h pc lv (vi_ x :: st) :=
  fun H locs cells slots ls hP hI hS hz hc hs hl => lv_i2c hC.1 hC.2.1 hd rfl (kk H locs cells slots ls hP hI hS hz hc hs hl)
theorem hj_i2s (hC : hj_C p s m args meth c G cc nL ret own nm Ts) {x : Int32} (hd : decode cc pc = .ok (.i2s, 1)) (kk : hj_J p l e R s m args below meth c G h0 nL Q C S h (pc + 1) lv (vi_ (x.toInt16.toInt32) :: st)) : hj_J p l e R s m args below meth c G h0 nL Q C S h pc lv (vi_ x :: st) :=
  fun H locs cells slots ls hP hI hS hz hc hs hl => lv_i2s hC.1 hC.2.1 hd rfl (kk H locs cells slots ls hP hI hS hz hc hs hl)
theorem hj_iushr (hC : hj_C p s m args meth c G cc nL ret own nm Ts) {x y : Int32} (hd : decode cc pc = .ok (.iushr, 1)) (kk : hj_J p l e R s m args below meth c G h0 nL Q C S h (pc + 1) lv (vi_ ((x.toUInt32 >>> (y.toUInt32 &&& Int32.toUInt32 31)).toInt32) :: st)) : hj_J p l e R s m args below meth c G h0 nL Q C S h pc lv (vi_ y :: vi_ x :: st) :=
  fun H locs cells slots ls hP hI hS hz hc hs hl => lv_iushr hC.1 hC.2.1 hd rfl (kk H locs cells slots ls hP hI hS hz hc hs hl)
theorem hj_lushr (hC : hj_C p s m args meth c G cc nL ret own nm Ts) {x : Int64} {y : Int32} (hd : decode cc pc = .ok (.lushr, 1)) (kk : hj_J p l e R s m args below meth c G h0 nL Q C S h (pc + 1) lv (vl_ ((x.toUInt64 >>> (y.toInt64.toUInt64 &&& Int64.toUInt64 63)).toInt64) :: st)) : hj_J p l e R s m args below meth c G h0 nL Q C S h pc lv (vi_ y :: vl_ x :: st) :=
  fun H locs cells slots ls hP hI hS hz hc hs hl => lv_lushr hC.1 hC.2.1 hd rfl (kk H locs cells slots ls hP hI hS hz hc hs hl)
theorem hj_lshl (hC : hj_C p s m args meth c G cc nL ret own nm Ts) {x : Int64} {y : Int32} (hd : decode cc pc = .ok (.lshl, 1)) (kk : hj_J p l e R s m args below meth c G h0 nL Q C S h (pc + 1) lv (vl_ (x <<< (y.toInt64 &&& 63)) :: st)) : hj_J p l e R s m args below meth c G h0 nL Q C S h pc lv (vi_ y :: vl_ x :: st) :=
  fun H locs cells slots ls hP hI hS hz hc hs hl => lv_lshl hC.1 hC.2.1 hd rfl (kk H locs cells slots ls hP hI hS hz hc hs hl)
theorem hj_lshr (hC : hj_C p s m args meth c G cc nL ret own nm Ts) {x : Int64} {y : Int32} (hd : decode cc pc = .ok (.lshr, 1)) (kk : hj_J p l e R s m args below meth c G h0 nL Q C S h (pc + 1) lv (vl_ (x >>> (y.toInt64 &&& 63)) :: st)) : hj_J p l e R s m args below meth c G h0 nL Q C S h pc lv (vi_ y :: vl_ x :: st) :=
  fun H locs cells slots ls hP hI hS hz hc hs hl => lv_lshr hC.1 hC.2.1 hd rfl (kk H locs cells slots ls hP hI hS hz hc hs hl)
theorem hj_irem (hC : hj_C p s m args meth c G cc nL ret own nm Ts) {β : Type} {b : β} {x y : Int32} {mm : hM β} (hd : decode cc pc = .ok (.irem, 1)) (hr : hm_ne y mm h = some (b, C, S, h2)) (kk : ¬ y = 0 → mm h = some (b, C, S, h2) → hj_J p l e R s m args below meth c G h0 nL Q C S h (pc + 1) lv (vi_ (x - x / y * y) :: st)) : hj_J p l e R s m args below meth c G h0 nL Q C S h pc lv (vi_ y :: vi_ x :: st) := by
  unfold hm_ne at hr
  by_cases hy : y = 0
  · rw [if_pos hy] at hr; cases hr
  · rw [if_neg hy] at hr
    exact fun H locs cells slots ls hP hI hS hz hc hs hl => lv_irem hC.1 hC.2.1 hd hy (kk hy hr H locs cells slots ls hP hI hS hz hc hs hl)
theorem hj_idiv (hC : hj_C p s m args meth c G cc nL ret own nm Ts) {β : Type} {b : β} {x y : Int32} {mm : hM β} (hd : decode cc pc = .ok (.idiv, 1)) (hr : hm_ne y mm h = some (b, C, S, h2)) (kk : ¬ y = 0 → mm h = some (b, C, S, h2) → hj_J p l e R s m args below meth c G h0 nL Q C S h (pc + 1) lv (vi_ (x / y) :: st)) : hj_J p l e R s m args below meth c G h0 nL Q C S h pc lv (vi_ y :: vi_ x :: st) := by
  unfold hm_ne at hr
  by_cases hy : y = 0
  · rw [if_pos hy] at hr; cases hr
  · rw [if_neg hy] at hr
    exact fun H locs cells slots ls hP hI hS hz hc hs hl => lv_idiv hC.1 hC.2.1 hd hy (kk hy hr H locs cells slots ls hP hI hS hz hc hs hl)
theorem hj_if_eq (hC : hj_C p s m args meth c G cc nL ret own nm Ts) {β : Type} {b : β} {x : Int32} {mA mB : hM β} {off : Int} (tgt : Nat) (hd : decode cc pc = .ok (.ifCond .eq off, 3)) (ht : (pc : Int) + off = (tgt : Int)) (hr : (if x = 0 then mA else mB) h = some (b, C, S, h2)) (kt : x = 0 → mA h = some (b, C, S, h2) → hj_J p l e R s m args below meth c G h0 nL Q C S h tgt lv st) (kf : ¬ (x = 0) → mB h = some (b, C, S, h2) → hj_J p l e R s m args below meth c G h0 nL Q C S h (pc + 3) lv st) : hj_J p l e R s m args below meth c G h0 nL Q C S h pc lv (vi_ x :: st) := by
  intro H locs cells slots ls hP hI hS hz hc hs hl
  refine lv_if_eq (tgt := tgt) hC.1 hC.2.1 hd ht (fun q => ?_) (fun q => ?_)
  · exact kt q (by rw [if_pos q] at hr; exact hr) H locs cells slots ls hP hI hS hz hc hs hl
  · exact kf q (by rw [if_neg q] at hr; exact hr) H locs cells slots ls hP hI hS hz hc hs hl
theorem hj_icmp_eq (hC : hj_C p s m args meth c G cc nL ret own nm Ts) {β : Type} {b : β} {x y : Int32} {mA mB : hM β} {off : Int} (tgt : Nat) (hd : decode cc pc = .ok (.if_icmp .eq off, 3)) (ht : (pc : Int) + off = (tgt : Int)) (hr : (if x = y then mA else mB) h = some (b, C, S, h2)) (kt : x = y → mA h = some (b, C, S, h2) → hj_J p l e R s m args below meth c G h0 nL Q C S h tgt lv st) (kf : ¬ (x = y) → mB h = some (b, C, S, h2) → hj_J p l e R s m args below meth c G h0 nL Q C S h (pc + 3) lv st) : hj_J p l e R s m args below meth c G h0 nL Q C S h pc lv (vi_ y :: vi_ x :: st) := by
  intro H locs cells slots ls hP hI hS hz hc hs hl
  refine lv_icmp_eq (tgt := tgt) hC.1 hC.2.1 hd ht (fun q => ?_) (fun q => ?_)
  · exact kt q (by rw [if_pos q] at hr; exact hr) H locs cells slots ls hP hI hS hz hc hs hl
  · exact kf q (by rw [if_neg q] at hr; exact hr) H locs cells slots ls hP hI hS hz hc hs hl
theorem hj_if_lt (hC : hj_C p s m args meth c G cc nL ret own nm Ts) {β : Type} {b : β} {x : Int32} {mA mB : hM β} {off : Int} (tgt : Nat) (hd : decode cc pc = .ok (.ifCond .lt off, 3)) (ht : (pc : Int) + off = (tgt : Int)) (hr : (if x < 0 then mA else mB) h = some (b, C, S, h2)) (kt : x < 0 → mA h = some (b, C, S, h2) → hj_J p l e R s m args below meth c G h0 nL Q C S h tgt lv st) (kf : ¬ (x < 0) → mB h = some (b, C, S, h2) → hj_J p l e R s m args below meth c G h0 nL Q C S h (pc + 3) lv st) : hj_J p l e R s m args below meth c G h0 nL Q C S h pc lv (vi_ x :: st) := by
  intro H locs cells slots ls hP hI hS hz hc hs hl
  refine lv_if_lt (tgt := tgt) hC.1 hC.2.1 hd ht (fun q => ?_) (fun q => ?_)
  · exact kt q (by rw [if_pos q] at hr; exact hr) H locs cells slots ls hP hI hS hz hc hs hl
  · exact kf q (by rw [if_neg q] at hr; exact hr) H locs cells slots ls hP hI hS hz hc hs hl
theorem hj_icmp_lt (hC : hj_C p s m args meth c G cc nL ret own nm Ts) {β : Type} {b : β} {x y : Int32} {mA mB : hM β} {off : Int} (tgt : Nat) (hd : decode cc pc = .ok (.if_icmp .lt off, 3)) (ht : (pc : Int) + off = (tgt : Int)) (hr : (if x < y then mA else mB) h = some (b, C, S, h2)) (kt : x < y → mA h = some (b, C, S, h2) → hj_J p l e R s m args below meth c G h0 nL Q C S h tgt lv st) (kf : ¬ (x < y) → mB h = some (b, C, S, h2) → hj_J p l e R s m args below meth c G h0 nL Q C S h (pc + 3) lv st) : hj_J p l e R s m args below meth c G h0 nL Q C S h pc lv (vi_ y :: vi_ x :: st) := by
  intro H locs cells slots ls hP hI hS hz hc hs hl
  refine lv_icmp_lt (tgt := tgt) hC.1 hC.2.1 hd ht (fun q => ?_) (fun q => ?_)
  · exact kt q (by rw [if_pos q] at hr; exact hr) H locs cells slots ls hP hI hS hz hc hs hl
  · exact kf q (by rw [if_neg q] at hr; exact hr) H locs cells slots ls hP hI hS hz hc hs hl
theorem hj_if_ge (hC : hj_C p s m args meth c G cc nL ret own nm Ts) {β : Type} {b : β} {x : Int32} {mA mB : hM β} {off : Int} (tgt : Nat) (hd : decode cc pc = .ok (.ifCond .ge off, 3)) (ht : (pc : Int) + off = (tgt : Int)) (hr : (if 0 ≤ x then mA else mB) h = some (b, C, S, h2)) (kt : 0 ≤ x → mA h = some (b, C, S, h2) → hj_J p l e R s m args below meth c G h0 nL Q C S h tgt lv st) (kf : ¬ (0 ≤ x) → mB h = some (b, C, S, h2) → hj_J p l e R s m args below meth c G h0 nL Q C S h (pc + 3) lv st) : hj_J p l e R s m args below meth c G h0 nL Q C S h pc lv (vi_ x :: st) := by
  intro H locs cells slots ls hP hI hS hz hc hs hl
  refine lv_if_ge (tgt := tgt) hC.1 hC.2.1 hd ht (fun q => ?_) (fun q => ?_)
  · exact kt q (by rw [if_pos q] at hr; exact hr) H locs cells slots ls hP hI hS hz hc hs hl
  · exact kf q (by rw [if_neg q] at hr; exact hr) H locs cells slots ls hP hI hS hz hc hs hl
theorem hj_icmp_ge (hC : hj_C p s m args meth c G cc nL ret own nm Ts) {β : Type} {b : β} {x y : Int32} {mA mB : hM β} {off : Int} (tgt : Nat) (hd : decode cc pc = .ok (.if_icmp .ge off, 3)) (ht : (pc : Int) + off = (tgt : Int)) (hr : (if y ≤ x then mA else mB) h = some (b, C, S, h2)) (kt : y ≤ x → mA h = some (b, C, S, h2) → hj_J p l e R s m args below meth c G h0 nL Q C S h tgt lv st) (kf : ¬ (y ≤ x) → mB h = some (b, C, S, h2) → hj_J p l e R s m args below meth c G h0 nL Q C S h (pc + 3) lv st) : hj_J p l e R s m args below meth c G h0 nL Q C S h pc lv (vi_ y :: vi_ x :: st) := by
  intro H locs cells slots ls hP hI hS hz hc hs hl
  refine lv_icmp_ge (tgt := tgt) hC.1 hC.2.1 hd ht (fun q => ?_) (fun q => ?_)
  · exact kt q (by rw [if_pos q] at hr; exact hr) H locs cells slots ls hP hI hS hz hc hs hl
  · exact kf q (by rw [if_neg q] at hr; exact hr) H locs cells slots ls hP hI hS hz hc hs hl
theorem hj_if_gt (hC : hj_C p s m args meth c G cc nL ret own nm Ts) {β : Type} {b : β} {x : Int32} {mA mB : hM β} {off : Int} (tgt : Nat) (hd : decode cc pc = .ok (.ifCond .gt off, 3)) (ht : (pc : Int) + off = (tgt : Int)) (hr : (if 0 < x then mA else mB) h = some (b, C, S, h2)) (kt : 0 < x → mA h = some (b, C, S, h2) → hj_J p l e R s m args below meth c G h0 nL Q C S h tgt lv st) (kf : ¬ (0 < x) → mB h = some (b, C, S, h2) → hj_J p l e R s m args below meth c G h0 nL Q C S h (pc + 3) lv st) : hj_J p l e R s m args below meth c G h0 nL Q C S h pc lv (vi_ x :: st) := by
  intro H locs cells slots ls hP hI hS hz hc hs hl
  refine lv_if_gt (tgt := tgt) hC.1 hC.2.1 hd ht (fun q => ?_) (fun q => ?_)
  · exact kt q (by rw [if_pos q] at hr; exact hr) H locs cells slots ls hP hI hS hz hc hs hl
  · exact kf q (by rw [if_neg q] at hr; exact hr) H locs cells slots ls hP hI hS hz hc hs hl
theorem hj_icmp_gt (hC : hj_C p s m args meth c G cc nL ret own nm Ts) {β : Type} {b : β} {x y : Int32} {mA mB : hM β} {off : Int} (tgt : Nat) (hd : decode cc pc = .ok (.if_icmp .gt off, 3)) (ht : (pc : Int) + off = (tgt : Int)) (hr : (if y < x then mA else mB) h = some (b, C, S, h2)) (kt : y < x → mA h = some (b, C, S, h2) → hj_J p l e R s m args below meth c G h0 nL Q C S h tgt lv st) (kf : ¬ (y < x) → mB h = some (b, C, S, h2) → hj_J p l e R s m args below meth c G h0 nL Q C S h (pc + 3) lv st) : hj_J p l e R s m args below meth c G h0 nL Q C S h pc lv (vi_ y :: vi_ x :: st) := by
  intro H locs cells slots ls hP hI hS hz hc hs hl
  refine lv_icmp_gt (tgt := tgt) hC.1 hC.2.1 hd ht (fun q => ?_) (fun q => ?_)
  · exact kt q (by rw [if_pos q] at hr; exact hr) H locs cells slots ls hP hI hS hz hc hs hl
  · exact kf q (by rw [if_neg q] at hr; exact hr) H locs cells slots ls hP hI hS hz hc hs hl
theorem hj_if_le (hC : hj_C p s m args meth c G cc nL ret own nm Ts) {β : Type} {b : β} {x : Int32} {mA mB : hM β} {off : Int} (tgt : Nat) (hd : decode cc pc = .ok (.ifCond .le off, 3)) (ht : (pc : Int) + off = (tgt : Int)) (hr : (if x ≤ 0 then mA else mB) h = some (b, C, S, h2)) (kt : x ≤ 0 → mA h = some (b, C, S, h2) → hj_J p l e R s m args below meth c G h0 nL Q C S h tgt lv st) (kf : ¬ (x ≤ 0) → mB h = some (b, C, S, h2) → hj_J p l e R s m args below meth c G h0 nL Q C S h (pc + 3) lv st) : hj_J p l e R s m args below meth c G h0 nL Q C S h pc lv (vi_ x :: st) := by
  intro H locs cells slots ls hP hI hS hz hc hs hl
  refine lv_if_le (tgt := tgt) hC.1 hC.2.1 hd ht (fun q => ?_) (fun q => ?_)
  · exact kt q (by rw [if_pos q] at hr; exact hr) H locs cells slots ls hP hI hS hz hc hs hl
  · exact kf q (by rw [if_neg q] at hr; exact hr) H locs cells slots ls hP hI hS hz hc hs hl
theorem hj_icmp_le (hC : hj_C p s m args meth c G cc nL ret own nm Ts) {β : Type} {b : β} {x y : Int32} {mA mB : hM β} {off : Int} (tgt : Nat) (hd : decode cc pc = .ok (.if_icmp .le off, 3)) (ht : (pc : Int) + off = (tgt : Int)) (hr : (if x ≤ y then mA else mB) h = some (b, C, S, h2)) (kt : x ≤ y → mA h = some (b, C, S, h2) → hj_J p l e R s m args below meth c G h0 nL Q C S h tgt lv st) (kf : ¬ (x ≤ y) → mB h = some (b, C, S, h2) → hj_J p l e R s m args below meth c G h0 nL Q C S h (pc + 3) lv st) : hj_J p l e R s m args below meth c G h0 nL Q C S h pc lv (vi_ y :: vi_ x :: st) := by
  intro H locs cells slots ls hP hI hS hz hc hs hl
  refine lv_icmp_le (tgt := tgt) hC.1 hC.2.1 hd ht (fun q => ?_) (fun q => ?_)
  · exact kt q (by rw [if_pos q] at hr; exact hr) H locs cells slots ls hP hI hS hz hc hs hl
  · exact kf q (by rw [if_neg q] at hr; exact hr) H locs cells slots ls hP hI hS hz hc hs hl
theorem hj_goto (hC : hj_C p s m args meth c G cc nL ret own nm Ts) {off : Int} (tgt : Nat) (hd : decode cc pc = .ok (.goto off, 3)) (ht : (pc : Int) + off = (tgt : Int)) (kk : hj_J p l e R s m args below meth c G h0 nL Q C S h tgt lv st) : hj_J p l e R s m args below meth c G h0 nL Q C S h pc lv st :=
  fun H locs cells slots ls hP hI hS hz hc hs hl => lv_goto (tgt := tgt) hC.1 hC.2.1 hd ht (kk H locs cells slots ls hP hI hS hz hc hs hl)
theorem hj_ifnull (hC : hj_C p s m args meth c G cc nL ret own nm Ts) {β : Type} {b : β} {r : Option Nat} {mA mB : hM β} {off : Int} (tgt : Nat) (hd : decode cc pc = .ok (.ifnull off, 3)) (ht : (pc : Int) + off = (tgt : Int)) (hr : (if r = none then mA else mB) h = some (b, C, S, h2)) (kt : r = none → mA h = some (b, C, S, h2) → hj_J p l e R s m args below meth c G h0 nL Q C S h tgt lv st) (kf : ¬ (r = none) → mB h = some (b, C, S, h2) → hj_J p l e R s m args below meth c G h0 nL Q C S h (pc + 3) lv st) : hj_J p l e R s m args below meth c G h0 nL Q C S h pc lv (vr_ r :: st) := by
  intro H locs cells slots ls hP hI hS hz hc hs hl
  cases r with
  | none => exact lv_ifnullN (tgt := tgt) hC.1 hC.2.1 hd ht (kt rfl (by rw [if_pos rfl] at hr; exact hr) H locs cells slots ls hP hI hS hz hc hs hl)
  | some a => exact lv_ifnull hC.1 hC.2.1 hd (kf (fun q => by cases q) (by rw [if_neg (fun q => by cases q)] at hr; exact hr) H locs cells slots ls hP hI hS hz hc hs hl)
theorem hj_tableIn (hC : hj_C p s m args meth c G cc nL ret own nm Ts) {dflt lo hi off : Int} {offs : Array Int} {len : Nat} {x : Int32} (tgt : Nat) (hd : decode cc pc = .ok (.tableswitch dflt lo hi offs, len)) (hb1 : ¬ x.toInt < lo) (hb2 : ¬ hi < x.toInt) (ho : offs[(x.toInt - lo).toNat]? = some off) (ht : (pc : Int) + off = (tgt : Int)) (kk : hj_J p l e R s m args below meth c G h0 nL Q C S h tgt lv st) : hj_J p l e R s m args below meth c G h0 nL Q C S h pc lv (vi_ x :: st) :=
  fun H locs cells slots ls hP hI hS hz hc hs hl => lv_tableIn (tgt := tgt) hC.1 hC.2.1 hd hb1 hb2 ho ht (kk H locs cells slots ls hP hI hS hz hc hs hl)
theorem hj_tableOut (hC : hj_C p s m args meth c G cc nL ret own nm Ts) {dflt lo hi : Int} {offs : Array Int} {len : Nat} {x : Int32} (tgt : Nat) (hd : decode cc pc = .ok (.tableswitch dflt lo hi offs, len)) (hlt : x.toInt < lo ∨ hi < x.toInt) (ht : (pc : Int) + dflt = (tgt : Int)) (kk : hj_J p l e R s m args below meth c G h0 nL Q C S h tgt lv st) : hj_J p l e R s m args below meth c G h0 nL Q C S h pc lv (vi_ x :: st) :=
  fun H locs cells slots ls hP hI hS hz hc hs hl => lv_tableOut (tgt := tgt) hC.1 hC.2.1 hd hlt ht (kk H locs cells slots ls hP hI hS hz hc hs hl)
theorem hj_lookup (hC : hj_C p s m args meth c G cc nL ret own nm Ts) {dflt off : Int} {ps : Array (Int × Int)} {len : Nat} {x : Int32} (tgt : Nat) (hd : decode cc pc = .ok (.lookupswitch dflt ps, len)) (hp : (ps.toList.zip (ps.toList.drop 1)).all (fun (a, next) => a.1 < next.1) = true) (ho : Op.lookupswitch.offset ps.toList dflt x.toInt = off) (ht : (pc : Int) + off = (tgt : Int)) (kk : hj_J p l e R s m args below meth c G h0 nL Q C S h tgt lv st) : hj_J p l e R s m args below meth c G h0 nL Q C S h pc lv (vi_ x :: st) :=
  fun H locs cells slots ls hP hI hS hz hc hs hl => lv_lookup (tgt := tgt) hC.1 hC.2.1 hd hp ho ht (kk H locs cells slots ls hP hI hS hz hc hs hl)
theorem hj_if_ne (hC : hj_C p s m args meth c G cc nL ret own nm Ts) {β : Type} {b : β} {x : Int32} {mA mB : hM β} {off : Int} (tgt : Nat) (hd : decode cc pc = .ok (.ifCond .ne off, 3)) (ht : (pc : Int) + off = (tgt : Int)) (hr : (if x = 0 then mB else mA) h = some (b, C, S, h2)) (kt : ¬ x = 0 → mA h = some (b, C, S, h2) → hj_J p l e R s m args below meth c G h0 nL Q C S h tgt lv st) (kf : x = 0 → mB h = some (b, C, S, h2) → hj_J p l e R s m args below meth c G h0 nL Q C S h (pc + 3) lv st) : hj_J p l e R s m args below meth c G h0 nL Q C S h pc lv (vi_ x :: st) := by
  intro H locs cells slots ls hP hI hS hz hc hs hl
  refine lv_if_ne (tgt := tgt) hC.1 hC.2.1 hd ht (fun q => ?_) (fun q => ?_)
  · exact kt q (by rw [if_neg q] at hr; exact hr) H locs cells slots ls hP hI hS hz hc hs hl
  · exact kf q (by rw [if_pos q] at hr; exact hr) H locs cells slots ls hP hI hS hz hc hs hl
theorem hj_icmp_ne (hC : hj_C p s m args meth c G cc nL ret own nm Ts) {β : Type} {b : β} {x y : Int32} {mA mB : hM β} {off : Int} (tgt : Nat) (hd : decode cc pc = .ok (.if_icmp .ne off, 3)) (ht : (pc : Int) + off = (tgt : Int)) (hr : (if x = y then mB else mA) h = some (b, C, S, h2)) (kt : ¬ x = y → mA h = some (b, C, S, h2) → hj_J p l e R s m args below meth c G h0 nL Q C S h tgt lv st) (kf : x = y → mB h = some (b, C, S, h2) → hj_J p l e R s m args below meth c G h0 nL Q C S h (pc + 3) lv st) : hj_J p l e R s m args below meth c G h0 nL Q C S h pc lv (vi_ y :: vi_ x :: st) := by
  intro H locs cells slots ls hP hI hS hz hc hs hl
  refine lv_icmp_ne (tgt := tgt) hC.1 hC.2.1 hd ht (fun q => ?_) (fun q => ?_)
  · exact kt q (by rw [if_neg q] at hr; exact hr) H locs cells slots ls hP hI hS hz hc hs hl
  · exact kf q (by rw [if_pos q] at hr; exact hr) H locs cells slots ls hP hI hS hz hc hs hl
theorem hj_ifnonnull (hC : hj_C p s m args meth c G cc nL ret own nm Ts) {β : Type} {b : β} {r : Option Nat} {mA mB : hM β} {off : Int} (tgt : Nat) (hd : decode cc pc = .ok (.ifnonnull off, 3)) (ht : (pc : Int) + off = (tgt : Int)) (hr : (if r = none then mB else mA) h = some (b, C, S, h2)) (kt : ¬ r = none → mA h = some (b, C, S, h2) → hj_J p l e R s m args below meth c G h0 nL Q C S h tgt lv st) (kf : r = none → mB h = some (b, C, S, h2) → hj_J p l e R s m args below meth c G h0 nL Q C S h (pc + 3) lv st) : hj_J p l e R s m args below meth c G h0 nL Q C S h pc lv (vr_ r :: st) := by
  intro H locs cells slots ls hP hI hS hz hc hs hl
  cases r with
  | none => exact lv_ifnonnullN hC.1 hC.2.1 hd (kf rfl (by rw [if_pos rfl] at hr; exact hr) H locs cells slots ls hP hI hS hz hc hs hl)
  | some a => exact lv_ifnonnull (tgt := tgt) hC.1 hC.2.1 hd ht (kt (fun q => by cases q) (by rw [if_neg (fun q => by cases q)] at hr; exact hr) H locs cells slots ls hP hI hS hz hc hs hl)
theorem hj_jn (_hC : hj_C p s m args meth c G cc nL ret own nm Ts) {β : Type} {b : β} {K : Type} {kd : K} {f : K → hM β} (P : K → Prop) (hr : hm_jn kd f h = some (b, C, S, h2)) (hP : P kd) (kk : ∀ k, P k → f k h = some (b, C, S, h2) → hj_J p l e R s m args below meth c G h0 nL Q C S h pc lv st) : hj_J p l e R s m args below meth c G h0 nL Q C S h pc lv st := kk kd hP hr
-- heap rows
theorem hj_one {D : va_G} {cl : List vw_C} {x : Nat × va_E} {H : Heap} (hx : va_at D cl x H) : va_P D cl [x] H := by
  intro j q hq
  have hj : j < 1 := (List.getElem?_eq_some_iff.mp hq).1
  rw [show j = 0 by omega] at hq
  cases hq
  exact hx
theorem hj_K (hC : hj_C p s m args meth c G cc nL ret own nm Ts) : va_K G.1 G.2.2.1 [] s := ⟨hC.2.2.2.2.2.2.2.2.1, fun k q hk => by simp at hk⟩
theorem hj_Kt (hC : hj_C p s m args meth c G cc nL ret own nm Ts) {kd : Nat} {ty : FieldType} (hk : G.2.2.2.1[kd]? = some ty) : va_K G.1 G.2.2.1 [(G.2.1 kd, ty)] s := by
  refine ⟨hC.2.2.2.2.2.2.2.2.1, fun j q hq => ?_⟩
  have hj : j < 1 := (List.getElem?_eq_some_iff.mp hq).1
  rw [show j = 0 by omega] at hq
  cases hq
  exact hC.2.2.2.2.2.2.2.2.2.1 kd ty hk
theorem hj_rd (hC : hj_C p s m args meth c G cc nL ret own nm Ts) {ci k N index a : Nat} {Cn ref : String} {T : u_T} {ty : Nat → FieldType} (hcl : hc_cls Ts G.2.2.1 ci Cn T N ty) (hk : k < N) (hw : Cond.fieldLink own index ref (T k).2.1 (T k).2.2.1 ∈ Ts) (href : (T k).1 = ref) (hd : decode cc pc = .ok (.getfield index, 3)) {fs : List lc_V} {v : lc_V} (ha : h.2.2.2 ci a = some fs) (hv : fs[k]? = some v) (kk : hj_J p l e R s m args below meth c G h0 nL Q C S h (pc + 3) lv (v :: st)) : hj_J p l e R s m args below meth c G h0 nL Q C S h pc lv (vr_ (some a) :: st) :=
  fun H locs cells slots ls hP hI hS hz hc hs hl => va_get (D := G.1) (cl := G.2.2.1) (tys := []) (ws := [(a, .inr (ci, fs.map lc_val))]) hC.1 hC.2.1 hC.2.2.2.2.2.2.2.1 hcl.2.1 hC.2.2.2.2.2.2.1 (hj_K hC) (hj_one (hP.2.1 a (.inr (.inr (ci, fs))) ha).1) 0 rfl hcl.1 k hk (hC.2.2.2.2.2.2.2.1 _ hw) (fun x hx => by rw [← href]; exact hx) (by rw [List.getElem?_map, hv]; rfl) hd (kk H locs cells slots ls hP hI hS hz hc hs hl)
theorem hj_geti (hC : hj_C p s m args meth c G cc nL ret own nm Ts) {β : Type} {b : β} {ci k N index : Nat} {Cn ref : String} {T : u_T} {ty : Nat → FieldType} {r : Option Nat} {kont : Int32 → hM β} (hcl : hc_cls Ts G.2.2.1 ci Cn T N ty) (hk : k < N) (hw : Cond.fieldLink own index ref (T k).2.1 (T k).2.2.1 ∈ Ts) (href : (T k).1 = ref) (hd : decode cc pc = .ok (.getfield index, 3)) (hr : hm_bind (hm_geti ci k r) kont h = some (b, C, S, h2)) (kk : ∀ v, kont v h = some (b, C, S, h2) → hj_J p l e R s m args below meth c G h0 nL Q C S h (pc + 3) lv (vi_ v :: st)) : hj_J p l e R s m args below meth c G h0 nL Q C S h pc lv (vr_ r :: st) := by
  obtain ⟨v, c1, s1, h1, c2, s2, hm, hk2, rfl, rfl⟩ := hm_bind_inv hr
  unfold hm_geti at hm
  split at hm
  · next w hw2 =>
    cases hm
    obtain ⟨a, fs, rfl, ha, hv⟩ := hc_fld_inv hw2
    simp only [Nat.zero_add] at kk ⊢
    exact hj_rd hC hcl hk hw href hd ha hv (kk _ hk2)
  · cases hm
theorem hj_getr (hC : hj_C p s m args meth c G cc nL ret own nm Ts) {β : Type} {b : β} {ci k N index : Nat} {Cn ref : String} {T : u_T} {ty : Nat → FieldType} {r : Option Nat} {kont : Option Nat → hM β} (hcl : hc_cls Ts G.2.2.1 ci Cn T N ty) (hk : k < N) (hw : Cond.fieldLink own index ref (T k).2.1 (T k).2.2.1 ∈ Ts) (href : (T k).1 = ref) (hd : decode cc pc = .ok (.getfield index, 3)) (hr : hm_bind (hm_getr ci k r) kont h = some (b, C, S, h2)) (kk : ∀ v, kont v h = some (b, C, S, h2) → hj_J p l e R s m args below meth c G h0 nL Q C S h (pc + 3) lv (vr_ v :: st)) : hj_J p l e R s m args below meth c G h0 nL Q C S h pc lv (vr_ r :: st) := by
  obtain ⟨v, c1, s1, h1, c2, s2, hm, hk2, rfl, rfl⟩ := hm_bind_inv hr
  unfold hm_getr at hm
  split at hm
  · next w hw2 =>
    cases hm
    obtain ⟨a, fs, rfl, ha, hv⟩ := hc_fld_inv hw2
    simp only [Nat.zero_add] at kk ⊢
    exact hj_rd hC hcl hk hw href hd ha hv (kk _ hk2)
  · cases hm
theorem hj_wr (hC : hj_C p s m args meth c G cc nL ret own nm Ts) {ci k N index a : Nat} {Cn ref : String} {T : u_T} {ty : Nat → FieldType} (hcl : hc_cls Ts G.2.2.1 ci Cn T N ty) (hk : k < N) (hw : Cond.fieldLink own index ref (T k).2.1 (T k).2.2.1 ∈ Ts) (href : (T k).1 = ref) (hfin : (T k).2.2.2 = false ∨ ((T k).2.2.2 = true ∧ nm = "<init>" ∧ (T k).1 = own)) {w : lc_V} (hn : narrow (ty k) (lc_val w) = lc_val w) (hfit : fits (ty k) (lc_val w) = true) (hd : decode cc pc = .ok (.putfield index, 3)) {fs : List lc_V} (ha : h.2.2.2 ci a = some fs) (hlen : k < fs.length) (kk : hj_J p l e R s m args below meth c G h0 nL Q C S (hc_up h a (.inr (.inr (ci, fs.set k w)))) (pc + 3) lv st) : hj_J p l e R s m args below meth c G h0 nL Q C S h pc lv (w :: vr_ (some a) :: st) := by
  intro H locs cells slots ls hP hI hS hz hc hs hl
  have hK := hj_K hC
  obtain ⟨hcc, hin, hty, hnm⟩ := hcl
  have hts := hC.2.2.2.2.2.2.2.1
  have hown := hC.2.2.2.2.2.2.1
  have hap := va_apart (own := own) hts hin ty hty hnm hK hcc
  have ha' : hc_has h a (.inr (.inr (ci, fs))) := ha
  obtain ⟨⟨r, hr1, cell, q1, q2, q3, q4⟩, -⟩ := hP.2.1 a _ ha'
  have hr : r = (Cn, T, N) := Option.some.inj (hr1.symm.trans hcc)
  subst hr
  obtain ⟨hSl, hfc, kC, hkC, hkind⟩ := hK.1 ci _ hcc
  obtain ⟨cf, kf, fi, f, hi, hsl⟩ := hSl k hk
  have hi2 : s.fieldFound? ref (T k).2.1 (T k).2.2.1 = some (cf, kf, fi, f) := by rw [← href]; exact hi
  have hst := (u_facts hfc hkC (u_lays hts hin hk) hi).1
  have fin : ∀ H' : Heap, H'[a]? = some (cell.setSlot f.slot (lc_val w)) → H'.size = H.size → (∀ q, q ≠ a → H'[q]? = H[q]?) → W p l e R s m args below meth c H' (locs ++ [⟨a, f.slot⟩]) cells slots Q (F0 m (pc + 3) ls (st.map lc_val)) := by
    intro H' e1 e2 e3
    rw [hsl] at e1 ⊢
    refine kk H' _ cells slots ls (hP.set ha' rfl ?_ trivial e2 e3) (hI.set ha') (hS.put e2 e3 (hI a _ ha')) hz hc hs hl
    refine ⟨_, hcc, ?_⟩
    rw [List.map_set]
    exact t_OB.to (V := updV (vp_V (fs.map lc_val)) k (lc_val w)) ⟨_, e1, q2, q3, t_set q4 hap hk (lc_val w)⟩ (fun j _ => vp_updV_set (by rw [List.length_map]; exact hlen) (lc_val w) j)
  rcases hfin with hfin | ⟨hfin, hnm2, hown2⟩
  · have hlay := hts _ (hin _ (u_in_lay hk))
    unfold u_lay at hlay
    rw [if_neg (by rw [hfin]; decide)] at hlay
    have h6 := u_store hfc hkC hkind hlay hi (hty k hk) hn hfit
    exact W.putK hC.1 hC.2.1 (f := f) ⟨hown, hts _ hw, ⟨_, _, _, hi2⟩, hst⟩ (by rw [q2]; exact h6) q1 q3 (by rw [hsl]; exact k2_hasslot (q4 k hk)) rfl rfl hd fin
  · have hlay := hts _ (hin _ (u_in_lay hk))
    unfold u_lay at hlay
    rw [if_pos hfin] at hlay
    have hcf : m.cls = cf := by
      obtain ⟨_, _, c', _, _, _, -, -, hf', -, -, -, hown3, -⟩ := Cond.laysFinal_spec hlay
      have e1 : c' = cf := by have := hi.symm.trans hf'; simp at this; exact this.1.symm
      rw [hown2] at hown3
      rw [← e1]; exact Option.some.inj (hown.symm.trans hown3)
    have h6 := u_fits hfc hkC hkind (Or.inr hlay) hi (hty k hk) hn hfit
    exact W.putFinK hC.1 hC.2.1 hown (hts _ hw) hi2 hst hcf (hC.2.2.2.2.2.1.trans hnm2) (by rw [q2]; exact h6) q1 q3 (by rw [hsl]; exact k2_hasslot (q4 k hk)) rfl rfl hd fin
theorem hj_put (hC : hj_C p s m args meth c G cc nL ret own nm Ts) {β : Type} {b : β} {ci k N index : Nat} {Cn ref : String} {T : u_T} {ty : Nat → FieldType} {r : Option Nat} {w : lc_V} {kont : Unit → hM β} (hcl : hc_cls Ts G.2.2.1 ci Cn T N ty) (hk : k < N) (hw : Cond.fieldLink own index ref (T k).2.1 (T k).2.2.1 ∈ Ts) (href : (T k).1 = ref) (hfin : (T k).2.2.2 = false ∨ ((T k).2.2.2 = true ∧ nm = "<init>" ∧ (T k).1 = own)) (hn : narrow (ty k) (lc_val w) = lc_val w) (hfit : fits (ty k) (lc_val w) = true) (hd : decode cc pc = .ok (.putfield index, 3)) (hr : hm_bind (hm_put ci k r w) kont h = some (b, C, S, h2)) (kk : ∀ h', kont () h' = some (b, C, S, h2) → hj_J p l e R s m args below meth c G h0 nL Q C S h' (pc + 3) lv st) : hj_J p l e R s m args below meth c G h0 nL Q C S h pc lv (w :: vr_ r :: st) := by
  obtain ⟨⟨⟩, c1, s1, h1, c2, s2, hm, hk2, rfl, rfl⟩ := hm_bind_inv hr
  obtain ⟨a, fs, rfl, ha, hlen, rfl, rfl, rfl⟩ := hm_put_inv hm
  simp only [Nat.zero_add] at kk ⊢
  exact hj_wr hC hcl hk hw href hfin hn hfit hd ha hlen (kk _ hk2)
theorem hj_puti (hC : hj_C p s m args meth c G cc nL ret own nm Ts) {β : Type} {b : β} {ci k N index : Nat} {Cn ref : String} {T : u_T} {ty : Nat → FieldType} {r : Option Nat} {x : Int32} {kont : Unit → hM β} (hcl : hc_cls Ts G.2.2.1 ci Cn T N ty) (hk : k < N) (hw : Cond.fieldLink own index ref (T k).2.1 (T k).2.2.1 ∈ Ts) (href : (T k).1 = ref) (hfin : (T k).2.2.2 = false ∨ ((T k).2.2.2 = true ∧ nm = "<init>" ∧ (T k).1 = own)) (hty : ty k = .int) (hd : decode cc pc = .ok (.putfield index, 3)) (hr : hm_bind (hm_puti ci k r x) kont h = some (b, C, S, h2)) (kk : ∀ h', kont () h' = some (b, C, S, h2) → hj_J p l e R s m args below meth c G h0 nL Q C S h' (pc + 3) lv st) : hj_J p l e R s m args below meth c G h0 nL Q C S h pc lv (vi_ x :: vr_ r :: st) :=
  hj_put hC hcl hk hw href hfin (by rw [hty]; rfl) (by rw [hty]; rfl) hd hr kk
theorem hj_putz (hC : hj_C p s m args meth c G cc nL ret own nm Ts) {β : Type} {b : β} {ci k N index : Nat} {Cn ref : String} {T : u_T} {ty : Nat → FieldType} {r : Option Nat} {x : Int32} {kont : Unit → hM β} (hcl : hc_cls Ts G.2.2.1 ci Cn T N ty) (hk : k < N) (hw : Cond.fieldLink own index ref (T k).2.1 (T k).2.2.1 ∈ Ts) (href : (T k).1 = ref) (hfin : (T k).2.2.2 = false ∨ ((T k).2.2.2 = true ∧ nm = "<init>" ∧ (T k).1 = own)) (hty : ty k = .boolean) (hd : decode cc pc = .ok (.putfield index, 3)) (hr : hm_bind (hm_putz ci k r x) kont h = some (b, C, S, h2)) (kk : ∀ h', kont () h' = some (b, C, S, h2) → hj_J p l e R s m args below meth c G h0 nL Q C S h' (pc + 3) lv st) : hj_J p l e R s m args below meth c G h0 nL Q C S h pc lv (vi_ x :: vr_ r :: st) := by
  unfold hm_putz at hr
  by_cases hx : x = 0 ∨ x = 1
  · rw [if_pos hx] at hr
    refine hj_put hC hcl hk hw href hfin ?_ ?_ hd hr kk
    · rw [hty]; rcases hx with rfl | rfl <;> decide
    · rw [hty]; rcases hx with rfl | rfl <;> decide
  · rw [if_neg hx] at hr
    cases hr
theorem hj_putr (hC : hj_C p s m args meth c G cc nL ret own nm Ts) {β : Type} {b : β} {ci k N index : Nat} {Cn ref : String} {T : u_T} {ty : Nat → FieldType} {r x : Option Nat} {kont : Unit → hM β} (hcl : hc_cls Ts G.2.2.1 ci Cn T N ty) (hk : k < N) (hw : Cond.fieldLink own index ref (T k).2.1 (T k).2.2.1 ∈ Ts) (href : (T k).1 = ref) (hfin : (T k).2.2.2 = false ∨ ((T k).2.2.2 = true ∧ nm = "<init>" ∧ (T k).1 = own)) (hty : (ty k).isReference = true) (hd : decode cc pc = .ok (.putfield index, 3)) (hr : hm_bind (hm_putr ci k r x) kont h = some (b, C, S, h2)) (kk : ∀ h', kont () h' = some (b, C, S, h2) → hj_J p l e R s m args below meth c G h0 nL Q C S h' (pc + 3) lv st) : hj_J p l e R s m args below meth c G h0 nL Q C S h pc lv (vr_ x :: vr_ r :: st) := by
  refine hj_put hC hcl hk hw href hfin ?_ ?_ hd hr kk
  · cases hk9 : ty k <;> rw [hk9] at hty <;> first | (cases hty; done) | (cases x <;> rfl)
  · cases hk9 : ty k <;> rw [hk9] at hty <;> first | (cases hty; done) | (cases x <;> rfl)
-- arrays
theorem hj_ild_inv {kd : Nat} {r : Option Nat} {i v : Int32} {h h1 : hc_H} {c1 s1 : Nat} (hm : hm_ild kd r i h = some (v, c1, s1, h1)) : ∃ a n f, r = some a ∧ h.2.1 kd a = some (n, f) ∧ vp_in i n ∧ v = f i.toNatClampNeg ∧ c1 = 0 ∧ s1 = 0 ∧ h1 = h := by
  unfold hm_ild at hm
  split at hm
  · next a n f ha =>
    obtain ⟨h1, h2⟩ := hc_iar_inv ha
    split at hm
    · cases hm
    · next hin =>
      cases hm
      exact ⟨_, _, _, h1, h2, hin, rfl, rfl, rfl, rfl⟩
  · cases hm
theorem hj_ist_inv {kd : Nat} {r : Option Nat} {i x : Int32} {h h1 : hc_H} {u : Unit} {c1 s1 : Nat} (hm : hm_ist kd r i x h = some (u, c1, s1, h1)) : ∃ a n f, r = some a ∧ h.2.1 kd a = some (n, f) ∧ vp_in i n ∧ c1 = 0 ∧ s1 = 0 ∧ h1 = hc_up h a (.inl (kd, n, va_up f i.toNatClampNeg x)) := by
  unfold hm_ist at hm
  split at hm
  · next a n f ha =>
    obtain ⟨h1, h2⟩ := hc_iar_inv ha
    split at hm
    · cases hm
    · next hin =>
      cases hm
      exact ⟨_, _, _, h1, h2, hin, rfl, rfl, rfl⟩
  · cases hm
theorem hj_iald (hC : hj_C p s m args meth c G cc nL ret own nm Ts) {β : Type} {b : β} {kd : Nat} {r : Option Nat} {i : Int32} {kont : Int32 → hM β} (ht : G.2.2.2.1[kd]? = some .int) (hd : decode cc pc = .ok (.iaload, 1)) (hr : hm_bind (hm_ild kd r i) kont h = some (b, C, S, h2)) (kk : ∀ v, kont v h = some (b, C, S, h2) → hj_J p l e R s m args below meth c G h0 nL Q C S h (pc + 1) lv (vi_ v :: st)) : hj_J p l e R s m args below meth c G h0 nL Q C S h pc lv (vi_ i :: vr_ r :: st) := by
  obtain ⟨v, c1, s1, h1, c2, s2, hm, hk2, rfl, rfl⟩ := hm_bind_inv hr
  obtain ⟨a, n, f, rfl, ha, hin, rfl, rfl, rfl, rfl⟩ := hj_ild_inv hm
  simp only [Nat.zero_add] at kk ⊢
  exact fun H locs cells slots ls hP hI hS hz hc hs hl => va_iald (D := G.1) (cl := G.2.2.1) (tys := [(G.2.1 kd, .int)]) (ws := [(a, .inl (G.2.1 kd, n, .inl f))]) hC.1 hC.2.1 (hj_Kt hC ht) (hj_one (hP.2.1 a (.inl (kd, n, f)) ha).1) 0 0 rfl rfl hin hd (kk _ hk2 H locs cells slots ls hP hI hS hz (by omega) (by omega) hl)
theorem hj_bald (hC : hj_C p s m args meth c G cc nL ret own nm Ts) {β : Type} {b : β} {kd : Nat} {r : Option Nat} {i : Int32} {kont : Int32 → hM β} (ht : G.2.2.2.1[kd]? = some .byte) (hd : decode cc pc = .ok (.baload, 1)) (hr : hm_bind (hm_ild kd r i) kont h = some (b, C, S, h2)) (kk : ∀ v, kont v h = some (b, C, S, h2) → hj_J p l e R s m args below meth c G h0 nL Q C S h (pc + 1) lv (vi_ v :: st)) : hj_J p l e R s m args below meth c G h0 nL Q C S h pc lv (vi_ i :: vr_ r :: st) := by
  obtain ⟨v, c1, s1, h1, c2, s2, hm, hk2, rfl, rfl⟩ := hm_bind_inv hr
  obtain ⟨a, n, f, rfl, ha, hin, rfl, rfl, rfl, rfl⟩ := hj_ild_inv hm
  simp only [Nat.zero_add] at kk ⊢
  exact fun H locs cells slots ls hP hI hS hz hc hs hl => va_bald (D := G.1) (cl := G.2.2.1) (tys := [(G.2.1 kd, .byte)]) (ws := [(a, .inl (G.2.1 kd, n, .inl f))]) hC.1 hC.2.1 (hj_Kt hC ht) (hj_one (hP.2.1 a (.inl (kd, n, f)) ha).1) 0 0 rfl rfl hin hd (kk _ hk2 H locs cells slots ls hP hI hS hz (by omega) (by omega) hl)
theorem hj_zald (hC : hj_C p s m args meth c G cc nL ret own nm Ts) {β : Type} {b : β} {kd : Nat} {r : Option Nat} {i : Int32} {kont : Int32 → hM β} (ht : G.2.2.2.1[kd]? = some .boolean) (hd : decode cc pc = .ok (.baload, 1)) (hr : hm_bind (hm_ild kd r i) kont h = some (b, C, S, h2)) (kk : ∀ v, kont v h = some (b, C, S, h2) → hj_J p l e R s m args below meth c G h0 nL Q C S h (pc + 1) lv (vi_ v :: st)) : hj_J p l e R s m args below meth c G h0 nL Q C S h pc lv (vi_ i :: vr_ r :: st) := by
  obtain ⟨v, c1, s1, h1, c2, s2, hm, hk2, rfl, rfl⟩ := hm_bind_inv hr
  obtain ⟨a, n, f, rfl, ha, hin, rfl, rfl, rfl, rfl⟩ := hj_ild_inv hm
  simp only [Nat.zero_add] at kk ⊢
  exact fun H locs cells slots ls hP hI hS hz hc hs hl => va_zald (D := G.1) (cl := G.2.2.1) (tys := [(G.2.1 kd, .boolean)]) (ws := [(a, .inl (G.2.1 kd, n, .inl f))]) hC.1 hC.2.1 (hj_Kt hC ht) (hj_one (hP.2.1 a (.inl (kd, n, f)) ha).1) 0 0 rfl rfl hin hd (kk _ hk2 H locs cells slots ls hP hI hS hz (by omega) (by omega) hl)
theorem hj_upd (f : Nat → Int32) (j : Nat) (x : Int32) : updV (fun q => Value.int (f q)) j (.int x) = fun q => Value.int (va_up f j x q) := by
  funext q
  by_cases hq : q = j
  · subst hq; simp [updV, va_up]
  · simp [updV, va_up, hq]
theorem hj_fitU {tys : List FieldType} {kd n j : Nat} {f : Nat → Int32} {x : Int32} (hf : hc_fit tys (.inl (kd, n, f))) (hx : ∀ ty, tys[kd]? = some ty → fits ty (.int x) = true) : hc_fit tys (.inl (kd, n, va_up f j x)) := by
  intro ty ht q
  show fits ty (.int (va_up f j x q)) = true
  by_cases hq : q = j
  · subst hq; rw [va_up_self]; exact hx ty ht
  · rw [va_up_ne f x hq]; exact hf ty ht q
theorem hj_iast (hC : hj_C p s m args meth c G cc nL ret own nm Ts) {β : Type} {b : β} {kd : Nat} {r : Option Nat} {i x : Int32} {kont : Unit → hM β} (ht : G.2.2.2.1[kd]? = some .int) (hd : decode cc pc = .ok (.iastore, 1)) (hr : hm_bind (hm_ist kd r i x) kont h = some (b, C, S, h2)) (kk : ∀ h', kont () h' = some (b, C, S, h2) → hj_J p l e R s m args below meth c G h0 nL Q C S h' (pc + 1) lv st) : hj_J p l e R s m args below meth c G h0 nL Q C S h pc lv (vi_ x :: vi_ i :: vr_ r :: st) := by
  obtain ⟨⟨⟩, c1, s1, h1, c2, s2, hm, hk2, rfl, rfl⟩ := hm_bind_inv hr
  obtain ⟨a, n, f, rfl, ha, hin, rfl, rfl, rfl⟩ := hj_ist_inv hm
  have ha' : hc_has h a (.inl (kd, n, f)) := ha
  simp only [Nat.zero_add] at kk ⊢
  intro H locs cells slots ls hP hI hS hz hc hs hl
  refine W.iast hC.1 hC.2.1 (hP.2.1 a _ ha').1 ((hC.2.2.2.2.2.2.2.2.2.1 kd _ ht).1 n (fun j => .int (f j))) (fun q => by cases q) (by show ¬ (i < 0 ∨ (arrV _ _ _).slots.size ≤ _); rw [arrV_size]; exact hin) rfl rfl hd fun H1 e1 e2 e3 => ?_
  refine kk _ hk2 H1 _ cells slots ls (hP.set ha' rfl (show H1[a]? = some (vp_cell _ _) from ?_) (hj_fitU (hP.2.1 a _ ha').2 (fun ty h9 => by cases ht.symm.trans h9; rfl)) e2 e3) (hI.set ha') (hS.put e2 e3 (hI a _ ha')) hz (by omega) (by omega) hl
  rw [e1]
  exact congrArg some ((arrV_store _ _ _ _ _).trans (by rw [hj_upd]; rfl))
theorem hj_bast (hC : hj_C p s m args meth c G cc nL ret own nm Ts) {β : Type} {b : β} {kd : Nat} {r : Option Nat} {i x : Int32} {kont : Unit → hM β} (ht : G.2.2.2.1[kd]? = some .byte) (hd : decode cc pc = .ok (.bastore, 1)) (hr : hm_bind (hm_ist kd r i x.toInt8.toInt32) kont h = some (b, C, S, h2)) (kk : ∀ h', kont () h' = some (b, C, S, h2) → hj_J p l e R s m args below meth c G h0 nL Q C S h' (pc + 1) lv st) : hj_J p l e R s m args below meth c G h0 nL Q C S h pc lv (vi_ x :: vi_ i :: vr_ r :: st) := by
  obtain ⟨⟨⟩, c1, s1, h1, c2, s2, hm, hk2, rfl, rfl⟩ := hm_bind_inv hr
  obtain ⟨a, n, f, rfl, ha, hin, rfl, rfl, rfl⟩ := hj_ist_inv hm
  have ha' : hc_has h a (.inl (kd, n, f)) := ha
  simp only [Nat.zero_add] at kk ⊢
  intro H locs cells slots ls hP hI hS hz hc hs hl
  refine W.bast hC.1 hC.2.1 (hP.2.1 a _ ha').1 ((hC.2.2.2.2.2.2.2.2.2.1 kd _ ht).1 n (fun j => .int (f j))) (fun q => by cases q) (by show ¬ (i < 0 ∨ (arrV _ _ _).slots.size ≤ _); rw [arrV_size]; exact hin) rfl rfl hd fun H1 e1 e2 e3 => ?_
  refine kk _ hk2 H1 _ cells slots ls (hP.set ha' rfl (show H1[a]? = some (vp_cell _ _) from ?_) (hj_fitU (hP.2.1 a _ ha').2 (fun ty h9 => by cases ht.symm.trans h9; exact pk_fb x)) e2 e3) (hI.set ha') (hS.put e2 e3 (hI a _ ha')) hz (by omega) (by omega) hl
  rw [e1]
  exact congrArg some ((arrV_store _ _ _ _ _).trans (by rw [narrow_byte, hj_upd]; rfl))
theorem hj_fz : ∀ x : Int32, fits .boolean (.int (x &&& 1)) = true := by
  intro x
  obtain ⟨j, hj, e⟩ := pk_andE x (m := 1) 1 (by decide)
  rw [e]
  have : j = 0 ∨ j = 1 := by omega
  rcases this with rfl | rfl <;> decide
theorem hj_zast (hC : hj_C p s m args meth c G cc nL ret own nm Ts) {β : Type} {b : β} {kd : Nat} {r : Option Nat} {i x : Int32} {kont : Unit → hM β} (ht : G.2.2.2.1[kd]? = some .boolean) (hd : decode cc pc = .ok (.bastore, 1)) (hr : hm_bind (hm_ist kd r i (x &&& 1)) kont h = some (b, C, S, h2)) (kk : ∀ h', kont () h' = some (b, C, S, h2) → hj_J p l e R s m args below meth c G h0 nL Q C S h' (pc + 1) lv st) : hj_J p l e R s m args below meth c G h0 nL Q C S h pc lv (vi_ x :: vi_ i :: vr_ r :: st) := by
  obtain ⟨⟨⟩, c1, s1, h1, c2, s2, hm, hk2, rfl, rfl⟩ := hm_bind_inv hr
  obtain ⟨a, n, f, rfl, ha, hin, rfl, rfl, rfl⟩ := hj_ist_inv hm
  have ha' : hc_has h a (.inl (kd, n, f)) := ha
  simp only [Nat.zero_add] at kk ⊢
  intro H locs cells slots ls hP hI hS hz hc hs hl
  refine W.zast hC.1 hC.2.1 (hP.2.1 a _ ha').1 ((hC.2.2.2.2.2.2.2.2.2.1 kd _ ht).1 n (fun j => .int (f j))) (fun q => by cases q) (by show ¬ (i < 0 ∨ (arrV _ _ _).slots.size ≤ _); rw [arrV_size]; exact hin) rfl rfl hd fun H1 e1 e2 e3 => ?_
  refine kk _ hk2 H1 _ cells slots ls (hP.set ha' rfl (show H1[a]? = some (vp_cell _ _) from ?_) (hj_fitU (hP.2.1 a _ ha').2 (fun ty h9 => by cases ht.symm.trans h9; exact hj_fz x)) e2 e3) (hI.set ha') (hS.put e2 e3 (hI a _ ha')) hz (by omega) (by omega) hl
  rw [e1]
  exact congrArg some ((arrV_store _ _ _ _ _).trans (by rw [show narrow .boolean (.int x) = .int (x &&& 1) from rfl, hj_upd]; rfl))
theorem hj_qld_inv {kd : Nat} {r v : Option Nat} {i : Int32} {h h1 : hc_H} {c1 s1 : Nat} (hm : hm_qld kd r i h = some (v, c1, s1, h1)) : ∃ a n f, r = some a ∧ h.2.2.1 kd a = some (n, f) ∧ vp_in i n ∧ v = f i.toNatClampNeg ∧ c1 = 0 ∧ s1 = 0 ∧ h1 = h := by
  unfold hm_qld at hm
  split at hm
  · next a n f ha =>
    obtain ⟨h1, h2⟩ := hc_qar_inv ha
    split at hm
    · cases hm
    · next hin =>
      cases hm
      exact ⟨_, _, _, h1, h2, hin, rfl, rfl, rfl, rfl⟩
  · cases hm
theorem hj_aald (hC : hj_C p s m args meth c G cc nL ret own nm Ts) {β : Type} {b : β} {kd : Nat} {r : Option Nat} {i : Int32} {E : String} {kont : Option Nat → hM β} (ht : G.2.2.2.1[kd]? = some (.object E)) (hd : decode cc pc = .ok (.aaload, 1)) (hr : hm_bind (hm_qld kd r i) kont h = some (b, C, S, h2)) (kk : ∀ v, kont v h = some (b, C, S, h2) → hj_J p l e R s m args below meth c G h0 nL Q C S h (pc + 1) lv (vr_ v :: st)) : hj_J p l e R s m args below meth c G h0 nL Q C S h pc lv (vi_ i :: vr_ r :: st) := by
  obtain ⟨v, c1, s1, h1, c2, s2, hm, hk2, rfl, rfl⟩ := hm_bind_inv hr
  obtain ⟨a, n, f, rfl, ha, hin, rfl, rfl, rfl, rfl⟩ := hj_qld_inv hm
  simp only [Nat.zero_add] at kk ⊢
  exact fun H locs cells slots ls hP hI hS hz hc hs hl => va_aldq (D := G.1) (cl := G.2.2.1) (tys := [(G.2.1 kd, .object E)]) (ws := [(a, .inl (G.2.1 kd, n, .inr (.inr (.inr (.inr f)))))]) hC.1 hC.2.1 (hj_Kt hC ht) (hj_one (hP.2.1 a (.inr (.inl (kd, n, f))) ha).1) 0 0 rfl rfl hin hd (kk _ hk2 H locs cells slots ls hP hI hS hz (by omega) (by omega) hl)
theorem hj_qst_inv {kd ci : Nat} {r v : Option Nat} {i : Int32} {h h1 : hc_H} {u : Unit} {c1 s1 : Nat} (hm : hm_qst kd ci r i v h = some (u, c1, s1, h1)) : ∃ a n f b fs, r = some a ∧ h.2.2.1 kd a = some (n, f) ∧ vp_in i n ∧ v = some b ∧ h.2.2.2 ci b = some fs ∧ c1 = 0 ∧ s1 = 0 ∧ h1 = hc_up h a (.inr (.inl (kd, n, va_up f i.toNatClampNeg v))) := by
  unfold hm_qst at hm
  split at hm
  · next a n f ha =>
    obtain ⟨h1, h2⟩ := hc_qar_inv ha
    split at hm
    · cases hm
    · next hin =>
      cases hm
      have hO : hc_isO h ci v = true := by
        cases hb : hc_isO h ci v with
        | true => rfl
        | false => exact absurd (Or.inr hb) hin
      obtain ⟨b, fs, rfl, hb⟩ := hc_isO_inv hO
      exact ⟨_, _, _, b, fs, h1, h2, fun z => hin (Or.inl z), rfl, hb, rfl, rfl, rfl⟩
  · cases hm
theorem hj_aast (hC : hj_C p s m args meth c G cc nL ret own nm Ts) {β : Type} {b : β} {kd ci N : Nat} {r v : Option Nat} {i : Int32} {E : String} {T : u_T} {ty : Nat → FieldType} {kont : Unit → hM β} (ht : G.2.2.2.1[kd]? = some (.object E)) (hcl : hc_cls Ts G.2.2.1 ci E T N ty) (hd : decode cc pc = .ok (.aastore, 1)) (hr : hm_bind (hm_qst kd ci r i v) kont h = some (b, C, S, h2)) (kk : ∀ h', kont () h' = some (b, C, S, h2) → hj_J p l e R s m args below meth c G h0 nL Q C S h' (pc + 1) lv st) : hj_J p l e R s m args below meth c G h0 nL Q C S h pc lv (vr_ v :: vi_ i :: vr_ r :: st) := by
  obtain ⟨⟨⟩, c1, s1, h1, c2, s2, hm, hk2, rfl, rfl⟩ := hm_bind_inv hr
  obtain ⟨a, n, f, b', fs, rfl, ha, hin, rfl, hb', rfl, rfl, rfl⟩ := hj_qst_inv hm
  have ha' : hc_has h a (.inr (.inl (kd, n, f))) := ha
  have hb2 : hc_has h b' (.inr (.inr (ci, fs))) := hb'
  simp only [Nat.zero_add] at kk ⊢
  intro H locs cells slots ls hP hI hS hz hc hs hl
  have hK := hC.2.2.2.2.2.2.2.2
  have hlt : i.toNatClampNeg < n := Nat.not_le.mp fun q => hin (Or.inr q)
  have hi0 : ¬ i < 0 := fun q => hin (Or.inl q)
  obtain ⟨⟨r', hr', cellV, g1, g2, g3, -⟩, -⟩ := hP.2.1 b' _ hb2
  have hcls := (hK.1 ci _ hcl.1).2
  obtain ⟨kA, comp, k1, k2, k3, -⟩ := (hK.2.1 kd _ ht).2
  have hcomp : comp = G.1.1 ci := Option.some.inj (k3.symm.trans hcls.1)
  subst hcomp
  obtain ⟨kC, hkC, -⟩ := id hcls.2
  refine W.aast hC.1 hC.2.1 (hP.2.1 a _ ha').1 (fun q h => by cases h) (fun h => by cases h) k1 k2 rfl hkC ⟨hi0, by show _ < (arrV _ _ _).slots.size; rw [arrV_size]; exact hlt⟩ g1 (fun q h => by rw [g3] at h; cases h) (by rw [g2]; exact hkC) (by rw [g2]; exact va_assign hcls) rfl rfl hd fun H1 e1 e2 e3 => ?_
  refine kk _ hk2 H1 _ cells slots ls (hP.set ha' rfl (show H1[a]? = some (vp_cell _ _) from ?_) trivial e2 e3) (hI.set ha') (hS.put e2 e3 (hI a _ ha')) hz (by omega) (by omega) hl
  rw [e1]
  refine congrArg some ((arrV_store _ _ _ _ _).trans ?_)
  rw [vp_cell_q]
  congr 1
  funext q
  by_cases hq : q = i.toNatClampNeg
  · subst hq
    simp [updV, va_up, va_rf]
  · simp [updV, va_up, hq]
theorem hj_leni (hC : hj_C p s m args meth c G cc nL ret own nm Ts) {β : Type} {b : β} {r : Option Nat} {kd : Nat} {ty : FieldType} {kont : Int32 → hM β} (ht : G.2.2.2.1[kd]? = some ty) (hd : decode cc pc = .ok (.arraylength, 1)) (hr : hm_bind (hm_leni kd r) kont h = some (b, C, S, h2)) (kk : ∀ v, kont v h = some (b, C, S, h2) → hj_J p l e R s m args below meth c G h0 nL Q C S h (pc + 1) lv (vi_ v :: st)) : hj_J p l e R s m args below meth c G h0 nL Q C S h pc lv (vr_ r :: st) := by
  obtain ⟨v, c1, s1, h1, c2, s2, hm, hk2, rfl, rfl⟩ := hm_bind_inv hr
  unfold hm_leni at hm
  split at hm
  · next a n f hq =>
    obtain ⟨rfl, ha⟩ := hc_iar_inv hq
    cases hm
    simp only [Nat.zero_add] at kk ⊢
    exact fun H locs cells slots ls hP hI hS hz hc hs hl => va_alen (D := G.1) (cl := G.2.2.1) (tys := [(G.2.1 kd, ty)]) (ws := [(a, .inl (G.2.1 kd, n, .inl f))]) hC.1 hC.2.1 (hj_Kt hC ht) (hj_one (hP.2.1 a (.inl (kd, n, f)) ha).1) 0 0 rfl rfl rfl hd (kk _ hk2 H locs cells slots ls hP hI hS hz (by omega) (by omega) hl)
  · cases hm
theorem hj_lenq (hC : hj_C p s m args meth c G cc nL ret own nm Ts) {β : Type} {b : β} {r : Option Nat} {kd : Nat} {ty : FieldType} {kont : Int32 → hM β} (ht : G.2.2.2.1[kd]? = some ty) (hd : decode cc pc = .ok (.arraylength, 1)) (hr : hm_bind (hm_lenq kd r) kont h = some (b, C, S, h2)) (kk : ∀ v, kont v h = some (b, C, S, h2) → hj_J p l e R s m args below meth c G h0 nL Q C S h (pc + 1) lv (vi_ v :: st)) : hj_J p l e R s m args below meth c G h0 nL Q C S h pc lv (vr_ r :: st) := by
  obtain ⟨v, c1, s1, h1, c2, s2, hm, hk2, rfl, rfl⟩ := hm_bind_inv hr
  unfold hm_lenq at hm
  split at hm
  · next a n f hq =>
    obtain ⟨rfl, ha⟩ := hc_qar_inv hq
    cases hm
    simp only [Nat.zero_add] at kk ⊢
    exact fun H locs cells slots ls hP hI hS hz hc hs hl => va_alen (D := G.1) (cl := G.2.2.1) (tys := [(G.2.1 kd, ty)]) (ws := [(a, .inl (G.2.1 kd, n, .inr (.inr (.inr (.inr f)))))]) hC.1 hC.2.1 (hj_Kt hC ht) (hj_one (hP.2.1 a (.inr (.inl (kd, n, f))) ha).1) 0 0 rfl rfl rfl hd (kk _ hk2 H locs cells slots ls hP hI hS hz (by omega) (by omega) hl)
  · cases hm
-- new cells
theorem hj_S_push {A : Nat → Prop} {H0 H H1 : Heap} {locs : List Loc} (hS : va_S A H0 H locs) (z : H1.size = H.size + 1) (oq : ∀ q : Nat, q < H.size → H1[q]? = H[q]?) : va_S A H0 H1 locs :=
  ⟨Nat.le_trans hS.1 (by omega), fun x h1 h2 => (oq x (Nat.lt_of_lt_of_le h1 hS.1)).trans (hS.2.1 x h1 h2), hS.2.2⟩
theorem hj_new (hC : hj_C p s m args meth c G cc nL ret own nm Ts) {β : Type} {b : β} {ci N index : Nat} {Cn : String} {T : u_T} {ty : Nat → FieldType} {fs : List lc_V} {kont : Nat → hM β} (hcl : hc_cls Ts G.2.2.1 ci Cn T N ty) (hw1 : Cond.classLink own index Cn ∈ Ts) (hw2 : Cond.instantiable Cn N ∈ Ts) (hw3 : Cond.initialized Cn ∈ Ts) (hfs : ∀ j, j < N → defaultValue (ty j) = vp_V (fs.map lc_val) j) (hd : decode cc pc = .ok (.new index, 3)) (hr : hm_bind (hm_new ci N fs) kont h = some (b, C, S, h2)) (kk : ∀ q h' C' S', kont q h' = some (b, C', S', h2) → hj_J p l e R s m args below meth c G h0 nL Q C' S' h' (pc + 3) lv (vr_ (some q) :: st)) : hj_J p l e R s m args below meth c G h0 nL Q C S h pc lv st := by
  obtain ⟨r, c1, s1, h1, c2, s2, hm, hk2, rfl, rfl⟩ := hm_bind_inv hr
  unfold hm_new at hm
  cases hm
  intro H locs cells slots ls hP hI hS hz hc hs hl
  have hts := hC.2.2.2.2.2.2.2.1
  have hKn := hC.2.2.2.2.2.2.2.2.1 ci _ hcl.1
  refine W.newcK hC.1 hC.2.1 hC.2.2.2.2.2.2.1 (hts _ hw1) (hts _ hw2) (hts _ hw3) rfl hd (by omega) (by omega) hKn.2.1 hP.1 fun H1 kC hkC e1 z1 o1 => ?_
  have o2 : ∀ q : Nat, q < H.size → H1[q]? = H[q]? := fun q hq => o1 q (by rw [← hP.1]; exact hq)
  have z2 : H1.size = H.size + 1 := by rw [z1, hP.1]
  refine kk _ _ _ _ hk2 H1 locs (cells + 1) (slots + N) ls (hP.push ?_ trivial z2 o2) (hI.push (by rw [hz, ← hP.1]; exact hS.1)) (hj_S_push hS z2 o2) hz (by omega) (by omega) hl
  exact ⟨_, hcl.1, (u_born ty hts hcl.2.1 hKn hkC e1 hcl.2.2.1).to hfs⟩
theorem hj_newa (hC : hj_C p s m args meth c G cc nL ret own nm Ts) {β : Type} {b : β} {kd : Nat} {atype : ArrayType} {n : Int32} {kont : Nat → hM β} (ht : G.2.2.2.1[kd]? = some (newarray.typeOf atype)) (hdf : defaultValue (newarray.typeOf atype) = .int 0) (hcb : componentBytes (newarray.typeOf atype) ≤ 4) (hw : Cond.arrayClass (newarray.typeOf atype) ∈ Ts) (hd : decode cc pc = .ok (.newarray atype, 2)) (hr : hm_bind (hm_newi kd n) kont h = some (b, C, S, h2)) (kk : ∀ q h' C' S', kont q h' = some (b, C', S', h2) → hj_J p l e R s m args below meth c G h0 nL Q C' S' h' (pc + 2) lv (vr_ (some q) :: st)) : hj_J p l e R s m args below meth c G h0 nL Q C S h pc lv (vi_ n :: st) := by
  obtain ⟨r, c1, s1, h1, c2, s2, hm, hk2, rfl, rfl⟩ := hm_bind_inv hr
  unfold hm_newi at hm
  split at hm
  · cases hm
  · next hn =>
    cases hm
    intro H locs cells slots ls hP hI hS hz hc hs hl
    have hts := hC.2.2.2.2.2.2.2.1
    have hn0 : ¬ n < 0 := fun q => hn (Or.inl q)
    have hn1 : n.toNatClampNeg ≤ 134217728 := Nat.not_lt.mp fun q => hn (Or.inr q)
    have hK := hC.2.2.2.2.2.2.2.2.2.1 kd _ ht
    refine va_newaK hC.1 hC.2.1 (hts _ hw) rfl hd rfl hn0 rfl (Nat.le_trans (Nat.mul_le_mul hn1 hcb) (by decide)) (by omega) (by omega) hP.1 fun H1 cA e1 z1 o1 hAr hNm => ?_
    have hcA : cA = G.2.1 kd := by
      have := hK.2
      cases atype <;> exact Option.some.inj (hNm.symm.trans this)
    have o2 : ∀ q : Nat, q < H.size → H1[q]? = H[q]? := fun q hq => o1 q (by rw [← hP.1]; exact hq)
    have z2 : H1.size = H.size + 1 := by rw [z1, hP.1]
    refine kk _ _ _ _ hk2 H1 locs (cells + 1) (slots + n.toNatClampNeg) ls (hP.push ?_ ?_ z2 o2) (hI.push (by rw [hz, ← hP.1]; exact hS.1)) (hj_S_push hS z2 o2) hz (by omega) (by omega) hl
    · show H1[h.1]? = some (vp_cell _ _)
      rw [e1, hcA, hdf]
      rfl
    · intro ty h9 j
      cases ht.symm.trans h9
      cases atype <;> first | rfl | (cases hdf; done)
theorem hj_anew (hC : hj_C p s m args meth c G cc nL ret own nm Ts) {β : Type} {b : β} {kd index : Nat} {E : String} {n : Int32} {kont : Nat → hM β} (ht : G.2.2.2.1[kd]? = some (.object E)) (hw : Cond.classLink own index E ∈ Ts) (ho : E ∈ G.2.2.2.2.2) (hd : decode cc pc = .ok (.anewarray index, 3)) (hr : hm_bind (hm_newq kd n) kont h = some (b, C, S, h2)) (kk : ∀ q h' C' S', kont q h' = some (b, C', S', h2) → hj_J p l e R s m args below meth c G h0 nL Q C' S' h' (pc + 3) lv (vr_ (some q) :: st)) : hj_J p l e R s m args below meth c G h0 nL Q C S h pc lv (vi_ n :: st) := by
  obtain ⟨r, c1, s1, h1, c2, s2, hm, hk2, rfl, rfl⟩ := hm_bind_inv hr
  unfold hm_newq at hm
  split at hm
  · cases hm
  · next hn =>
    cases hm
    intro H locs cells slots ls hP hI hS hz hc hs hl
    have hts := hC.2.2.2.2.2.2.2.1
    have hn0 : ¬ n < 0 := fun q => hn (Or.inl q)
    have hn1 : n.toNatClampNeg ≤ 134217728 := Nat.not_lt.mp fun q => hn (Or.inr q)
    have hK := hC.2.2.2.2.2.2.2.2.2.1 kd _ ht
    have hO := hC.2.2.2.2.2.2.2.2.2.2.2 E ho
    refine W.anew hC.1 hC.2.1 hC.2.2.2.2.2.2.1 (hts _ hw) (va_AO.use hO) rfl hd rfl hn0 (by omega) (by omega) (by omega) fun cA kA comp f1 f2 f3 f4 => ?_
    have hcA : cA = G.2.1 kd := by
      obtain ⟨kA', comp', k1, k2, k3, k4⟩ := hK.2
      exact Option.some.inj (f1.symm.trans k4)
    generalize hH1 : H.push ({ cls := cA, slots := Array.replicate n.toNatClampNeg .null, vm := .none } : Cell) = H1
    have z2 : H1.size = H.size + 1 := by rw [← hH1, Array.size_push]
    have e1 : H1[H.size]? = some (arrV cA n.toNatClampNeg (fun _ => .null)) := by rw [← hH1, Array.getElem?_push_size, ← arrV_new]
    have o2 : ∀ q : Nat, q < H.size → H1[q]? = H[q]? := fun q hq => by rw [← hH1, Array.getElem?_push, if_neg (Nat.ne_of_lt hq)]
    have e3 : H.size = h.1 := hP.1
    rw [e3]
    refine kk _ _ _ _ hk2 H1 locs (cells + 1) (slots + n.toNatClampNeg) ls (hP.push ?_ trivial z2 o2) (hI.push (by rw [hz, ← hP.1]; exact hS.1)) (hj_S_push hS z2 o2) hz (by omega) (by omega) hl
    show H1[h.1]? = some (vp_cell _ _)
    rw [← e3, e1, hcA, vp_cell_q]
    rfl
theorem hj_nn : ∀ z : Int32, ¬ z < 0 → z.toInt = (z.toNatClampNeg : Int) := by
  intro z hz
  obtain ⟨j, hj, rfl⟩ := nI_of hz
  rw [nI_toInt hj, nI_clamp hj]
theorem hj_copy_inv {k1 k2 : Nat} {r1 r2 : Option Nat} {sp dp n : Int32} {h h1 : hc_H} {u : Unit} {c1 s1 : Nat} (hm : hm_copy k1 k2 r1 sp r2 dp n h = some (u, c1, s1, h1)) : ∃ a0 n0 f a n1 g, r1 = some a0 ∧ h.2.1 k1 a0 = some (n0, f) ∧ r2 = some a ∧ h.2.1 k2 a = some (n1, g) ∧ ¬ sp < 0 ∧ ¬ dp < 0 ∧ ¬ n < 0 ∧ sp.toNatClampNeg + n.toNatClampNeg ≤ n0 ∧ dp.toNatClampNeg + n.toNatClampNeg ≤ n1 ∧ c1 = 0 ∧ s1 = 0 ∧ h1 = hc_up h a (.inl (k2, n1, va_cpy f g sp.toNatClampNeg dp.toNatClampNeg n.toNatClampNeg)) := by
  unfold hm_copy at hm
  split at hm
  · next a0 n0 f a n1 g e1 e2 =>
    obtain ⟨q1, q2⟩ := hc_iar_inv e1
    obtain ⟨q3, q4⟩ := hc_iar_inv e2
    split at hm
    · cases hm
    · next hn =>
      cases hm
      exact ⟨_, _, _, _, _, _, q1, q2, q3, q4, fun z => hn (Or.inl (Or.inl z)), fun z => hn (Or.inl (Or.inr (Or.inl z))), fun z => hn (Or.inl (Or.inr (Or.inr z))), Nat.not_lt.mp fun z => hn (Or.inr (Or.inl z)), Nat.not_lt.mp fun z => hn (Or.inr (Or.inr z)), rfl, rfl, rfl⟩
  · cases hm
theorem hj_copy (hC : hj_C p s m args meth c G cc nL ret own nm Ts) {β : Type} {b : β} {k1 k2 index : Nat} {ty : FieldType} {r1 r2 : Option Nat} {sp dp n : Int32} {kont : Unit → hM β} (ht1 : G.2.2.2.1[k1]? = some ty) (ht2 : G.2.2.2.1[k2]? = some ty) (hprim : refKind ty = false) (hw1 : Cond.methodLink own index arraycopyName ∈ Ts) (hw2 : Cond.native arraycopyName ∈ Ts) (hw3 : Cond.static arraycopyName ∈ Ts) (hw4 : Cond.initialized "java/lang/System" ∈ Ts) (hf : 1 ≤ R.frames) (hlo : lc_w st + (nativeFrameWords "java/lang/System" "arraycopy" 5 + 11) ≤ R.locals) (hd : decode cc pc = .ok (.invokestatic index, 3)) (hr : hm_bind (hm_copy k1 k2 r1 sp r2 dp n) kont h = some (b, C, S, h2)) (kk : ∀ h', kont () h' = some (b, C, S, h2) → hj_J p l e R s m args below meth c G h0 nL Q C S h' (pc + 3) lv st) : hj_J p l e R s m args below meth c G h0 nL Q C S h pc lv (vi_ n :: vi_ dp :: vr_ r2 :: vi_ sp :: vr_ r1 :: st) := by
  obtain ⟨⟨⟩, c1, s1, h1, c2, s2, hm, hk2, rfl, rfl⟩ := hm_bind_inv hr
  obtain ⟨a0, n0, f, a, n1, g, rfl, ha0, rfl, ha, h1, h3, h4, h5, h6, rfl, rfl, rfl⟩ := hj_copy_inv hm
  simp only [Nat.zero_add] at kk ⊢
  intro H locs cells slots ls hP hI hS hz hc hs hl
  have hts := hC.2.2.2.2.2.2.2.1
  have hK1 := (hC.2.2.2.2.2.2.2.2.2.1 k1 _ ht1).1
  have hK2 := (hC.2.2.2.2.2.2.2.2.2.1 k2 _ ht2).1
  have ha0' : hc_has h a0 (.inl (k1, n0, f)) := ha0
  have ha' : hc_has h a (.inl (k2, n1, g)) := ha
  intro T hT X
  have hc0 : H[a0]? = some (vp_cell (G.2.1 k1) (n0, .inl f)) := (hP.2.1 a0 _ ha0').1
  have hc1 : H[a]? = some (vp_cell (G.2.1 k2) (n1, .inl g)) := (hP.2.1 a _ ha').1
  obtain ⟨-, kc0, hk0, cm0, hkk0⟩ := hK1 n0 (fun j => .int (f j))
  obtain ⟨-, kc1, hk1, cm1, hkk1⟩ := hK2 n1 (fun j => .int (g j))
  obtain ⟨vm', X', step⟩ := X.arraycopy hC.1 hC.2.2.2.2.2.2.1 (hts _ hw1) (hts _ hw2) (hts _ hw3) (hts _ hw4) (src := a0) (dst := a) (cs := vp_cell (G.2.1 k1) (n0, .inl f)) (cd := vp_cell (G.2.1 k2) (n1, .inl g)) (srcPos := sp) (destPos := dp) (n := n) (by rw [hT]; exact hc0) (by rw [hT]; exact hc1)
    (fun _ h => by cases h) (fun _ h => by cases h) (fun h => by cases h) (fun h => by cases h) hk0 hk1 hkk0 hkk1 (by simp [hprim]) h1 h3 h4
    (by rw [hj_nn sp h1, hj_nn n h4]; show ¬ _ > ((arrV _ n0 (fun j => .int (f j))).slots.size : Int); rw [arrV_size]; omega)
    (by rw [hj_nn dp h3, hj_nn n h4]; show ¬ _ > ((arrV _ n1 (fun j => .int (g j))).slots.size : Int); rw [arrV_size]; omega)
    (fun vm₁ _ i hi => by
      have e : (vp_cell (G.2.1 k1) (n0, .inl f)).slots.getD (sp.toNatClampNeg + i) .null = .int (f (sp.toNatClampNeg + i)) := by
        show (arrV _ n0 (fun j => .int (f j))).slots.getD _ _ = _
        rw [Array.getD_eq_getD_getElem?, arrV_read _ _ (by omega)]
        rfl
      rw [e]
      exact ⟨(hP.2.1 a0 _ ha0').2 ty ht1 _, trivial⟩)
    (g := F0 m pc ls ((vi_ n :: vi_ dp :: vr_ (some a) :: vi_ sp :: vr_ (some a0) :: st).map lc_val)) rfl (by rw [hC.2.2.1]; exact hl.1) (rest := st.map lc_val) rfl (by rw [hC.2.1]; exact hd) hf (by rw [lc_w_eq]; show 2 * 0 + _ + _ ≤ _; omega)
  have e1 : copied (vp_cell (G.2.1 k1) (n0, .inl f)) (vp_cell (G.2.1 k2) (n1, .inl g)) sp dp n = vp_cell (G.2.1 k2) (n1, .inl (va_cpy f g sp.toNatClampNeg dp.toNatClampNeg n.toNatClampNeg)) := va_copied (fun z => .int z) _ _ f g h5
  rw [e1] at X' step
  generalize hcell : vp_cell (G.2.1 k2) (n1, .inl (va_cpy f g sp.toNatClampNeg dp.toNatClampNeg n.toNatClampNeg)) = cell at X' step
  have hlt : a < H.size := (Array.getElem?_eq_some_iff.mp hc1).1
  have hheap : ((T.setVm vm').setCell a cell).heap = H.setIfInBounds a cell := by rw [← hT]; rfl
  have oq : ∀ q : Nat, q ≠ a → (H.setIfInBounds a cell)[q]? = H[q]? := fun q hq => by simp [Array.getElem?_setIfInBounds, Ne.symm hq]
  have zq : (H.setIfInBounds a cell).size = H.size := by simp
  have aq : (H.setIfInBounds a cell)[a]? = some cell := by simp [Array.getElem?_setIfInBounds, hlt]
  have hA := hI a _ ha'
  obtain ⟨t, a1, b1⟩ := kk _ hk2 _ _ cells slots ls (hP.set (e := .inl (k2, n1, va_cpy f g sp.toNatClampNeg dp.toNatClampNeg n.toNatClampNeg)) ha' rfl (show (H.setIfInBounds a cell)[a]? = some (vp_cell _ _) by rw [hcell]; exact aq) (fun ty' h9 j => by
      show fits ty' (.int (va_cpy f g _ _ _ j)) = true
      unfold va_cpy
      have h8 : ty' = ty := Option.some.inj (h9.symm.trans ht2)
      subst h8
      split
      · exact (hP.2.1 a0 _ ha0').2 ty' ht1 _
      · exact (hP.2.1 a _ ha').2 ty' ht2 _) zq oq) (hI.set ha') ⟨by rw [zq]; exact hS.1, fun q g1 g2 => by
      rw [oq q (fun e => g2 (by rw [e]; exact hA))]
      exact hS.2.1 q g1 g2, fun q hq => by
      rcases List.mem_append.mp hq with h | h
      · exact hS.2.2 q h
      · obtain ⟨z, -, hz⟩ := List.mem_map.mp h
        rw [← hz]
        exact hA⟩ hz (by omega) (by omega) hl _ hheap X'
  exact ⟨t, step t a1, b1⟩
-- Object(), Math
theorem hj_objInit (hC : hj_C p s m args meth c G cc nL ret own nm Ts) {idx : Nat} {a : Nat} (hw1 : Cond.methodLink own idx objectInit ∈ Ts) (hw2 : Cond.instanceMethod objectInit ∈ Ts) (hw3 : Cond.code objectInit ⟨#[0xb1]⟩ 1 none ∈ Ts) (hf : 1 ≤ R.frames) (hlo : lc_w st + 12 ≤ R.locals) (hd : decode cc pc = .ok (.invokespecial idx, 3)) (kk : hj_J p l e R s m args below meth c G h0 nL Q C S h (pc + 3) lv st) : hj_J p l e R s m args below meth c G h0 nL Q C S h pc lv (vr_ (some a) :: st) :=
  fun H locs cells slots ls hP hI hS hz hc hs hl => W.objInit hC.1 hC.2.1 hC.2.2.2.2.2.2.1 (hC.2.2.2.2.2.2.2.1 _ hw1) (hC.2.2.2.2.2.2.2.1 _ hw2) (hC.2.2.2.2.2.2.2.1 _ hw3) rfl (by rw [hC.2.2.1]; exact hl.1) rfl hd hf (by rw [lc_w_eq]; show 2 * 0 + _ + _ ≤ _; omega) (kk H locs cells slots ls hP hI hS hz hc hs hl)
theorem hj_mmax (hC : hj_C p s m args meth c G cc nL ret own nm Ts) {index : Nat} {x y : Int32} (hw1 : Cond.methodLink own index Lib.Math.max.name ∈ Ts) (hw2 : Cond.static Lib.Math.max.name ∈ Ts) (hw3 : Cond.initialized "java/lang/Math" ∈ Ts) (hw4 : Cond.code Lib.Math.max.name Lib.Math.max.code 2 (some .int) ∈ Ts) (hf : 1 ≤ R.frames) (hlo : lc_w st + 13 ≤ R.locals) (hd : decode cc pc = .ok (.invokestatic index, 3)) (kk : hj_J p l e R s m args below meth c G h0 nL Q C S h (pc + 3) lv (vi_ (if x < y then y else x) :: st)) : hj_J p l e R s m args below meth c G h0 nL Q C S h pc lv (vi_ y :: vi_ x :: st) :=
  fun H locs cells slots ls hP hI hS hz hc hs hl => va_mmax hC.1 hC.2.1 (by rw [hC.2.2.1]; exact hl.1.symm) hC.2.2.2.2.2.2.1 (hC.2.2.2.2.2.2.2.1 _ hw1) (hC.2.2.2.2.2.2.2.1 _ hw2) (hC.2.2.2.2.2.2.2.1 _ hw3) (hC.2.2.2.2.2.2.2.1 _ hw4) hf (by rw [lc_w_eq]; exact hlo) (by omega) (by omega) hd (kk H locs cells slots ls hP hI hS hz hc hs hl)
theorem hj_mmin (hC : hj_C p s m args meth c G cc nL ret own nm Ts) {index : Nat} {x y : Int32} (hw1 : Cond.methodLink own index Lib.Math.min.name ∈ Ts) (hw2 : Cond.static Lib.Math.min.name ∈ Ts) (hw3 : Cond.initialized "java/lang/Math" ∈ Ts) (hw4 : Cond.code Lib.Math.min.name Lib.Math.min.code 2 (some .int) ∈ Ts) (hf : 1 ≤ R.frames) (hlo : lc_w st + 13 ≤ R.locals) (hd : decode cc pc = .ok (.invokestatic index, 3)) (kk : hj_J p l e R s m args below meth c G h0 nL Q C S h (pc + 3) lv (vi_ (if y < x then y else x) :: st)) : hj_J p l e R s m args below meth c G h0 nL Q C S h pc lv (vi_ y :: vi_ x :: st) :=
  fun H locs cells slots ls hP hI hS hz hc hs hl => va_mmin hC.1 hC.2.1 (by rw [hC.2.2.1]; exact hl.1.symm) hC.2.2.2.2.2.2.1 (hC.2.2.2.2.2.2.2.1 _ hw1) (hC.2.2.2.2.2.2.2.1 _ hw2) (hC.2.2.2.2.2.2.2.1 _ hw3) (hC.2.2.2.2.2.2.2.1 _ hw4) hf (by rw [lc_w_eq]; exact hlo) (by omega) (by omega) hd (kk H locs cells slots ls hP hI hS hz hc hs hl)
-- ends
def hc_Q (G : hc_G) (h0 : hc_H) (v : Option lc_V) (h2 : hc_H) : Array Value → State → Outcome → State → Prop := fun _ st oc t => oc = .returned (v.map lc_val) ∧ hc_P G h2 t.heap ∧ hc_in h0 h2 ∧ va_F (hc_A h0) st t
def hj_Q (below : List Frame) (args : Array Value) (s : State) (R : Room) (G : hc_G) (h0 : hc_H) (v : Option lc_V) (h2 : hc_H) : State → Prop := MQ below (hc_Q G h0 v h2) args s R.cells R.slots (hc_A h0)
theorem hj_iret (hC : hj_C p s m args meth c G cc nL (some .int) own nm Ts) {b v : Int32} (hd : decode cc pc = .ok (.ireturn, 1)) (hr : hm_ret v h = some (b, C, S, h2)) : hj_J p l e R s m args below meth c G h0 nL (hj_Q below args s R G h0 (some (vi_ b)) h2) C S h pc lv [vi_ v] := by
  unfold hm_ret at hr
  cases hr
  intro H locs cells slots ls hP hI hS hz hc hs hl
  refine W.widen (k := R.cells) (n := R.slots) (by omega) (by omega) ?_
  exact W.iret hC.1 hC.2.1 hC.2.2.2.1 (fun t ht hW => ⟨rfl, by rw [ht]; exact hP, hI, hS.F ht⟩) hS.2.2 hd (hlocks := hC.2.2.2.2.1)
theorem hj_zret (hC : hj_C p s m args meth c G cc nL (some .boolean) own nm Ts) {b v : Int32} (hd : decode cc pc = .ok (.ireturn, 1)) (hr : hm_z v h = some (b, C, S, h2)) : hj_J p l e R s m args below meth c G h0 nL (hj_Q below args s R G h0 (some (vi_ b)) h2) C S h pc lv [vi_ v] := by
  unfold hm_z at hr
  by_cases hv : v = 0 ∨ v = 1
  · rw [if_pos hv] at hr
    unfold hm_ret at hr
    cases hr
    intro H locs cells slots ls hP hI hS hz hc hs hl
    refine W.widen (k := R.cells) (n := R.slots) (by omega) (by omega) ?_
    exact W.zret hC.1 hC.2.1 hC.2.2.2.1 (by rcases hv with rfl | rfl <;> decide) (fun t ht hW => ⟨rfl, by rw [ht]; exact hP, hI, hS.F ht⟩) hS.2.2 hd (hlocks := hC.2.2.2.2.1)
  · rw [if_neg hv] at hr
    cases hr
theorem hj_vret (hC : hj_C p s m args meth c G cc nL none own nm Ts) {b : Unit} (hd : decode cc pc = .ok (.return_, 1)) (hr : hm_ret () h = some (b, C, S, h2)) : hj_J p l e R s m args below meth c G h0 nL (hj_Q below args s R G h0 none h2) C S h pc lv [] := by
  unfold hm_ret at hr
  cases hr
  intro H locs cells slots ls hP hI hS hz hc hs hl
  refine W.widen (k := R.cells) (n := R.slots) (by omega) (by omega) ?_
  exact W.vret hC.1 hC.2.1 hC.2.2.2.1 (fun t ht hW => ⟨rfl, by rw [ht]; exact hP, hI, hS.F ht⟩) hS.2.2 hd (hlocks := hC.2.2.2.2.1)
theorem hj_aret {rt : FieldType} (hC : hj_C p s m args meth c G cc nL (some rt) own nm Ts) {b v : Option Nat} (hrt : (∃ n, rt = .object n) ∨ ∃ t, rt = .array t) (hd : decode cc pc = .ok (.areturn, 1)) (hr : hm_ret v h = some (b, C, S, h2)) : hj_J p l e R s m args below meth c G h0 nL (hj_Q below args s R G h0 (some (vr_ b)) h2) C S h pc lv [vr_ v] := by
  unfold hm_ret at hr
  cases hr
  intro H locs cells slots ls hP hI hS hz hc hs hl
  refine W.widen (k := R.cells) (n := R.slots) (by omega) (by omega) ?_
  exact W.aret hC.1 hC.2.1 hC.2.2.2.1 hrt (by cases b; exact Or.inl rfl; exact Or.inr ⟨_, rfl⟩) (fun t ht hW => ⟨rfl, by rw [ht]; exact hP, hI, hS.F ht⟩) hS.2.2 hd (hlocks := hC.2.2.2.2.1)
end HJ
/-- a method's CONTRACT: over the heap h it answers v, the heap is h2 then, C cells and S slots came -/
def hc_Met (l : Launch) (G : hc_G) (y : MethodName) (cc : ByteArray) (nL : Nat) (ret : Option FieldType) (Ts : List Cond) (fr lo : Nat) (As : List lc_V) (h : hc_H) (C S : Nat) (v : Option lc_V) (h2 : hc_H) : Prop :=
  Met l y (.code y cc nL ret :: Ts) { frames := fr, cells := C, slots := S, locals := lo } (va_Pc (As.map lc_val) (fun U => hc_P G h U.heap ∧ hc_K G U)) (hc_Q G h v h2) C S (hc_A h)
def lc_args : Nat → List lc_V → List (Nat × lc_V)
  | _, [] => []
  | i, v :: vs => (i, v) :: lc_args (if lc_two v = true then i + 2 else i + 1) vs
theorem lc_args_eq : ∀ (i : Nat) (vs : List lc_V), lv_args i (vs.map lc_val) = (lc_args i vs).map fun q => (q.1, lc_val q.2)
  | _, [] => rfl
  | i, v :: vs => by
    show (i, lc_val v) :: lv_args (if (lc_val v).category = 2 then i + 2 else i + 1) (vs.map lc_val) = (i, lc_val v) :: (lc_args (if lc_two v = true then i + 2 else i + 1) vs).map _
    rw [← lc_args_eq]
    congr 2
    rw [lc_cat]
    cases lc_two v <;> rfl
theorem lc_sl_len (vs : List lc_V) : (lg_sl (vs.map lc_val)).length = (vs.map fun v => if lc_two v = true then 2 else 1).sum := by
  induction vs with
  | nil => rfl
  | cons v vs ih =>
    show (lg_sl (lc_val v :: vs.map lc_val)).length = _
    have : lg_sl (lc_val v :: vs.map lc_val) = (if (lc_val v).category = 2 then [.val (lc_val v), .second] else [.val (lc_val v)]) ++ lg_sl (vs.map lc_val) := rfl
    rw [this, List.length_append, ih, lc_cat, List.map_cons, List.sum_cons]
    cases lc_two v <;> rfl
theorem hc_Met.of {l : Launch} {G : hc_G} {y : MethodName} {cc : ByteArray} {nL : Nat} {ret : Option FieldType} {Ts : List Cond} {fr lo : Nat} {As : List lc_V} {h : hc_H} {C S : Nat} {v : Option lc_V} {h2 : hc_H} (hy : plainName y.cls = true) (hn : (As.map fun v => if lc_two v = true then 2 else 1).sum ≤ nL)
    (body : ∀ p e s m args below meth c, hj_C p s m args meth c G cc nL ret y.cls y.name Ts → hj_J p l e { frames := fr, cells := C, slots := S, locals := lo } s m args below meth c G h nL (hj_Q below args s { frames := fr, cells := C, slots := S, locals := lo } G h v h2) C S h 0 (lc_args 0 As) []) : hc_Met l G y cc nL ret Ts fr lo As h C S v h2 := by
  refine Met.ofW (cc := cc) (maxL := nL) (ret := ret) hy rfl ?_
  intro p e s m args below meth c s₁ B hml hv
  obtain ⟨rfl, hP, hK⟩ := hv
  have hts := atoms_spec (ws := .code y cc nL ret :: Ts) B.pre
  have hl := lv_entry (As.map lc_val) (n := nL) (by rw [lc_sl_len]; exact hn)
  rw [lg_entry_eq]
  generalize (lg_sl (As.map lc_val) ++ List.replicate (nL - (lg_sl (As.map lc_val)).length) Slot.unset).toArray = ls at hl ⊢
  rw [lc_args_eq] at hl
  exact body p e s m _ below meth c ⟨B.exec, B.bytes, hml, B.returns, B.notSynchronized, (name_of_methodNamed B.named B.method).1, findClass_of_methodNamed B.named, fun w hw => hts w (List.mem_cons_of_mem _ hw), hK⟩ s.heap [] 0 0 ls hP (fun a e ha => Or.inl ⟨e, ha⟩) va_S.rf hP.1.symm (by show 0 + C ≤ C; omega) (by show 0 + S ≤ S; omega) hl
section HJC
variable {p : Program} {l : Launch} {e : Env} {R : Room} {s : State} {m : MethodId} {args : Array Value} {below : List Frame} {meth : Method} {c : Code} {G : hc_G} {h0 h h1 h2 : hc_H} {nL : Nat} {Q : State → Prop} {C S pc : Nat} {lv lv' : List (Nat × lc_V)} {st stk : List lc_V}
variable {cc : ByteArray} {ret : Option FieldType} {own nm : String} {Ts : List Cond}
variable {y : MethodName} {c1 : ByteArray} {n1 fr lo C1 S1 n index : Nat} {ret1 : Option FieldType} {As : List lc_V} {v : Option lc_V}
theorem hj_blind : FrameBlind (va_Pc (As.map lc_val) (fun U => hc_P G h U.heap ∧ hc_K G U)) := fun _ U _ _ q => ⟨q.1, q.2.1, hc_K.warm (State.WarmedH.refl U) q.2.2⟩
theorem hj_after {a : Array Value} {H : Heap} {locs : List Loc} {cells slots : Nat} {ls : Array Slot} {st0 : List Value} (hr : va_Run p l e R s m args below meth c H locs cells slots C1 S1 (F0 m pc ls st0) (st.map lc_val) (hc_Q G h v h1 a) (hc_A h)) (hP : hc_P G h H) (hI : hc_in h0 h) (hS : va_S (hc_A h0) s.heap H locs) (hz : h0.1 = s.heap.size) (hc : cells + (C1 + C) ≤ R.cells) (hs : slots + (S1 + S) ≤ R.slots) (hl : lv_has ls nL (lv.map fun q => (q.1, lc_val q.2)))
    (kk : hj_J p l e R s m args below meth c G h0 nL Q C S h1 (pc + 3) lv (v.toList ++ st)) : W p l e R s m args below meth c H locs cells slots Q (F0 m pc ls st0) := by
  intro T hT X
  obtain ⟨v', st₀, t, T', L, hst0, X', hL, e1, e2, ⟨hv, hP1, hin1, hz1, hk1⟩, go⟩ := hr T hT X
  cases hv
  rw [hst0] at hz1 hk1
  have hA : ∀ q, hc_A h q → hc_A h0 q := by
    intro q hq
    rcases hq with ⟨e, he⟩ | hq
    · exact hI q e he
    · exact Or.inr (by rw [hz]; exact Nat.le_trans hS.1 (by rw [hP.1]; exact hq))
  obtain ⟨t2, a1, b1⟩ := kk T'.heap (locs ++ L) (cells + C1) (slots + S1) ls (by rw [e1]; exact hP1) (fun a e ha => hA a (hin1 a e ha)) ⟨Nat.le_trans hS.1 (by rw [e1]; exact hz1), fun q g1 g2 => by
      rw [e1, hk1 q (Nat.lt_of_lt_of_le g1 hS.1) (fun z => g2 (hA q z))]
      exact hS.2.1 q g1 g2, fun q hq => by
      rcases List.mem_append.mp hq with h | h
      · exact hS.2.2 q h
      · exact hA _ (hL q h)⟩ hz (by omega) (by omega) hl T' rfl X'
  refine ⟨t2, go t2 ?_, b1⟩
  have e3 : (v.map lc_val).toList ++ st.map lc_val = (v.toList ++ st).map lc_val := by cases v <;> rfl
  rw [e3]
  exact a1
/-- a call of an object's own method -/
theorem hj_callV (hC : hj_C p s m args meth c G cc nL ret own nm Ts) (hG : GoodIn Ts Ts) {β α : Type} {b : β} {enc : α → Option lc_V} {pf : hM α} {kont : α → hM β} {ci N : Nat} {T : u_T} {ty : Nat → FieldType} {r : Option Nat}
    (hM : ∀ h a C S h1, pf h = some (a, C, S, h1) → hc_Met l G y c1 n1 ret1 Ts fr lo (vr_ r :: As) h C S (enc a) h1) (hcl : hc_cls Ts G.2.2.1 ci y.cls T N ty)
    (hw1 : Cond.methodLink own index y ∈ Ts) (hw2 : Cond.instanceMethod y ∈ Ts) (hw3 : Cond.selects y.cls y y ∈ Ts) (hw4 : Cond.initialized y.cls ∈ Ts) (hw5 : Cond.code y c1 n1 ret1 ∈ Ts)
    (hy : y.cls ≠ "java/lang/invoke/MethodHandle" ∧ y.cls ≠ "java/lang/invoke/VarHandle" ∧ (parseMethodDescriptor y.desc).map (fun d => d.parameters.length) = some n) (hn : As.length = n) (hR : fr + 1 ≤ R.frames ∧ 8 + (n1 + 11) + lo ≤ R.locals) (hst : stk = As.reverse ++ vr_ r :: st) (hW : lc_w st ≤ 8) (hd : decode cc pc = .ok (.invokevirtual index, 3))
    (hr : hm_bind (hm_on ci r pf) kont h = some (b, C, S, h2)) (kk : ∀ a h' C' S', kont a h' = some (b, C', S', h2) → hj_J p l e R s m args below meth c G h0 nL Q C' S' h' (pc + 3) lv ((enc a).toList ++ st)) : hj_J p l e R s m args below meth c G h0 nL Q C S h pc lv stk := by
  obtain ⟨a, c2, s2, h1, c3, s3, hm, hk2, rfl, rfl⟩ := hm_bind_inv hr
  unfold hm_on at hm
  by_cases ho : hc_isO h ci r = true
  · rw [if_pos ho] at hm
    obtain ⟨q, fs, rfl, hq⟩ := hc_isO_inv ho
    intro H locs cells slots ls hP hI hS hz hc hs hl
    have hts := hC.2.2.2.2.2.2.2.1
    have hmet := hM h a c2 s2 h1 hm
    have cw : CallW R s args own y.cls index y c1 n1 ret1 (.code y c1 n1 ret1 :: Ts) { frames := fr, cells := c2, slots := s2, locals := lo } c2 s2 n := cwV n hts (fun w hw => hG w (by
        rcases List.mem_append.mp hw with hw | hw
        · simp only [List.mem_cons, List.not_mem_nil, or_false] at hw
          rcases hw with rfl | rfl | rfl | rfl <;> assumption
        · rcases List.mem_cons.mp hw with rfl | hw
          · exact hw5
          · exact hw)) rfl rfl rfl ⟨rfl, hy⟩ hR
    have hrv := hj_K hC
    have hq' : hc_has h q (.inr (.inr (ci, fs))) := hq
    obtain ⟨⟨r', hr', cell, g1, g2, g3, -⟩, -⟩ := hP.2.1 q _ hq'
    have hcell : ∃ cellB : Cell, H[q]? = some cellB ∧ cellB.vm.isStatics = false ∧ s.vm.findClass y.cls = some cellB.cls := ⟨cell, g1, by rw [g3]; rfl, by rw [g2]; exact (hrv.1 ci _ hcl.1).2.1⟩
    have run := va_runV (p := p) (e := e) (below := below) (meth := meth) (H := H) (locs := locs) (cells := cells) (slots := slots) (As := As.map lc_val) (rest := st.map lc_val) (b := q) (g := F0 m pc ls (stk.map lc_val)) ⟨hC.1, hC.2.1, hC.2.2.1, hC.2.2.2.2.2.2.1, hts⟩ hmet cw ⟨hj_blind, hcell, fun U hU hW => ⟨rfl, by rw [hU]; exact hP, hc_K.warm hW hC.2.2.2.2.2.2.2.2⟩⟩ rfl (by rw [List.length_map]; exact hn) hl.1 (by rw [hst]; simp only [List.map_append, List.map_cons, List.map_reverse]; rfl) (lv_room (by rw [lc_w_eq]; exact hW)) hd ⟨by omega, by omega⟩
    exact hj_after run hP hI hS hz hc hs hl (kk a h1 c3 s3 hk2)
  · rw [if_neg ho] at hm
    cases hm
/-- a constructor's call -/
theorem hj_callI (hC : hj_C p s m args meth c G cc nL ret own nm Ts) (hG : GoodIn Ts Ts) {β α : Type} {b : β} {pf : hM α} {kont : α → hM β} {q : Nat}
    (hM : ∀ h a C S h1, pf h = some (a, C, S, h1) → hc_Met l G y c1 n1 none Ts fr lo (vr_ (some q) :: As) h C S none h1)
    (hw1 : Cond.methodLink own index y ∈ Ts ∨ ∃ host, (own, index, y, host) ∈ G.2.2.2.2.1) (hw2 : Cond.instanceMethod y ∈ Ts) (hw4 : Cond.initialized y.cls ∈ Ts) (hw5 : Cond.code y c1 n1 none ∈ Ts) (hy1 : y.name = "<init>")
    (hy : y.cls ≠ "java/lang/invoke/MethodHandle" ∧ y.cls ≠ "java/lang/invoke/VarHandle" ∧ (parseMethodDescriptor y.desc).map (fun d => d.parameters.length) = some n) (hn : As.length = n) (hR : fr + 1 ≤ R.frames ∧ 8 + (n1 + 11) + lo ≤ R.locals) (hst : stk = As.reverse ++ vr_ (some q) :: st) (hW : lc_w st ≤ 8) (hd : decode cc pc = .ok (.invokespecial index, 3))
    (hr : hm_bind pf kont h = some (b, C, S, h2)) (kk : ∀ a h' C' S', kont a h' = some (b, C', S', h2) → hj_J p l e R s m args below meth c G h0 nL Q C' S' h' (pc + 3) lv st) : hj_J p l e R s m args below meth c G h0 nL Q C S h pc lv stk := by
  obtain ⟨a, c2, s2, h1, c3, s3, hm, hk2, rfl, rfl⟩ := hm_bind_inv hr
  intro H locs cells slots ls hP hI hS hz hc hs hl
  have hts := hC.2.2.2.2.2.2.2.1
  have hmet := hM h a c2 s2 h1 hm
  have hgood : GoodIn Ts (.code y c1 n1 none :: Ts) := fun w hw => hG w (by
    rcases List.mem_cons.mp hw with rfl | hw
    · exact hw5
    · exact hw)
  have hpre : PreS s H (va_Pc ((vr_ (some q) :: As).map lc_val) (fun U => hc_P G h U.heap ∧ hc_K G U)) (.ref q :: As.map lc_val) := ⟨hj_blind, fun U hU hW => ⟨rfl, by rw [hU]; exact hP, hc_K.warm hW hC.2.2.2.2.2.2.2.2⟩⟩
  have hstk : (stk.map lc_val) = (As.map lc_val).reverse ++ .ref q :: st.map lc_val := by rw [hst]; simp only [List.map_append, List.map_cons, List.map_reverse]; rfl
  rcases hw1 with hw1 | ⟨host, hw1⟩
  · have run := va_runI (p := p) (e := e) (below := below) (meth := meth) (H := H) (locs := locs) (cells := cells) (slots := slots) (As := As.map lc_val) (rest := st.map lc_val) (b := q) (g := F0 m pc ls (stk.map lc_val)) ⟨hC.1, hC.2.1, hC.2.2.1, hC.2.2.2.2.2.2.1, hts⟩ hmet (cwI n hts hgood rfl rfl rfl (hts _ hw4) (hts _ hw1) (hts _ hw2) hy1 hy hR) hpre rfl (by rw [List.length_map]; exact hn) hl.1 hstk (lv_room (by rw [lc_w_eq]; exact hW)) hd ⟨by omega, by omega⟩
    exact hj_after (v := none) run hP hI hS hz hc hs hl (kk a h1 c3 s3 hk2)
  · have run := va_runIN (p := p) (e := e) (below := below) (meth := meth) (H := H) (locs := locs) (cells := cells) (slots := slots) (As := As.map lc_val) (rest := st.map lc_val) (b := q) (g := F0 m pc ls (stk.map lc_val)) ⟨hC.1, hC.2.1, hC.2.2.1, hC.2.2.2.2.2.2.1, hts⟩ hmet ⟨va_cnB n hts hgood rfl rfl rfl (hC.2.2.2.2.2.2.2.2.2.2.1 _ hw1) (hts _ hw4) hy hR, hy1, hts _ hw2⟩ hpre rfl (by rw [List.length_map]; exact hn) hl.1 hstk (lv_room (by rw [lc_w_eq]; exact hW)) hd ⟨by omega, by omega⟩
    exact hj_after (v := none) run hP hI hS hz hc hs hl (kk a h1 c3 s3 hk2)
/-- a call of a static method -/
theorem hj_callS (hC : hj_C p s m args meth c G cc nL ret own nm Ts) (hG : GoodIn Ts Ts) {β α : Type} {b : β} {enc : α → Option lc_V} {pf : hM α} {kont : α → hM β}
    (hM : ∀ h a C S h1, pf h = some (a, C, S, h1) → hc_Met l G y c1 n1 ret1 Ts fr lo As h C S (enc a) h1)
    (hw1 : Cond.methodLink own index y ∈ Ts) (hw2 : Cond.static y ∈ Ts) (hw4 : Cond.initialized y.cls ∈ Ts) (hw5 : Cond.code y c1 n1 ret1 ∈ Ts)
    (hy : y.cls ≠ "java/lang/invoke/MethodHandle" ∧ y.cls ≠ "java/lang/invoke/VarHandle" ∧ (parseMethodDescriptor y.desc).map (fun d => d.parameters.length) = some n) (hn : As.length = n) (hR : fr + 1 ≤ R.frames ∧ 8 + (n1 + 11) + lo ≤ R.locals) (hst : stk = As.reverse ++ st) (hW : lc_w st ≤ 8) (hd : decode cc pc = .ok (.invokestatic index, 3))
    (hr : hm_bind pf kont h = some (b, C, S, h2)) (kk : ∀ a h' C' S', kont a h' = some (b, C', S', h2) → hj_J p l e R s m args below meth c G h0 nL Q C' S' h' (pc + 3) lv ((enc a).toList ++ st)) : hj_J p l e R s m args below meth c G h0 nL Q C S h pc lv stk := by
  obtain ⟨a, c2, s2, h1, c3, s3, hm, hk2, rfl, rfl⟩ := hm_bind_inv hr
  intro H locs cells slots ls hP hI hS hz hc hs hl
  have hts := hC.2.2.2.2.2.2.2.1
  have hmet := hM h a c2 s2 h1 hm
  have hgood : GoodIn Ts (va_wsS own index y (.code y c1 n1 ret1 :: Ts)) := fun w hw => hG w (by
        rcases List.mem_append.mp hw with hw | hw
        · simp only [List.mem_cons, List.not_mem_nil, or_false] at hw
          rcases hw with rfl | rfl | rfl <;> assumption
        · rcases List.mem_cons.mp hw with rfl | hw
          · exact hw5
          · exact hw)
  have run := va_runS (p := p) (e := e) (below := below) (meth := meth) (H := H) (locs := locs) (cells := cells) (slots := slots) (As := As.map lc_val) (rest := st.map lc_val) (g := F0 m pc ls (stk.map lc_val)) ⟨hC.1, hC.2.1, hC.2.2.1, hC.2.2.2.2.2.2.1, hts⟩ hmet (va_cwS n hts hgood rfl rfl rfl hy hR) ⟨hj_blind, fun U hU hW => ⟨rfl, by rw [hU]; exact hP, hc_K.warm hW hC.2.2.2.2.2.2.2.2⟩⟩ rfl (by rw [List.length_map]; exact hn) hl.1 (by rw [hst]; simp only [List.map_append, List.map_reverse]) (lv_room (by rw [lc_w_eq]; exact hW)) hd ⟨by omega, by omega⟩
  exact hj_after run hP hI hS hz hc hs hl (kk a h1 c3 s3 hk2)
end HJC
end
section
theorem goodIn_rr {big : List Cond} (ws : List Cond) (ps : List Nat) (hp : ws = ps.filterMap (fun i => big[i]?)) (h : ws.all goodWord = true) : GoodIn big ws := by
  intro w hw
  have h1 := List.all_eq_true.mp h w hw
  rw [hp] at hw
  obtain ⟨i, -, hi⟩ := List.mem_filterMap.mp hw
  exact ⟨List.mem_of_getElem? hi, good_of_word h1⟩
theorem mem_rr {big ws : List Cond} (ps : List Nat) (hp : ws = ps.filterMap (fun i => big[i]?)) : ∀ w ∈ ws, w ∈ big := by
  intro w hw
  rw [hp] at hw
  obtain ⟨i, -, hi⟩ := List.mem_filterMap.mp hw
  exact List.mem_of_getElem? hi
def R_SB : String := "StackBytes"
def F_SB : u_T := fun k => match k with
  | 0 => ("StackBytes", "bytes", "LStackBytes$ByteRow;", true)
  | 1 => ("StackBytes", "written", "LStackBytes$ByteRow;", true)
  | 2 => ("StackBytes", "latest", "LStackBytes$Fault;", true)
  | 3 => ("StackBytes", "reader", "LStackBytes$Reader;", true)
  | 4 => ("StackBytes", "verifier", "LStackBytes$Verifier;", true)
  | 5 => ("StackBytes", "program", "LStackBytes$Program;", false)
  | _ => ("StackBytes", "spare", "LStackBytes$Program;", false)
def t_SB : Nat → FieldType := fun k => match k with
  | 0 => .object "StackBytes$ByteRow"
  | 1 => .object "StackBytes$ByteRow"
  | 2 => .object "StackBytes$Fault"
  | 3 => .object "StackBytes$Reader"
  | 4 => .object "StackBytes$Verifier"
  | 5 => .object "StackBytes$Program"
  | _ => .object "StackBytes$Program"
def R_ByteRow : String := "StackBytes$ByteRow"
def F_ByteRow : u_T := fun k => match k with
  | 0 => ("StackBytes$ByteRow", "most", "I", true)
  | 1 => ("StackBytes$ByteRow", "row", "[B", false)
  | _ => ("StackBytes$ByteRow", "count", "I", false)
def t_ByteRow : Nat → FieldType := fun k => match k with
  | 0 => .int
  | 1 => .array .byte
  | _ => .int
def R_Fault : String := "StackBytes$Fault"
def F_Fault : u_T := fun k => match k with
  | 0 => ("StackBytes$Fault", "kind", "I", false)
  | _ => ("StackBytes$Fault", "place", "I", false)
def t_Fault : Nat → FieldType := fun k => match k with
  | 0 => .int
  | _ => .int
def R_Function : String := "StackBytes$Function"
def F_Function : u_T := fun k => match k with
  | 0 => ("StackBytes$Function", "params", "I", false)
  | 1 => ("StackBytes$Function", "locals", "I", false)
  | 2 => ("StackBytes$Function", "rowLocals", "I", false)
  | 3 => ("StackBytes$Function", "result", "I", false)
  | 4 => ("StackBytes$Function", "count", "I", false)
  | 5 => ("StackBytes$Function", "handlerCount", "I", false)
  | 6 => ("StackBytes$Function", "ops", "[I", true)
  | 7 => ("StackBytes$Function", "behinds", "[I", true)
  | 8 => ("StackBytes$Function", "depths", "[I", true)
  | 9 => ("StackBytes$Function", "rowsOnStack", "[I", true)
  | _ => ("StackBytes$Function", "handlers", "[LStackBytes$Handler;", true)
def t_Function : Nat → FieldType := fun k => match k with
  | 0 => .int
  | 1 => .int
  | 2 => .int
  | 3 => .int
  | 4 => .int
  | 5 => .int
  | 6 => .array .int
  | 7 => .array .int
  | 8 => .array .int
  | 9 => .array .int
  | _ => .array (.object "StackBytes$Handler")
def R_Handler : String := "StackBytes$Handler"
def F_Handler : u_T := fun k => match k with
  | 0 => ("StackBytes$Handler", "from", "I", false)
  | 1 => ("StackBytes$Handler", "to", "I", false)
  | 2 => ("StackBytes$Handler", "target", "I", false)
  | 3 => ("StackBytes$Handler", "forAny", "Z", false)
  | _ => ("StackBytes$Handler", "code", "I", false)
def t_Handler : Nat → FieldType := fun k => match k with
  | 0 => .int
  | 1 => .int
  | 2 => .int
  | 3 => .boolean
  | _ => .int
def R_Kinds : String := "StackBytes$Kinds"
def F_Kinds : u_T := fun k => match k with
  | _ => ("", "", "", false)
def t_Kinds : Nat → FieldType := fun k => match k with
  | _ => .int
def R_Program : String := "StackBytes$Program"
def F_Program : u_T := fun k => match k with
  | 0 => ("StackBytes$Program", "functions", "[LStackBytes$Function;", true)
  | _ => ("StackBytes$Program", "count", "I", false)
def t_Program : Nat → FieldType := fun k => match k with
  | 0 => .array (.object "StackBytes$Function")
  | _ => .int
def R_Reader : String := "StackBytes$Reader"
def F_Reader : u_T := fun k => match k with
  | 0 => ("StackBytes$Reader", "in", "LStackBytes$ByteRow;", true)
  | 1 => ("StackBytes$Reader", "fault", "LStackBytes$Fault;", true)
  | _ => ("StackBytes$Reader", "at", "I", false)
def t_Reader : Nat → FieldType := fun k => match k with
  | 0 => .object "StackBytes$ByteRow"
  | 1 => .object "StackBytes$Fault"
  | _ => .int
def R_Verifier : String := "StackBytes$Verifier"
def F_Verifier : u_T := fun k => match k with
  | 0 => ("StackBytes$Verifier", "fault", "LStackBytes$Fault;", true)
  | 1 => ("StackBytes$Verifier", "depths", "[I", true)
  | 2 => ("StackBytes$Verifier", "rowsOnStack", "[I", true)
  | 3 => ("StackBytes$Verifier", "waits", "[Z", true)
  | 4 => ("StackBytes$Verifier", "leastWaiting", "I", false)
  | 5 => ("StackBytes$Verifier", "program", "LStackBytes$Program;", false)
  | 6 => ("StackBytes$Verifier", "function", "LStackBytes$Function;", false)
  | 7 => ("StackBytes$Verifier", "firstPlace", "I", false)
  | 8 => ("StackBytes$Verifier", "current", "I", false)
  | 9 => ("StackBytes$Verifier", "depth", "I", false)
  | _ => ("StackBytes$Verifier", "rows", "I", false)
def t_Verifier : Nat → FieldType := fun k => match k with
  | 0 => .object "StackBytes$Fault"
  | 1 => .array .int
  | 2 => .array .int
  | 3 => .array .boolean
  | 4 => .int
  | 5 => .object "StackBytes$Program"
  | 6 => .object "StackBytes$Function"
  | 7 => .int
  | 8 => .int
  | 9 => .int
  | _ => .int
def R_Mo : String := "StackBytesModel"
def F_Mo : u_T := fun k => match k with
  | 0 => ("StackBytesModel", "thrown", "I", false)
  | 1 => ("StackBytesModel", "bytes", "[I", true)
  | 2 => ("StackBytesModel", "many", "I", false)
  | 3 => ("StackBytesModel", "written", "[I", true)
  | 4 => ("StackBytesModel", "writtenMany", "I", false)
  | 5 => ("StackBytesModel", "fault", "I", false)
  | 6 => ("StackBytesModel", "place", "I", false)
  | 7 => ("StackBytesModel", "bad", "I", false)
  | 8 => ("StackBytesModel", "where", "I", false)
  | 9 => ("StackBytesModel", "functions", "[I", true)
  | 10 => ("StackBytesModel", "params", "[I", true)
  | 11 => ("StackBytesModel", "locals", "[I", true)
  | 12 => ("StackBytesModel", "rowBits", "[I", true)
  | 13 => ("StackBytesModel", "results", "[I", true)
  | 14 => ("StackBytesModel", "sizes", "[I", true)
  | 15 => ("StackBytesModel", "handlerMany", "[I", true)
  | 16 => ("StackBytesModel", "ops", "[I", true)
  | 17 => ("StackBytesModel", "operands", "[I", true)
  | 18 => ("StackBytesModel", "froms", "[I", true)
  | 19 => ("StackBytesModel", "tos", "[I", true)
  | 20 => ("StackBytesModel", "targets", "[I", true)
  | 21 => ("StackBytesModel", "anyCode", "[Z", true)
  | 22 => ("StackBytesModel", "handlerCodes", "[I", true)
  | 23 => ("StackBytesModel", "heights", "[I", true)
  | 24 => ("StackBytesModel", "kinds", "[I", true)
  | 25 => ("StackBytesModel", "waits", "[Z", true)
  | 26 => ("StackBytesModel", "p", "I", false)
  | 27 => ("StackBytesModel", "height", "I", false)
  | _ => ("StackBytesModel", "kind", "I", false)
def t_Mo : Nat → FieldType := fun k => match k with
  | 0 => .int
  | 1 => .array .int
  | 2 => .int
  | 3 => .array .int
  | 4 => .int
  | 5 => .int
  | 6 => .int
  | 7 => .int
  | 8 => .int
  | 9 => .array .int
  | 10 => .array .int
  | 11 => .array .int
  | 12 => .array .int
  | 13 => .array .int
  | 14 => .array .int
  | 15 => .array .int
  | 16 => .array .int
  | 17 => .array .int
  | 18 => .array .int
  | 19 => .array .int
  | 20 => .array .int
  | 21 => .array .boolean
  | 22 => .array .int
  | 23 => .array .int
  | 24 => .array .int
  | 25 => .array .boolean
  | 26 => .int
  | 27 => .int
  | _ => .int
def R_Ar : String := "java/util/Arrays"
def R_La : String := "StackBytesLaw"
abbrev b_ByteRow_init : ByteArray := prog_2_method_1_code
def y_ByteRow_init : MethodName := ⟨R_ByteRow, "<init>", "(I)V"⟩
theorem yk_ByteRow_init : y_ByteRow_init.cls ≠ "java/lang/invoke/MethodHandle" ∧ y_ByteRow_init.cls ≠ "java/lang/invoke/VarHandle" ∧ (parseMethodDescriptor y_ByteRow_init.desc).map (fun d => d.parameters.length) = some 1 := by decide +kernel
abbrev b_Fault_init : ByteArray := prog_3_method_1_code
def y_Fault_init : MethodName := ⟨R_Fault, "<init>", "()V"⟩
theorem yk_Fault_init : y_Fault_init.cls ≠ "java/lang/invoke/MethodHandle" ∧ y_Fault_init.cls ≠ "java/lang/invoke/VarHandle" ∧ (parseMethodDescriptor y_Fault_init.desc).map (fun d => d.parameters.length) = some 0 := by decide +kernel
abbrev b_Reader_init : ByteArray := prog_8_method_1_code
def y_Reader_init : MethodName := ⟨R_Reader, "<init>", "(LStackBytes$ByteRow;LStackBytes$Fault;)V"⟩
theorem yk_Reader_init : y_Reader_init.cls ≠ "java/lang/invoke/MethodHandle" ∧ y_Reader_init.cls ≠ "java/lang/invoke/VarHandle" ∧ (parseMethodDescriptor y_Reader_init.desc).map (fun d => d.parameters.length) = some 2 := by decide +kernel
abbrev b_Verifier_init : ByteArray := prog_9_method_1_code
def y_Verifier_init : MethodName := ⟨R_Verifier, "<init>", "(LStackBytes$Fault;)V"⟩
theorem yk_Verifier_init : y_Verifier_init.cls ≠ "java/lang/invoke/MethodHandle" ∧ y_Verifier_init.cls ≠ "java/lang/invoke/VarHandle" ∧ (parseMethodDescriptor y_Verifier_init.desc).map (fun d => d.parameters.length) = some 1 := by decide +kernel
abbrev b_Handler_init : ByteArray := prog_5_method_1_code
def y_Handler_init : MethodName := ⟨R_Handler, "<init>", "()V"⟩
theorem yk_Handler_init : y_Handler_init.cls ≠ "java/lang/invoke/MethodHandle" ∧ y_Handler_init.cls ≠ "java/lang/invoke/VarHandle" ∧ (parseMethodDescriptor y_Handler_init.desc).map (fun d => d.parameters.length) = some 0 := by decide +kernel
abbrev b_Function_init : ByteArray := prog_4_method_1_code
def y_Function_init : MethodName := ⟨R_Function, "<init>", "()V"⟩
theorem yk_Function_init : y_Function_init.cls ≠ "java/lang/invoke/MethodHandle" ∧ y_Function_init.cls ≠ "java/lang/invoke/VarHandle" ∧ (parseMethodDescriptor y_Function_init.desc).map (fun d => d.parameters.length) = some 0 := by decide +kernel
abbrev b_Program_init : ByteArray := prog_7_method_1_code
def y_Program_init : MethodName := ⟨R_Program, "<init>", "()V"⟩
theorem yk_Program_init : y_Program_init.cls ≠ "java/lang/invoke/MethodHandle" ∧ y_Program_init.cls ≠ "java/lang/invoke/VarHandle" ∧ (parseMethodDescriptor y_Program_init.desc).map (fun d => d.parameters.length) = some 0 := by decide +kernel
abbrev b_SB_init : ByteArray := prog_1_method_1_code
def y_SB_init : MethodName := ⟨R_SB, "<init>", "()V"⟩
theorem yk_SB_init : y_SB_init.cls ≠ "java/lang/invoke/MethodHandle" ∧ y_SB_init.cls ≠ "java/lang/invoke/VarHandle" ∧ (parseMethodDescriptor y_SB_init.desc).map (fun d => d.parameters.length) = some 0 := by decide +kernel
abbrev b_Ar_copyOf : ByteArray := prog_15_method_121_code
def y_Ar_copyOf : MethodName := ⟨R_Ar, "copyOf", "([BI)[B"⟩
theorem yk_Ar_copyOf : y_Ar_copyOf.cls ≠ "java/lang/invoke/MethodHandle" ∧ y_Ar_copyOf.cls ≠ "java/lang/invoke/VarHandle" ∧ (parseMethodDescriptor y_Ar_copyOf.desc).map (fun d => d.parameters.length) = some 2 := by decide +kernel
abbrev b_ByteRow_makeRoom : ByteArray := prog_2_method_7_code
def y_ByteRow_makeRoom : MethodName := ⟨R_ByteRow, "makeRoom", "(I)V"⟩
theorem yk_ByteRow_makeRoom : y_ByteRow_makeRoom.cls ≠ "java/lang/invoke/MethodHandle" ∧ y_ByteRow_makeRoom.cls ≠ "java/lang/invoke/VarHandle" ∧ (parseMethodDescriptor y_ByteRow_makeRoom.desc).map (fun d => d.parameters.length) = some 1 := by decide +kernel
abbrev b_ByteRow_add : ByteArray := prog_2_method_2_code
def y_ByteRow_add : MethodName := ⟨R_ByteRow, "add", "(JI)Z"⟩
theorem yk_ByteRow_add : y_ByteRow_add.cls ≠ "java/lang/invoke/MethodHandle" ∧ y_ByteRow_add.cls ≠ "java/lang/invoke/VarHandle" ∧ (parseMethodDescriptor y_ByteRow_add.desc).map (fun d => d.parameters.length) = some 2 := by decide +kernel
abbrev b_SB_give : ByteArray := prog_1_method_2_code
def y_SB_give : MethodName := ⟨R_SB, "give", "(JI)Z"⟩
theorem yk_SB_give : y_SB_give.cls ≠ "java/lang/invoke/MethodHandle" ∧ y_SB_give.cls ≠ "java/lang/invoke/VarHandle" ∧ (parseMethodDescriptor y_SB_give.desc).map (fun d => d.parameters.length) = some 2 := by decide +kernel
abbrev b_ByteRow_keepFirst : ByteArray := prog_2_method_3_code
def y_ByteRow_keepFirst : MethodName := ⟨R_ByteRow, "keepFirst", "(I)Z"⟩
theorem yk_ByteRow_keepFirst : y_ByteRow_keepFirst.cls ≠ "java/lang/invoke/MethodHandle" ∧ y_ByteRow_keepFirst.cls ≠ "java/lang/invoke/VarHandle" ∧ (parseMethodDescriptor y_ByteRow_keepFirst.desc).map (fun d => d.parameters.length) = some 1 := by decide +kernel
abbrev b_SB_cut : ByteArray := prog_1_method_3_code
def y_SB_cut : MethodName := ⟨R_SB, "cut", "(I)Z"⟩
theorem yk_SB_cut : y_SB_cut.cls ≠ "java/lang/invoke/MethodHandle" ∧ y_SB_cut.cls ≠ "java/lang/invoke/VarHandle" ∧ (parseMethodDescriptor y_SB_cut.desc).map (fun d => d.parameters.length) = some 1 := by decide +kernel
abbrev b_ByteRow_set : ByteArray := prog_2_method_4_code
def y_ByteRow_set : MethodName := ⟨R_ByteRow, "set", "(II)Z"⟩
theorem yk_ByteRow_set : y_ByteRow_set.cls ≠ "java/lang/invoke/MethodHandle" ∧ y_ByteRow_set.cls ≠ "java/lang/invoke/VarHandle" ∧ (parseMethodDescriptor y_ByteRow_set.desc).map (fun d => d.parameters.length) = some 2 := by decide +kernel
abbrev b_SB_poke : ByteArray := prog_1_method_4_code
def y_SB_poke : MethodName := ⟨R_SB, "poke", "(II)Z"⟩
theorem yk_SB_poke : y_SB_poke.cls ≠ "java/lang/invoke/MethodHandle" ∧ y_SB_poke.cls ≠ "java/lang/invoke/VarHandle" ∧ (parseMethodDescriptor y_SB_poke.desc).map (fun d => d.parameters.length) = some 2 := by decide +kernel
abbrev b_Fault_clear : ByteArray := prog_3_method_2_code
def y_Fault_clear : MethodName := ⟨R_Fault, "clear", "()V"⟩
theorem yk_Fault_clear : y_Fault_clear.cls ≠ "java/lang/invoke/MethodHandle" ∧ y_Fault_clear.cls ≠ "java/lang/invoke/VarHandle" ∧ (parseMethodDescriptor y_Fault_clear.desc).map (fun d => d.parameters.length) = some 0 := by decide +kernel
abbrev b_Fault_tell : ByteArray := prog_3_method_3_code
def y_Fault_tell : MethodName := ⟨R_Fault, "tell", "(II)V"⟩
theorem yk_Fault_tell : y_Fault_tell.cls ≠ "java/lang/invoke/MethodHandle" ∧ y_Fault_tell.cls ≠ "java/lang/invoke/VarHandle" ∧ (parseMethodDescriptor y_Fault_tell.desc).map (fun d => d.parameters.length) = some 2 := by decide +kernel
abbrev b_ByteRow_at : ByteArray := prog_2_method_5_code
def y_ByteRow_at : MethodName := ⟨R_ByteRow, "at", "(I)I"⟩
theorem yk_ByteRow_at : y_ByteRow_at.cls ≠ "java/lang/invoke/MethodHandle" ∧ y_ByteRow_at.cls ≠ "java/lang/invoke/VarHandle" ∧ (parseMethodDescriptor y_ByteRow_at.desc).map (fun d => d.parameters.length) = some 1 := by decide +kernel
abbrev b_Reader_nextByte : ByteArray := prog_8_method_8_code
def y_Reader_nextByte : MethodName := ⟨R_Reader, "nextByte", "()I"⟩
theorem yk_Reader_nextByte : y_Reader_nextByte.cls ≠ "java/lang/invoke/MethodHandle" ∧ y_Reader_nextByte.cls ≠ "java/lang/invoke/VarHandle" ∧ (parseMethodDescriptor y_Reader_nextByte.desc).map (fun d => d.parameters.length) = some 0 := by decide +kernel
abbrev b_Reader_start : ByteArray := prog_8_method_3_code
def y_Reader_start : MethodName := ⟨R_Reader, "start", "(I)V"⟩
theorem yk_Reader_start : y_Reader_start.cls ≠ "java/lang/invoke/MethodHandle" ∧ y_Reader_start.cls ≠ "java/lang/invoke/VarHandle" ∧ (parseMethodDescriptor y_Reader_start.desc).map (fun d => d.parameters.length) = some 1 := by decide +kernel
abbrev b_Reader_number : ByteArray := prog_8_method_7_code
def y_Reader_number : MethodName := ⟨R_Reader, "number", "(III)I"⟩
theorem yk_Reader_number : y_Reader_number.cls ≠ "java/lang/invoke/MethodHandle" ∧ y_Reader_number.cls ≠ "java/lang/invoke/VarHandle" ∧ (parseMethodDescriptor y_Reader_number.desc).map (fun d => d.parameters.length) = some 3 := by decide +kernel
abbrev b_Program_setCount : ByteArray := prog_7_method_3_code
def y_Program_setCount : MethodName := ⟨R_Program, "setCount", "(I)V"⟩
theorem yk_Program_setCount : y_Program_setCount.cls ≠ "java/lang/invoke/MethodHandle" ∧ y_Program_setCount.cls ≠ "java/lang/invoke/VarHandle" ∧ (parseMethodDescriptor y_Program_setCount.desc).map (fun d => d.parameters.length) = some 1 := by decide +kernel
abbrev b_Reader_head : ByteArray := prog_8_method_4_code
def y_Reader_head : MethodName := ⟨R_Reader, "head", "(LStackBytes$Function;Z)V"⟩
theorem yk_Reader_head : y_Reader_head.cls ≠ "java/lang/invoke/MethodHandle" ∧ y_Reader_head.cls ≠ "java/lang/invoke/VarHandle" ∧ (parseMethodDescriptor y_Reader_head.desc).map (fun d => d.parameters.length) = some 2 := by decide +kernel
abbrev b_Kinds_bytesBehind : ByteArray := prog_6_method_4_code
def y_Kinds_bytesBehind : MethodName := ⟨R_Kinds, "bytesBehind", "(I)I"⟩
theorem yk_Kinds_bytesBehind : y_Kinds_bytesBehind.cls ≠ "java/lang/invoke/MethodHandle" ∧ y_Kinds_bytesBehind.cls ≠ "java/lang/invoke/VarHandle" ∧ (parseMethodDescriptor y_Kinds_bytesBehind.desc).map (fun d => d.parameters.length) = some 1 := by decide +kernel
abbrev b_Kinds_leastBehind : ByteArray := prog_6_method_5_code
def y_Kinds_leastBehind : MethodName := ⟨R_Kinds, "leastBehind", "(I)I"⟩
theorem yk_Kinds_leastBehind : y_Kinds_leastBehind.cls ≠ "java/lang/invoke/MethodHandle" ∧ y_Kinds_leastBehind.cls ≠ "java/lang/invoke/VarHandle" ∧ (parseMethodDescriptor y_Kinds_leastBehind.desc).map (fun d => d.parameters.length) = some 1 := by decide +kernel
abbrev b_Kinds_mostBehind : ByteArray := prog_6_method_6_code
def y_Kinds_mostBehind : MethodName := ⟨R_Kinds, "mostBehind", "(ILStackBytes$Function;I)I"⟩
theorem yk_Kinds_mostBehind : y_Kinds_mostBehind.cls ≠ "java/lang/invoke/MethodHandle" ∧ y_Kinds_mostBehind.cls ≠ "java/lang/invoke/VarHandle" ∧ (parseMethodDescriptor y_Kinds_mostBehind.desc).map (fun d => d.parameters.length) = some 3 := by decide +kernel
abbrev b_Reader_instructions : ByteArray := prog_8_method_5_code
def y_Reader_instructions : MethodName := ⟨R_Reader, "instructions", "(LStackBytes$Function;I)V"⟩
theorem yk_Reader_instructions : y_Reader_instructions.cls ≠ "java/lang/invoke/MethodHandle" ∧ y_Reader_instructions.cls ≠ "java/lang/invoke/VarHandle" ∧ (parseMethodDescriptor y_Reader_instructions.desc).map (fun d => d.parameters.length) = some 2 := by decide +kernel
abbrev b_Reader_handlers : ByteArray := prog_8_method_6_code
def y_Reader_handlers : MethodName := ⟨R_Reader, "handlers", "(LStackBytes$Function;)V"⟩
theorem yk_Reader_handlers : y_Reader_handlers.cls ≠ "java/lang/invoke/MethodHandle" ∧ y_Reader_handlers.cls ≠ "java/lang/invoke/VarHandle" ∧ (parseMethodDescriptor y_Reader_handlers.desc).map (fun d => d.parameters.length) = some 1 := by decide +kernel
abbrev b_Reader_readInto : ByteArray := prog_8_method_2_code
def y_Reader_readInto : MethodName := ⟨R_Reader, "readInto", "(LStackBytes$Program;)V"⟩
theorem yk_Reader_readInto : y_Reader_readInto.cls ≠ "java/lang/invoke/MethodHandle" ∧ y_Reader_readInto.cls ≠ "java/lang/invoke/VarHandle" ∧ (parseMethodDescriptor y_Reader_readInto.desc).map (fun d => d.parameters.length) = some 1 := by decide +kernel
abbrev b_Program_at : ByteArray := prog_7_method_2_code
def y_Program_at : MethodName := ⟨R_Program, "at", "(I)LStackBytes$Function;"⟩
theorem yk_Program_at : y_Program_at.cls ≠ "java/lang/invoke/MethodHandle" ∧ y_Program_at.cls ≠ "java/lang/invoke/VarHandle" ∧ (parseMethodDescriptor y_Program_at.desc).map (fun d => d.parameters.length) = some 1 := by decide +kernel
abbrev b_Function_has : ByteArray := prog_4_method_2_code
def y_Function_has : MethodName := ⟨R_Function, "has", "(I)Z"⟩
theorem yk_Function_has : y_Function_has.cls ≠ "java/lang/invoke/MethodHandle" ∧ y_Function_has.cls ≠ "java/lang/invoke/VarHandle" ∧ (parseMethodDescriptor y_Function_has.desc).map (fun d => d.parameters.length) = some 1 := by decide +kernel
abbrev b_Verifier_comeTo : ByteArray := prog_9_method_8_code
def y_Verifier_comeTo : MethodName := ⟨R_Verifier, "comeTo", "(III)V"⟩
theorem yk_Verifier_comeTo : y_Verifier_comeTo.cls ≠ "java/lang/invoke/MethodHandle" ∧ y_Verifier_comeTo.cls ≠ "java/lang/invoke/VarHandle" ∧ (parseMethodDescriptor y_Verifier_comeTo.desc).map (fun d => d.parameters.length) = some 3 := by decide +kernel
abbrev b_Verifier_findLeastWaiting : ByteArray := prog_9_method_4_code
def y_Verifier_findLeastWaiting : MethodName := ⟨R_Verifier, "findLeastWaiting", "()V"⟩
theorem yk_Verifier_findLeastWaiting : y_Verifier_findLeastWaiting.cls ≠ "java/lang/invoke/MethodHandle" ∧ y_Verifier_findLeastWaiting.cls ≠ "java/lang/invoke/VarHandle" ∧ (parseMethodDescriptor y_Verifier_findLeastWaiting.desc).map (fun d => d.parameters.length) = some 0 := by decide +kernel
abbrev b_Verifier_put : ByteArray := prog_9_method_18_code
def y_Verifier_put : MethodName := ⟨R_Verifier, "put", "(I)V"⟩
theorem yk_Verifier_put : y_Verifier_put.cls ≠ "java/lang/invoke/MethodHandle" ∧ y_Verifier_put.cls ≠ "java/lang/invoke/VarHandle" ∧ (parseMethodDescriptor y_Verifier_put.desc).map (fun d => d.parameters.length) = some 1 := by decide +kernel
abbrev b_Verifier_take : ByteArray := prog_9_method_17_code
def y_Verifier_take : MethodName := ⟨R_Verifier, "take", "(I)I"⟩
theorem yk_Verifier_take : y_Verifier_take.cls ≠ "java/lang/invoke/MethodHandle" ∧ y_Verifier_take.cls ≠ "java/lang/invoke/VarHandle" ∧ (parseMethodDescriptor y_Verifier_take.desc).map (fun d => d.parameters.length) = some 1 := by decide +kernel
abbrev b_Verifier_repeatTop : ByteArray := prog_9_method_10_code
def y_Verifier_repeatTop : MethodName := ⟨R_Verifier, "repeatTop", "()V"⟩
theorem yk_Verifier_repeatTop : y_Verifier_repeatTop.cls ≠ "java/lang/invoke/MethodHandle" ∧ y_Verifier_repeatTop.cls ≠ "java/lang/invoke/VarHandle" ∧ (parseMethodDescriptor y_Verifier_repeatTop.desc).map (fun d => d.parameters.length) = some 0 := by decide +kernel
abbrev b_Verifier_swapUpperTwo : ByteArray := prog_9_method_11_code
def y_Verifier_swapUpperTwo : MethodName := ⟨R_Verifier, "swapUpperTwo", "()V"⟩
theorem yk_Verifier_swapUpperTwo : y_Verifier_swapUpperTwo.cls ≠ "java/lang/invoke/MethodHandle" ∧ y_Verifier_swapUpperTwo.cls ≠ "java/lang/invoke/VarHandle" ∧ (parseMethodDescriptor y_Verifier_swapUpperTwo.desc).map (fun d => d.parameters.length) = some 0 := by decide +kernel
abbrev b_Function_typeOfLocal : ByteArray := prog_4_method_3_code
def y_Function_typeOfLocal : MethodName := ⟨R_Function, "typeOfLocal", "(I)I"⟩
theorem yk_Function_typeOfLocal : y_Function_typeOfLocal.cls ≠ "java/lang/invoke/MethodHandle" ∧ y_Function_typeOfLocal.cls ≠ "java/lang/invoke/VarHandle" ∧ (parseMethodDescriptor y_Function_typeOfLocal.desc).map (fun d => d.parameters.length) = some 1 := by decide +kernel
abbrev b_Verifier_takeInts : ByteArray := prog_9_method_15_code
def y_Verifier_takeInts : MethodName := ⟨R_Verifier, "takeInts", "(I)V"⟩
theorem yk_Verifier_takeInts : y_Verifier_takeInts.cls ≠ "java/lang/invoke/MethodHandle" ∧ y_Verifier_takeInts.cls ≠ "java/lang/invoke/VarHandle" ∧ (parseMethodDescriptor y_Verifier_takeInts.desc).map (fun d => d.parameters.length) = some 1 := by decide +kernel
abbrev b_Verifier_useRow : ByteArray := prog_9_method_12_code
def y_Verifier_useRow : MethodName := ⟨R_Verifier, "useRow", "(I)V"⟩
theorem yk_Verifier_useRow : y_Verifier_useRow.cls ≠ "java/lang/invoke/MethodHandle" ∧ y_Verifier_useRow.cls ≠ "java/lang/invoke/VarHandle" ∧ (parseMethodDescriptor y_Verifier_useRow.desc).map (fun d => d.parameters.length) = some 1 := by decide +kernel
abbrev b_Verifier_callFunction : ByteArray := prog_9_method_13_code
def y_Verifier_callFunction : MethodName := ⟨R_Verifier, "callFunction", "(LStackBytes$Function;)V"⟩
theorem yk_Verifier_callFunction : y_Verifier_callFunction.cls ≠ "java/lang/invoke/MethodHandle" ∧ y_Verifier_callFunction.cls ≠ "java/lang/invoke/VarHandle" ∧ (parseMethodDescriptor y_Verifier_callFunction.desc).map (fun d => d.parameters.length) = some 1 := by decide +kernel
abbrev b_Verifier_takeResult : ByteArray := prog_9_method_14_code
def y_Verifier_takeResult : MethodName := ⟨R_Verifier, "takeResult", "()V"⟩
theorem yk_Verifier_takeResult : y_Verifier_takeResult.cls ≠ "java/lang/invoke/MethodHandle" ∧ y_Verifier_takeResult.cls ≠ "java/lang/invoke/VarHandle" ∧ (parseMethodDescriptor y_Verifier_takeResult.desc).map (fun d => d.parameters.length) = some 0 := by decide +kernel
abbrev b_Verifier_putInts : ByteArray := prog_9_method_16_code
def y_Verifier_putInts : MethodName := ⟨R_Verifier, "putInts", "(I)V"⟩
theorem yk_Verifier_putInts : y_Verifier_putInts.cls ≠ "java/lang/invoke/MethodHandle" ∧ y_Verifier_putInts.cls ≠ "java/lang/invoke/VarHandle" ∧ (parseMethodDescriptor y_Verifier_putInts.desc).map (fun d => d.parameters.length) = some 1 := by decide +kernel
abbrev b_Verifier_takeAndPut : ByteArray := prog_9_method_9_code
def y_Verifier_takeAndPut : MethodName := ⟨R_Verifier, "takeAndPut", "(II)V"⟩
theorem yk_Verifier_takeAndPut : y_Verifier_takeAndPut.cls ≠ "java/lang/invoke/MethodHandle" ∧ y_Verifier_takeAndPut.cls ≠ "java/lang/invoke/VarHandle" ∧ (parseMethodDescriptor y_Verifier_takeAndPut.desc).map (fun d => d.parameters.length) = some 2 := by decide +kernel
abbrev b_Handler_covers : ByteArray := prog_5_method_2_code
def y_Handler_covers : MethodName := ⟨R_Handler, "covers", "(I)Z"⟩
theorem yk_Handler_covers : y_Handler_covers.cls ≠ "java/lang/invoke/MethodHandle" ∧ y_Handler_covers.cls ≠ "java/lang/invoke/VarHandle" ∧ (parseMethodDescriptor y_Handler_covers.desc).map (fun d => d.parameters.length) = some 1 := by decide +kernel
abbrev b_Verifier_comeToHandlers : ByteArray := prog_9_method_6_code
def y_Verifier_comeToHandlers : MethodName := ⟨R_Verifier, "comeToHandlers", "()V"⟩
theorem yk_Verifier_comeToHandlers : y_Verifier_comeToHandlers.cls ≠ "java/lang/invoke/MethodHandle" ∧ y_Verifier_comeToHandlers.cls ≠ "java/lang/invoke/VarHandle" ∧ (parseMethodDescriptor y_Verifier_comeToHandlers.desc).map (fun d => d.parameters.length) = some 0 := by decide +kernel
abbrev b_Kinds_goesToPlace : ByteArray := prog_6_method_2_code
def y_Kinds_goesToPlace : MethodName := ⟨R_Kinds, "goesToPlace", "(I)Z"⟩
theorem yk_Kinds_goesToPlace : y_Kinds_goesToPlace.cls ≠ "java/lang/invoke/MethodHandle" ∧ y_Kinds_goesToPlace.cls ≠ "java/lang/invoke/VarHandle" ∧ (parseMethodDescriptor y_Kinds_goesToPlace.desc).map (fun d => d.parameters.length) = some 1 := by decide +kernel
abbrev b_Kinds_goesOnBehind : ByteArray := prog_6_method_3_code
def y_Kinds_goesOnBehind : MethodName := ⟨R_Kinds, "goesOnBehind", "(I)Z"⟩
theorem yk_Kinds_goesOnBehind : y_Kinds_goesOnBehind.cls ≠ "java/lang/invoke/MethodHandle" ∧ y_Kinds_goesOnBehind.cls ≠ "java/lang/invoke/VarHandle" ∧ (parseMethodDescriptor y_Kinds_goesOnBehind.desc).map (fun d => d.parameters.length) = some 1 := by decide +kernel
abbrev b_Verifier_comeToNext : ByteArray := prog_9_method_7_code
def y_Verifier_comeToNext : MethodName := ⟨R_Verifier, "comeToNext", "()V"⟩
theorem yk_Verifier_comeToNext : y_Verifier_comeToNext.cls ≠ "java/lang/invoke/MethodHandle" ∧ y_Verifier_comeToNext.cls ≠ "java/lang/invoke/VarHandle" ∧ (parseMethodDescriptor y_Verifier_comeToNext.desc).map (fun d => d.parameters.length) = some 0 := by decide +kernel
abbrev b_Verifier_lookAt : ByteArray := prog_9_method_5_code
def y_Verifier_lookAt : MethodName := ⟨R_Verifier, "lookAt", "(I)V"⟩
theorem yk_Verifier_lookAt : y_Verifier_lookAt.cls ≠ "java/lang/invoke/MethodHandle" ∧ y_Verifier_lookAt.cls ≠ "java/lang/invoke/VarHandle" ∧ (parseMethodDescriptor y_Verifier_lookAt.desc).map (fun d => d.parameters.length) = some 1 := by decide +kernel
abbrev b_Verifier_lookAtAll : ByteArray := prog_9_method_3_code
def y_Verifier_lookAtAll : MethodName := ⟨R_Verifier, "lookAtAll", "()V"⟩
theorem yk_Verifier_lookAtAll : y_Verifier_lookAtAll.cls ≠ "java/lang/invoke/MethodHandle" ∧ y_Verifier_lookAtAll.cls ≠ "java/lang/invoke/VarHandle" ∧ (parseMethodDescriptor y_Verifier_lookAtAll.desc).map (fun d => d.parameters.length) = some 0 := by decide +kernel
abbrev b_Verifier_verify : ByteArray := prog_9_method_2_code
def y_Verifier_verify : MethodName := ⟨R_Verifier, "verify", "(LStackBytes$Program;I)V"⟩
theorem yk_Verifier_verify : y_Verifier_verify.cls ≠ "java/lang/invoke/MethodHandle" ∧ y_Verifier_verify.cls ≠ "java/lang/invoke/VarHandle" ∧ (parseMethodDescriptor y_Verifier_verify.desc).map (fun d => d.parameters.length) = some 2 := by decide +kernel
abbrev b_SB_read : ByteArray := prog_1_method_5_code
def y_SB_read : MethodName := ⟨R_SB, "read", "()I"⟩
theorem yk_SB_read : y_SB_read.cls ≠ "java/lang/invoke/MethodHandle" ∧ y_SB_read.cls ≠ "java/lang/invoke/VarHandle" ∧ (parseMethodDescriptor y_SB_read.desc).map (fun d => d.parameters.length) = some 0 := by decide +kernel
abbrev b_Handler_appendTo : ByteArray := prog_5_method_3_code
def y_Handler_appendTo : MethodName := ⟨R_Handler, "appendTo", "(LStackBytes$ByteRow;)V"⟩
theorem yk_Handler_appendTo : y_Handler_appendTo.cls ≠ "java/lang/invoke/MethodHandle" ∧ y_Handler_appendTo.cls ≠ "java/lang/invoke/VarHandle" ∧ (parseMethodDescriptor y_Handler_appendTo.desc).map (fun d => d.parameters.length) = some 1 := by decide +kernel
abbrev b_Function_appendTo : ByteArray := prog_4_method_7_code
def y_Function_appendTo : MethodName := ⟨R_Function, "appendTo", "(LStackBytes$ByteRow;)V"⟩
theorem yk_Function_appendTo : y_Function_appendTo.cls ≠ "java/lang/invoke/MethodHandle" ∧ y_Function_appendTo.cls ≠ "java/lang/invoke/VarHandle" ∧ (parseMethodDescriptor y_Function_appendTo.desc).map (fun d => d.parameters.length) = some 1 := by decide +kernel
abbrev b_Program_appendTo : ByteArray := prog_7_method_5_code
def y_Program_appendTo : MethodName := ⟨R_Program, "appendTo", "(LStackBytes$ByteRow;)V"⟩
theorem yk_Program_appendTo : y_Program_appendTo.cls ≠ "java/lang/invoke/MethodHandle" ∧ y_Program_appendTo.cls ≠ "java/lang/invoke/VarHandle" ∧ (parseMethodDescriptor y_Program_appendTo.desc).map (fun d => d.parameters.length) = some 1 := by decide +kernel
abbrev b_SB_write : ByteArray := prog_1_method_6_code
def y_SB_write : MethodName := ⟨R_SB, "write", "()I"⟩
theorem yk_SB_write : y_SB_write.cls ≠ "java/lang/invoke/MethodHandle" ∧ y_SB_write.cls ≠ "java/lang/invoke/VarHandle" ∧ (parseMethodDescriptor y_SB_write.desc).map (fun d => d.parameters.length) = some 0 := by decide +kernel
abbrev b_ByteRow_become : ByteArray := prog_2_method_6_code
def y_ByteRow_become : MethodName := ⟨R_ByteRow, "become", "(LStackBytes$ByteRow;)Z"⟩
theorem yk_ByteRow_become : y_ByteRow_become.cls ≠ "java/lang/invoke/MethodHandle" ∧ y_ByteRow_become.cls ≠ "java/lang/invoke/VarHandle" ∧ (parseMethodDescriptor y_ByteRow_become.desc).map (fun d => d.parameters.length) = some 1 := by decide +kernel
abbrev b_SB_turnOver : ByteArray := prog_1_method_7_code
def y_SB_turnOver : MethodName := ⟨R_SB, "turnOver", "()Z"⟩
theorem yk_SB_turnOver : y_SB_turnOver.cls ≠ "java/lang/invoke/MethodHandle" ∧ y_SB_turnOver.cls ≠ "java/lang/invoke/VarHandle" ∧ (parseMethodDescriptor y_SB_turnOver.desc).map (fun d => d.parameters.length) = some 0 := by decide +kernel
abbrev b_Kinds_canStand : ByteArray := prog_6_method_7_code
def y_Kinds_canStand : MethodName := ⟨R_Kinds, "canStand", "(IILStackBytes$Function;I)Z"⟩
theorem yk_Kinds_canStand : y_Kinds_canStand.cls ≠ "java/lang/invoke/MethodHandle" ∧ y_Kinds_canStand.cls ≠ "java/lang/invoke/VarHandle" ∧ (parseMethodDescriptor y_Kinds_canStand.desc).map (fun d => d.parameters.length) = some 4 := by decide +kernel
abbrev b_SB_change : ByteArray := prog_1_method_8_code
def y_SB_change : MethodName := ⟨R_SB, "change", "(IIII)I"⟩
theorem yk_SB_change : y_SB_change.cls ≠ "java/lang/invoke/MethodHandle" ∧ y_SB_change.cls ≠ "java/lang/invoke/VarHandle" ∧ (parseMethodDescriptor y_SB_change.desc).map (fun d => d.parameters.length) = some 4 := by decide +kernel
abbrev b_Function_isGoneTo : ByteArray := prog_4_method_4_code
def y_Function_isGoneTo : MethodName := ⟨R_Function, "isGoneTo", "(I)Z"⟩
theorem yk_Function_isGoneTo : y_Function_isGoneTo.cls ≠ "java/lang/invoke/MethodHandle" ∧ y_Function_isGoneTo.cls ≠ "java/lang/invoke/VarHandle" ∧ (parseMethodDescriptor y_Function_isGoneTo.desc).map (fun d => d.parameters.length) = some 1 := by decide +kernel
abbrev b_SB_code : ByteArray := prog_1_method_9_code
def y_SB_code : MethodName := ⟨R_SB, "code", "(III)I"⟩
theorem yk_SB_code : y_SB_code.cls ≠ "java/lang/invoke/MethodHandle" ∧ y_SB_code.cls ≠ "java/lang/invoke/VarHandle" ∧ (parseMethodDescriptor y_SB_code.desc).map (fun d => d.parameters.length) = some 3 := by decide +kernel
abbrev b_Function_comeTo : ByteArray := prog_4_method_5_code
def y_Function_comeTo : MethodName := ⟨R_Function, "comeTo", "()I"⟩
theorem yk_Function_comeTo : y_Function_comeTo.cls ≠ "java/lang/invoke/MethodHandle" ∧ y_Function_comeTo.cls ≠ "java/lang/invoke/VarHandle" ∧ (parseMethodDescriptor y_Function_comeTo.desc).map (fun d => d.parameters.length) = some 0 := by decide +kernel
abbrev b_Function_deepest : ByteArray := prog_4_method_6_code
def y_Function_deepest : MethodName := ⟨R_Function, "deepest", "()I"⟩
theorem yk_Function_deepest : y_Function_deepest.cls ≠ "java/lang/invoke/MethodHandle" ∧ y_Function_deepest.cls ≠ "java/lang/invoke/VarHandle" ∧ (parseMethodDescriptor y_Function_deepest.desc).map (fun d => d.parameters.length) = some 0 := by decide +kernel
abbrev b_SB_function : ByteArray := prog_1_method_10_code
def y_SB_function : MethodName := ⟨R_SB, "function", "(II)I"⟩
theorem yk_SB_function : y_SB_function.cls ≠ "java/lang/invoke/MethodHandle" ∧ y_SB_function.cls ≠ "java/lang/invoke/VarHandle" ∧ (parseMethodDescriptor y_SB_function.desc).map (fun d => d.parameters.length) = some 2 := by decide +kernel
abbrev b_SB_handler : ByteArray := prog_1_method_11_code
def y_SB_handler : MethodName := ⟨R_SB, "handler", "(III)I"⟩
theorem yk_SB_handler : y_SB_handler.cls ≠ "java/lang/invoke/MethodHandle" ∧ y_SB_handler.cls ≠ "java/lang/invoke/VarHandle" ∧ (parseMethodDescriptor y_SB_handler.desc).map (fun d => d.parameters.length) = some 3 := by decide +kernel
abbrev b_SB_byteAt : ByteArray := prog_1_method_12_code
def y_SB_byteAt : MethodName := ⟨R_SB, "byteAt", "(IZ)I"⟩
theorem yk_SB_byteAt : y_SB_byteAt.cls ≠ "java/lang/invoke/MethodHandle" ∧ y_SB_byteAt.cls ≠ "java/lang/invoke/VarHandle" ∧ (parseMethodDescriptor y_SB_byteAt.desc).map (fun d => d.parameters.length) = some 2 := by decide +kernel
abbrev b_Program_instructions : ByteArray := prog_7_method_4_code
def y_Program_instructions : MethodName := ⟨R_Program, "instructions", "()I"⟩
theorem yk_Program_instructions : y_Program_instructions.cls ≠ "java/lang/invoke/MethodHandle" ∧ y_Program_instructions.cls ≠ "java/lang/invoke/VarHandle" ∧ (parseMethodDescriptor y_Program_instructions.desc).map (fun d => d.parameters.length) = some 0 := by decide +kernel
abbrev b_SB_look : ByteArray := prog_1_method_13_code
def y_SB_look : MethodName := ⟨R_SB, "look", "(I)I"⟩
theorem yk_SB_look : y_SB_look.cls ≠ "java/lang/invoke/MethodHandle" ∧ y_SB_look.cls ≠ "java/lang/invoke/VarHandle" ∧ (parseMethodDescriptor y_SB_look.desc).map (fun d => d.parameters.length) = some 1 := by decide +kernel
abbrev b_Mo_wrong : ByteArray := prog_11_method_3_code
def y_Mo_wrong : MethodName := ⟨R_Mo, "wrong", "(II)V"⟩
theorem yk_Mo_wrong : y_Mo_wrong.cls ≠ "java/lang/invoke/MethodHandle" ∧ y_Mo_wrong.cls ≠ "java/lang/invoke/VarHandle" ∧ (parseMethodDescriptor y_Mo_wrong.desc).map (fun d => d.parameters.length) = some 2 := by decide +kernel
abbrev b_Mo_comeTo : ByteArray := prog_11_method_24_code
def y_Mo_comeTo : MethodName := ⟨R_Mo, "comeTo", "(IIIII)V"⟩
theorem yk_Mo_comeTo : y_Mo_comeTo.cls ≠ "java/lang/invoke/MethodHandle" ∧ y_Mo_comeTo.cls ≠ "java/lang/invoke/VarHandle" ∧ (parseMethodDescriptor y_Mo_comeTo.desc).map (fun d => d.parameters.length) = some 5 := by decide +kernel
abbrev b_Mo_puts : ByteArray := prog_11_method_20_code
def y_Mo_puts : MethodName := ⟨R_Mo, "puts", "(I)V"⟩
theorem yk_Mo_puts : y_Mo_puts.cls ≠ "java/lang/invoke/MethodHandle" ∧ y_Mo_puts.cls ≠ "java/lang/invoke/VarHandle" ∧ (parseMethodDescriptor y_Mo_puts.desc).map (fun d => d.parameters.length) = some 1 := by decide +kernel
abbrev b_Mo_takes : ByteArray := prog_11_method_19_code
def y_Mo_takes : MethodName := ⟨R_Mo, "takes", "(I)Z"⟩
theorem yk_Mo_takes : y_Mo_takes.cls ≠ "java/lang/invoke/MethodHandle" ∧ y_Mo_takes.cls ≠ "java/lang/invoke/VarHandle" ∧ (parseMethodDescriptor y_Mo_takes.desc).map (fun d => d.parameters.length) = some 1 := by decide +kernel
abbrev b_Mo_isRow : ByteArray := prog_11_method_22_code
def y_Mo_isRow : MethodName := ⟨R_Mo, "isRow", "(II)I"⟩
theorem yk_Mo_isRow : y_Mo_isRow.cls ≠ "java/lang/invoke/MethodHandle" ∧ y_Mo_isRow.cls ≠ "java/lang/invoke/VarHandle" ∧ (parseMethodDescriptor y_Mo_isRow.desc).map (fun d => d.parameters.length) = some 2 := by decide +kernel
abbrev b_Mo_takesInts : ByteArray := prog_11_method_21_code
def y_Mo_takesInts : MethodName := ⟨R_Mo, "takesInts", "(I)Z"⟩
theorem yk_Mo_takesInts : y_Mo_takesInts.cls ≠ "java/lang/invoke/MethodHandle" ∧ y_Mo_takesInts.cls ≠ "java/lang/invoke/VarHandle" ∧ (parseMethodDescriptor y_Mo_takesInts.desc).map (fun d => d.parameters.length) = some 1 := by decide +kernel
abbrev b_Mo_moves : ByteArray := prog_11_method_23_code
def y_Mo_moves : MethodName := ⟨R_Mo, "moves", "(IIII)Z"⟩
theorem yk_Mo_moves : y_Mo_moves.cls ≠ "java/lang/invoke/MethodHandle" ∧ y_Mo_moves.cls ≠ "java/lang/invoke/VarHandle" ∧ (parseMethodDescriptor y_Mo_moves.desc).map (fun d => d.parameters.length) = some 4 := by decide +kernel
abbrev b_Mo_lookAtOne : ByteArray := prog_11_method_26_code
def y_Mo_lookAtOne : MethodName := ⟨R_Mo, "lookAtOne", "(III)V"⟩
theorem yk_Mo_lookAtOne : y_Mo_lookAtOne.cls ≠ "java/lang/invoke/MethodHandle" ∧ y_Mo_lookAtOne.cls ≠ "java/lang/invoke/VarHandle" ∧ (parseMethodDescriptor y_Mo_lookAtOne.desc).map (fun d => d.parameters.length) = some 3 := by decide +kernel
abbrev b_Mo_verify : ByteArray := prog_11_method_25_code
def y_Mo_verify : MethodName := ⟨R_Mo, "verify", "(II)V"⟩
theorem yk_Mo_verify : y_Mo_verify.cls ≠ "java/lang/invoke/MethodHandle" ∧ y_Mo_verify.cls ≠ "java/lang/invoke/VarHandle" ∧ (parseMethodDescriptor y_Mo_verify.desc).map (fun d => d.parameters.length) = some 2 := by decide +kernel
abbrev b_Mo_init : ByteArray := prog_11_method_1_code
def y_Mo_init : MethodName := ⟨R_Mo, "<init>", "()V"⟩
theorem yk_Mo_init : y_Mo_init.cls ≠ "java/lang/invoke/MethodHandle" ∧ y_Mo_init.cls ≠ "java/lang/invoke/VarHandle" ∧ (parseMethodDescriptor y_Mo_init.desc).map (fun d => d.parameters.length) = some 0 := by decide +kernel
abbrev b_Mo_give : ByteArray := prog_11_method_4_code
def y_Mo_give : MethodName := ⟨R_Mo, "give", "(JI)Z"⟩
theorem yk_Mo_give : y_Mo_give.cls ≠ "java/lang/invoke/MethodHandle" ∧ y_Mo_give.cls ≠ "java/lang/invoke/VarHandle" ∧ (parseMethodDescriptor y_Mo_give.desc).map (fun d => d.parameters.length) = some 2 := by decide +kernel
abbrev b_Mo_cut : ByteArray := prog_11_method_5_code
def y_Mo_cut : MethodName := ⟨R_Mo, "cut", "(I)Z"⟩
theorem yk_Mo_cut : y_Mo_cut.cls ≠ "java/lang/invoke/MethodHandle" ∧ y_Mo_cut.cls ≠ "java/lang/invoke/VarHandle" ∧ (parseMethodDescriptor y_Mo_cut.desc).map (fun d => d.parameters.length) = some 1 := by decide +kernel
abbrev b_Mo_poke : ByteArray := prog_11_method_6_code
def y_Mo_poke : MethodName := ⟨R_Mo, "poke", "(II)Z"⟩
theorem yk_Mo_poke : y_Mo_poke.cls ≠ "java/lang/invoke/MethodHandle" ∧ y_Mo_poke.cls ≠ "java/lang/invoke/VarHandle" ∧ (parseMethodDescriptor y_Mo_poke.desc).map (fun d => d.parameters.length) = some 2 := by decide +kernel
abbrev b_Mo_turnOver : ByteArray := prog_11_method_7_code
def y_Mo_turnOver : MethodName := ⟨R_Mo, "turnOver", "()Z"⟩
theorem yk_Mo_turnOver : y_Mo_turnOver.cls ≠ "java/lang/invoke/MethodHandle" ∧ y_Mo_turnOver.cls ≠ "java/lang/invoke/VarHandle" ∧ (parseMethodDescriptor y_Mo_turnOver.desc).map (fun d => d.parameters.length) = some 0 := by decide +kernel
abbrev b_Mo_byteAt : ByteArray := prog_11_method_8_code
def y_Mo_byteAt : MethodName := ⟨R_Mo, "byteAt", "(IZ)I"⟩
theorem yk_Mo_byteAt : y_Mo_byteAt.cls ≠ "java/lang/invoke/MethodHandle" ∧ y_Mo_byteAt.cls ≠ "java/lang/invoke/VarHandle" ∧ (parseMethodDescriptor y_Mo_byteAt.desc).map (fun d => d.parameters.length) = some 2 := by decide +kernel
abbrev b_Mo_byteNext : ByteArray := prog_11_method_9_code
def y_Mo_byteNext : MethodName := ⟨R_Mo, "byteNext", "()I"⟩
theorem yk_Mo_byteNext : y_Mo_byteNext.cls ≠ "java/lang/invoke/MethodHandle" ∧ y_Mo_byteNext.cls ≠ "java/lang/invoke/VarHandle" ∧ (parseMethodDescriptor y_Mo_byteNext.desc).map (fun d => d.parameters.length) = some 0 := by decide +kernel
abbrev b_Mo_numberNext : ByteArray := prog_11_method_10_code
def y_Mo_numberNext : MethodName := ⟨R_Mo, "numberNext", "(III)I"⟩
theorem yk_Mo_numberNext : y_Mo_numberNext.cls ≠ "java/lang/invoke/MethodHandle" ∧ y_Mo_numberNext.cls ≠ "java/lang/invoke/VarHandle" ∧ (parseMethodDescriptor y_Mo_numberNext.desc).map (fun d => d.parameters.length) = some 3 := by decide +kernel
abbrev b_Mo_readInstruction : ByteArray := prog_11_method_11_code
def y_Mo_readInstruction : MethodName := ⟨R_Mo, "readInstruction", "(IIII)V"⟩
theorem yk_Mo_readInstruction : y_Mo_readInstruction.cls ≠ "java/lang/invoke/MethodHandle" ∧ y_Mo_readInstruction.cls ≠ "java/lang/invoke/VarHandle" ∧ (parseMethodDescriptor y_Mo_readInstruction.desc).map (fun d => d.parameters.length) = some 4 := by decide +kernel
abbrev b_Mo_readFunction : ByteArray := prog_11_method_12_code
def y_Mo_readFunction : MethodName := ⟨R_Mo, "readFunction", "(II)V"⟩
theorem yk_Mo_readFunction : y_Mo_readFunction.cls ≠ "java/lang/invoke/MethodHandle" ∧ y_Mo_readFunction.cls ≠ "java/lang/invoke/VarHandle" ∧ (parseMethodDescriptor y_Mo_readFunction.desc).map (fun d => d.parameters.length) = some 2 := by decide +kernel
abbrev b_Mo_readProgram : ByteArray := prog_11_method_13_code
def y_Mo_readProgram : MethodName := ⟨R_Mo, "readProgram", "()V"⟩
theorem yk_Mo_readProgram : y_Mo_readProgram.cls ≠ "java/lang/invoke/MethodHandle" ∧ y_Mo_readProgram.cls ≠ "java/lang/invoke/VarHandle" ∧ (parseMethodDescriptor y_Mo_readProgram.desc).map (fun d => d.parameters.length) = some 0 := by decide +kernel
abbrev b_Mo_copyProgram : ByteArray := prog_11_method_14_code
def y_Mo_copyProgram : MethodName := ⟨R_Mo, "copyProgram", "(II)V"⟩
theorem yk_Mo_copyProgram : y_Mo_copyProgram.cls ≠ "java/lang/invoke/MethodHandle" ∧ y_Mo_copyProgram.cls ≠ "java/lang/invoke/VarHandle" ∧ (parseMethodDescriptor y_Mo_copyProgram.desc).map (fun d => d.parameters.length) = some 2 := by decide +kernel
abbrev b_Mo_told : ByteArray := prog_11_method_15_code
def y_Mo_told : MethodName := ⟨R_Mo, "told", "()I"⟩
theorem yk_Mo_told : y_Mo_told.cls ≠ "java/lang/invoke/MethodHandle" ∧ y_Mo_told.cls ≠ "java/lang/invoke/VarHandle" ∧ (parseMethodDescriptor y_Mo_told.desc).map (fun d => d.parameters.length) = some 0 := by decide +kernel
abbrev b_Mo_read : ByteArray := prog_11_method_16_code
def y_Mo_read : MethodName := ⟨R_Mo, "read", "()I"⟩
theorem yk_Mo_read : y_Mo_read.cls ≠ "java/lang/invoke/MethodHandle" ∧ y_Mo_read.cls ≠ "java/lang/invoke/VarHandle" ∧ (parseMethodDescriptor y_Mo_read.desc).map (fun d => d.parameters.length) = some 0 := by decide +kernel
abbrev b_Mo_canStand : ByteArray := prog_11_method_17_code
def y_Mo_canStand : MethodName := ⟨R_Mo, "canStand", "(III)Z"⟩
theorem yk_Mo_canStand : y_Mo_canStand.cls ≠ "java/lang/invoke/MethodHandle" ∧ y_Mo_canStand.cls ≠ "java/lang/invoke/VarHandle" ∧ (parseMethodDescriptor y_Mo_canStand.desc).map (fun d => d.parameters.length) = some 3 := by decide +kernel
abbrev b_Mo_change : ByteArray := prog_11_method_18_code
def y_Mo_change : MethodName := ⟨R_Mo, "change", "(IIII)I"⟩
theorem yk_Mo_change : y_Mo_change.cls ≠ "java/lang/invoke/MethodHandle" ∧ y_Mo_change.cls ≠ "java/lang/invoke/VarHandle" ∧ (parseMethodDescriptor y_Mo_change.desc).map (fun d => d.parameters.length) = some 4 := by decide +kernel
abbrev b_Mo_behind : ByteArray := prog_11_method_27_code
def y_Mo_behind : MethodName := ⟨R_Mo, "behind", "(I)I"⟩
theorem yk_Mo_behind : y_Mo_behind.cls ≠ "java/lang/invoke/MethodHandle" ∧ y_Mo_behind.cls ≠ "java/lang/invoke/VarHandle" ∧ (parseMethodDescriptor y_Mo_behind.desc).map (fun d => d.parameters.length) = some 1 := by decide +kernel
abbrev b_Mo_put : ByteArray := prog_11_method_28_code
def y_Mo_put : MethodName := ⟨R_Mo, "put", "(II)V"⟩
theorem yk_Mo_put : y_Mo_put.cls ≠ "java/lang/invoke/MethodHandle" ∧ y_Mo_put.cls ≠ "java/lang/invoke/VarHandle" ∧ (parseMethodDescriptor y_Mo_put.desc).map (fun d => d.parameters.length) = some 2 := by decide +kernel
abbrev b_Mo_write : ByteArray := prog_11_method_29_code
def y_Mo_write : MethodName := ⟨R_Mo, "write", "()I"⟩
theorem yk_Mo_write : y_Mo_write.cls ≠ "java/lang/invoke/MethodHandle" ∧ y_Mo_write.cls ≠ "java/lang/invoke/VarHandle" ∧ (parseMethodDescriptor y_Mo_write.desc).map (fun d => d.parameters.length) = some 0 := by decide +kernel
abbrev b_Mo_isFunction : ByteArray := prog_11_method_30_code
def y_Mo_isFunction : MethodName := ⟨R_Mo, "isFunction", "(I)Z"⟩
theorem yk_Mo_isFunction : y_Mo_isFunction.cls ≠ "java/lang/invoke/MethodHandle" ∧ y_Mo_isFunction.cls ≠ "java/lang/invoke/VarHandle" ∧ (parseMethodDescriptor y_Mo_isFunction.desc).map (fun d => d.parameters.length) = some 1 := by decide +kernel
abbrev b_Mo_isGoal : ByteArray := prog_11_method_31_code
def y_Mo_isGoal : MethodName := ⟨R_Mo, "isGoal", "(II)I"⟩
theorem yk_Mo_isGoal : y_Mo_isGoal.cls ≠ "java/lang/invoke/MethodHandle" ∧ y_Mo_isGoal.cls ≠ "java/lang/invoke/VarHandle" ∧ (parseMethodDescriptor y_Mo_isGoal.desc).map (fun d => d.parameters.length) = some 2 := by decide +kernel
abbrev b_Mo_code : ByteArray := prog_11_method_32_code
def y_Mo_code : MethodName := ⟨R_Mo, "code", "(III)I"⟩
theorem yk_Mo_code : y_Mo_code.cls ≠ "java/lang/invoke/MethodHandle" ∧ y_Mo_code.cls ≠ "java/lang/invoke/VarHandle" ∧ (parseMethodDescriptor y_Mo_code.desc).map (fun d => d.parameters.length) = some 3 := by decide +kernel
abbrev b_Mo_known : ByteArray := prog_11_method_33_code
def y_Mo_known : MethodName := ⟨R_Mo, "known", "(IZ)I"⟩
theorem yk_Mo_known : y_Mo_known.cls ≠ "java/lang/invoke/MethodHandle" ∧ y_Mo_known.cls ≠ "java/lang/invoke/VarHandle" ∧ (parseMethodDescriptor y_Mo_known.desc).map (fun d => d.parameters.length) = some 2 := by decide +kernel
abbrev b_Mo_function : ByteArray := prog_11_method_34_code
def y_Mo_function : MethodName := ⟨R_Mo, "function", "(II)I"⟩
theorem yk_Mo_function : y_Mo_function.cls ≠ "java/lang/invoke/MethodHandle" ∧ y_Mo_function.cls ≠ "java/lang/invoke/VarHandle" ∧ (parseMethodDescriptor y_Mo_function.desc).map (fun d => d.parameters.length) = some 2 := by decide +kernel
abbrev b_Mo_handler : ByteArray := prog_11_method_35_code
def y_Mo_handler : MethodName := ⟨R_Mo, "handler", "(III)I"⟩
theorem yk_Mo_handler : y_Mo_handler.cls ≠ "java/lang/invoke/MethodHandle" ∧ y_Mo_handler.cls ≠ "java/lang/invoke/VarHandle" ∧ (parseMethodDescriptor y_Mo_handler.desc).map (fun d => d.parameters.length) = some 3 := by decide +kernel
abbrev b_Mo_codes : ByteArray := prog_11_method_36_code
def y_Mo_codes : MethodName := ⟨R_Mo, "codes", "()I"⟩
theorem yk_Mo_codes : y_Mo_codes.cls ≠ "java/lang/invoke/MethodHandle" ∧ y_Mo_codes.cls ≠ "java/lang/invoke/VarHandle" ∧ (parseMethodDescriptor y_Mo_codes.desc).map (fun d => d.parameters.length) = some 0 := by decide +kernel
abbrev b_Mo_look : ByteArray := prog_11_method_37_code
def y_Mo_look : MethodName := ⟨R_Mo, "look", "(I)I"⟩
theorem yk_Mo_look : y_Mo_look.cls ≠ "java/lang/invoke/MethodHandle" ∧ y_Mo_look.cls ≠ "java/lang/invoke/VarHandle" ∧ (parseMethodDescriptor y_Mo_look.desc).map (fun d => d.parameters.length) = some 1 := by decide +kernel
def tb_0 : List Cond := [.methodLink R_ByteRow 3 objectInit, .instanceMethod objectInit, .code objectInit ⟨#[0xb1]⟩ 1 none, .fieldLink R_ByteRow 9 "StackBytes$ByteRow" "most" "I", .arrayClass .byte, .fieldLink R_ByteRow 15 "StackBytes$ByteRow" "row" "[B", .fieldLink R_ByteRow 19 "StackBytes$ByteRow" "count" "I", .methodLink R_Fault 3 objectInit, .fieldLink R_Fault 9 "StackBytes$Fault" "kind" "I", .fieldLink R_Fault 15 "StackBytes$Fault" "place" "I", .methodLink R_Reader 3 objectInit, .fieldLink R_Reader 9 "StackBytes$Reader" "in" "LStackBytes$ByteRow;", .fieldLink R_Reader 15 "StackBytes$Reader" "fault" "LStackBytes$Fault;", .fieldLink R_Reader 19 "StackBytes$Reader" "at" "I", .methodLink R_Verifier 3 objectInit, .arrayClass .int, .fieldLink R_Verifier 9 "StackBytes$Verifier" "depths" "[I", .fieldLink R_Verifier 15 "StackBytes$Verifier" "rowsOnStack" "[I", .arrayClass .boolean, .fieldLink R_Verifier 18 "StackBytes$Verifier" "waits" "[Z", .fieldLink R_Verifier 22 "StackBytes$Verifier" "fault" "LStackBytes$Fault;", .methodLink R_Handler 1 objectInit, .methodLink R_Function 3 objectInit, .fieldLink R_Function 9 "StackBytes$Function" "ops" "[I", .fieldLink R_Function 15 "StackBytes$Function" "behinds" "[I", .fieldLink R_Function 18 "StackBytes$Function" "depths" "[I", .fieldLink R_Function 21 "StackBytes$Function" "rowsOnStack" "[I", .classLink R_Function 24 R_Handler, .fieldLink R_Function 26 "StackBytes$Function" "handlers" "[LStackBytes$Handler;", .fieldLink R_Function 30 "StackBytes$Function" "count" "I", .instantiable R_Handler 5, .initialized R_Handler, .code y_Handler_init b_Handler_init 1 none, .instanceMethod y_Handler_init, .methodLink R_Program 3 objectInit, .classLink R_Program 9 R_Function, .fieldLink R_Program 11 "StackBytes$Program" "functions" "[LStackBytes$Function;", .instantiable R_Function 11, .initialized R_Function, .code y_Function_init b_Function_init 2 none]
def tb_1 : List Cond := [.fieldLink R_Program 18 "StackBytes$Program" "count" "I", .methodLink R_Program 17 y_Function_init, .instanceMethod y_Function_init, .methodLink R_SB 3 objectInit, .classLink R_SB 9 R_ByteRow, .instantiable R_ByteRow 3, .initialized R_ByteRow, .code y_ByteRow_init b_ByteRow_init 2 none, .fieldLink R_SB 14 "StackBytes" "bytes" "LStackBytes$ByteRow;", .fieldLink R_SB 18 "StackBytes" "written" "LStackBytes$ByteRow;", .classLink R_SB 21 R_Fault, .instantiable R_Fault 2, .initialized R_Fault, .code y_Fault_init b_Fault_init 1 none, .fieldLink R_SB 24 "StackBytes" "latest" "LStackBytes$Fault;", .classLink R_SB 28 R_Reader, .instantiable R_Reader 3, .initialized R_Reader, .code y_Reader_init b_Reader_init 3 none, .fieldLink R_SB 33 "StackBytes" "reader" "LStackBytes$Reader;", .classLink R_SB 37 R_Verifier, .instantiable R_Verifier 11, .initialized R_Verifier, .code y_Verifier_init b_Verifier_init 2 none, .fieldLink R_SB 42 "StackBytes" "verifier" "LStackBytes$Verifier;", .classLink R_SB 46 R_Program, .instantiable R_Program 2, .initialized R_Program, .code y_Program_init b_Program_init 1 none, .fieldLink R_SB 49 "StackBytes" "program" "LStackBytes$Program;", .fieldLink R_SB 53 "StackBytes" "spare" "LStackBytes$Program;", .methodLink R_SB 48 y_Program_init, .instanceMethod y_Program_init, .methodLink R_SB 39 y_Verifier_init, .instanceMethod y_Verifier_init, .methodLink R_SB 30 y_Reader_init, .instanceMethod y_Reader_init, .methodLink R_SB 23 y_Fault_init, .instanceMethod y_Fault_init, .methodLink R_SB 11 y_ByteRow_init]
def tb_2 : List Cond := [.instanceMethod y_ByteRow_init, .methodLink R_Ar 304 Lib.Math.min.name, .static Lib.Math.min.name, .initialized "java/lang/Math", .code Lib.Math.min.name Lib.Math.min.code 2 (some .int), .methodLink R_Ar 150 arraycopyName, .native arraycopyName, .static arraycopyName, .initialized "java/lang/System", .methodLink R_ByteRow 32 Lib.Math.min.name, .methodLink R_ByteRow 38 Lib.Math.max.name, .static Lib.Math.max.name, .code Lib.Math.max.name Lib.Math.max.code 2 (some .int), .code y_Ar_copyOf b_Ar_copyOf 3 (some (.array .byte)), .methodLink R_ByteRow 41 y_Ar_copyOf, .static y_Ar_copyOf, .initialized R_Ar, .code y_ByteRow_makeRoom b_ByteRow_makeRoom 2 none, .methodLink R_ByteRow 22 y_ByteRow_makeRoom, .instanceMethod y_ByteRow_makeRoom, .selects R_ByteRow y_ByteRow_makeRoom y_ByteRow_makeRoom, .code y_ByteRow_add b_ByteRow_add 5 (some .boolean), .methodLink R_SB 56 y_ByteRow_add, .instanceMethod y_ByteRow_add, .selects R_ByteRow y_ByteRow_add y_ByteRow_add, .code y_ByteRow_keepFirst b_ByteRow_keepFirst 2 (some .boolean), .methodLink R_SB 60 y_ByteRow_keepFirst, .instanceMethod y_ByteRow_keepFirst, .selects R_ByteRow y_ByteRow_keepFirst y_ByteRow_keepFirst, .code y_ByteRow_set b_ByteRow_set 3 (some .boolean), .methodLink R_SB 64 y_ByteRow_set, .instanceMethod y_ByteRow_set, .selects R_ByteRow y_ByteRow_set y_ByteRow_set, .fieldLink R_Reader 60 "StackBytes$ByteRow" "count" "I", .code y_ByteRow_at b_ByteRow_at 2 (some .int), .methodLink R_Reader 134 y_ByteRow_at, .instanceMethod y_ByteRow_at, .selects R_ByteRow y_ByteRow_at y_ByteRow_at, .code y_Fault_tell b_Fault_tell 3 none, .methodLink R_Reader 63 y_Fault_tell]
def tb_3 : List Cond := [.instanceMethod y_Fault_tell, .selects R_Fault y_Fault_tell y_Fault_tell, .code y_Reader_nextByte b_Reader_nextByte 2 (some .int), .methodLink R_Reader 67 y_Reader_nextByte, .instanceMethod y_Reader_nextByte, .selects R_Reader y_Reader_nextByte y_Reader_nextByte, .fieldLink R_Reader 39 "StackBytes$Fault" "kind" "I", .code y_Reader_number b_Reader_number 7 (some .int), .fieldLink R_Reader 71 "StackBytes$Function" "params" "I", .fieldLink R_Reader 76 "StackBytes$Function" "locals" "I", .fieldLink R_Reader 79 "StackBytes$Function" "rowLocals" "I", .fieldLink R_Reader 82 "StackBytes$Function" "result" "I", .fieldLink R_Reader 85 "StackBytes$Function" "count" "I", .methodLink R_Reader 27 y_Reader_number, .instanceMethod y_Reader_number, .selects R_Reader y_Reader_number y_Reader_number, .constant R_Kinds 11 (-2147483648), .constant R_Kinds 12 2147483647, .fieldLink R_Kinds 13 "StackBytes$Function" "locals" "I", .fieldLink R_Kinds 19 "StackBytes$Function" "count" "I", .fieldLink R_Reader 86 "StackBytes$Function" "ops" "[I", .fieldLink R_Reader 90 "StackBytes$Function" "behinds" "[I", .code y_Kinds_bytesBehind b_Kinds_bytesBehind 1 (some .int), .code y_Kinds_leastBehind b_Kinds_leastBehind 1 (some .int), .code y_Kinds_mostBehind b_Kinds_mostBehind 3 (some .int), .methodLink R_Reader 102 y_Kinds_mostBehind, .static y_Kinds_mostBehind, .initialized R_Kinds, .methodLink R_Reader 99 y_Kinds_leastBehind, .static y_Kinds_leastBehind, .methodLink R_Reader 93 y_Kinds_bytesBehind, .static y_Kinds_bytesBehind, .fieldLink R_Reader 106 "StackBytes$Function" "handlerCount" "I", .fieldLink R_Reader 109 "StackBytes$Function" "handlers" "[LStackBytes$Handler;", .fieldLink R_Reader 112 "StackBytes$Handler" "from" "I", .fieldLink R_Reader 117 "StackBytes$Handler" "to" "I", .fieldLink R_Reader 120 "StackBytes$Handler" "target" "I", .fieldLink R_Reader 123 "StackBytes$Handler" "forAny" "Z", .constant R_Reader 129 (-2147483648), .constant R_Reader 130 2147483647]
def tb_4 : List Cond := [.fieldLink R_Reader 131 "StackBytes$Handler" "code" "I", .code y_Reader_start b_Reader_start 3 none, .code y_Program_setCount b_Program_setCount 3 none, .fieldLink R_Reader 36 "StackBytes$Program" "count" "I", .fieldLink R_Reader 44 "StackBytes$Program" "functions" "[LStackBytes$Function;", .code y_Reader_head b_Reader_head 3 none, .code y_Reader_instructions b_Reader_instructions 5 none, .code y_Reader_handlers b_Reader_handlers 4 none, .methodLink R_Reader 56 y_Reader_handlers, .instanceMethod y_Reader_handlers, .selects R_Reader y_Reader_handlers y_Reader_handlers, .methodLink R_Reader 52 y_Reader_instructions, .instanceMethod y_Reader_instructions, .selects R_Reader y_Reader_instructions y_Reader_instructions, .methodLink R_Reader 48 y_Reader_head, .instanceMethod y_Reader_head, .selects R_Reader y_Reader_head y_Reader_head, .methodLink R_Reader 31 y_Program_setCount, .instanceMethod y_Program_setCount, .selects R_Program y_Program_setCount y_Program_setCount, .methodLink R_Reader 23 y_Reader_start, .instanceMethod y_Reader_start, .selects R_Reader y_Reader_start y_Reader_start, .fieldLink R_Verifier 47 "StackBytes$Fault" "kind" "I", .fieldLink R_Verifier 36 "StackBytes$Verifier" "function" "LStackBytes$Function;", .code y_Function_has b_Function_has 2 (some .boolean), .fieldLink R_Verifier 40 "StackBytes$Verifier" "firstPlace" "I", .methodLink R_Verifier 128 y_Fault_tell, .fieldLink R_Verifier 65 "StackBytes$Verifier" "leastWaiting" "I", .methodLink R_Verifier 134 Lib.Math.min.name, .methodLink R_Verifier 131 y_Function_has, .instanceMethod y_Function_has, .selects R_Function y_Function_has y_Function_has, .fieldLink R_Verifier 55 "StackBytes$Function" "count" "I", .fieldLink R_Verifier 82 "StackBytes$Verifier" "depth" "I", .fieldLink R_Verifier 85 "StackBytes$Verifier" "rows" "I", .fieldLink R_Verifier 79 "StackBytes$Verifier" "current" "I", .code y_Verifier_take b_Verifier_take 3 (some .int), .code y_Verifier_put b_Verifier_put 2 none, .methodLink R_Verifier 140 y_Verifier_put]
def tb_5 : List Cond := [.instanceMethod y_Verifier_put, .selects R_Verifier y_Verifier_put y_Verifier_put, .methodLink R_Verifier 143 y_Verifier_take, .instanceMethod y_Verifier_take, .selects R_Verifier y_Verifier_take y_Verifier_take, .fieldLink R_Function 35 "StackBytes$Function" "rowLocals" "I", .code y_Verifier_takeInts b_Verifier_takeInts 3 none, .methodLink R_Verifier 163 y_Verifier_takeInts, .instanceMethod y_Verifier_takeInts, .selects R_Verifier y_Verifier_takeInts y_Verifier_takeInts, .fieldLink R_Verifier 172 "StackBytes$Function" "params" "I", .code y_Function_typeOfLocal b_Function_typeOfLocal 2 (some .int), .methodLink R_Verifier 153 y_Function_typeOfLocal, .instanceMethod y_Function_typeOfLocal, .selects R_Function y_Function_typeOfLocal y_Function_typeOfLocal, .fieldLink R_Verifier 175 "StackBytes$Function" "result" "I", .code y_Verifier_repeatTop b_Verifier_repeatTop 2 none, .methodLink R_Verifier 147 y_Verifier_repeatTop, .instanceMethod y_Verifier_repeatTop, .selects R_Verifier y_Verifier_repeatTop y_Verifier_repeatTop, .code y_Verifier_swapUpperTwo b_Verifier_swapUpperTwo 3 none, .methodLink R_Verifier 150 y_Verifier_swapUpperTwo, .instanceMethod y_Verifier_swapUpperTwo, .selects R_Verifier y_Verifier_swapUpperTwo y_Verifier_swapUpperTwo, .code y_Verifier_useRow b_Verifier_useRow 2 none, .methodLink R_Verifier 156 y_Verifier_useRow, .instanceMethod y_Verifier_useRow, .selects R_Verifier y_Verifier_useRow y_Verifier_useRow, .fieldLink R_Verifier 32 "StackBytes$Verifier" "program" "LStackBytes$Program;", .code y_Program_at b_Program_at 2 (some (.object "StackBytes$Function")), .code y_Verifier_callFunction b_Verifier_callFunction 3 none, .methodLink R_Verifier 159 y_Verifier_callFunction, .instanceMethod y_Verifier_callFunction, .selects R_Verifier y_Verifier_callFunction y_Verifier_callFunction, .methodLink R_Verifier 26 y_Program_at, .instanceMethod y_Program_at, .selects R_Program y_Program_at y_Program_at, .code y_Verifier_takeResult b_Verifier_takeResult 1 none, .methodLink R_Verifier 166 y_Verifier_takeResult, .instanceMethod y_Verifier_takeResult]
def tb_6 : List Cond := [.selects R_Verifier y_Verifier_takeResult y_Verifier_takeResult, .code y_Verifier_putInts b_Verifier_putInts 3 none, .methodLink R_Verifier 169 y_Verifier_putInts, .instanceMethod y_Verifier_putInts, .selects R_Verifier y_Verifier_putInts y_Verifier_putInts, .fieldLink R_Handler 7 "StackBytes$Handler" "from" "I", .fieldLink R_Handler 13 "StackBytes$Handler" "to" "I", .fieldLink R_Verifier 113 "StackBytes$Function" "handlerCount" "I", .fieldLink R_Verifier 116 "StackBytes$Function" "handlers" "[LStackBytes$Handler;", .code y_Handler_covers b_Handler_covers 2 (some .boolean), .fieldLink R_Verifier 125 "StackBytes$Handler" "target" "I", .code y_Verifier_comeTo b_Verifier_comeTo 4 none, .methodLink R_Verifier 68 y_Verifier_comeTo, .instanceMethod y_Verifier_comeTo, .selects R_Verifier y_Verifier_comeTo y_Verifier_comeTo, .methodLink R_Verifier 120 y_Handler_covers, .instanceMethod y_Handler_covers, .selects R_Handler y_Handler_covers y_Handler_covers, .fieldLink R_Verifier 88 "StackBytes$Function" "ops" "[I", .fieldLink R_Verifier 91 "StackBytes$Function" "behinds" "[I", .code y_Verifier_takeAndPut b_Verifier_takeAndPut 3 none, .code y_Verifier_comeToHandlers b_Verifier_comeToHandlers 3 none, .code y_Kinds_goesToPlace b_Kinds_goesToPlace 1 (some .boolean), .code y_Kinds_goesOnBehind b_Kinds_goesOnBehind 1 (some .boolean), .code y_Verifier_comeToNext b_Verifier_comeToNext 1 none, .methodLink R_Verifier 110 y_Verifier_comeToNext, .instanceMethod y_Verifier_comeToNext, .selects R_Verifier y_Verifier_comeToNext y_Verifier_comeToNext, .methodLink R_Verifier 107 y_Kinds_goesOnBehind, .static y_Kinds_goesOnBehind, .methodLink R_Verifier 101 y_Kinds_goesToPlace, .static y_Kinds_goesToPlace, .methodLink R_Verifier 98 y_Verifier_comeToHandlers, .instanceMethod y_Verifier_comeToHandlers, .selects R_Verifier y_Verifier_comeToHandlers y_Verifier_comeToHandlers, .methodLink R_Verifier 94 y_Verifier_takeAndPut, .instanceMethod y_Verifier_takeAndPut, .selects R_Verifier y_Verifier_takeAndPut y_Verifier_takeAndPut, .code y_Verifier_findLeastWaiting b_Verifier_findLeastWaiting 1 none, .code y_Verifier_lookAt b_Verifier_lookAt 4 none]
def tb_7 : List Cond := [.methodLink R_Verifier 75 y_Verifier_lookAt, .instanceMethod y_Verifier_lookAt, .selects R_Verifier y_Verifier_lookAt y_Verifier_lookAt, .methodLink R_Verifier 72 y_Verifier_findLeastWaiting, .instanceMethod y_Verifier_findLeastWaiting, .selects R_Verifier y_Verifier_findLeastWaiting y_Verifier_findLeastWaiting, .code y_Verifier_lookAtAll b_Verifier_lookAtAll 3 none, .fieldLink R_Verifier 52 "StackBytes$Function" "depths" "[I", .methodLink R_Verifier 58 arraycopyName, .fieldLink R_Verifier 64 "StackBytes$Function" "rowsOnStack" "[I", .methodLink R_Verifier 44 y_Verifier_lookAtAll, .instanceMethod y_Verifier_lookAtAll, .selects R_Verifier y_Verifier_lookAtAll y_Verifier_lookAtAll, .code y_Fault_clear b_Fault_clear 1 none, .code y_Reader_readInto b_Reader_readInto 3 none, .fieldLink R_SB 75 "StackBytes$Program" "count" "I", .fieldLink R_SB 79 "StackBytes$Fault" "kind" "I", .code y_Verifier_verify b_Verifier_verify 4 none, .methodLink R_SB 82 y_Verifier_verify, .instanceMethod y_Verifier_verify, .selects R_Verifier y_Verifier_verify y_Verifier_verify, .methodLink R_SB 71 y_Reader_readInto, .instanceMethod y_Reader_readInto, .selects R_Reader y_Reader_readInto y_Reader_readInto, .methodLink R_SB 68 y_Fault_clear, .instanceMethod y_Fault_clear, .selects R_Fault y_Fault_clear y_Fault_clear, .fieldLink R_Handler 22 "StackBytes$Handler" "target" "I", .fieldLink R_Handler 25 "StackBytes$Handler" "forAny" "Z", .fieldLink R_Handler 29 "StackBytes$Handler" "code" "I", .methodLink R_Handler 16 y_ByteRow_add, .fieldLink R_Function 56 "StackBytes$Function" "params" "I", .fieldLink R_Function 65 "StackBytes$Function" "locals" "I", .fieldLink R_Function 68 "StackBytes$Function" "result" "I", .methodLink R_Function 59 y_ByteRow_add, .methodLink R_Function 71 y_Kinds_bytesBehind, .fieldLink R_Function 44 "StackBytes$Function" "handlerCount" "I", .code y_Handler_appendTo b_Handler_appendTo 2 none, .methodLink R_Function 75 y_Handler_appendTo, .instanceMethod y_Handler_appendTo]
def tb_8 : List Cond := [.selects R_Handler y_Handler_appendTo y_Handler_appendTo, .constantLong R_Program 23 71, .constantLong R_Program 31 70, .code y_Function_appendTo b_Function_appendTo 3 none, .methodLink R_Program 33 y_Function_appendTo, .instanceMethod y_Function_appendTo, .selects R_Function y_Function_appendTo y_Function_appendTo, .methodLink R_Program 25 y_ByteRow_add, .code y_Program_appendTo b_Program_appendTo 3 none, .fieldLink R_SB 90 "StackBytes$ByteRow" "count" "I", .methodLink R_SB 86 y_Program_appendTo, .instanceMethod y_Program_appendTo, .selects R_Program y_Program_appendTo y_Program_appendTo, .methodLink R_ByteRow 26 arraycopyName, .code y_ByteRow_become b_ByteRow_become 2 (some .boolean), .methodLink R_SB 91 y_ByteRow_become, .instanceMethod y_ByteRow_become, .selects R_ByteRow y_ByteRow_become y_ByteRow_become, .methodLink R_Kinds 28 y_Kinds_mostBehind, .methodLink R_Kinds 22 y_Kinds_leastBehind, .methodLink R_SB 110 y_Fault_tell, .code y_Kinds_canStand b_Kinds_canStand 4 (some .boolean), .fieldLink R_SB 114 "StackBytes$Function" "ops" "[I", .fieldLink R_SB 118 "StackBytes$Function" "behinds" "[I", .methodLink R_SB 104 y_Kinds_canStand, .static y_Kinds_canStand, .methodLink R_SB 99 y_Function_has, .methodLink R_SB 95 y_Program_at, .methodLink R_Function 38 y_Kinds_goesToPlace, .fieldLink R_Function 47 "StackBytes$Handler" "target" "I", .fieldLink R_SB 121 "StackBytes$Function" "depths" "[I", .fieldLink R_SB 124 "StackBytes$Function" "rowsOnStack" "[I", .code y_Function_isGoneTo b_Function_isGoneTo 3 (some .boolean), .methodLink R_SB 127 y_Function_isGoneTo, .instanceMethod y_Function_isGoneTo, .selects R_Function y_Function_isGoneTo y_Function_isGoneTo, .methodLink R_Function 50 Lib.Math.max.name, .fieldLink R_SB 130 "StackBytes$Function" "params" "I", .fieldLink R_SB 133 "StackBytes$Function" "locals" "I", .fieldLink R_SB 136 "StackBytes$Function" "rowLocals" "I"]
def tb_9 : List Cond := [.fieldLink R_SB 139 "StackBytes$Function" "result" "I", .fieldLink R_SB 142 "StackBytes$Function" "count" "I", .fieldLink R_SB 143 "StackBytes$Function" "handlerCount" "I", .code y_Function_comeTo b_Function_comeTo 3 (some .int), .methodLink R_SB 146 y_Function_comeTo, .instanceMethod y_Function_comeTo, .selects R_Function y_Function_comeTo y_Function_comeTo, .code y_Function_deepest b_Function_deepest 3 (some .int), .methodLink R_SB 150 y_Function_deepest, .instanceMethod y_Function_deepest, .selects R_Function y_Function_deepest y_Function_deepest, .fieldLink R_SB 153 "StackBytes$Function" "handlers" "[LStackBytes$Handler;", .fieldLink R_SB 157 "StackBytes$Handler" "from" "I", .fieldLink R_SB 162 "StackBytes$Handler" "to" "I", .fieldLink R_SB 165 "StackBytes$Handler" "target" "I", .fieldLink R_SB 168 "StackBytes$Handler" "forAny" "Z", .fieldLink R_SB 172 "StackBytes$Handler" "code" "I", .methodLink R_SB 175 y_ByteRow_at, .fieldLink R_Program 22 "StackBytes$Function" "count" "I", .code y_Program_instructions b_Program_instructions 3 (some .int), .methodLink R_SB 178 y_Program_instructions, .instanceMethod y_Program_instructions, .selects R_Program y_Program_instructions y_Program_instructions, .fieldLink R_SB 181 "StackBytes$Fault" "place" "I", .fieldLink R_Mo 79 "StackBytesModel" "bad" "I", .fieldLink R_Mo 82 "StackBytesModel" "where" "I", .fieldLink R_Mo 63 "StackBytesModel" "heights" "[I", .code y_Mo_wrong b_Mo_wrong 3 none, .methodLink R_Mo 96 y_Mo_wrong, .instanceMethod y_Mo_wrong, .selects R_Mo y_Mo_wrong y_Mo_wrong, .initialized R_Mo, .fieldLink R_Mo 66 "StackBytesModel" "kinds" "[I", .fieldLink R_Mo 69 "StackBytesModel" "waits" "[Z", .fieldLink R_Mo 135 "StackBytesModel" "kind" "I", .fieldLink R_Mo 132 "StackBytesModel" "height" "I", .fieldLink R_Mo 29 "StackBytesModel" "rowBits" "[I", .code y_Mo_takes b_Mo_takes 3 (some .boolean), .methodLink R_Mo 138 y_Mo_takes, .instanceMethod y_Mo_takes]
def tb_10 : List Cond := [.selects R_Mo y_Mo_takes y_Mo_takes, .code y_Mo_takesInts b_Mo_takesInts 4 (some .boolean), .code y_Mo_puts b_Mo_puts 2 none, .methodLink R_Mo 142 y_Mo_puts, .instanceMethod y_Mo_puts, .selects R_Mo y_Mo_puts y_Mo_puts, .methodLink R_Mo 150 y_Mo_takesInts, .instanceMethod y_Mo_takesInts, .selects R_Mo y_Mo_takesInts y_Mo_takesInts, .fieldLink R_Mo 32 "StackBytesModel" "results" "[I", .fieldLink R_Mo 23 "StackBytesModel" "params" "[I", .code y_Mo_isRow b_Mo_isRow 3 (some .int), .methodLink R_Mo 146 y_Mo_isRow, .instanceMethod y_Mo_isRow, .selects R_Mo y_Mo_isRow y_Mo_isRow, .fieldLink R_Mo 41 "StackBytesModel" "ops" "[I", .fieldLink R_Mo 44 "StackBytesModel" "operands" "[I", .code y_Mo_moves b_Mo_moves 9 (some .boolean), .fieldLink R_Mo 38 "StackBytesModel" "handlerMany" "[I", .fieldLink R_Mo 47 "StackBytesModel" "froms" "[I", .fieldLink R_Mo 50 "StackBytesModel" "tos" "[I", .fieldLink R_Mo 53 "StackBytesModel" "targets" "[I", .code y_Mo_comeTo b_Mo_comeTo 7 none, .methodLink R_Mo 153 y_Mo_comeTo, .instanceMethod y_Mo_comeTo, .selects R_Mo y_Mo_comeTo y_Mo_comeTo, .fieldLink R_Mo 35 "StackBytesModel" "sizes" "[I", .methodLink R_Mo 161 y_Mo_moves, .instanceMethod y_Mo_moves, .selects R_Mo y_Mo_moves y_Mo_moves, .code y_Mo_lookAtOne b_Mo_lookAtOne 10 none, .methodLink R_Mo 157 y_Mo_lookAtOne, .instanceMethod y_Mo_lookAtOne, .selects R_Mo y_Mo_lookAtOne y_Mo_lookAtOne, .methodLink R_Mo 1 objectInit, .fieldLink R_Mo 7 "StackBytesModel" "bytes" "[I", .fieldLink R_Mo 13 "StackBytesModel" "written" "[I", .fieldLink R_Mo 16 "StackBytesModel" "place" "I", .fieldLink R_Mo 20 "StackBytesModel" "functions" "[I", .fieldLink R_Mo 26 "StackBytesModel" "locals" "[I"]
def tb_11 : List Cond := [.fieldLink R_Mo 56 "StackBytesModel" "anyCode" "[Z", .fieldLink R_Mo 60 "StackBytesModel" "handlerCodes" "[I", .code y_Mo_verify b_Mo_verify 5 none, .methodLink R_Mo 72 y_Mo_verify, .instanceMethod y_Mo_verify, .selects R_Mo y_Mo_verify y_Mo_verify, .fieldLink R_Mo 76 "StackBytesModel" "thrown" "I", .fieldLink R_Mo 85 "StackBytesModel" "many" "I", .constantLong R_Mo 88 255, .fieldLink R_Mo 90 "StackBytesModel" "writtenMany" "I", .fieldLink R_Mo 93 "StackBytesModel" "p" "I", .code y_Mo_byteNext b_Mo_byteNext 1 (some .int), .methodLink R_Mo 99 y_Mo_byteNext, .instanceMethod y_Mo_byteNext, .selects R_Mo y_Mo_byteNext y_Mo_byteNext, .code y_Mo_numberNext b_Mo_numberNext 7 (some .int), .methodLink R_Mo 103 y_Mo_numberNext, .instanceMethod y_Mo_numberNext, .selects R_Mo y_Mo_numberNext y_Mo_numberNext, .constant R_Mo 107 (-2147483648), .constant R_Mo 108 2147483647, .code y_Mo_readInstruction b_Mo_readInstruction 7 none, .methodLink R_Mo 109 y_Mo_readInstruction, .instanceMethod y_Mo_readInstruction, .selects R_Mo y_Mo_readInstruction y_Mo_readInstruction, .code y_Mo_readFunction b_Mo_readFunction 6 none, .methodLink R_Mo 113 y_Mo_readFunction, .instanceMethod y_Mo_readFunction, .selects R_Mo y_Mo_readFunction y_Mo_readFunction, .fieldLink R_Mo 116 "StackBytesModel" "fault" "I", .code y_Mo_readProgram b_Mo_readProgram 3 none, .code y_Mo_told b_Mo_told 1 (some .int), .methodLink R_Mo 125 y_Mo_told, .instanceMethod y_Mo_told, .selects R_Mo y_Mo_told y_Mo_told, .code y_Mo_copyProgram b_Mo_copyProgram 4 none, .methodLink R_Mo 122 y_Mo_copyProgram, .instanceMethod y_Mo_copyProgram, .selects R_Mo y_Mo_copyProgram y_Mo_copyProgram, .methodLink R_Mo 119 y_Mo_readProgram]
def tb_12 : List Cond := [.instanceMethod y_Mo_readProgram, .selects R_Mo y_Mo_readProgram y_Mo_readProgram, .code y_Mo_canStand b_Mo_canStand 4 (some .boolean), .methodLink R_Mo 128 y_Mo_canStand, .instanceMethod y_Mo_canStand, .selects R_Mo y_Mo_canStand y_Mo_canStand, .code y_Mo_put b_Mo_put 4 none, .code y_Mo_behind b_Mo_behind 1 (some .int), .methodLink R_Mo 165 y_Mo_put, .instanceMethod y_Mo_put, .selects R_Mo y_Mo_put y_Mo_put, .methodLink R_Mo 168 y_Mo_behind, .static y_Mo_behind, .code y_Mo_isFunction b_Mo_isFunction 2 (some .boolean), .code y_Mo_isGoal b_Mo_isGoal 6 (some .int), .methodLink R_Mo 175 y_Mo_isGoal, .instanceMethod y_Mo_isGoal, .selects R_Mo y_Mo_isGoal y_Mo_isGoal, .methodLink R_Mo 172 y_Mo_isFunction, .instanceMethod y_Mo_isFunction, .selects R_Mo y_Mo_isFunction y_Mo_isFunction, .code y_Mo_known b_Mo_known 7 (some .int), .methodLink R_Mo 178 y_Mo_known, .instanceMethod y_Mo_known, .selects R_Mo y_Mo_known y_Mo_known, .code y_Mo_codes b_Mo_codes 3 (some .int), .methodLink R_Mo 182 y_Mo_codes, .instanceMethod y_Mo_codes, .selects R_Mo y_Mo_codes y_Mo_codes, .laysFinal R_SB "StackBytes" "bytes" "LStackBytes$ByteRow;", .laysFinal R_SB "StackBytes" "written" "LStackBytes$ByteRow;", .laysFinal R_SB "StackBytes" "latest" "LStackBytes$Fault;", .laysFinal R_SB "StackBytes" "reader" "LStackBytes$Reader;", .laysFinal R_SB "StackBytes" "verifier" "LStackBytes$Verifier;", .lays R_SB "StackBytes" "program" "LStackBytes$Program;", .lays R_SB "StackBytes" "spare" "LStackBytes$Program;", .laysFinal R_ByteRow "StackBytes$ByteRow" "most" "I", .lays R_ByteRow "StackBytes$ByteRow" "row" "[B", .lays R_ByteRow "StackBytes$ByteRow" "count" "I", .lays R_Fault "StackBytes$Fault" "kind" "I"]
def tb_13 : List Cond := [.lays R_Fault "StackBytes$Fault" "place" "I", .lays R_Function "StackBytes$Function" "params" "I", .lays R_Function "StackBytes$Function" "locals" "I", .lays R_Function "StackBytes$Function" "rowLocals" "I", .lays R_Function "StackBytes$Function" "result" "I", .lays R_Function "StackBytes$Function" "count" "I", .lays R_Function "StackBytes$Function" "handlerCount" "I", .laysFinal R_Function "StackBytes$Function" "ops" "[I", .laysFinal R_Function "StackBytes$Function" "behinds" "[I", .laysFinal R_Function "StackBytes$Function" "depths" "[I", .laysFinal R_Function "StackBytes$Function" "rowsOnStack" "[I", .laysFinal R_Function "StackBytes$Function" "handlers" "[LStackBytes$Handler;", .lays R_Handler "StackBytes$Handler" "from" "I", .lays R_Handler "StackBytes$Handler" "to" "I", .lays R_Handler "StackBytes$Handler" "target" "I", .lays R_Handler "StackBytes$Handler" "forAny" "Z", .lays R_Handler "StackBytes$Handler" "code" "I", .laysFinal R_Program "StackBytes$Program" "functions" "[LStackBytes$Function;", .lays R_Program "StackBytes$Program" "count" "I", .laysFinal R_Reader "StackBytes$Reader" "in" "LStackBytes$ByteRow;", .laysFinal R_Reader "StackBytes$Reader" "fault" "LStackBytes$Fault;", .lays R_Reader "StackBytes$Reader" "at" "I", .laysFinal R_Verifier "StackBytes$Verifier" "fault" "LStackBytes$Fault;", .laysFinal R_Verifier "StackBytes$Verifier" "depths" "[I", .laysFinal R_Verifier "StackBytes$Verifier" "rowsOnStack" "[I", .laysFinal R_Verifier "StackBytes$Verifier" "waits" "[Z", .lays R_Verifier "StackBytes$Verifier" "leastWaiting" "I", .lays R_Verifier "StackBytes$Verifier" "program" "LStackBytes$Program;", .lays R_Verifier "StackBytes$Verifier" "function" "LStackBytes$Function;", .lays R_Verifier "StackBytes$Verifier" "firstPlace" "I", .lays R_Verifier "StackBytes$Verifier" "current" "I", .lays R_Verifier "StackBytes$Verifier" "depth" "I", .lays R_Verifier "StackBytes$Verifier" "rows" "I", .lays R_Mo "StackBytesModel" "thrown" "I", .laysFinal R_Mo "StackBytesModel" "bytes" "[I", .lays R_Mo "StackBytesModel" "many" "I", .laysFinal R_Mo "StackBytesModel" "written" "[I", .lays R_Mo "StackBytesModel" "writtenMany" "I", .lays R_Mo "StackBytesModel" "fault" "I", .lays R_Mo "StackBytesModel" "place" "I"]
def tb_14 : List Cond := [.lays R_Mo "StackBytesModel" "bad" "I", .lays R_Mo "StackBytesModel" "where" "I", .laysFinal R_Mo "StackBytesModel" "functions" "[I", .laysFinal R_Mo "StackBytesModel" "params" "[I", .laysFinal R_Mo "StackBytesModel" "locals" "[I", .laysFinal R_Mo "StackBytesModel" "rowBits" "[I", .laysFinal R_Mo "StackBytesModel" "results" "[I", .laysFinal R_Mo "StackBytesModel" "sizes" "[I", .laysFinal R_Mo "StackBytesModel" "handlerMany" "[I", .laysFinal R_Mo "StackBytesModel" "ops" "[I", .laysFinal R_Mo "StackBytesModel" "operands" "[I", .laysFinal R_Mo "StackBytesModel" "froms" "[I", .laysFinal R_Mo "StackBytesModel" "tos" "[I", .laysFinal R_Mo "StackBytesModel" "targets" "[I", .laysFinal R_Mo "StackBytesModel" "anyCode" "[Z", .laysFinal R_Mo "StackBytesModel" "handlerCodes" "[I", .laysFinal R_Mo "StackBytesModel" "heights" "[I", .laysFinal R_Mo "StackBytesModel" "kinds" "[I", .laysFinal R_Mo "StackBytesModel" "waits" "[Z", .lays R_Mo "StackBytesModel" "p" "I", .lays R_Mo "StackBytesModel" "height" "I", .lays R_Mo "StackBytesModel" "kind" "I", .initialized R_SB, .instantiable R_SB 7, .instantiable R_Mo 29]
def tb : List Cond := tb_0 ++ (tb_1 ++ (tb_2 ++ (tb_3 ++ (tb_4 ++ (tb_5 ++ (tb_6 ++ (tb_7 ++ (tb_8 ++ (tb_9 ++ (tb_10 ++ (tb_11 ++ (tb_12 ++ (tb_13 ++ (tb_14))))))))))))))
theorem tb_i0 {w : Cond} (h : w ∈ tb_0) : w ∈ tb := List.mem_append_left _ (h)
theorem tb_i1 {w : Cond} (h : w ∈ tb_1) : w ∈ tb := List.mem_append_right _ (List.mem_append_left _ (h))
theorem tb_i2 {w : Cond} (h : w ∈ tb_2) : w ∈ tb := List.mem_append_right _ (List.mem_append_right _ (List.mem_append_left _ (h)))
theorem tb_i3 {w : Cond} (h : w ∈ tb_3) : w ∈ tb := List.mem_append_right _ (List.mem_append_right _ (List.mem_append_right _ (List.mem_append_left _ (h))))
theorem tb_i4 {w : Cond} (h : w ∈ tb_4) : w ∈ tb := List.mem_append_right _ (List.mem_append_right _ (List.mem_append_right _ (List.mem_append_right _ (List.mem_append_left _ (h)))))
theorem tb_i5 {w : Cond} (h : w ∈ tb_5) : w ∈ tb := List.mem_append_right _ (List.mem_append_right _ (List.mem_append_right _ (List.mem_append_right _ (List.mem_append_right _ (List.mem_append_left _ (h))))))
theorem tb_i6 {w : Cond} (h : w ∈ tb_6) : w ∈ tb := List.mem_append_right _ (List.mem_append_right _ (List.mem_append_right _ (List.mem_append_right _ (List.mem_append_right _ (List.mem_append_right _ (List.mem_append_left _ (h)))))))
theorem tb_i7 {w : Cond} (h : w ∈ tb_7) : w ∈ tb := List.mem_append_right _ (List.mem_append_right _ (List.mem_append_right _ (List.mem_append_right _ (List.mem_append_right _ (List.mem_append_right _ (List.mem_append_right _ (List.mem_append_left _ (h))))))))
theorem tb_i8 {w : Cond} (h : w ∈ tb_8) : w ∈ tb := List.mem_append_right _ (List.mem_append_right _ (List.mem_append_right _ (List.mem_append_right _ (List.mem_append_right _ (List.mem_append_right _ (List.mem_append_right _ (List.mem_append_right _ (List.mem_append_left _ (h)))))))))
theorem tb_i9 {w : Cond} (h : w ∈ tb_9) : w ∈ tb := List.mem_append_right _ (List.mem_append_right _ (List.mem_append_right _ (List.mem_append_right _ (List.mem_append_right _ (List.mem_append_right _ (List.mem_append_right _ (List.mem_append_right _ (List.mem_append_right _ (List.mem_append_left _ (h))))))))))
theorem tb_i10 {w : Cond} (h : w ∈ tb_10) : w ∈ tb := List.mem_append_right _ (List.mem_append_right _ (List.mem_append_right _ (List.mem_append_right _ (List.mem_append_right _ (List.mem_append_right _ (List.mem_append_right _ (List.mem_append_right _ (List.mem_append_right _ (List.mem_append_right _ (List.mem_append_left _ (h)))))))))))
theorem tb_i11 {w : Cond} (h : w ∈ tb_11) : w ∈ tb := List.mem_append_right _ (List.mem_append_right _ (List.mem_append_right _ (List.mem_append_right _ (List.mem_append_right _ (List.mem_append_right _ (List.mem_append_right _ (List.mem_append_right _ (List.mem_append_right _ (List.mem_append_right _ (List.mem_append_right _ (List.mem_append_left _ (h))))))))))))
theorem tb_i12 {w : Cond} (h : w ∈ tb_12) : w ∈ tb := List.mem_append_right _ (List.mem_append_right _ (List.mem_append_right _ (List.mem_append_right _ (List.mem_append_right _ (List.mem_append_right _ (List.mem_append_right _ (List.mem_append_right _ (List.mem_append_right _ (List.mem_append_right _ (List.mem_append_right _ (List.mem_append_right _ (List.mem_append_left _ (h)))))))))))))
theorem tb_i13 {w : Cond} (h : w ∈ tb_13) : w ∈ tb := List.mem_append_right _ (List.mem_append_right _ (List.mem_append_right _ (List.mem_append_right _ (List.mem_append_right _ (List.mem_append_right _ (List.mem_append_right _ (List.mem_append_right _ (List.mem_append_right _ (List.mem_append_right _ (List.mem_append_right _ (List.mem_append_right _ (List.mem_append_right _ (List.mem_append_left _ (h))))))))))))))
theorem tb_i14 {w : Cond} (h : w ∈ tb_14) : w ∈ tb := List.mem_append_right _ (List.mem_append_right _ (List.mem_append_right _ (List.mem_append_right _ (List.mem_append_right _ (List.mem_append_right _ (List.mem_append_right _ (List.mem_append_right _ (List.mem_append_right _ (List.mem_append_right _ (List.mem_append_right _ (List.mem_append_right _ (List.mem_append_right _ (List.mem_append_right _ (h))))))))))))))
set_option maxRecDepth 100000 in
theorem wl_0 : (.methodLink R_ByteRow 3 objectInit : Cond) ∈ lw_tbl := List.mem_append_right _ (List.mem_append_left _ (List.mem_of_getElem? (i := 27) rfl))
theorem wq_0 : (.methodLink R_ByteRow 3 objectInit : Cond) ∈ tb := tb_i0 (List.mem_of_getElem? (i := 0) rfl)
set_option maxRecDepth 100000 in
theorem wl_1 : (.instanceMethod objectInit : Cond) ∈ lw_tbl := List.mem_append_right _ (List.mem_append_left _ (List.mem_of_getElem? (i := 20) rfl))
theorem wq_1 : (.instanceMethod objectInit : Cond) ∈ tb := tb_i0 (List.mem_of_getElem? (i := 1) rfl)
set_option maxRecDepth 100000 in
theorem wl_2 : (.code objectInit ⟨#[0xb1]⟩ 1 none : Cond) ∈ lw_tbl := List.mem_append_right _ (List.mem_append_left _ (List.mem_of_getElem? (i := 21) rfl))
theorem wq_2 : (.code objectInit ⟨#[0xb1]⟩ 1 none : Cond) ∈ tb := tb_i0 (List.mem_of_getElem? (i := 2) rfl)
set_option maxRecDepth 100000 in
theorem wl_3 : (.fieldLink R_ByteRow 9 "StackBytes$ByteRow" "most" "I" : Cond) ∈ lw_tbl := List.mem_append_right _ (List.mem_append_left _ (List.mem_of_getElem? (i := 28) rfl))
theorem wq_3 : (.fieldLink R_ByteRow 9 "StackBytes$ByteRow" "most" "I" : Cond) ∈ tb := tb_i0 (List.mem_of_getElem? (i := 3) rfl)
set_option maxRecDepth 100000 in
theorem wl_4 : (.arrayClass .byte : Cond) ∈ lw_tbl := List.mem_append_right _ (List.mem_append_left _ (List.mem_of_getElem? (i := 40) rfl))
theorem wq_4 : (.arrayClass .byte : Cond) ∈ tb := tb_i0 (List.mem_of_getElem? (i := 4) rfl)
set_option maxRecDepth 100000 in
theorem wl_5 : (.fieldLink R_ByteRow 15 "StackBytes$ByteRow" "row" "[B" : Cond) ∈ lw_tbl := List.mem_append_right _ (List.mem_append_left _ (List.mem_of_getElem? (i := 29) rfl))
theorem wq_5 : (.fieldLink R_ByteRow 15 "StackBytes$ByteRow" "row" "[B" : Cond) ∈ tb := tb_i0 (List.mem_of_getElem? (i := 5) rfl)
set_option maxRecDepth 100000 in
theorem wl_6 : (.fieldLink R_ByteRow 19 "StackBytes$ByteRow" "count" "I" : Cond) ∈ lw_tbl := List.mem_append_right _ (List.mem_append_left _ (List.mem_of_getElem? (i := 30) rfl))
theorem wq_6 : (.fieldLink R_ByteRow 19 "StackBytes$ByteRow" "count" "I" : Cond) ∈ tb := tb_i0 (List.mem_of_getElem? (i := 6) rfl)
set_option maxRecDepth 100000 in
theorem wl_7 : (.methodLink R_Fault 3 objectInit : Cond) ∈ lw_tbl := List.mem_append_right _ (List.mem_append_left _ (List.mem_of_getElem? (i := 46) rfl))
theorem wq_7 : (.methodLink R_Fault 3 objectInit : Cond) ∈ tb := tb_i0 (List.mem_of_getElem? (i := 7) rfl)
set_option maxRecDepth 100000 in
theorem wl_8 : (.fieldLink R_Fault 9 "StackBytes$Fault" "kind" "I" : Cond) ∈ lw_tbl := List.mem_append_right _ (List.mem_append_left _ (List.mem_of_getElem? (i := 47) rfl))
theorem wq_8 : (.fieldLink R_Fault 9 "StackBytes$Fault" "kind" "I" : Cond) ∈ tb := tb_i0 (List.mem_of_getElem? (i := 8) rfl)
set_option maxRecDepth 100000 in
theorem wl_9 : (.fieldLink R_Fault 15 "StackBytes$Fault" "place" "I" : Cond) ∈ lw_tbl := List.mem_append_right _ (List.mem_append_left _ (List.mem_of_getElem? (i := 51) rfl))
theorem wq_9 : (.fieldLink R_Fault 15 "StackBytes$Fault" "place" "I" : Cond) ∈ tb := tb_i0 (List.mem_of_getElem? (i := 9) rfl)
set_option maxRecDepth 100000 in
theorem wl_10 : (.methodLink R_Reader 3 objectInit : Cond) ∈ lw_tbl := List.mem_append_right _ (List.mem_append_left _ (List.mem_of_getElem? (i := 63) rfl))
theorem wq_10 : (.methodLink R_Reader 3 objectInit : Cond) ∈ tb := tb_i0 (List.mem_of_getElem? (i := 10) rfl)
set_option maxRecDepth 100000 in
theorem wl_11 : (.fieldLink R_Reader 9 "StackBytes$Reader" "in" "LStackBytes$ByteRow;" : Cond) ∈ lw_tbl := List.mem_append_right _ (List.mem_append_left _ (List.mem_of_getElem? (i := 64) rfl))
theorem wq_11 : (.fieldLink R_Reader 9 "StackBytes$Reader" "in" "LStackBytes$ByteRow;" : Cond) ∈ tb := tb_i0 (List.mem_of_getElem? (i := 11) rfl)
set_option maxRecDepth 100000 in
theorem wl_12 : (.fieldLink R_Reader 15 "StackBytes$Reader" "fault" "LStackBytes$Fault;" : Cond) ∈ lw_tbl := List.mem_append_right _ (List.mem_append_left _ (List.mem_of_getElem? (i := 65) rfl))
theorem wq_12 : (.fieldLink R_Reader 15 "StackBytes$Reader" "fault" "LStackBytes$Fault;" : Cond) ∈ tb := tb_i0 (List.mem_of_getElem? (i := 12) rfl)
set_option maxRecDepth 100000 in
theorem wl_13 : (.fieldLink R_Reader 19 "StackBytes$Reader" "at" "I" : Cond) ∈ lw_tbl := List.mem_append_right _ (List.mem_append_left _ (List.mem_of_getElem? (i := 66) rfl))
theorem wq_13 : (.fieldLink R_Reader 19 "StackBytes$Reader" "at" "I" : Cond) ∈ tb := tb_i0 (List.mem_of_getElem? (i := 13) rfl)
set_option maxRecDepth 100000 in
theorem wl_14 : (.methodLink R_Verifier 3 objectInit : Cond) ∈ lw_tbl := List.mem_append_right _ (List.mem_append_left _ (List.mem_of_getElem? (i := 79) rfl))
theorem wq_14 : (.methodLink R_Verifier 3 objectInit : Cond) ∈ tb := tb_i0 (List.mem_of_getElem? (i := 14) rfl)
set_option maxRecDepth 100000 in
theorem wl_15 : (.arrayClass .int : Cond) ∈ lw_tbl := List.mem_append_right _ (List.mem_append_left _ (List.mem_of_getElem? (i := 114) rfl))
theorem wq_15 : (.arrayClass .int : Cond) ∈ tb := tb_i0 (List.mem_of_getElem? (i := 15) rfl)
set_option maxRecDepth 100000 in
theorem wl_16 : (.fieldLink R_Verifier 9 "StackBytes$Verifier" "depths" "[I" : Cond) ∈ lw_tbl := List.mem_append_right _ (List.mem_append_left _ (List.mem_of_getElem? (i := 81) rfl))
theorem wq_16 : (.fieldLink R_Verifier 9 "StackBytes$Verifier" "depths" "[I" : Cond) ∈ tb := tb_i0 (List.mem_of_getElem? (i := 16) rfl)
set_option maxRecDepth 100000 in
theorem wl_17 : (.fieldLink R_Verifier 15 "StackBytes$Verifier" "rowsOnStack" "[I" : Cond) ∈ lw_tbl := List.mem_append_right _ (List.mem_append_left _ (List.mem_of_getElem? (i := 82) rfl))
theorem wq_17 : (.fieldLink R_Verifier 15 "StackBytes$Verifier" "rowsOnStack" "[I" : Cond) ∈ tb := tb_i0 (List.mem_of_getElem? (i := 17) rfl)
set_option maxRecDepth 100000 in
theorem wl_18 : (.arrayClass .boolean : Cond) ∈ lw_tbl := List.mem_append_right _ (List.mem_append_left _ (List.mem_of_getElem? (i := 115) rfl))
theorem wq_18 : (.arrayClass .boolean : Cond) ∈ tb := tb_i0 (List.mem_of_getElem? (i := 18) rfl)
set_option maxRecDepth 100000 in
theorem wl_19 : (.fieldLink R_Verifier 18 "StackBytes$Verifier" "waits" "[Z" : Cond) ∈ lw_tbl := List.mem_append_right _ (List.mem_append_left _ (List.mem_of_getElem? (i := 83) rfl))
theorem wq_19 : (.fieldLink R_Verifier 18 "StackBytes$Verifier" "waits" "[Z" : Cond) ∈ tb := tb_i0 (List.mem_of_getElem? (i := 19) rfl)
set_option maxRecDepth 100000 in
theorem wl_20 : (.fieldLink R_Verifier 22 "StackBytes$Verifier" "fault" "LStackBytes$Fault;" : Cond) ∈ lw_tbl := List.mem_append_right _ (List.mem_append_left _ (List.mem_of_getElem? (i := 80) rfl))
theorem wq_20 : (.fieldLink R_Verifier 22 "StackBytes$Verifier" "fault" "LStackBytes$Fault;" : Cond) ∈ tb := tb_i0 (List.mem_of_getElem? (i := 20) rfl)
set_option maxRecDepth 100000 in
theorem wl_21 : (.methodLink R_Handler 1 objectInit : Cond) ∈ lw_tbl := List.mem_append_right _ (List.mem_append_left _ (List.mem_of_getElem? (i := 135) rfl))
theorem wq_21 : (.methodLink R_Handler 1 objectInit : Cond) ∈ tb := tb_i0 (List.mem_of_getElem? (i := 21) rfl)
set_option maxRecDepth 100000 in
theorem wl_22 : (.methodLink R_Function 3 objectInit : Cond) ∈ lw_tbl := List.mem_append_right _ (List.mem_append_left _ (List.mem_of_getElem? (i := 128) rfl))
theorem wq_22 : (.methodLink R_Function 3 objectInit : Cond) ∈ tb := tb_i0 (List.mem_of_getElem? (i := 22) rfl)
set_option maxRecDepth 100000 in
theorem wl_23 : (.fieldLink R_Function 9 "StackBytes$Function" "ops" "[I" : Cond) ∈ lw_tbl := List.mem_append_right _ (List.mem_append_left _ (List.mem_of_getElem? (i := 189) rfl))
theorem wq_23 : (.fieldLink R_Function 9 "StackBytes$Function" "ops" "[I" : Cond) ∈ tb := tb_i0 (List.mem_of_getElem? (i := 23) rfl)
set_option maxRecDepth 100000 in
theorem wl_24 : (.fieldLink R_Function 15 "StackBytes$Function" "behinds" "[I" : Cond) ∈ lw_tbl := List.mem_append_right _ (List.mem_append_left _ (List.mem_of_getElem? (i := 193) rfl))
theorem wq_24 : (.fieldLink R_Function 15 "StackBytes$Function" "behinds" "[I" : Cond) ∈ tb := tb_i0 (List.mem_of_getElem? (i := 24) rfl)
set_option maxRecDepth 100000 in
theorem wl_25 : (.fieldLink R_Function 18 "StackBytes$Function" "depths" "[I" : Cond) ∈ lw_tbl := List.mem_append_right _ (List.mem_append_left _ (List.mem_of_getElem? (i := 197) rfl))
theorem wq_25 : (.fieldLink R_Function 18 "StackBytes$Function" "depths" "[I" : Cond) ∈ tb := tb_i0 (List.mem_of_getElem? (i := 25) rfl)
set_option maxRecDepth 100000 in
theorem wl_26 : (.fieldLink R_Function 21 "StackBytes$Function" "rowsOnStack" "[I" : Cond) ∈ lw_tbl := List.mem_append_right _ (List.mem_append_left _ (List.mem_of_getElem? (i := 200) rfl))
theorem wq_26 : (.fieldLink R_Function 21 "StackBytes$Function" "rowsOnStack" "[I" : Cond) ∈ tb := tb_i0 (List.mem_of_getElem? (i := 26) rfl)
set_option maxRecDepth 100000 in
theorem wl_27 : (.classLink R_Function 24 R_Handler : Cond) ∈ lw_tbl := List.mem_append_right _ (List.mem_append_left _ (List.mem_of_getElem? (i := 129) rfl))
theorem wq_27 : (.classLink R_Function 24 R_Handler : Cond) ∈ tb := tb_i0 (List.mem_of_getElem? (i := 27) rfl)
set_option maxRecDepth 100000 in
theorem wl_28 : (.fieldLink R_Function 26 "StackBytes$Function" "handlers" "[LStackBytes$Handler;" : Cond) ∈ lw_tbl := List.mem_append_right _ (List.mem_append_left _ (List.mem_of_getElem? (i := 203) rfl))
theorem wq_28 : (.fieldLink R_Function 26 "StackBytes$Function" "handlers" "[LStackBytes$Handler;" : Cond) ∈ tb := tb_i0 (List.mem_of_getElem? (i := 28) rfl)
set_option maxRecDepth 100000 in
theorem wl_29 : (.fieldLink R_Function 30 "StackBytes$Function" "count" "I" : Cond) ∈ lw_tbl := List.mem_append_right _ (List.mem_append_left _ (List.mem_of_getElem? (i := 179) rfl))
theorem wq_29 : (.fieldLink R_Function 30 "StackBytes$Function" "count" "I" : Cond) ∈ tb := tb_i0 (List.mem_of_getElem? (i := 29) rfl)
set_option maxRecDepth 100000 in
theorem wl_30 : (.instantiable R_Handler 5 : Cond) ∈ lw_tbl := List.mem_append_right _ (List.mem_append_left _ (List.mem_of_getElem? (i := 131) rfl))
theorem wq_30 : (.instantiable R_Handler 5 : Cond) ∈ tb := tb_i0 (List.mem_of_getElem? (i := 30) rfl)
set_option maxRecDepth 100000 in
theorem wl_31 : (.initialized R_Handler : Cond) ∈ lw_tbl := List.mem_append_right _ (List.mem_append_left _ (List.mem_of_getElem? (i := 8) rfl))
theorem wq_31 : (.initialized R_Handler : Cond) ∈ tb := tb_i0 (List.mem_of_getElem? (i := 31) rfl)
set_option maxRecDepth 100000 in
theorem wl_32 : (.code y_Handler_init b_Handler_init 1 none : Cond) ∈ lw_tbl := List.mem_append_right _ (List.mem_append_left _ (List.mem_of_getElem? (i := 134) rfl))
theorem wq_32 : (.code y_Handler_init b_Handler_init 1 none : Cond) ∈ tb := tb_i0 (List.mem_of_getElem? (i := 32) rfl)
set_option maxRecDepth 100000 in
theorem wl_33 : (.instanceMethod y_Handler_init : Cond) ∈ lw_tbl := List.mem_append_right _ (List.mem_append_left _ (List.mem_of_getElem? (i := 133) rfl))
theorem wq_33 : (.instanceMethod y_Handler_init : Cond) ∈ tb := tb_i0 (List.mem_of_getElem? (i := 33) rfl)
set_option maxRecDepth 100000 in
theorem wl_34 : (.methodLink R_Program 3 objectInit : Cond) ∈ lw_tbl := List.mem_append_right _ (List.mem_append_left _ (List.mem_of_getElem? (i := 121) rfl))
theorem wq_34 : (.methodLink R_Program 3 objectInit : Cond) ∈ tb := tb_i0 (List.mem_of_getElem? (i := 34) rfl)
set_option maxRecDepth 100000 in
theorem wl_35 : (.classLink R_Program 9 R_Function : Cond) ∈ lw_tbl := List.mem_append_right _ (List.mem_append_left _ (List.mem_of_getElem? (i := 122) rfl))
theorem wq_35 : (.classLink R_Program 9 R_Function : Cond) ∈ tb := tb_i0 (List.mem_of_getElem? (i := 35) rfl)
set_option maxRecDepth 100000 in
theorem wl_36 : (.fieldLink R_Program 11 "StackBytes$Program" "functions" "[LStackBytes$Function;" : Cond) ∈ lw_tbl := List.mem_append_right _ (List.mem_append_left _ (List.mem_of_getElem? (i := 230) rfl))
theorem wq_36 : (.fieldLink R_Program 11 "StackBytes$Program" "functions" "[LStackBytes$Function;" : Cond) ∈ tb := tb_i0 (List.mem_of_getElem? (i := 36) rfl)
set_option maxRecDepth 100000 in
theorem wl_37 : (.instantiable R_Function 11 : Cond) ∈ lw_tbl := List.mem_append_right _ (List.mem_append_left _ (List.mem_of_getElem? (i := 124) rfl))
theorem wq_37 : (.instantiable R_Function 11 : Cond) ∈ tb := tb_i0 (List.mem_of_getElem? (i := 37) rfl)
set_option maxRecDepth 100000 in
theorem wl_38 : (.initialized R_Function : Cond) ∈ lw_tbl := List.mem_append_right _ (List.mem_append_left _ (List.mem_of_getElem? (i := 7) rfl))
theorem wq_38 : (.initialized R_Function : Cond) ∈ tb := tb_i0 (List.mem_of_getElem? (i := 38) rfl)
set_option maxRecDepth 100000 in
theorem wl_39 : (.code y_Function_init b_Function_init 2 none : Cond) ∈ lw_tbl := List.mem_append_right _ (List.mem_append_left _ (List.mem_of_getElem? (i := 127) rfl))
theorem wq_39 : (.code y_Function_init b_Function_init 2 none : Cond) ∈ tb := tb_i0 (List.mem_of_getElem? (i := 39) rfl)
set_option maxRecDepth 100000 in
theorem wl_40 : (.fieldLink R_Program 18 "StackBytes$Program" "count" "I" : Cond) ∈ lw_tbl := List.mem_append_right _ (List.mem_append_left _ (List.mem_of_getElem? (i := 232) rfl))
theorem wq_40 : (.fieldLink R_Program 18 "StackBytes$Program" "count" "I" : Cond) ∈ tb := tb_i1 (List.mem_of_getElem? (i := 0) rfl)
set_option maxRecDepth 100000 in
theorem wl_41 : (.methodLink R_Program 17 y_Function_init : Cond) ∈ lw_tbl := List.mem_append_right _ (List.mem_append_left _ (List.mem_of_getElem? (i := 125) rfl))
theorem wq_41 : (.methodLink R_Program 17 y_Function_init : Cond) ∈ tb := tb_i1 (List.mem_of_getElem? (i := 1) rfl)
set_option maxRecDepth 100000 in
theorem wl_42 : (.instanceMethod y_Function_init : Cond) ∈ lw_tbl := List.mem_append_right _ (List.mem_append_left _ (List.mem_of_getElem? (i := 126) rfl))
theorem wq_42 : (.instanceMethod y_Function_init : Cond) ∈ tb := tb_i1 (List.mem_of_getElem? (i := 2) rfl)
set_option maxRecDepth 100000 in
theorem wl_43 : (.methodLink R_SB 3 objectInit : Cond) ∈ lw_tbl := List.mem_append_right _ (List.mem_append_left _ (List.mem_of_getElem? (i := 19) rfl))
theorem wq_43 : (.methodLink R_SB 3 objectInit : Cond) ∈ tb := tb_i1 (List.mem_of_getElem? (i := 3) rfl)
set_option maxRecDepth 100000 in
theorem wl_44 : (.classLink R_SB 9 R_ByteRow : Cond) ∈ lw_tbl := List.mem_append_right _ (List.mem_append_left _ (List.mem_of_getElem? (i := 22) rfl))
theorem wq_44 : (.classLink R_SB 9 R_ByteRow : Cond) ∈ tb := tb_i1 (List.mem_of_getElem? (i := 4) rfl)
set_option maxRecDepth 100000 in
theorem wl_45 : (.instantiable R_ByteRow 3 : Cond) ∈ lw_tbl := List.mem_append_right _ (List.mem_append_left _ (List.mem_of_getElem? (i := 23) rfl))
theorem wq_45 : (.instantiable R_ByteRow 3 : Cond) ∈ tb := tb_i1 (List.mem_of_getElem? (i := 5) rfl)
set_option maxRecDepth 100000 in
theorem wl_46 : (.initialized R_ByteRow : Cond) ∈ lw_tbl := List.mem_append_right _ (List.mem_append_left _ (List.mem_of_getElem? (i := 2) rfl))
theorem wq_46 : (.initialized R_ByteRow : Cond) ∈ tb := tb_i1 (List.mem_of_getElem? (i := 6) rfl)
set_option maxRecDepth 100000 in
theorem wl_47 : (.code y_ByteRow_init b_ByteRow_init 2 none : Cond) ∈ lw_tbl := List.mem_append_right _ (List.mem_append_left _ (List.mem_of_getElem? (i := 26) rfl))
theorem wq_47 : (.code y_ByteRow_init b_ByteRow_init 2 none : Cond) ∈ tb := tb_i1 (List.mem_of_getElem? (i := 7) rfl)
set_option maxRecDepth 100000 in
theorem wl_48 : (.fieldLink R_SB 14 "StackBytes" "bytes" "LStackBytes$ByteRow;" : Cond) ∈ lw_tbl := List.mem_append_right _ (List.mem_append_right _ (List.mem_append_left _ (List.mem_of_getElem? (i := 0) rfl)))
theorem wq_48 : (.fieldLink R_SB 14 "StackBytes" "bytes" "LStackBytes$ByteRow;" : Cond) ∈ tb := tb_i1 (List.mem_of_getElem? (i := 8) rfl)
set_option maxRecDepth 100000 in
theorem wl_49 : (.fieldLink R_SB 18 "StackBytes" "written" "LStackBytes$ByteRow;" : Cond) ∈ lw_tbl := List.mem_append_right _ (List.mem_append_right _ (List.mem_append_left _ (List.mem_of_getElem? (i := 1) rfl)))
theorem wq_49 : (.fieldLink R_SB 18 "StackBytes" "written" "LStackBytes$ByteRow;" : Cond) ∈ tb := tb_i1 (List.mem_of_getElem? (i := 9) rfl)
set_option maxRecDepth 100000 in
theorem wl_50 : (.classLink R_SB 21 R_Fault : Cond) ∈ lw_tbl := List.mem_append_right _ (List.mem_append_left _ (List.mem_of_getElem? (i := 41) rfl))
theorem wq_50 : (.classLink R_SB 21 R_Fault : Cond) ∈ tb := tb_i1 (List.mem_of_getElem? (i := 10) rfl)
set_option maxRecDepth 100000 in
theorem wl_51 : (.instantiable R_Fault 2 : Cond) ∈ lw_tbl := List.mem_append_right _ (List.mem_append_left _ (List.mem_of_getElem? (i := 42) rfl))
theorem wq_51 : (.instantiable R_Fault 2 : Cond) ∈ tb := tb_i1 (List.mem_of_getElem? (i := 11) rfl)
set_option maxRecDepth 100000 in
theorem wl_52 : (.initialized R_Fault : Cond) ∈ lw_tbl := List.mem_append_right _ (List.mem_append_left _ (List.mem_of_getElem? (i := 3) rfl))
theorem wq_52 : (.initialized R_Fault : Cond) ∈ tb := tb_i1 (List.mem_of_getElem? (i := 12) rfl)
set_option maxRecDepth 100000 in
theorem wl_53 : (.code y_Fault_init b_Fault_init 1 none : Cond) ∈ lw_tbl := List.mem_append_right _ (List.mem_append_left _ (List.mem_of_getElem? (i := 45) rfl))
theorem wq_53 : (.code y_Fault_init b_Fault_init 1 none : Cond) ∈ tb := tb_i1 (List.mem_of_getElem? (i := 13) rfl)
set_option maxRecDepth 100000 in
theorem wl_54 : (.fieldLink R_SB 24 "StackBytes" "latest" "LStackBytes$Fault;" : Cond) ∈ lw_tbl := List.mem_append_right _ (List.mem_append_right _ (List.mem_append_left _ (List.mem_of_getElem? (i := 2) rfl)))
theorem wq_54 : (.fieldLink R_SB 24 "StackBytes" "latest" "LStackBytes$Fault;" : Cond) ∈ tb := tb_i1 (List.mem_of_getElem? (i := 14) rfl)
set_option maxRecDepth 100000 in
theorem wl_55 : (.classLink R_SB 28 R_Reader : Cond) ∈ lw_tbl := List.mem_append_right _ (List.mem_append_left _ (List.mem_of_getElem? (i := 58) rfl))
theorem wq_55 : (.classLink R_SB 28 R_Reader : Cond) ∈ tb := tb_i1 (List.mem_of_getElem? (i := 15) rfl)
set_option maxRecDepth 100000 in
theorem wl_56 : (.instantiable R_Reader 3 : Cond) ∈ lw_tbl := List.mem_append_right _ (List.mem_append_left _ (List.mem_of_getElem? (i := 59) rfl))
theorem wq_56 : (.instantiable R_Reader 3 : Cond) ∈ tb := tb_i1 (List.mem_of_getElem? (i := 16) rfl)
set_option maxRecDepth 100000 in
theorem wl_57 : (.initialized R_Reader : Cond) ∈ lw_tbl := List.mem_append_right _ (List.mem_append_left _ (List.mem_of_getElem? (i := 4) rfl))
theorem wq_57 : (.initialized R_Reader : Cond) ∈ tb := tb_i1 (List.mem_of_getElem? (i := 17) rfl)
set_option maxRecDepth 100000 in
theorem wl_58 : (.code y_Reader_init b_Reader_init 3 none : Cond) ∈ lw_tbl := List.mem_append_right _ (List.mem_append_left _ (List.mem_of_getElem? (i := 62) rfl))
theorem wq_58 : (.code y_Reader_init b_Reader_init 3 none : Cond) ∈ tb := tb_i1 (List.mem_of_getElem? (i := 18) rfl)
set_option maxRecDepth 100000 in
theorem wl_59 : (.fieldLink R_SB 33 "StackBytes" "reader" "LStackBytes$Reader;" : Cond) ∈ lw_tbl := List.mem_append_right _ (List.mem_append_right _ (List.mem_append_left _ (List.mem_of_getElem? (i := 3) rfl)))
theorem wq_59 : (.fieldLink R_SB 33 "StackBytes" "reader" "LStackBytes$Reader;" : Cond) ∈ tb := tb_i1 (List.mem_of_getElem? (i := 19) rfl)
set_option maxRecDepth 100000 in
theorem wl_60 : (.classLink R_SB 37 R_Verifier : Cond) ∈ lw_tbl := List.mem_append_right _ (List.mem_append_left _ (List.mem_of_getElem? (i := 74) rfl))
theorem wq_60 : (.classLink R_SB 37 R_Verifier : Cond) ∈ tb := tb_i1 (List.mem_of_getElem? (i := 20) rfl)
set_option maxRecDepth 100000 in
theorem wl_61 : (.instantiable R_Verifier 11 : Cond) ∈ lw_tbl := List.mem_append_right _ (List.mem_append_left _ (List.mem_of_getElem? (i := 75) rfl))
theorem wq_61 : (.instantiable R_Verifier 11 : Cond) ∈ tb := tb_i1 (List.mem_of_getElem? (i := 21) rfl)
set_option maxRecDepth 100000 in
theorem wl_62 : (.initialized R_Verifier : Cond) ∈ lw_tbl := List.mem_append_right _ (List.mem_append_left _ (List.mem_of_getElem? (i := 5) rfl))
theorem wq_62 : (.initialized R_Verifier : Cond) ∈ tb := tb_i1 (List.mem_of_getElem? (i := 22) rfl)
set_option maxRecDepth 100000 in
theorem wl_63 : (.code y_Verifier_init b_Verifier_init 2 none : Cond) ∈ lw_tbl := List.mem_append_right _ (List.mem_append_left _ (List.mem_of_getElem? (i := 78) rfl))
theorem wq_63 : (.code y_Verifier_init b_Verifier_init 2 none : Cond) ∈ tb := tb_i1 (List.mem_of_getElem? (i := 23) rfl)
set_option maxRecDepth 100000 in
theorem wl_64 : (.fieldLink R_SB 42 "StackBytes" "verifier" "LStackBytes$Verifier;" : Cond) ∈ lw_tbl := List.mem_append_right _ (List.mem_append_right _ (List.mem_append_left _ (List.mem_of_getElem? (i := 4) rfl)))
theorem wq_64 : (.fieldLink R_SB 42 "StackBytes" "verifier" "LStackBytes$Verifier;" : Cond) ∈ tb := tb_i1 (List.mem_of_getElem? (i := 24) rfl)
set_option maxRecDepth 100000 in
theorem wl_65 : (.classLink R_SB 46 R_Program : Cond) ∈ lw_tbl := List.mem_append_right _ (List.mem_append_left _ (List.mem_of_getElem? (i := 116) rfl))
theorem wq_65 : (.classLink R_SB 46 R_Program : Cond) ∈ tb := tb_i1 (List.mem_of_getElem? (i := 25) rfl)
set_option maxRecDepth 100000 in
theorem wl_66 : (.instantiable R_Program 2 : Cond) ∈ lw_tbl := List.mem_append_right _ (List.mem_append_left _ (List.mem_of_getElem? (i := 117) rfl))
theorem wq_66 : (.instantiable R_Program 2 : Cond) ∈ tb := tb_i1 (List.mem_of_getElem? (i := 26) rfl)
set_option maxRecDepth 100000 in
theorem wl_67 : (.initialized R_Program : Cond) ∈ lw_tbl := List.mem_append_right _ (List.mem_append_left _ (List.mem_of_getElem? (i := 6) rfl))
theorem wq_67 : (.initialized R_Program : Cond) ∈ tb := tb_i1 (List.mem_of_getElem? (i := 27) rfl)
set_option maxRecDepth 100000 in
theorem wl_68 : (.code y_Program_init b_Program_init 1 none : Cond) ∈ lw_tbl := List.mem_append_right _ (List.mem_append_left _ (List.mem_of_getElem? (i := 120) rfl))
theorem wq_68 : (.code y_Program_init b_Program_init 1 none : Cond) ∈ tb := tb_i1 (List.mem_of_getElem? (i := 28) rfl)
set_option maxRecDepth 100000 in
theorem wl_69 : (.fieldLink R_SB 49 "StackBytes" "program" "LStackBytes$Program;" : Cond) ∈ lw_tbl := List.mem_append_right _ (List.mem_append_right _ (List.mem_append_left _ (List.mem_of_getElem? (i := 5) rfl)))
theorem wq_69 : (.fieldLink R_SB 49 "StackBytes" "program" "LStackBytes$Program;" : Cond) ∈ tb := tb_i1 (List.mem_of_getElem? (i := 29) rfl)
set_option maxRecDepth 100000 in
theorem wl_70 : (.fieldLink R_SB 53 "StackBytes" "spare" "LStackBytes$Program;" : Cond) ∈ lw_tbl := List.mem_append_right _ (List.mem_append_right _ (List.mem_append_left _ (List.mem_of_getElem? (i := 6) rfl)))
theorem wq_70 : (.fieldLink R_SB 53 "StackBytes" "spare" "LStackBytes$Program;" : Cond) ∈ tb := tb_i1 (List.mem_of_getElem? (i := 30) rfl)
set_option maxRecDepth 100000 in
theorem wl_71 : (.methodLink R_SB 48 y_Program_init : Cond) ∈ lw_tbl := List.mem_append_right _ (List.mem_append_left _ (List.mem_of_getElem? (i := 118) rfl))
theorem wq_71 : (.methodLink R_SB 48 y_Program_init : Cond) ∈ tb := tb_i1 (List.mem_of_getElem? (i := 31) rfl)
set_option maxRecDepth 100000 in
theorem wl_72 : (.instanceMethod y_Program_init : Cond) ∈ lw_tbl := List.mem_append_right _ (List.mem_append_left _ (List.mem_of_getElem? (i := 119) rfl))
theorem wq_72 : (.instanceMethod y_Program_init : Cond) ∈ tb := tb_i1 (List.mem_of_getElem? (i := 32) rfl)
set_option maxRecDepth 100000 in
theorem wl_73 : (.methodLink R_SB 39 y_Verifier_init : Cond) ∈ lw_tbl := List.mem_append_right _ (List.mem_append_left _ (List.mem_of_getElem? (i := 76) rfl))
theorem wq_73 : (.methodLink R_SB 39 y_Verifier_init : Cond) ∈ tb := tb_i1 (List.mem_of_getElem? (i := 33) rfl)
set_option maxRecDepth 100000 in
theorem wl_74 : (.instanceMethod y_Verifier_init : Cond) ∈ lw_tbl := List.mem_append_right _ (List.mem_append_left _ (List.mem_of_getElem? (i := 77) rfl))
theorem wq_74 : (.instanceMethod y_Verifier_init : Cond) ∈ tb := tb_i1 (List.mem_of_getElem? (i := 34) rfl)
set_option maxRecDepth 100000 in
theorem wl_75 : (.methodLink R_SB 30 y_Reader_init : Cond) ∈ lw_tbl := List.mem_append_right _ (List.mem_append_left _ (List.mem_of_getElem? (i := 60) rfl))
theorem wq_75 : (.methodLink R_SB 30 y_Reader_init : Cond) ∈ tb := tb_i1 (List.mem_of_getElem? (i := 35) rfl)
set_option maxRecDepth 100000 in
theorem wl_76 : (.instanceMethod y_Reader_init : Cond) ∈ lw_tbl := List.mem_append_right _ (List.mem_append_left _ (List.mem_of_getElem? (i := 61) rfl))
theorem wq_76 : (.instanceMethod y_Reader_init : Cond) ∈ tb := tb_i1 (List.mem_of_getElem? (i := 36) rfl)
set_option maxRecDepth 100000 in
theorem wl_77 : (.methodLink R_SB 23 y_Fault_init : Cond) ∈ lw_tbl := List.mem_append_right _ (List.mem_append_left _ (List.mem_of_getElem? (i := 43) rfl))
theorem wq_77 : (.methodLink R_SB 23 y_Fault_init : Cond) ∈ tb := tb_i1 (List.mem_of_getElem? (i := 37) rfl)
set_option maxRecDepth 100000 in
theorem wl_78 : (.instanceMethod y_Fault_init : Cond) ∈ lw_tbl := List.mem_append_right _ (List.mem_append_left _ (List.mem_of_getElem? (i := 44) rfl))
theorem wq_78 : (.instanceMethod y_Fault_init : Cond) ∈ tb := tb_i1 (List.mem_of_getElem? (i := 38) rfl)
set_option maxRecDepth 100000 in
theorem wl_79 : (.methodLink R_SB 11 y_ByteRow_init : Cond) ∈ lw_tbl := List.mem_append_right _ (List.mem_append_left _ (List.mem_of_getElem? (i := 24) rfl))
theorem wq_79 : (.methodLink R_SB 11 y_ByteRow_init : Cond) ∈ tb := tb_i1 (List.mem_of_getElem? (i := 39) rfl)
set_option maxRecDepth 100000 in
theorem wl_80 : (.instanceMethod y_ByteRow_init : Cond) ∈ lw_tbl := List.mem_append_right _ (List.mem_append_left _ (List.mem_of_getElem? (i := 25) rfl))
theorem wq_80 : (.instanceMethod y_ByteRow_init : Cond) ∈ tb := tb_i2 (List.mem_of_getElem? (i := 0) rfl)
set_option maxRecDepth 100000 in
theorem wl_81 : (.methodLink R_Ar 304 Lib.Math.min.name : Cond) ∈ lw_tbl := List.mem_append_right _ (List.mem_append_right _ (List.mem_append_left _ (List.mem_of_getElem? (i := 50) rfl)))
theorem wq_81 : (.methodLink R_Ar 304 Lib.Math.min.name : Cond) ∈ tb := tb_i2 (List.mem_of_getElem? (i := 1) rfl)
set_option maxRecDepth 100000 in
theorem wl_82 : (.static Lib.Math.min.name : Cond) ∈ lw_tbl := List.mem_append_right _ (List.mem_append_right _ (List.mem_append_left _ (List.mem_of_getElem? (i := 35) rfl)))
theorem wq_82 : (.static Lib.Math.min.name : Cond) ∈ tb := tb_i2 (List.mem_of_getElem? (i := 2) rfl)
set_option maxRecDepth 100000 in
theorem wl_83 : (.initialized "java/lang/Math" : Cond) ∈ lw_tbl := List.mem_append_right _ (List.mem_append_left _ (List.mem_of_getElem? (i := 10) rfl))
theorem wq_83 : (.initialized "java/lang/Math" : Cond) ∈ tb := tb_i2 (List.mem_of_getElem? (i := 3) rfl)
set_option maxRecDepth 100000 in
theorem wl_84 : (.code Lib.Math.min.name Lib.Math.min.code 2 (some .int) : Cond) ∈ lw_tbl := List.mem_append_right _ (List.mem_append_right _ (List.mem_append_left _ (List.mem_of_getElem? (i := 36) rfl)))
theorem wq_84 : (.code Lib.Math.min.name Lib.Math.min.code 2 (some .int) : Cond) ∈ tb := tb_i2 (List.mem_of_getElem? (i := 4) rfl)
set_option maxRecDepth 100000 in
theorem wl_85 : (.methodLink R_Ar 150 arraycopyName : Cond) ∈ lw_tbl := List.mem_append_right _ (List.mem_append_right _ (List.mem_append_left _ (List.mem_of_getElem? (i := 51) rfl)))
theorem wq_85 : (.methodLink R_Ar 150 arraycopyName : Cond) ∈ tb := tb_i2 (List.mem_of_getElem? (i := 5) rfl)
set_option maxRecDepth 100000 in
theorem wl_86 : (.native arraycopyName : Cond) ∈ lw_tbl := List.mem_append_right _ (List.mem_append_right _ (List.mem_append_left _ (List.mem_of_getElem? (i := 53) rfl)))
theorem wq_86 : (.native arraycopyName : Cond) ∈ tb := tb_i2 (List.mem_of_getElem? (i := 6) rfl)
set_option maxRecDepth 100000 in
theorem wl_87 : (.static arraycopyName : Cond) ∈ lw_tbl := List.mem_append_right _ (List.mem_append_right _ (List.mem_append_left _ (List.mem_of_getElem? (i := 52) rfl)))
theorem wq_87 : (.static arraycopyName : Cond) ∈ tb := tb_i2 (List.mem_of_getElem? (i := 7) rfl)
set_option maxRecDepth 100000 in
theorem wl_88 : (.initialized "java/lang/System" : Cond) ∈ lw_tbl := List.mem_append_right _ (List.mem_append_left _ (List.mem_of_getElem? (i := 12) rfl))
theorem wq_88 : (.initialized "java/lang/System" : Cond) ∈ tb := tb_i2 (List.mem_of_getElem? (i := 8) rfl)
set_option maxRecDepth 100000 in
theorem wl_89 : (.methodLink R_ByteRow 32 Lib.Math.min.name : Cond) ∈ lw_tbl := List.mem_append_right _ (List.mem_append_right _ (List.mem_append_left _ (List.mem_of_getElem? (i := 34) rfl)))
theorem wq_89 : (.methodLink R_ByteRow 32 Lib.Math.min.name : Cond) ∈ tb := tb_i2 (List.mem_of_getElem? (i := 9) rfl)
set_option maxRecDepth 100000 in
theorem wl_90 : (.methodLink R_ByteRow 38 Lib.Math.max.name : Cond) ∈ lw_tbl := List.mem_append_right _ (List.mem_append_right _ (List.mem_append_left _ (List.mem_of_getElem? (i := 37) rfl)))
theorem wq_90 : (.methodLink R_ByteRow 38 Lib.Math.max.name : Cond) ∈ tb := tb_i2 (List.mem_of_getElem? (i := 10) rfl)
set_option maxRecDepth 100000 in
theorem wl_91 : (.static Lib.Math.max.name : Cond) ∈ lw_tbl := List.mem_append_right _ (List.mem_append_right _ (List.mem_append_left _ (List.mem_of_getElem? (i := 38) rfl)))
theorem wq_91 : (.static Lib.Math.max.name : Cond) ∈ tb := tb_i2 (List.mem_of_getElem? (i := 11) rfl)
set_option maxRecDepth 100000 in
theorem wl_92 : (.code Lib.Math.max.name Lib.Math.max.code 2 (some .int) : Cond) ∈ lw_tbl := List.mem_append_right _ (List.mem_append_right _ (List.mem_append_left _ (List.mem_of_getElem? (i := 39) rfl)))
theorem wq_92 : (.code Lib.Math.max.name Lib.Math.max.code 2 (some .int) : Cond) ∈ tb := tb_i2 (List.mem_of_getElem? (i := 12) rfl)
set_option maxRecDepth 100000 in
theorem wl_93 : (.code y_Ar_copyOf b_Ar_copyOf 3 (some (.array .byte)) : Cond) ∈ lw_tbl := List.mem_append_right _ (List.mem_append_right _ (List.mem_append_left _ (List.mem_of_getElem? (i := 42) rfl)))
theorem wq_93 : (.code y_Ar_copyOf b_Ar_copyOf 3 (some (.array .byte)) : Cond) ∈ tb := tb_i2 (List.mem_of_getElem? (i := 13) rfl)
set_option maxRecDepth 100000 in
theorem wl_94 : (.methodLink R_ByteRow 41 y_Ar_copyOf : Cond) ∈ lw_tbl := List.mem_append_right _ (List.mem_append_right _ (List.mem_append_left _ (List.mem_of_getElem? (i := 40) rfl)))
theorem wq_94 : (.methodLink R_ByteRow 41 y_Ar_copyOf : Cond) ∈ tb := tb_i2 (List.mem_of_getElem? (i := 14) rfl)
set_option maxRecDepth 100000 in
theorem wl_95 : (.static y_Ar_copyOf : Cond) ∈ lw_tbl := List.mem_append_right _ (List.mem_append_right _ (List.mem_append_left _ (List.mem_of_getElem? (i := 41) rfl)))
theorem wq_95 : (.static y_Ar_copyOf : Cond) ∈ tb := tb_i2 (List.mem_of_getElem? (i := 15) rfl)
set_option maxRecDepth 100000 in
theorem wl_96 : (.initialized R_Ar : Cond) ∈ lw_tbl := List.mem_append_right _ (List.mem_append_left _ (List.mem_of_getElem? (i := 11) rfl))
theorem wq_96 : (.initialized R_Ar : Cond) ∈ tb := tb_i2 (List.mem_of_getElem? (i := 16) rfl)
set_option maxRecDepth 100000 in
theorem wl_97 : (.code y_ByteRow_makeRoom b_ByteRow_makeRoom 2 none : Cond) ∈ lw_tbl := List.mem_append_right _ (List.mem_append_right _ (List.mem_append_left _ (List.mem_of_getElem? (i := 33) rfl)))
theorem wq_97 : (.code y_ByteRow_makeRoom b_ByteRow_makeRoom 2 none : Cond) ∈ tb := tb_i2 (List.mem_of_getElem? (i := 17) rfl)
set_option maxRecDepth 100000 in
theorem wl_98 : (.methodLink R_ByteRow 22 y_ByteRow_makeRoom : Cond) ∈ lw_tbl := List.mem_append_right _ (List.mem_append_right _ (List.mem_append_left _ (List.mem_of_getElem? (i := 30) rfl)))
theorem wq_98 : (.methodLink R_ByteRow 22 y_ByteRow_makeRoom : Cond) ∈ tb := tb_i2 (List.mem_of_getElem? (i := 18) rfl)
set_option maxRecDepth 100000 in
theorem wl_99 : (.instanceMethod y_ByteRow_makeRoom : Cond) ∈ lw_tbl := List.mem_append_right _ (List.mem_append_right _ (List.mem_append_left _ (List.mem_of_getElem? (i := 32) rfl)))
theorem wq_99 : (.instanceMethod y_ByteRow_makeRoom : Cond) ∈ tb := tb_i2 (List.mem_of_getElem? (i := 19) rfl)
set_option maxRecDepth 100000 in
theorem wl_100 : (.selects R_ByteRow y_ByteRow_makeRoom y_ByteRow_makeRoom : Cond) ∈ lw_tbl := List.mem_append_left _ (List.mem_of_getElem? (i := 0) rfl)
theorem wq_100 : (.selects R_ByteRow y_ByteRow_makeRoom y_ByteRow_makeRoom : Cond) ∈ tb := tb_i2 (List.mem_of_getElem? (i := 20) rfl)
set_option maxRecDepth 100000 in
theorem wl_101 : (.code y_ByteRow_add b_ByteRow_add 5 (some .boolean) : Cond) ∈ lw_tbl := List.mem_append_right _ (List.mem_append_right _ (List.mem_append_left _ (List.mem_of_getElem? (i := 29) rfl)))
theorem wq_101 : (.code y_ByteRow_add b_ByteRow_add 5 (some .boolean) : Cond) ∈ tb := tb_i2 (List.mem_of_getElem? (i := 21) rfl)
set_option maxRecDepth 100000 in
theorem wl_102 : (.methodLink R_SB 56 y_ByteRow_add : Cond) ∈ lw_tbl := List.mem_append_right _ (List.mem_append_right _ (List.mem_append_left _ (List.mem_of_getElem? (i := 26) rfl)))
theorem wq_102 : (.methodLink R_SB 56 y_ByteRow_add : Cond) ∈ tb := tb_i2 (List.mem_of_getElem? (i := 22) rfl)
set_option maxRecDepth 100000 in
theorem wl_103 : (.instanceMethod y_ByteRow_add : Cond) ∈ lw_tbl := List.mem_append_right _ (List.mem_append_right _ (List.mem_append_left _ (List.mem_of_getElem? (i := 27) rfl)))
theorem wq_103 : (.instanceMethod y_ByteRow_add : Cond) ∈ tb := tb_i2 (List.mem_of_getElem? (i := 23) rfl)
set_option maxRecDepth 100000 in
theorem wl_104 : (.selects R_ByteRow y_ByteRow_add y_ByteRow_add : Cond) ∈ lw_tbl := List.mem_append_right _ (List.mem_append_right _ (List.mem_append_left _ (List.mem_of_getElem? (i := 28) rfl)))
theorem wq_104 : (.selects R_ByteRow y_ByteRow_add y_ByteRow_add : Cond) ∈ tb := tb_i2 (List.mem_of_getElem? (i := 24) rfl)
set_option maxRecDepth 100000 in
theorem wl_105 : (.code y_ByteRow_keepFirst b_ByteRow_keepFirst 2 (some .boolean) : Cond) ∈ lw_tbl := List.mem_append_right _ (List.mem_append_right _ (List.mem_append_left _ (List.mem_of_getElem? (i := 61) rfl)))
theorem wq_105 : (.code y_ByteRow_keepFirst b_ByteRow_keepFirst 2 (some .boolean) : Cond) ∈ tb := tb_i2 (List.mem_of_getElem? (i := 25) rfl)
set_option maxRecDepth 100000 in
theorem wl_106 : (.methodLink R_SB 60 y_ByteRow_keepFirst : Cond) ∈ lw_tbl := List.mem_append_right _ (List.mem_append_right _ (List.mem_append_left _ (List.mem_of_getElem? (i := 58) rfl)))
theorem wq_106 : (.methodLink R_SB 60 y_ByteRow_keepFirst : Cond) ∈ tb := tb_i2 (List.mem_of_getElem? (i := 26) rfl)
set_option maxRecDepth 100000 in
theorem wl_107 : (.instanceMethod y_ByteRow_keepFirst : Cond) ∈ lw_tbl := List.mem_append_right _ (List.mem_append_right _ (List.mem_append_left _ (List.mem_of_getElem? (i := 59) rfl)))
theorem wq_107 : (.instanceMethod y_ByteRow_keepFirst : Cond) ∈ tb := tb_i2 (List.mem_of_getElem? (i := 27) rfl)
set_option maxRecDepth 100000 in
theorem wl_108 : (.selects R_ByteRow y_ByteRow_keepFirst y_ByteRow_keepFirst : Cond) ∈ lw_tbl := List.mem_append_right _ (List.mem_append_right _ (List.mem_append_left _ (List.mem_of_getElem? (i := 60) rfl)))
theorem wq_108 : (.selects R_ByteRow y_ByteRow_keepFirst y_ByteRow_keepFirst : Cond) ∈ tb := tb_i2 (List.mem_of_getElem? (i := 28) rfl)
set_option maxRecDepth 100000 in
theorem wl_109 : (.code y_ByteRow_set b_ByteRow_set 3 (some .boolean) : Cond) ∈ lw_tbl := List.mem_append_right _ (List.mem_append_right _ (List.mem_append_left _ (List.mem_of_getElem? (i := 69) rfl)))
theorem wq_109 : (.code y_ByteRow_set b_ByteRow_set 3 (some .boolean) : Cond) ∈ tb := tb_i2 (List.mem_of_getElem? (i := 29) rfl)
set_option maxRecDepth 100000 in
theorem wl_110 : (.methodLink R_SB 64 y_ByteRow_set : Cond) ∈ lw_tbl := List.mem_append_right _ (List.mem_append_right _ (List.mem_append_left _ (List.mem_of_getElem? (i := 66) rfl)))
theorem wq_110 : (.methodLink R_SB 64 y_ByteRow_set : Cond) ∈ tb := tb_i2 (List.mem_of_getElem? (i := 30) rfl)
set_option maxRecDepth 100000 in
theorem wl_111 : (.instanceMethod y_ByteRow_set : Cond) ∈ lw_tbl := List.mem_append_right _ (List.mem_append_right _ (List.mem_append_left _ (List.mem_of_getElem? (i := 67) rfl)))
theorem wq_111 : (.instanceMethod y_ByteRow_set : Cond) ∈ tb := tb_i2 (List.mem_of_getElem? (i := 31) rfl)
set_option maxRecDepth 100000 in
theorem wl_112 : (.selects R_ByteRow y_ByteRow_set y_ByteRow_set : Cond) ∈ lw_tbl := List.mem_append_right _ (List.mem_append_right _ (List.mem_append_left _ (List.mem_of_getElem? (i := 68) rfl)))
theorem wq_112 : (.selects R_ByteRow y_ByteRow_set y_ByteRow_set : Cond) ∈ tb := tb_i2 (List.mem_of_getElem? (i := 32) rfl)
set_option maxRecDepth 100000 in
theorem wl_113 : (.fieldLink R_Reader 60 "StackBytes$ByteRow" "count" "I" : Cond) ∈ lw_tbl := List.mem_append_right _ (List.mem_append_left _ (List.mem_of_getElem? (i := 31) rfl))
theorem wq_113 : (.fieldLink R_Reader 60 "StackBytes$ByteRow" "count" "I" : Cond) ∈ tb := tb_i2 (List.mem_of_getElem? (i := 33) rfl)
set_option maxRecDepth 100000 in
theorem wl_114 : (.code y_ByteRow_at b_ByteRow_at 2 (some .int) : Cond) ∈ lw_tbl := List.mem_append_right _ (List.mem_append_right _ (List.mem_append_left _ (List.mem_of_getElem? (i := 97) rfl)))
theorem wq_114 : (.code y_ByteRow_at b_ByteRow_at 2 (some .int) : Cond) ∈ tb := tb_i2 (List.mem_of_getElem? (i := 34) rfl)
set_option maxRecDepth 100000 in
theorem wl_115 : (.methodLink R_Reader 134 y_ByteRow_at : Cond) ∈ lw_tbl := List.mem_append_right _ (List.mem_append_right _ (List.mem_append_left _ (List.mem_of_getElem? (i := 94) rfl)))
theorem wq_115 : (.methodLink R_Reader 134 y_ByteRow_at : Cond) ∈ tb := tb_i2 (List.mem_of_getElem? (i := 35) rfl)
set_option maxRecDepth 100000 in
theorem wl_116 : (.instanceMethod y_ByteRow_at : Cond) ∈ lw_tbl := List.mem_append_right _ (List.mem_append_right _ (List.mem_append_left _ (List.mem_of_getElem? (i := 95) rfl)))
theorem wq_116 : (.instanceMethod y_ByteRow_at : Cond) ∈ tb := tb_i2 (List.mem_of_getElem? (i := 36) rfl)
set_option maxRecDepth 100000 in
theorem wl_117 : (.selects R_ByteRow y_ByteRow_at y_ByteRow_at : Cond) ∈ lw_tbl := List.mem_append_right _ (List.mem_append_right _ (List.mem_append_left _ (List.mem_of_getElem? (i := 96) rfl)))
theorem wq_117 : (.selects R_ByteRow y_ByteRow_at y_ByteRow_at : Cond) ∈ tb := tb_i2 (List.mem_of_getElem? (i := 37) rfl)
set_option maxRecDepth 100000 in
theorem wl_118 : (.code y_Fault_tell b_Fault_tell 3 none : Cond) ∈ lw_tbl := List.mem_append_right _ (List.mem_append_right _ (List.mem_append_left _ (List.mem_of_getElem? (i := 93) rfl)))
theorem wq_118 : (.code y_Fault_tell b_Fault_tell 3 none : Cond) ∈ tb := tb_i2 (List.mem_of_getElem? (i := 38) rfl)
set_option maxRecDepth 100000 in
theorem wl_119 : (.methodLink R_Reader 63 y_Fault_tell : Cond) ∈ lw_tbl := List.mem_append_right _ (List.mem_append_right _ (List.mem_append_left _ (List.mem_of_getElem? (i := 90) rfl)))
theorem wq_119 : (.methodLink R_Reader 63 y_Fault_tell : Cond) ∈ tb := tb_i2 (List.mem_of_getElem? (i := 39) rfl)
set_option maxRecDepth 100000 in
theorem wl_120 : (.instanceMethod y_Fault_tell : Cond) ∈ lw_tbl := List.mem_append_right _ (List.mem_append_right _ (List.mem_append_left _ (List.mem_of_getElem? (i := 91) rfl)))
theorem wq_120 : (.instanceMethod y_Fault_tell : Cond) ∈ tb := tb_i3 (List.mem_of_getElem? (i := 0) rfl)
set_option maxRecDepth 100000 in
theorem wl_121 : (.selects R_Fault y_Fault_tell y_Fault_tell : Cond) ∈ lw_tbl := List.mem_append_right _ (List.mem_append_right _ (List.mem_append_left _ (List.mem_of_getElem? (i := 92) rfl)))
theorem wq_121 : (.selects R_Fault y_Fault_tell y_Fault_tell : Cond) ∈ tb := tb_i3 (List.mem_of_getElem? (i := 1) rfl)
set_option maxRecDepth 100000 in
theorem wl_122 : (.code y_Reader_nextByte b_Reader_nextByte 2 (some .int) : Cond) ∈ lw_tbl := List.mem_append_right _ (List.mem_append_right _ (List.mem_append_left _ (List.mem_of_getElem? (i := 89) rfl)))
theorem wq_122 : (.code y_Reader_nextByte b_Reader_nextByte 2 (some .int) : Cond) ∈ tb := tb_i3 (List.mem_of_getElem? (i := 2) rfl)
set_option maxRecDepth 100000 in
theorem wl_123 : (.methodLink R_Reader 67 y_Reader_nextByte : Cond) ∈ lw_tbl := List.mem_append_right _ (List.mem_append_right _ (List.mem_append_left _ (List.mem_of_getElem? (i := 86) rfl)))
theorem wq_123 : (.methodLink R_Reader 67 y_Reader_nextByte : Cond) ∈ tb := tb_i3 (List.mem_of_getElem? (i := 3) rfl)
set_option maxRecDepth 100000 in
theorem wl_124 : (.instanceMethod y_Reader_nextByte : Cond) ∈ lw_tbl := List.mem_append_right _ (List.mem_append_right _ (List.mem_append_left _ (List.mem_of_getElem? (i := 88) rfl)))
theorem wq_124 : (.instanceMethod y_Reader_nextByte : Cond) ∈ tb := tb_i3 (List.mem_of_getElem? (i := 4) rfl)
set_option maxRecDepth 100000 in
theorem wl_125 : (.selects R_Reader y_Reader_nextByte y_Reader_nextByte : Cond) ∈ lw_tbl := List.mem_append_left _ (List.mem_of_getElem? (i := 2) rfl)
theorem wq_125 : (.selects R_Reader y_Reader_nextByte y_Reader_nextByte : Cond) ∈ tb := tb_i3 (List.mem_of_getElem? (i := 5) rfl)
set_option maxRecDepth 100000 in
theorem wl_126 : (.fieldLink R_Reader 39 "StackBytes$Fault" "kind" "I" : Cond) ∈ lw_tbl := List.mem_append_right _ (List.mem_append_left _ (List.mem_of_getElem? (i := 49) rfl))
theorem wq_126 : (.fieldLink R_Reader 39 "StackBytes$Fault" "kind" "I" : Cond) ∈ tb := tb_i3 (List.mem_of_getElem? (i := 6) rfl)
set_option maxRecDepth 100000 in
theorem wl_127 : (.code y_Reader_number b_Reader_number 7 (some .int) : Cond) ∈ lw_tbl := List.mem_append_right _ (List.mem_append_right _ (List.mem_append_left _ (List.mem_of_getElem? (i := 101) rfl)))
theorem wq_127 : (.code y_Reader_number b_Reader_number 7 (some .int) : Cond) ∈ tb := tb_i3 (List.mem_of_getElem? (i := 7) rfl)
set_option maxRecDepth 100000 in
theorem wl_128 : (.fieldLink R_Reader 71 "StackBytes$Function" "params" "I" : Cond) ∈ lw_tbl := List.mem_append_right _ (List.mem_append_left _ (List.mem_of_getElem? (i := 164) rfl))
theorem wq_128 : (.fieldLink R_Reader 71 "StackBytes$Function" "params" "I" : Cond) ∈ tb := tb_i3 (List.mem_of_getElem? (i := 8) rfl)
set_option maxRecDepth 100000 in
theorem wl_129 : (.fieldLink R_Reader 76 "StackBytes$Function" "locals" "I" : Cond) ∈ lw_tbl := List.mem_append_right _ (List.mem_append_left _ (List.mem_of_getElem? (i := 168) rfl))
theorem wq_129 : (.fieldLink R_Reader 76 "StackBytes$Function" "locals" "I" : Cond) ∈ tb := tb_i3 (List.mem_of_getElem? (i := 9) rfl)
set_option maxRecDepth 100000 in
theorem wl_130 : (.fieldLink R_Reader 79 "StackBytes$Function" "rowLocals" "I" : Cond) ∈ lw_tbl := List.mem_append_right _ (List.mem_append_left _ (List.mem_of_getElem? (i := 173) rfl))
theorem wq_130 : (.fieldLink R_Reader 79 "StackBytes$Function" "rowLocals" "I" : Cond) ∈ tb := tb_i3 (List.mem_of_getElem? (i := 10) rfl)
set_option maxRecDepth 100000 in
theorem wl_131 : (.fieldLink R_Reader 82 "StackBytes$Function" "result" "I" : Cond) ∈ lw_tbl := List.mem_append_right _ (List.mem_append_left _ (List.mem_of_getElem? (i := 175) rfl))
theorem wq_131 : (.fieldLink R_Reader 82 "StackBytes$Function" "result" "I" : Cond) ∈ tb := tb_i3 (List.mem_of_getElem? (i := 11) rfl)
set_option maxRecDepth 100000 in
theorem wl_132 : (.fieldLink R_Reader 85 "StackBytes$Function" "count" "I" : Cond) ∈ lw_tbl := List.mem_append_right _ (List.mem_append_left _ (List.mem_of_getElem? (i := 182) rfl))
theorem wq_132 : (.fieldLink R_Reader 85 "StackBytes$Function" "count" "I" : Cond) ∈ tb := tb_i3 (List.mem_of_getElem? (i := 12) rfl)
set_option maxRecDepth 100000 in
theorem wl_133 : (.methodLink R_Reader 27 y_Reader_number : Cond) ∈ lw_tbl := List.mem_append_right _ (List.mem_append_right _ (List.mem_append_left _ (List.mem_of_getElem? (i := 98) rfl)))
theorem wq_133 : (.methodLink R_Reader 27 y_Reader_number : Cond) ∈ tb := tb_i3 (List.mem_of_getElem? (i := 13) rfl)
set_option maxRecDepth 100000 in
theorem wl_134 : (.instanceMethod y_Reader_number : Cond) ∈ lw_tbl := List.mem_append_right _ (List.mem_append_right _ (List.mem_append_left _ (List.mem_of_getElem? (i := 100) rfl)))
theorem wq_134 : (.instanceMethod y_Reader_number : Cond) ∈ tb := tb_i3 (List.mem_of_getElem? (i := 14) rfl)
set_option maxRecDepth 100000 in
theorem wl_135 : (.selects R_Reader y_Reader_number y_Reader_number : Cond) ∈ lw_tbl := List.mem_append_left _ (List.mem_of_getElem? (i := 3) rfl)
theorem wq_135 : (.selects R_Reader y_Reader_number y_Reader_number : Cond) ∈ tb := tb_i3 (List.mem_of_getElem? (i := 15) rfl)
set_option maxRecDepth 100000 in
theorem wl_136 : (.constant R_Kinds 11 (-2147483648) : Cond) ∈ lw_tbl := List.mem_append_right _ (List.mem_append_right _ (List.mem_append_left _ (List.mem_of_getElem? (i := 120) rfl)))
theorem wq_136 : (.constant R_Kinds 11 (-2147483648) : Cond) ∈ tb := tb_i3 (List.mem_of_getElem? (i := 16) rfl)
set_option maxRecDepth 100000 in
theorem wl_137 : (.constant R_Kinds 12 2147483647 : Cond) ∈ lw_tbl := List.mem_append_right _ (List.mem_append_right _ (List.mem_append_left _ (List.mem_of_getElem? (i := 124) rfl)))
theorem wq_137 : (.constant R_Kinds 12 2147483647 : Cond) ∈ tb := tb_i3 (List.mem_of_getElem? (i := 17) rfl)
set_option maxRecDepth 100000 in
theorem wl_138 : (.fieldLink R_Kinds 13 "StackBytes$Function" "locals" "I" : Cond) ∈ lw_tbl := List.mem_append_right _ (List.mem_append_left _ (List.mem_of_getElem? (i := 169) rfl))
theorem wq_138 : (.fieldLink R_Kinds 13 "StackBytes$Function" "locals" "I" : Cond) ∈ tb := tb_i3 (List.mem_of_getElem? (i := 18) rfl)
set_option maxRecDepth 100000 in
theorem wl_139 : (.fieldLink R_Kinds 19 "StackBytes$Function" "count" "I" : Cond) ∈ lw_tbl := List.mem_append_right _ (List.mem_append_left _ (List.mem_of_getElem? (i := 183) rfl))
theorem wq_139 : (.fieldLink R_Kinds 19 "StackBytes$Function" "count" "I" : Cond) ∈ tb := tb_i3 (List.mem_of_getElem? (i := 19) rfl)
set_option maxRecDepth 100000 in
theorem wl_140 : (.fieldLink R_Reader 86 "StackBytes$Function" "ops" "[I" : Cond) ∈ lw_tbl := List.mem_append_right _ (List.mem_append_left _ (List.mem_of_getElem? (i := 190) rfl))
theorem wq_140 : (.fieldLink R_Reader 86 "StackBytes$Function" "ops" "[I" : Cond) ∈ tb := tb_i3 (List.mem_of_getElem? (i := 20) rfl)
set_option maxRecDepth 100000 in
theorem wl_141 : (.fieldLink R_Reader 90 "StackBytes$Function" "behinds" "[I" : Cond) ∈ lw_tbl := List.mem_append_right _ (List.mem_append_left _ (List.mem_of_getElem? (i := 194) rfl))
theorem wq_141 : (.fieldLink R_Reader 90 "StackBytes$Function" "behinds" "[I" : Cond) ∈ tb := tb_i3 (List.mem_of_getElem? (i := 21) rfl)
set_option maxRecDepth 100000 in
theorem wl_142 : (.code y_Kinds_bytesBehind b_Kinds_bytesBehind 1 (some .int) : Cond) ∈ lw_tbl := List.mem_append_right _ (List.mem_append_right _ (List.mem_append_left _ (List.mem_of_getElem? (i := 116) rfl)))
theorem wq_142 : (.code y_Kinds_bytesBehind b_Kinds_bytesBehind 1 (some .int) : Cond) ∈ tb := tb_i3 (List.mem_of_getElem? (i := 22) rfl)
set_option maxRecDepth 100000 in
theorem wl_143 : (.code y_Kinds_leastBehind b_Kinds_leastBehind 1 (some .int) : Cond) ∈ lw_tbl := List.mem_append_right _ (List.mem_append_right _ (List.mem_append_left _ (List.mem_of_getElem? (i := 119) rfl)))
theorem wq_143 : (.code y_Kinds_leastBehind b_Kinds_leastBehind 1 (some .int) : Cond) ∈ tb := tb_i3 (List.mem_of_getElem? (i := 23) rfl)
set_option maxRecDepth 100000 in
theorem wl_144 : (.code y_Kinds_mostBehind b_Kinds_mostBehind 3 (some .int) : Cond) ∈ lw_tbl := List.mem_append_right _ (List.mem_append_right _ (List.mem_append_left _ (List.mem_of_getElem? (i := 123) rfl)))
theorem wq_144 : (.code y_Kinds_mostBehind b_Kinds_mostBehind 3 (some .int) : Cond) ∈ tb := tb_i3 (List.mem_of_getElem? (i := 24) rfl)
set_option maxRecDepth 100000 in
theorem wl_145 : (.methodLink R_Reader 102 y_Kinds_mostBehind : Cond) ∈ lw_tbl := List.mem_append_right _ (List.mem_append_right _ (List.mem_append_left _ (List.mem_of_getElem? (i := 121) rfl)))
theorem wq_145 : (.methodLink R_Reader 102 y_Kinds_mostBehind : Cond) ∈ tb := tb_i3 (List.mem_of_getElem? (i := 25) rfl)
set_option maxRecDepth 100000 in
theorem wl_146 : (.static y_Kinds_mostBehind : Cond) ∈ lw_tbl := List.mem_append_right _ (List.mem_append_right _ (List.mem_append_left _ (List.mem_of_getElem? (i := 122) rfl)))
theorem wq_146 : (.static y_Kinds_mostBehind : Cond) ∈ tb := tb_i3 (List.mem_of_getElem? (i := 26) rfl)
set_option maxRecDepth 100000 in
theorem wl_147 : (.initialized R_Kinds : Cond) ∈ lw_tbl := List.mem_append_right _ (List.mem_append_left _ (List.mem_of_getElem? (i := 13) rfl))
theorem wq_147 : (.initialized R_Kinds : Cond) ∈ tb := tb_i3 (List.mem_of_getElem? (i := 27) rfl)
set_option maxRecDepth 100000 in
theorem wl_148 : (.methodLink R_Reader 99 y_Kinds_leastBehind : Cond) ∈ lw_tbl := List.mem_append_right _ (List.mem_append_right _ (List.mem_append_left _ (List.mem_of_getElem? (i := 117) rfl)))
theorem wq_148 : (.methodLink R_Reader 99 y_Kinds_leastBehind : Cond) ∈ tb := tb_i3 (List.mem_of_getElem? (i := 28) rfl)
set_option maxRecDepth 100000 in
theorem wl_149 : (.static y_Kinds_leastBehind : Cond) ∈ lw_tbl := List.mem_append_right _ (List.mem_append_right _ (List.mem_append_left _ (List.mem_of_getElem? (i := 118) rfl)))
theorem wq_149 : (.static y_Kinds_leastBehind : Cond) ∈ tb := tb_i3 (List.mem_of_getElem? (i := 29) rfl)
set_option maxRecDepth 100000 in
theorem wl_150 : (.methodLink R_Reader 93 y_Kinds_bytesBehind : Cond) ∈ lw_tbl := List.mem_append_right _ (List.mem_append_right _ (List.mem_append_left _ (List.mem_of_getElem? (i := 114) rfl)))
theorem wq_150 : (.methodLink R_Reader 93 y_Kinds_bytesBehind : Cond) ∈ tb := tb_i3 (List.mem_of_getElem? (i := 30) rfl)
set_option maxRecDepth 100000 in
theorem wl_151 : (.static y_Kinds_bytesBehind : Cond) ∈ lw_tbl := List.mem_append_right _ (List.mem_append_right _ (List.mem_append_left _ (List.mem_of_getElem? (i := 115) rfl)))
theorem wq_151 : (.static y_Kinds_bytesBehind : Cond) ∈ tb := tb_i3 (List.mem_of_getElem? (i := 31) rfl)
set_option maxRecDepth 100000 in
theorem wl_152 : (.fieldLink R_Reader 106 "StackBytes$Function" "handlerCount" "I" : Cond) ∈ lw_tbl := List.mem_append_right _ (List.mem_append_left _ (List.mem_of_getElem? (i := 187) rfl))
theorem wq_152 : (.fieldLink R_Reader 106 "StackBytes$Function" "handlerCount" "I" : Cond) ∈ tb := tb_i3 (List.mem_of_getElem? (i := 32) rfl)
set_option maxRecDepth 100000 in
theorem wl_153 : (.fieldLink R_Reader 109 "StackBytes$Function" "handlers" "[LStackBytes$Handler;" : Cond) ∈ lw_tbl := List.mem_append_right _ (List.mem_append_left _ (List.mem_of_getElem? (i := 205) rfl))
theorem wq_153 : (.fieldLink R_Reader 109 "StackBytes$Function" "handlers" "[LStackBytes$Handler;" : Cond) ∈ tb := tb_i3 (List.mem_of_getElem? (i := 33) rfl)
set_option maxRecDepth 100000 in
theorem wl_154 : (.fieldLink R_Reader 112 "StackBytes$Handler" "from" "I" : Cond) ∈ lw_tbl := List.mem_append_right _ (List.mem_append_left _ (List.mem_of_getElem? (i := 137) rfl))
theorem wq_154 : (.fieldLink R_Reader 112 "StackBytes$Handler" "from" "I" : Cond) ∈ tb := tb_i3 (List.mem_of_getElem? (i := 34) rfl)
set_option maxRecDepth 100000 in
theorem wl_155 : (.fieldLink R_Reader 117 "StackBytes$Handler" "to" "I" : Cond) ∈ lw_tbl := List.mem_append_right _ (List.mem_append_left _ (List.mem_of_getElem? (i := 140) rfl))
theorem wq_155 : (.fieldLink R_Reader 117 "StackBytes$Handler" "to" "I" : Cond) ∈ tb := tb_i3 (List.mem_of_getElem? (i := 35) rfl)
set_option maxRecDepth 100000 in
theorem wl_156 : (.fieldLink R_Reader 120 "StackBytes$Handler" "target" "I" : Cond) ∈ lw_tbl := List.mem_append_right _ (List.mem_append_left _ (List.mem_of_getElem? (i := 145) rfl))
theorem wq_156 : (.fieldLink R_Reader 120 "StackBytes$Handler" "target" "I" : Cond) ∈ tb := tb_i3 (List.mem_of_getElem? (i := 36) rfl)
set_option maxRecDepth 100000 in
theorem wl_157 : (.fieldLink R_Reader 123 "StackBytes$Handler" "forAny" "Z" : Cond) ∈ lw_tbl := List.mem_append_right _ (List.mem_append_left _ (List.mem_of_getElem? (i := 148) rfl))
theorem wq_157 : (.fieldLink R_Reader 123 "StackBytes$Handler" "forAny" "Z" : Cond) ∈ tb := tb_i3 (List.mem_of_getElem? (i := 37) rfl)
set_option maxRecDepth 100000 in
theorem wl_158 : (.constant R_Reader 129 (-2147483648) : Cond) ∈ lw_tbl := List.mem_append_right _ (List.mem_append_right _ (List.mem_append_left _ (List.mem_of_getElem? (i := 129) rfl)))
theorem wq_158 : (.constant R_Reader 129 (-2147483648) : Cond) ∈ tb := tb_i3 (List.mem_of_getElem? (i := 38) rfl)
set_option maxRecDepth 100000 in
theorem wl_159 : (.constant R_Reader 130 2147483647 : Cond) ∈ lw_tbl := List.mem_append_right _ (List.mem_append_right _ (List.mem_append_left _ (List.mem_of_getElem? (i := 130) rfl)))
theorem wq_159 : (.constant R_Reader 130 2147483647 : Cond) ∈ tb := tb_i3 (List.mem_of_getElem? (i := 39) rfl)
set_option maxRecDepth 100000 in
theorem wl_160 : (.fieldLink R_Reader 131 "StackBytes$Handler" "code" "I" : Cond) ∈ lw_tbl := List.mem_append_right _ (List.mem_append_left _ (List.mem_of_getElem? (i := 151) rfl))
theorem wq_160 : (.fieldLink R_Reader 131 "StackBytes$Handler" "code" "I" : Cond) ∈ tb := tb_i4 (List.mem_of_getElem? (i := 0) rfl)
set_option maxRecDepth 100000 in
theorem wl_161 : (.code y_Reader_start b_Reader_start 3 none : Cond) ∈ lw_tbl := List.mem_append_right _ (List.mem_append_right _ (List.mem_append_left _ (List.mem_of_getElem? (i := 85) rfl)))
theorem wq_161 : (.code y_Reader_start b_Reader_start 3 none : Cond) ∈ tb := tb_i4 (List.mem_of_getElem? (i := 1) rfl)
set_option maxRecDepth 100000 in
theorem wl_162 : (.code y_Program_setCount b_Program_setCount 3 none : Cond) ∈ lw_tbl := List.mem_append_right _ (List.mem_append_right _ (List.mem_append_left _ (List.mem_of_getElem? (i := 105) rfl)))
theorem wq_162 : (.code y_Program_setCount b_Program_setCount 3 none : Cond) ∈ tb := tb_i4 (List.mem_of_getElem? (i := 2) rfl)
set_option maxRecDepth 100000 in
theorem wl_163 : (.fieldLink R_Reader 36 "StackBytes$Program" "count" "I" : Cond) ∈ lw_tbl := List.mem_append_right _ (List.mem_append_left _ (List.mem_of_getElem? (i := 233) rfl))
theorem wq_163 : (.fieldLink R_Reader 36 "StackBytes$Program" "count" "I" : Cond) ∈ tb := tb_i4 (List.mem_of_getElem? (i := 3) rfl)
set_option maxRecDepth 100000 in
theorem wl_164 : (.fieldLink R_Reader 44 "StackBytes$Program" "functions" "[LStackBytes$Function;" : Cond) ∈ lw_tbl := List.mem_append_right _ (List.mem_append_left _ (List.mem_of_getElem? (i := 231) rfl))
theorem wq_164 : (.fieldLink R_Reader 44 "StackBytes$Program" "functions" "[LStackBytes$Function;" : Cond) ∈ tb := tb_i4 (List.mem_of_getElem? (i := 4) rfl)
set_option maxRecDepth 100000 in
theorem wl_165 : (.code y_Reader_head b_Reader_head 3 none : Cond) ∈ lw_tbl := List.mem_append_right _ (List.mem_append_right _ (List.mem_append_left _ (List.mem_of_getElem? (i := 109) rfl)))
theorem wq_165 : (.code y_Reader_head b_Reader_head 3 none : Cond) ∈ tb := tb_i4 (List.mem_of_getElem? (i := 5) rfl)
set_option maxRecDepth 100000 in
theorem wl_166 : (.code y_Reader_instructions b_Reader_instructions 5 none : Cond) ∈ lw_tbl := List.mem_append_right _ (List.mem_append_right _ (List.mem_append_left _ (List.mem_of_getElem? (i := 113) rfl)))
theorem wq_166 : (.code y_Reader_instructions b_Reader_instructions 5 none : Cond) ∈ tb := tb_i4 (List.mem_of_getElem? (i := 6) rfl)
set_option maxRecDepth 100000 in
theorem wl_167 : (.code y_Reader_handlers b_Reader_handlers 4 none : Cond) ∈ lw_tbl := List.mem_append_right _ (List.mem_append_right _ (List.mem_append_left _ (List.mem_of_getElem? (i := 128) rfl)))
theorem wq_167 : (.code y_Reader_handlers b_Reader_handlers 4 none : Cond) ∈ tb := tb_i4 (List.mem_of_getElem? (i := 7) rfl)
set_option maxRecDepth 100000 in
theorem wl_168 : (.methodLink R_Reader 56 y_Reader_handlers : Cond) ∈ lw_tbl := List.mem_append_right _ (List.mem_append_right _ (List.mem_append_left _ (List.mem_of_getElem? (i := 125) rfl)))
theorem wq_168 : (.methodLink R_Reader 56 y_Reader_handlers : Cond) ∈ tb := tb_i4 (List.mem_of_getElem? (i := 8) rfl)
set_option maxRecDepth 100000 in
theorem wl_169 : (.instanceMethod y_Reader_handlers : Cond) ∈ lw_tbl := List.mem_append_right _ (List.mem_append_right _ (List.mem_append_left _ (List.mem_of_getElem? (i := 127) rfl)))
theorem wq_169 : (.instanceMethod y_Reader_handlers : Cond) ∈ tb := tb_i4 (List.mem_of_getElem? (i := 9) rfl)
set_option maxRecDepth 100000 in
theorem wl_170 : (.selects R_Reader y_Reader_handlers y_Reader_handlers : Cond) ∈ lw_tbl := List.mem_append_left _ (List.mem_of_getElem? (i := 6) rfl)
theorem wq_170 : (.selects R_Reader y_Reader_handlers y_Reader_handlers : Cond) ∈ tb := tb_i4 (List.mem_of_getElem? (i := 10) rfl)
set_option maxRecDepth 100000 in
theorem wl_171 : (.methodLink R_Reader 52 y_Reader_instructions : Cond) ∈ lw_tbl := List.mem_append_right _ (List.mem_append_right _ (List.mem_append_left _ (List.mem_of_getElem? (i := 110) rfl)))
theorem wq_171 : (.methodLink R_Reader 52 y_Reader_instructions : Cond) ∈ tb := tb_i4 (List.mem_of_getElem? (i := 11) rfl)
set_option maxRecDepth 100000 in
theorem wl_172 : (.instanceMethod y_Reader_instructions : Cond) ∈ lw_tbl := List.mem_append_right _ (List.mem_append_right _ (List.mem_append_left _ (List.mem_of_getElem? (i := 112) rfl)))
theorem wq_172 : (.instanceMethod y_Reader_instructions : Cond) ∈ tb := tb_i4 (List.mem_of_getElem? (i := 12) rfl)
set_option maxRecDepth 100000 in
theorem wl_173 : (.selects R_Reader y_Reader_instructions y_Reader_instructions : Cond) ∈ lw_tbl := List.mem_append_left _ (List.mem_of_getElem? (i := 5) rfl)
theorem wq_173 : (.selects R_Reader y_Reader_instructions y_Reader_instructions : Cond) ∈ tb := tb_i4 (List.mem_of_getElem? (i := 13) rfl)
set_option maxRecDepth 100000 in
theorem wl_174 : (.methodLink R_Reader 48 y_Reader_head : Cond) ∈ lw_tbl := List.mem_append_right _ (List.mem_append_right _ (List.mem_append_left _ (List.mem_of_getElem? (i := 106) rfl)))
theorem wq_174 : (.methodLink R_Reader 48 y_Reader_head : Cond) ∈ tb := tb_i4 (List.mem_of_getElem? (i := 14) rfl)
set_option maxRecDepth 100000 in
theorem wl_175 : (.instanceMethod y_Reader_head : Cond) ∈ lw_tbl := List.mem_append_right _ (List.mem_append_right _ (List.mem_append_left _ (List.mem_of_getElem? (i := 108) rfl)))
theorem wq_175 : (.instanceMethod y_Reader_head : Cond) ∈ tb := tb_i4 (List.mem_of_getElem? (i := 15) rfl)
set_option maxRecDepth 100000 in
theorem wl_176 : (.selects R_Reader y_Reader_head y_Reader_head : Cond) ∈ lw_tbl := List.mem_append_left _ (List.mem_of_getElem? (i := 4) rfl)
theorem wq_176 : (.selects R_Reader y_Reader_head y_Reader_head : Cond) ∈ tb := tb_i4 (List.mem_of_getElem? (i := 16) rfl)
set_option maxRecDepth 100000 in
theorem wl_177 : (.methodLink R_Reader 31 y_Program_setCount : Cond) ∈ lw_tbl := List.mem_append_right _ (List.mem_append_right _ (List.mem_append_left _ (List.mem_of_getElem? (i := 102) rfl)))
theorem wq_177 : (.methodLink R_Reader 31 y_Program_setCount : Cond) ∈ tb := tb_i4 (List.mem_of_getElem? (i := 17) rfl)
set_option maxRecDepth 100000 in
theorem wl_178 : (.instanceMethod y_Program_setCount : Cond) ∈ lw_tbl := List.mem_append_right _ (List.mem_append_right _ (List.mem_append_left _ (List.mem_of_getElem? (i := 103) rfl)))
theorem wq_178 : (.instanceMethod y_Program_setCount : Cond) ∈ tb := tb_i4 (List.mem_of_getElem? (i := 18) rfl)
set_option maxRecDepth 100000 in
theorem wl_179 : (.selects R_Program y_Program_setCount y_Program_setCount : Cond) ∈ lw_tbl := List.mem_append_right _ (List.mem_append_right _ (List.mem_append_left _ (List.mem_of_getElem? (i := 104) rfl)))
theorem wq_179 : (.selects R_Program y_Program_setCount y_Program_setCount : Cond) ∈ tb := tb_i4 (List.mem_of_getElem? (i := 19) rfl)
set_option maxRecDepth 100000 in
theorem wl_180 : (.methodLink R_Reader 23 y_Reader_start : Cond) ∈ lw_tbl := List.mem_append_right _ (List.mem_append_right _ (List.mem_append_left _ (List.mem_of_getElem? (i := 82) rfl)))
theorem wq_180 : (.methodLink R_Reader 23 y_Reader_start : Cond) ∈ tb := tb_i4 (List.mem_of_getElem? (i := 20) rfl)
set_option maxRecDepth 100000 in
theorem wl_181 : (.instanceMethod y_Reader_start : Cond) ∈ lw_tbl := List.mem_append_right _ (List.mem_append_right _ (List.mem_append_left _ (List.mem_of_getElem? (i := 84) rfl)))
theorem wq_181 : (.instanceMethod y_Reader_start : Cond) ∈ tb := tb_i4 (List.mem_of_getElem? (i := 21) rfl)
set_option maxRecDepth 100000 in
theorem wl_182 : (.selects R_Reader y_Reader_start y_Reader_start : Cond) ∈ lw_tbl := List.mem_append_left _ (List.mem_of_getElem? (i := 1) rfl)
theorem wq_182 : (.selects R_Reader y_Reader_start y_Reader_start : Cond) ∈ tb := tb_i4 (List.mem_of_getElem? (i := 22) rfl)
set_option maxRecDepth 100000 in
theorem wl_183 : (.fieldLink R_Verifier 47 "StackBytes$Fault" "kind" "I" : Cond) ∈ lw_tbl := List.mem_append_right _ (List.mem_append_left _ (List.mem_of_getElem? (i := 48) rfl))
theorem wq_183 : (.fieldLink R_Verifier 47 "StackBytes$Fault" "kind" "I" : Cond) ∈ tb := tb_i4 (List.mem_of_getElem? (i := 23) rfl)
set_option maxRecDepth 100000 in
theorem wl_184 : (.fieldLink R_Verifier 36 "StackBytes$Verifier" "function" "LStackBytes$Function;" : Cond) ∈ lw_tbl := List.mem_append_right _ (List.mem_append_left _ (List.mem_of_getElem? (i := 86) rfl))
theorem wq_184 : (.fieldLink R_Verifier 36 "StackBytes$Verifier" "function" "LStackBytes$Function;" : Cond) ∈ tb := tb_i4 (List.mem_of_getElem? (i := 24) rfl)
set_option maxRecDepth 100000 in
theorem wl_185 : (.code y_Function_has b_Function_has 2 (some .boolean) : Cond) ∈ lw_tbl := List.mem_append_right _ (List.mem_append_right _ (List.mem_append_left _ (List.mem_of_getElem? (i := 150) rfl)))
theorem wq_185 : (.code y_Function_has b_Function_has 2 (some .boolean) : Cond) ∈ tb := tb_i4 (List.mem_of_getElem? (i := 25) rfl)
set_option maxRecDepth 100000 in
theorem wl_186 : (.fieldLink R_Verifier 40 "StackBytes$Verifier" "firstPlace" "I" : Cond) ∈ lw_tbl := List.mem_append_right _ (List.mem_append_left _ (List.mem_of_getElem? (i := 87) rfl))
theorem wq_186 : (.fieldLink R_Verifier 40 "StackBytes$Verifier" "firstPlace" "I" : Cond) ∈ tb := tb_i4 (List.mem_of_getElem? (i := 26) rfl)
set_option maxRecDepth 100000 in
theorem wl_187 : (.methodLink R_Verifier 128 y_Fault_tell : Cond) ∈ lw_tbl := List.mem_append_right _ (List.mem_append_right _ (List.mem_append_left _ (List.mem_of_getElem? (i := 152) rfl)))
theorem wq_187 : (.methodLink R_Verifier 128 y_Fault_tell : Cond) ∈ tb := tb_i4 (List.mem_of_getElem? (i := 27) rfl)
set_option maxRecDepth 100000 in
theorem wl_188 : (.fieldLink R_Verifier 65 "StackBytes$Verifier" "leastWaiting" "I" : Cond) ∈ lw_tbl := List.mem_append_right _ (List.mem_append_left _ (List.mem_of_getElem? (i := 84) rfl))
theorem wq_188 : (.fieldLink R_Verifier 65 "StackBytes$Verifier" "leastWaiting" "I" : Cond) ∈ tb := tb_i4 (List.mem_of_getElem? (i := 28) rfl)
set_option maxRecDepth 100000 in
theorem wl_189 : (.methodLink R_Verifier 134 Lib.Math.min.name : Cond) ∈ lw_tbl := List.mem_append_right _ (List.mem_append_right _ (List.mem_append_left _ (List.mem_of_getElem? (i := 151) rfl)))
theorem wq_189 : (.methodLink R_Verifier 134 Lib.Math.min.name : Cond) ∈ tb := tb_i4 (List.mem_of_getElem? (i := 29) rfl)
set_option maxRecDepth 100000 in
theorem wl_190 : (.methodLink R_Verifier 131 y_Function_has : Cond) ∈ lw_tbl := List.mem_append_right _ (List.mem_append_right _ (List.mem_append_left _ (List.mem_of_getElem? (i := 147) rfl)))
theorem wq_190 : (.methodLink R_Verifier 131 y_Function_has : Cond) ∈ tb := tb_i4 (List.mem_of_getElem? (i := 30) rfl)
set_option maxRecDepth 100000 in
theorem wl_191 : (.instanceMethod y_Function_has : Cond) ∈ lw_tbl := List.mem_append_right _ (List.mem_append_right _ (List.mem_append_left _ (List.mem_of_getElem? (i := 148) rfl)))
theorem wq_191 : (.instanceMethod y_Function_has : Cond) ∈ tb := tb_i4 (List.mem_of_getElem? (i := 31) rfl)
set_option maxRecDepth 100000 in
theorem wl_192 : (.selects R_Function y_Function_has y_Function_has : Cond) ∈ lw_tbl := List.mem_append_right _ (List.mem_append_right _ (List.mem_append_left _ (List.mem_of_getElem? (i := 149) rfl)))
theorem wq_192 : (.selects R_Function y_Function_has y_Function_has : Cond) ∈ tb := tb_i4 (List.mem_of_getElem? (i := 32) rfl)
set_option maxRecDepth 100000 in
theorem wl_193 : (.fieldLink R_Verifier 55 "StackBytes$Function" "count" "I" : Cond) ∈ lw_tbl := List.mem_append_right _ (List.mem_append_left _ (List.mem_of_getElem? (i := 180) rfl))
theorem wq_193 : (.fieldLink R_Verifier 55 "StackBytes$Function" "count" "I" : Cond) ∈ tb := tb_i4 (List.mem_of_getElem? (i := 33) rfl)
set_option maxRecDepth 100000 in
theorem wl_194 : (.fieldLink R_Verifier 82 "StackBytes$Verifier" "depth" "I" : Cond) ∈ lw_tbl := List.mem_append_right _ (List.mem_append_left _ (List.mem_of_getElem? (i := 89) rfl))
theorem wq_194 : (.fieldLink R_Verifier 82 "StackBytes$Verifier" "depth" "I" : Cond) ∈ tb := tb_i4 (List.mem_of_getElem? (i := 34) rfl)
set_option maxRecDepth 100000 in
theorem wl_195 : (.fieldLink R_Verifier 85 "StackBytes$Verifier" "rows" "I" : Cond) ∈ lw_tbl := List.mem_append_right _ (List.mem_append_left _ (List.mem_of_getElem? (i := 90) rfl))
theorem wq_195 : (.fieldLink R_Verifier 85 "StackBytes$Verifier" "rows" "I" : Cond) ∈ tb := tb_i4 (List.mem_of_getElem? (i := 35) rfl)
set_option maxRecDepth 100000 in
theorem wl_196 : (.fieldLink R_Verifier 79 "StackBytes$Verifier" "current" "I" : Cond) ∈ lw_tbl := List.mem_append_right _ (List.mem_append_left _ (List.mem_of_getElem? (i := 88) rfl))
theorem wq_196 : (.fieldLink R_Verifier 79 "StackBytes$Verifier" "current" "I" : Cond) ∈ tb := tb_i4 (List.mem_of_getElem? (i := 36) rfl)
set_option maxRecDepth 100000 in
theorem wl_197 : (.code y_Verifier_take b_Verifier_take 3 (some .int) : Cond) ∈ lw_tbl := List.mem_append_right _ (List.mem_append_right _ (List.mem_append_left _ (List.mem_of_getElem? (i := 172) rfl)))
theorem wq_197 : (.code y_Verifier_take b_Verifier_take 3 (some .int) : Cond) ∈ tb := tb_i4 (List.mem_of_getElem? (i := 37) rfl)
set_option maxRecDepth 100000 in
theorem wl_198 : (.code y_Verifier_put b_Verifier_put 2 none : Cond) ∈ lw_tbl := List.mem_append_right _ (List.mem_append_right _ (List.mem_append_left _ (List.mem_of_getElem? (i := 168) rfl)))
theorem wq_198 : (.code y_Verifier_put b_Verifier_put 2 none : Cond) ∈ tb := tb_i4 (List.mem_of_getElem? (i := 38) rfl)
set_option maxRecDepth 100000 in
theorem wl_199 : (.methodLink R_Verifier 140 y_Verifier_put : Cond) ∈ lw_tbl := List.mem_append_right _ (List.mem_append_right _ (List.mem_append_left _ (List.mem_of_getElem? (i := 165) rfl)))
theorem wq_199 : (.methodLink R_Verifier 140 y_Verifier_put : Cond) ∈ tb := tb_i4 (List.mem_of_getElem? (i := 39) rfl)
set_option maxRecDepth 100000 in
theorem wl_200 : (.instanceMethod y_Verifier_put : Cond) ∈ lw_tbl := List.mem_append_right _ (List.mem_append_right _ (List.mem_append_left _ (List.mem_of_getElem? (i := 167) rfl)))
theorem wq_200 : (.instanceMethod y_Verifier_put : Cond) ∈ tb := tb_i5 (List.mem_of_getElem? (i := 0) rfl)
set_option maxRecDepth 100000 in
theorem wl_201 : (.selects R_Verifier y_Verifier_put y_Verifier_put : Cond) ∈ lw_tbl := List.mem_append_left _ (List.mem_of_getElem? (i := 12) rfl)
theorem wq_201 : (.selects R_Verifier y_Verifier_put y_Verifier_put : Cond) ∈ tb := tb_i5 (List.mem_of_getElem? (i := 1) rfl)
set_option maxRecDepth 100000 in
theorem wl_202 : (.methodLink R_Verifier 143 y_Verifier_take : Cond) ∈ lw_tbl := List.mem_append_right _ (List.mem_append_right _ (List.mem_append_left _ (List.mem_of_getElem? (i := 169) rfl)))
theorem wq_202 : (.methodLink R_Verifier 143 y_Verifier_take : Cond) ∈ tb := tb_i5 (List.mem_of_getElem? (i := 2) rfl)
set_option maxRecDepth 100000 in
theorem wl_203 : (.instanceMethod y_Verifier_take : Cond) ∈ lw_tbl := List.mem_append_right _ (List.mem_append_right _ (List.mem_append_left _ (List.mem_of_getElem? (i := 171) rfl)))
theorem wq_203 : (.instanceMethod y_Verifier_take : Cond) ∈ tb := tb_i5 (List.mem_of_getElem? (i := 3) rfl)
set_option maxRecDepth 100000 in
theorem wl_204 : (.selects R_Verifier y_Verifier_take y_Verifier_take : Cond) ∈ lw_tbl := List.mem_append_left _ (List.mem_of_getElem? (i := 13) rfl)
theorem wq_204 : (.selects R_Verifier y_Verifier_take y_Verifier_take : Cond) ∈ tb := tb_i5 (List.mem_of_getElem? (i := 4) rfl)
set_option maxRecDepth 100000 in
theorem wl_205 : (.fieldLink R_Function 35 "StackBytes$Function" "rowLocals" "I" : Cond) ∈ lw_tbl := List.mem_append_right _ (List.mem_append_left _ (List.mem_of_getElem? (i := 172) rfl))
theorem wq_205 : (.fieldLink R_Function 35 "StackBytes$Function" "rowLocals" "I" : Cond) ∈ tb := tb_i5 (List.mem_of_getElem? (i := 5) rfl)
set_option maxRecDepth 100000 in
theorem wl_206 : (.code y_Verifier_takeInts b_Verifier_takeInts 3 none : Cond) ∈ lw_tbl := List.mem_append_right _ (List.mem_append_right _ (List.mem_append_left _ (List.mem_of_getElem? (i := 192) rfl)))
theorem wq_206 : (.code y_Verifier_takeInts b_Verifier_takeInts 3 none : Cond) ∈ tb := tb_i5 (List.mem_of_getElem? (i := 6) rfl)
set_option maxRecDepth 100000 in
theorem wl_207 : (.methodLink R_Verifier 163 y_Verifier_takeInts : Cond) ∈ lw_tbl := List.mem_append_right _ (List.mem_append_right _ (List.mem_append_left _ (List.mem_of_getElem? (i := 189) rfl)))
theorem wq_207 : (.methodLink R_Verifier 163 y_Verifier_takeInts : Cond) ∈ tb := tb_i5 (List.mem_of_getElem? (i := 7) rfl)
set_option maxRecDepth 100000 in
theorem wl_208 : (.instanceMethod y_Verifier_takeInts : Cond) ∈ lw_tbl := List.mem_append_right _ (List.mem_append_right _ (List.mem_append_left _ (List.mem_of_getElem? (i := 191) rfl)))
theorem wq_208 : (.instanceMethod y_Verifier_takeInts : Cond) ∈ tb := tb_i5 (List.mem_of_getElem? (i := 8) rfl)
set_option maxRecDepth 100000 in
theorem wl_209 : (.selects R_Verifier y_Verifier_takeInts y_Verifier_takeInts : Cond) ∈ lw_tbl := List.mem_append_left _ (List.mem_of_getElem? (i := 17) rfl)
theorem wq_209 : (.selects R_Verifier y_Verifier_takeInts y_Verifier_takeInts : Cond) ∈ tb := tb_i5 (List.mem_of_getElem? (i := 9) rfl)
set_option maxRecDepth 100000 in
theorem wl_210 : (.fieldLink R_Verifier 172 "StackBytes$Function" "params" "I" : Cond) ∈ lw_tbl := List.mem_append_right _ (List.mem_append_left _ (List.mem_of_getElem? (i := 167) rfl))
theorem wq_210 : (.fieldLink R_Verifier 172 "StackBytes$Function" "params" "I" : Cond) ∈ tb := tb_i5 (List.mem_of_getElem? (i := 10) rfl)
set_option maxRecDepth 100000 in
theorem wl_211 : (.code y_Function_typeOfLocal b_Function_typeOfLocal 2 (some .int) : Cond) ∈ lw_tbl := List.mem_append_right _ (List.mem_append_right _ (List.mem_append_left _ (List.mem_of_getElem? (i := 184) rfl)))
theorem wq_211 : (.code y_Function_typeOfLocal b_Function_typeOfLocal 2 (some .int) : Cond) ∈ tb := tb_i5 (List.mem_of_getElem? (i := 11) rfl)
set_option maxRecDepth 100000 in
theorem wl_212 : (.methodLink R_Verifier 153 y_Function_typeOfLocal : Cond) ∈ lw_tbl := List.mem_append_right _ (List.mem_append_right _ (List.mem_append_left _ (List.mem_of_getElem? (i := 181) rfl)))
theorem wq_212 : (.methodLink R_Verifier 153 y_Function_typeOfLocal : Cond) ∈ tb := tb_i5 (List.mem_of_getElem? (i := 12) rfl)
set_option maxRecDepth 100000 in
theorem wl_213 : (.instanceMethod y_Function_typeOfLocal : Cond) ∈ lw_tbl := List.mem_append_right _ (List.mem_append_right _ (List.mem_append_left _ (List.mem_of_getElem? (i := 182) rfl)))
theorem wq_213 : (.instanceMethod y_Function_typeOfLocal : Cond) ∈ tb := tb_i5 (List.mem_of_getElem? (i := 13) rfl)
set_option maxRecDepth 100000 in
theorem wl_214 : (.selects R_Function y_Function_typeOfLocal y_Function_typeOfLocal : Cond) ∈ lw_tbl := List.mem_append_right _ (List.mem_append_right _ (List.mem_append_left _ (List.mem_of_getElem? (i := 183) rfl)))
theorem wq_214 : (.selects R_Function y_Function_typeOfLocal y_Function_typeOfLocal : Cond) ∈ tb := tb_i5 (List.mem_of_getElem? (i := 14) rfl)
set_option maxRecDepth 100000 in
theorem wl_215 : (.fieldLink R_Verifier 175 "StackBytes$Function" "result" "I" : Cond) ∈ lw_tbl := List.mem_append_right _ (List.mem_append_left _ (List.mem_of_getElem? (i := 178) rfl))
theorem wq_215 : (.fieldLink R_Verifier 175 "StackBytes$Function" "result" "I" : Cond) ∈ tb := tb_i5 (List.mem_of_getElem? (i := 15) rfl)
set_option maxRecDepth 100000 in
theorem wl_216 : (.code y_Verifier_repeatTop b_Verifier_repeatTop 2 none : Cond) ∈ lw_tbl := List.mem_append_right _ (List.mem_append_right _ (List.mem_append_left _ (List.mem_of_getElem? (i := 176) rfl)))
theorem wq_216 : (.code y_Verifier_repeatTop b_Verifier_repeatTop 2 none : Cond) ∈ tb := tb_i5 (List.mem_of_getElem? (i := 16) rfl)
set_option maxRecDepth 100000 in
theorem wl_217 : (.methodLink R_Verifier 147 y_Verifier_repeatTop : Cond) ∈ lw_tbl := List.mem_append_right _ (List.mem_append_right _ (List.mem_append_left _ (List.mem_of_getElem? (i := 173) rfl)))
theorem wq_217 : (.methodLink R_Verifier 147 y_Verifier_repeatTop : Cond) ∈ tb := tb_i5 (List.mem_of_getElem? (i := 17) rfl)
set_option maxRecDepth 100000 in
theorem wl_218 : (.instanceMethod y_Verifier_repeatTop : Cond) ∈ lw_tbl := List.mem_append_right _ (List.mem_append_right _ (List.mem_append_left _ (List.mem_of_getElem? (i := 175) rfl)))
theorem wq_218 : (.instanceMethod y_Verifier_repeatTop : Cond) ∈ tb := tb_i5 (List.mem_of_getElem? (i := 18) rfl)
set_option maxRecDepth 100000 in
theorem wl_219 : (.selects R_Verifier y_Verifier_repeatTop y_Verifier_repeatTop : Cond) ∈ lw_tbl := List.mem_append_left _ (List.mem_of_getElem? (i := 14) rfl)
theorem wq_219 : (.selects R_Verifier y_Verifier_repeatTop y_Verifier_repeatTop : Cond) ∈ tb := tb_i5 (List.mem_of_getElem? (i := 19) rfl)
set_option maxRecDepth 100000 in
theorem wl_220 : (.code y_Verifier_swapUpperTwo b_Verifier_swapUpperTwo 3 none : Cond) ∈ lw_tbl := List.mem_append_right _ (List.mem_append_right _ (List.mem_append_left _ (List.mem_of_getElem? (i := 180) rfl)))
theorem wq_220 : (.code y_Verifier_swapUpperTwo b_Verifier_swapUpperTwo 3 none : Cond) ∈ tb := tb_i5 (List.mem_of_getElem? (i := 20) rfl)
set_option maxRecDepth 100000 in
theorem wl_221 : (.methodLink R_Verifier 150 y_Verifier_swapUpperTwo : Cond) ∈ lw_tbl := List.mem_append_right _ (List.mem_append_right _ (List.mem_append_left _ (List.mem_of_getElem? (i := 177) rfl)))
theorem wq_221 : (.methodLink R_Verifier 150 y_Verifier_swapUpperTwo : Cond) ∈ tb := tb_i5 (List.mem_of_getElem? (i := 21) rfl)
set_option maxRecDepth 100000 in
theorem wl_222 : (.instanceMethod y_Verifier_swapUpperTwo : Cond) ∈ lw_tbl := List.mem_append_right _ (List.mem_append_right _ (List.mem_append_left _ (List.mem_of_getElem? (i := 179) rfl)))
theorem wq_222 : (.instanceMethod y_Verifier_swapUpperTwo : Cond) ∈ tb := tb_i5 (List.mem_of_getElem? (i := 22) rfl)
set_option maxRecDepth 100000 in
theorem wl_223 : (.selects R_Verifier y_Verifier_swapUpperTwo y_Verifier_swapUpperTwo : Cond) ∈ lw_tbl := List.mem_append_left _ (List.mem_of_getElem? (i := 15) rfl)
theorem wq_223 : (.selects R_Verifier y_Verifier_swapUpperTwo y_Verifier_swapUpperTwo : Cond) ∈ tb := tb_i5 (List.mem_of_getElem? (i := 23) rfl)
set_option maxRecDepth 100000 in
theorem wl_224 : (.code y_Verifier_useRow b_Verifier_useRow 2 none : Cond) ∈ lw_tbl := List.mem_append_right _ (List.mem_append_right _ (List.mem_append_left _ (List.mem_of_getElem? (i := 188) rfl)))
theorem wq_224 : (.code y_Verifier_useRow b_Verifier_useRow 2 none : Cond) ∈ tb := tb_i5 (List.mem_of_getElem? (i := 24) rfl)
set_option maxRecDepth 100000 in
theorem wl_225 : (.methodLink R_Verifier 156 y_Verifier_useRow : Cond) ∈ lw_tbl := List.mem_append_right _ (List.mem_append_right _ (List.mem_append_left _ (List.mem_of_getElem? (i := 185) rfl)))
theorem wq_225 : (.methodLink R_Verifier 156 y_Verifier_useRow : Cond) ∈ tb := tb_i5 (List.mem_of_getElem? (i := 25) rfl)
set_option maxRecDepth 100000 in
theorem wl_226 : (.instanceMethod y_Verifier_useRow : Cond) ∈ lw_tbl := List.mem_append_right _ (List.mem_append_right _ (List.mem_append_left _ (List.mem_of_getElem? (i := 187) rfl)))
theorem wq_226 : (.instanceMethod y_Verifier_useRow : Cond) ∈ tb := tb_i5 (List.mem_of_getElem? (i := 26) rfl)
set_option maxRecDepth 100000 in
theorem wl_227 : (.selects R_Verifier y_Verifier_useRow y_Verifier_useRow : Cond) ∈ lw_tbl := List.mem_append_left _ (List.mem_of_getElem? (i := 16) rfl)
theorem wq_227 : (.selects R_Verifier y_Verifier_useRow y_Verifier_useRow : Cond) ∈ tb := tb_i5 (List.mem_of_getElem? (i := 27) rfl)
set_option maxRecDepth 100000 in
theorem wl_228 : (.fieldLink R_Verifier 32 "StackBytes$Verifier" "program" "LStackBytes$Program;" : Cond) ∈ lw_tbl := List.mem_append_right _ (List.mem_append_left _ (List.mem_of_getElem? (i := 85) rfl))
theorem wq_228 : (.fieldLink R_Verifier 32 "StackBytes$Verifier" "program" "LStackBytes$Program;" : Cond) ∈ tb := tb_i5 (List.mem_of_getElem? (i := 28) rfl)
set_option maxRecDepth 100000 in
theorem wl_229 : (.code y_Program_at b_Program_at 2 (some (.object "StackBytes$Function")) : Cond) ∈ lw_tbl := List.mem_append_right _ (List.mem_append_right _ (List.mem_append_left _ (List.mem_of_getElem? (i := 138) rfl)))
theorem wq_229 : (.code y_Program_at b_Program_at 2 (some (.object "StackBytes$Function")) : Cond) ∈ tb := tb_i5 (List.mem_of_getElem? (i := 29) rfl)
set_option maxRecDepth 100000 in
theorem wl_230 : (.code y_Verifier_callFunction b_Verifier_callFunction 3 none : Cond) ∈ lw_tbl := List.mem_append_right _ (List.mem_append_right _ (List.mem_append_left _ (List.mem_of_getElem? (i := 196) rfl)))
theorem wq_230 : (.code y_Verifier_callFunction b_Verifier_callFunction 3 none : Cond) ∈ tb := tb_i5 (List.mem_of_getElem? (i := 30) rfl)
set_option maxRecDepth 100000 in
theorem wl_231 : (.methodLink R_Verifier 159 y_Verifier_callFunction : Cond) ∈ lw_tbl := List.mem_append_right _ (List.mem_append_right _ (List.mem_append_left _ (List.mem_of_getElem? (i := 193) rfl)))
theorem wq_231 : (.methodLink R_Verifier 159 y_Verifier_callFunction : Cond) ∈ tb := tb_i5 (List.mem_of_getElem? (i := 31) rfl)
set_option maxRecDepth 100000 in
theorem wl_232 : (.instanceMethod y_Verifier_callFunction : Cond) ∈ lw_tbl := List.mem_append_right _ (List.mem_append_right _ (List.mem_append_left _ (List.mem_of_getElem? (i := 195) rfl)))
theorem wq_232 : (.instanceMethod y_Verifier_callFunction : Cond) ∈ tb := tb_i5 (List.mem_of_getElem? (i := 32) rfl)
set_option maxRecDepth 100000 in
theorem wl_233 : (.selects R_Verifier y_Verifier_callFunction y_Verifier_callFunction : Cond) ∈ lw_tbl := List.mem_append_left _ (List.mem_of_getElem? (i := 18) rfl)
theorem wq_233 : (.selects R_Verifier y_Verifier_callFunction y_Verifier_callFunction : Cond) ∈ tb := tb_i5 (List.mem_of_getElem? (i := 33) rfl)
set_option maxRecDepth 100000 in
theorem wl_234 : (.methodLink R_Verifier 26 y_Program_at : Cond) ∈ lw_tbl := List.mem_append_right _ (List.mem_append_right _ (List.mem_append_left _ (List.mem_of_getElem? (i := 135) rfl)))
theorem wq_234 : (.methodLink R_Verifier 26 y_Program_at : Cond) ∈ tb := tb_i5 (List.mem_of_getElem? (i := 34) rfl)
set_option maxRecDepth 100000 in
theorem wl_235 : (.instanceMethod y_Program_at : Cond) ∈ lw_tbl := List.mem_append_right _ (List.mem_append_right _ (List.mem_append_left _ (List.mem_of_getElem? (i := 136) rfl)))
theorem wq_235 : (.instanceMethod y_Program_at : Cond) ∈ tb := tb_i5 (List.mem_of_getElem? (i := 35) rfl)
set_option maxRecDepth 100000 in
theorem wl_236 : (.selects R_Program y_Program_at y_Program_at : Cond) ∈ lw_tbl := List.mem_append_right _ (List.mem_append_right _ (List.mem_append_left _ (List.mem_of_getElem? (i := 137) rfl)))
theorem wq_236 : (.selects R_Program y_Program_at y_Program_at : Cond) ∈ tb := tb_i5 (List.mem_of_getElem? (i := 36) rfl)
set_option maxRecDepth 100000 in
theorem wl_237 : (.code y_Verifier_takeResult b_Verifier_takeResult 1 none : Cond) ∈ lw_tbl := List.mem_append_right _ (List.mem_append_right _ (List.mem_append_left _ (List.mem_of_getElem? (i := 200) rfl)))
theorem wq_237 : (.code y_Verifier_takeResult b_Verifier_takeResult 1 none : Cond) ∈ tb := tb_i5 (List.mem_of_getElem? (i := 37) rfl)
set_option maxRecDepth 100000 in
theorem wl_238 : (.methodLink R_Verifier 166 y_Verifier_takeResult : Cond) ∈ lw_tbl := List.mem_append_right _ (List.mem_append_right _ (List.mem_append_left _ (List.mem_of_getElem? (i := 197) rfl)))
theorem wq_238 : (.methodLink R_Verifier 166 y_Verifier_takeResult : Cond) ∈ tb := tb_i5 (List.mem_of_getElem? (i := 38) rfl)
set_option maxRecDepth 100000 in
theorem wl_239 : (.instanceMethod y_Verifier_takeResult : Cond) ∈ lw_tbl := List.mem_append_right _ (List.mem_append_right _ (List.mem_append_left _ (List.mem_of_getElem? (i := 199) rfl)))
theorem wq_239 : (.instanceMethod y_Verifier_takeResult : Cond) ∈ tb := tb_i5 (List.mem_of_getElem? (i := 39) rfl)
set_option maxRecDepth 100000 in
theorem wl_240 : (.selects R_Verifier y_Verifier_takeResult y_Verifier_takeResult : Cond) ∈ lw_tbl := List.mem_append_left _ (List.mem_of_getElem? (i := 19) rfl)
theorem wq_240 : (.selects R_Verifier y_Verifier_takeResult y_Verifier_takeResult : Cond) ∈ tb := tb_i6 (List.mem_of_getElem? (i := 0) rfl)
set_option maxRecDepth 100000 in
theorem wl_241 : (.code y_Verifier_putInts b_Verifier_putInts 3 none : Cond) ∈ lw_tbl := List.mem_append_right _ (List.mem_append_right _ (List.mem_append_left _ (List.mem_of_getElem? (i := 204) rfl)))
theorem wq_241 : (.code y_Verifier_putInts b_Verifier_putInts 3 none : Cond) ∈ tb := tb_i6 (List.mem_of_getElem? (i := 1) rfl)
set_option maxRecDepth 100000 in
theorem wl_242 : (.methodLink R_Verifier 169 y_Verifier_putInts : Cond) ∈ lw_tbl := List.mem_append_right _ (List.mem_append_right _ (List.mem_append_left _ (List.mem_of_getElem? (i := 201) rfl)))
theorem wq_242 : (.methodLink R_Verifier 169 y_Verifier_putInts : Cond) ∈ tb := tb_i6 (List.mem_of_getElem? (i := 2) rfl)
set_option maxRecDepth 100000 in
theorem wl_243 : (.instanceMethod y_Verifier_putInts : Cond) ∈ lw_tbl := List.mem_append_right _ (List.mem_append_right _ (List.mem_append_left _ (List.mem_of_getElem? (i := 203) rfl)))
theorem wq_243 : (.instanceMethod y_Verifier_putInts : Cond) ∈ tb := tb_i6 (List.mem_of_getElem? (i := 3) rfl)
set_option maxRecDepth 100000 in
theorem wl_244 : (.selects R_Verifier y_Verifier_putInts y_Verifier_putInts : Cond) ∈ lw_tbl := List.mem_append_left _ (List.mem_of_getElem? (i := 20) rfl)
theorem wq_244 : (.selects R_Verifier y_Verifier_putInts y_Verifier_putInts : Cond) ∈ tb := tb_i6 (List.mem_of_getElem? (i := 4) rfl)
set_option maxRecDepth 100000 in
theorem wl_245 : (.fieldLink R_Handler 7 "StackBytes$Handler" "from" "I" : Cond) ∈ lw_tbl := List.mem_append_right _ (List.mem_append_left _ (List.mem_of_getElem? (i := 136) rfl))
theorem wq_245 : (.fieldLink R_Handler 7 "StackBytes$Handler" "from" "I" : Cond) ∈ tb := tb_i6 (List.mem_of_getElem? (i := 5) rfl)
set_option maxRecDepth 100000 in
theorem wl_246 : (.fieldLink R_Handler 13 "StackBytes$Handler" "to" "I" : Cond) ∈ lw_tbl := List.mem_append_right _ (List.mem_append_left _ (List.mem_of_getElem? (i := 139) rfl))
theorem wq_246 : (.fieldLink R_Handler 13 "StackBytes$Handler" "to" "I" : Cond) ∈ tb := tb_i6 (List.mem_of_getElem? (i := 6) rfl)
set_option maxRecDepth 100000 in
theorem wl_247 : (.fieldLink R_Verifier 113 "StackBytes$Function" "handlerCount" "I" : Cond) ∈ lw_tbl := List.mem_append_right _ (List.mem_append_left _ (List.mem_of_getElem? (i := 186) rfl))
theorem wq_247 : (.fieldLink R_Verifier 113 "StackBytes$Function" "handlerCount" "I" : Cond) ∈ tb := tb_i6 (List.mem_of_getElem? (i := 7) rfl)
set_option maxRecDepth 100000 in
theorem wl_248 : (.fieldLink R_Verifier 116 "StackBytes$Function" "handlers" "[LStackBytes$Handler;" : Cond) ∈ lw_tbl := List.mem_append_right _ (List.mem_append_left _ (List.mem_of_getElem? (i := 204) rfl))
theorem wq_248 : (.fieldLink R_Verifier 116 "StackBytes$Function" "handlers" "[LStackBytes$Handler;" : Cond) ∈ tb := tb_i6 (List.mem_of_getElem? (i := 8) rfl)
set_option maxRecDepth 100000 in
theorem wl_249 : (.code y_Handler_covers b_Handler_covers 2 (some .boolean) : Cond) ∈ lw_tbl := List.mem_append_right _ (List.mem_append_right _ (List.mem_append_left _ (List.mem_of_getElem? (i := 212) rfl)))
theorem wq_249 : (.code y_Handler_covers b_Handler_covers 2 (some .boolean) : Cond) ∈ tb := tb_i6 (List.mem_of_getElem? (i := 9) rfl)
set_option maxRecDepth 100000 in
theorem wl_250 : (.fieldLink R_Verifier 125 "StackBytes$Handler" "target" "I" : Cond) ∈ lw_tbl := List.mem_append_right _ (List.mem_append_left _ (List.mem_of_getElem? (i := 144) rfl))
theorem wq_250 : (.fieldLink R_Verifier 125 "StackBytes$Handler" "target" "I" : Cond) ∈ tb := tb_i6 (List.mem_of_getElem? (i := 10) rfl)
set_option maxRecDepth 100000 in
theorem wl_251 : (.code y_Verifier_comeTo b_Verifier_comeTo 4 none : Cond) ∈ lw_tbl := List.mem_append_right _ (List.mem_append_right _ (List.mem_append_left _ (List.mem_of_getElem? (i := 146) rfl)))
theorem wq_251 : (.code y_Verifier_comeTo b_Verifier_comeTo 4 none : Cond) ∈ tb := tb_i6 (List.mem_of_getElem? (i := 11) rfl)
set_option maxRecDepth 100000 in
theorem wl_252 : (.methodLink R_Verifier 68 y_Verifier_comeTo : Cond) ∈ lw_tbl := List.mem_append_right _ (List.mem_append_right _ (List.mem_append_left _ (List.mem_of_getElem? (i := 143) rfl)))
theorem wq_252 : (.methodLink R_Verifier 68 y_Verifier_comeTo : Cond) ∈ tb := tb_i6 (List.mem_of_getElem? (i := 12) rfl)
set_option maxRecDepth 100000 in
theorem wl_253 : (.instanceMethod y_Verifier_comeTo : Cond) ∈ lw_tbl := List.mem_append_right _ (List.mem_append_right _ (List.mem_append_left _ (List.mem_of_getElem? (i := 145) rfl)))
theorem wq_253 : (.instanceMethod y_Verifier_comeTo : Cond) ∈ tb := tb_i6 (List.mem_of_getElem? (i := 13) rfl)
set_option maxRecDepth 100000 in
theorem wl_254 : (.selects R_Verifier y_Verifier_comeTo y_Verifier_comeTo : Cond) ∈ lw_tbl := List.mem_append_left _ (List.mem_of_getElem? (i := 8) rfl)
theorem wq_254 : (.selects R_Verifier y_Verifier_comeTo y_Verifier_comeTo : Cond) ∈ tb := tb_i6 (List.mem_of_getElem? (i := 14) rfl)
set_option maxRecDepth 100000 in
theorem wl_255 : (.methodLink R_Verifier 120 y_Handler_covers : Cond) ∈ lw_tbl := List.mem_append_right _ (List.mem_append_right _ (List.mem_append_left _ (List.mem_of_getElem? (i := 209) rfl)))
theorem wq_255 : (.methodLink R_Verifier 120 y_Handler_covers : Cond) ∈ tb := tb_i6 (List.mem_of_getElem? (i := 15) rfl)
set_option maxRecDepth 100000 in
theorem wl_256 : (.instanceMethod y_Handler_covers : Cond) ∈ lw_tbl := List.mem_append_right _ (List.mem_append_right _ (List.mem_append_left _ (List.mem_of_getElem? (i := 210) rfl)))
theorem wq_256 : (.instanceMethod y_Handler_covers : Cond) ∈ tb := tb_i6 (List.mem_of_getElem? (i := 16) rfl)
set_option maxRecDepth 100000 in
theorem wl_257 : (.selects R_Handler y_Handler_covers y_Handler_covers : Cond) ∈ lw_tbl := List.mem_append_right _ (List.mem_append_right _ (List.mem_append_left _ (List.mem_of_getElem? (i := 211) rfl)))
theorem wq_257 : (.selects R_Handler y_Handler_covers y_Handler_covers : Cond) ∈ tb := tb_i6 (List.mem_of_getElem? (i := 17) rfl)
set_option maxRecDepth 100000 in
theorem wl_258 : (.fieldLink R_Verifier 88 "StackBytes$Function" "ops" "[I" : Cond) ∈ lw_tbl := List.mem_append_right _ (List.mem_append_left _ (List.mem_of_getElem? (i := 191) rfl))
theorem wq_258 : (.fieldLink R_Verifier 88 "StackBytes$Function" "ops" "[I" : Cond) ∈ tb := tb_i6 (List.mem_of_getElem? (i := 18) rfl)
set_option maxRecDepth 100000 in
theorem wl_259 : (.fieldLink R_Verifier 91 "StackBytes$Function" "behinds" "[I" : Cond) ∈ lw_tbl := List.mem_append_right _ (List.mem_append_left _ (List.mem_of_getElem? (i := 195) rfl))
theorem wq_259 : (.fieldLink R_Verifier 91 "StackBytes$Function" "behinds" "[I" : Cond) ∈ tb := tb_i6 (List.mem_of_getElem? (i := 19) rfl)
set_option maxRecDepth 100000 in
theorem wl_260 : (.code y_Verifier_takeAndPut b_Verifier_takeAndPut 3 none : Cond) ∈ lw_tbl := List.mem_append_right _ (List.mem_append_right _ (List.mem_append_left _ (List.mem_of_getElem? (i := 164) rfl)))
theorem wq_260 : (.code y_Verifier_takeAndPut b_Verifier_takeAndPut 3 none : Cond) ∈ tb := tb_i6 (List.mem_of_getElem? (i := 20) rfl)
set_option maxRecDepth 100000 in
theorem wl_261 : (.code y_Verifier_comeToHandlers b_Verifier_comeToHandlers 3 none : Cond) ∈ lw_tbl := List.mem_append_right _ (List.mem_append_right _ (List.mem_append_left _ (List.mem_of_getElem? (i := 208) rfl)))
theorem wq_261 : (.code y_Verifier_comeToHandlers b_Verifier_comeToHandlers 3 none : Cond) ∈ tb := tb_i6 (List.mem_of_getElem? (i := 21) rfl)
set_option maxRecDepth 100000 in
theorem wl_262 : (.code y_Kinds_goesToPlace b_Kinds_goesToPlace 1 (some .boolean) : Cond) ∈ lw_tbl := List.mem_append_right _ (List.mem_append_right _ (List.mem_append_left _ (List.mem_of_getElem? (i := 215) rfl)))
theorem wq_262 : (.code y_Kinds_goesToPlace b_Kinds_goesToPlace 1 (some .boolean) : Cond) ∈ tb := tb_i6 (List.mem_of_getElem? (i := 22) rfl)
set_option maxRecDepth 100000 in
theorem wl_263 : (.code y_Kinds_goesOnBehind b_Kinds_goesOnBehind 1 (some .boolean) : Cond) ∈ lw_tbl := List.mem_append_right _ (List.mem_append_right _ (List.mem_append_left _ (List.mem_of_getElem? (i := 218) rfl)))
theorem wq_263 : (.code y_Kinds_goesOnBehind b_Kinds_goesOnBehind 1 (some .boolean) : Cond) ∈ tb := tb_i6 (List.mem_of_getElem? (i := 23) rfl)
set_option maxRecDepth 100000 in
theorem wl_264 : (.code y_Verifier_comeToNext b_Verifier_comeToNext 1 none : Cond) ∈ lw_tbl := List.mem_append_right _ (List.mem_append_right _ (List.mem_append_left _ (List.mem_of_getElem? (i := 222) rfl)))
theorem wq_264 : (.code y_Verifier_comeToNext b_Verifier_comeToNext 1 none : Cond) ∈ tb := tb_i6 (List.mem_of_getElem? (i := 24) rfl)
set_option maxRecDepth 100000 in
theorem wl_265 : (.methodLink R_Verifier 110 y_Verifier_comeToNext : Cond) ∈ lw_tbl := List.mem_append_right _ (List.mem_append_right _ (List.mem_append_left _ (List.mem_of_getElem? (i := 219) rfl)))
theorem wq_265 : (.methodLink R_Verifier 110 y_Verifier_comeToNext : Cond) ∈ tb := tb_i6 (List.mem_of_getElem? (i := 25) rfl)
set_option maxRecDepth 100000 in
theorem wl_266 : (.instanceMethod y_Verifier_comeToNext : Cond) ∈ lw_tbl := List.mem_append_right _ (List.mem_append_right _ (List.mem_append_left _ (List.mem_of_getElem? (i := 221) rfl)))
theorem wq_266 : (.instanceMethod y_Verifier_comeToNext : Cond) ∈ tb := tb_i6 (List.mem_of_getElem? (i := 26) rfl)
set_option maxRecDepth 100000 in
theorem wl_267 : (.selects R_Verifier y_Verifier_comeToNext y_Verifier_comeToNext : Cond) ∈ lw_tbl := List.mem_append_left _ (List.mem_of_getElem? (i := 22) rfl)
theorem wq_267 : (.selects R_Verifier y_Verifier_comeToNext y_Verifier_comeToNext : Cond) ∈ tb := tb_i6 (List.mem_of_getElem? (i := 27) rfl)
set_option maxRecDepth 100000 in
theorem wl_268 : (.methodLink R_Verifier 107 y_Kinds_goesOnBehind : Cond) ∈ lw_tbl := List.mem_append_right _ (List.mem_append_right _ (List.mem_append_left _ (List.mem_of_getElem? (i := 216) rfl)))
theorem wq_268 : (.methodLink R_Verifier 107 y_Kinds_goesOnBehind : Cond) ∈ tb := tb_i6 (List.mem_of_getElem? (i := 28) rfl)
set_option maxRecDepth 100000 in
theorem wl_269 : (.static y_Kinds_goesOnBehind : Cond) ∈ lw_tbl := List.mem_append_right _ (List.mem_append_right _ (List.mem_append_left _ (List.mem_of_getElem? (i := 217) rfl)))
theorem wq_269 : (.static y_Kinds_goesOnBehind : Cond) ∈ tb := tb_i6 (List.mem_of_getElem? (i := 29) rfl)
set_option maxRecDepth 100000 in
theorem wl_270 : (.methodLink R_Verifier 101 y_Kinds_goesToPlace : Cond) ∈ lw_tbl := List.mem_append_right _ (List.mem_append_right _ (List.mem_append_left _ (List.mem_of_getElem? (i := 213) rfl)))
theorem wq_270 : (.methodLink R_Verifier 101 y_Kinds_goesToPlace : Cond) ∈ tb := tb_i6 (List.mem_of_getElem? (i := 30) rfl)
set_option maxRecDepth 100000 in
theorem wl_271 : (.static y_Kinds_goesToPlace : Cond) ∈ lw_tbl := List.mem_append_right _ (List.mem_append_right _ (List.mem_append_left _ (List.mem_of_getElem? (i := 214) rfl)))
theorem wq_271 : (.static y_Kinds_goesToPlace : Cond) ∈ tb := tb_i6 (List.mem_of_getElem? (i := 31) rfl)
set_option maxRecDepth 100000 in
theorem wl_272 : (.methodLink R_Verifier 98 y_Verifier_comeToHandlers : Cond) ∈ lw_tbl := List.mem_append_right _ (List.mem_append_right _ (List.mem_append_left _ (List.mem_of_getElem? (i := 205) rfl)))
theorem wq_272 : (.methodLink R_Verifier 98 y_Verifier_comeToHandlers : Cond) ∈ tb := tb_i6 (List.mem_of_getElem? (i := 32) rfl)
set_option maxRecDepth 100000 in
theorem wl_273 : (.instanceMethod y_Verifier_comeToHandlers : Cond) ∈ lw_tbl := List.mem_append_right _ (List.mem_append_right _ (List.mem_append_left _ (List.mem_of_getElem? (i := 207) rfl)))
theorem wq_273 : (.instanceMethod y_Verifier_comeToHandlers : Cond) ∈ tb := tb_i6 (List.mem_of_getElem? (i := 33) rfl)
set_option maxRecDepth 100000 in
theorem wl_274 : (.selects R_Verifier y_Verifier_comeToHandlers y_Verifier_comeToHandlers : Cond) ∈ lw_tbl := List.mem_append_left _ (List.mem_of_getElem? (i := 21) rfl)
theorem wq_274 : (.selects R_Verifier y_Verifier_comeToHandlers y_Verifier_comeToHandlers : Cond) ∈ tb := tb_i6 (List.mem_of_getElem? (i := 34) rfl)
set_option maxRecDepth 100000 in
theorem wl_275 : (.methodLink R_Verifier 94 y_Verifier_takeAndPut : Cond) ∈ lw_tbl := List.mem_append_right _ (List.mem_append_right _ (List.mem_append_left _ (List.mem_of_getElem? (i := 161) rfl)))
theorem wq_275 : (.methodLink R_Verifier 94 y_Verifier_takeAndPut : Cond) ∈ tb := tb_i6 (List.mem_of_getElem? (i := 35) rfl)
set_option maxRecDepth 100000 in
theorem wl_276 : (.instanceMethod y_Verifier_takeAndPut : Cond) ∈ lw_tbl := List.mem_append_right _ (List.mem_append_right _ (List.mem_append_left _ (List.mem_of_getElem? (i := 163) rfl)))
theorem wq_276 : (.instanceMethod y_Verifier_takeAndPut : Cond) ∈ tb := tb_i6 (List.mem_of_getElem? (i := 36) rfl)
set_option maxRecDepth 100000 in
theorem wl_277 : (.selects R_Verifier y_Verifier_takeAndPut y_Verifier_takeAndPut : Cond) ∈ lw_tbl := List.mem_append_left _ (List.mem_of_getElem? (i := 11) rfl)
theorem wq_277 : (.selects R_Verifier y_Verifier_takeAndPut y_Verifier_takeAndPut : Cond) ∈ tb := tb_i6 (List.mem_of_getElem? (i := 37) rfl)
set_option maxRecDepth 100000 in
theorem wl_278 : (.code y_Verifier_findLeastWaiting b_Verifier_findLeastWaiting 1 none : Cond) ∈ lw_tbl := List.mem_append_right _ (List.mem_append_right _ (List.mem_append_left _ (List.mem_of_getElem? (i := 156) rfl)))
theorem wq_278 : (.code y_Verifier_findLeastWaiting b_Verifier_findLeastWaiting 1 none : Cond) ∈ tb := tb_i6 (List.mem_of_getElem? (i := 38) rfl)
set_option maxRecDepth 100000 in
theorem wl_279 : (.code y_Verifier_lookAt b_Verifier_lookAt 4 none : Cond) ∈ lw_tbl := List.mem_append_right _ (List.mem_append_right _ (List.mem_append_left _ (List.mem_of_getElem? (i := 160) rfl)))
theorem wq_279 : (.code y_Verifier_lookAt b_Verifier_lookAt 4 none : Cond) ∈ tb := tb_i6 (List.mem_of_getElem? (i := 39) rfl)
set_option maxRecDepth 100000 in
theorem wl_280 : (.methodLink R_Verifier 75 y_Verifier_lookAt : Cond) ∈ lw_tbl := List.mem_append_right _ (List.mem_append_right _ (List.mem_append_left _ (List.mem_of_getElem? (i := 157) rfl)))
theorem wq_280 : (.methodLink R_Verifier 75 y_Verifier_lookAt : Cond) ∈ tb := tb_i7 (List.mem_of_getElem? (i := 0) rfl)
set_option maxRecDepth 100000 in
theorem wl_281 : (.instanceMethod y_Verifier_lookAt : Cond) ∈ lw_tbl := List.mem_append_right _ (List.mem_append_right _ (List.mem_append_left _ (List.mem_of_getElem? (i := 159) rfl)))
theorem wq_281 : (.instanceMethod y_Verifier_lookAt : Cond) ∈ tb := tb_i7 (List.mem_of_getElem? (i := 1) rfl)
set_option maxRecDepth 100000 in
theorem wl_282 : (.selects R_Verifier y_Verifier_lookAt y_Verifier_lookAt : Cond) ∈ lw_tbl := List.mem_append_left _ (List.mem_of_getElem? (i := 10) rfl)
theorem wq_282 : (.selects R_Verifier y_Verifier_lookAt y_Verifier_lookAt : Cond) ∈ tb := tb_i7 (List.mem_of_getElem? (i := 2) rfl)
set_option maxRecDepth 100000 in
theorem wl_283 : (.methodLink R_Verifier 72 y_Verifier_findLeastWaiting : Cond) ∈ lw_tbl := List.mem_append_right _ (List.mem_append_right _ (List.mem_append_left _ (List.mem_of_getElem? (i := 153) rfl)))
theorem wq_283 : (.methodLink R_Verifier 72 y_Verifier_findLeastWaiting : Cond) ∈ tb := tb_i7 (List.mem_of_getElem? (i := 3) rfl)
set_option maxRecDepth 100000 in
theorem wl_284 : (.instanceMethod y_Verifier_findLeastWaiting : Cond) ∈ lw_tbl := List.mem_append_right _ (List.mem_append_right _ (List.mem_append_left _ (List.mem_of_getElem? (i := 155) rfl)))
theorem wq_284 : (.instanceMethod y_Verifier_findLeastWaiting : Cond) ∈ tb := tb_i7 (List.mem_of_getElem? (i := 4) rfl)
set_option maxRecDepth 100000 in
theorem wl_285 : (.selects R_Verifier y_Verifier_findLeastWaiting y_Verifier_findLeastWaiting : Cond) ∈ lw_tbl := List.mem_append_left _ (List.mem_of_getElem? (i := 9) rfl)
theorem wq_285 : (.selects R_Verifier y_Verifier_findLeastWaiting y_Verifier_findLeastWaiting : Cond) ∈ tb := tb_i7 (List.mem_of_getElem? (i := 5) rfl)
set_option maxRecDepth 100000 in
theorem wl_286 : (.code y_Verifier_lookAtAll b_Verifier_lookAtAll 3 none : Cond) ∈ lw_tbl := List.mem_append_right _ (List.mem_append_right _ (List.mem_append_left _ (List.mem_of_getElem? (i := 142) rfl)))
theorem wq_286 : (.code y_Verifier_lookAtAll b_Verifier_lookAtAll 3 none : Cond) ∈ tb := tb_i7 (List.mem_of_getElem? (i := 6) rfl)
set_option maxRecDepth 100000 in
theorem wl_287 : (.fieldLink R_Verifier 52 "StackBytes$Function" "depths" "[I" : Cond) ∈ lw_tbl := List.mem_append_right _ (List.mem_append_left _ (List.mem_of_getElem? (i := 198) rfl))
theorem wq_287 : (.fieldLink R_Verifier 52 "StackBytes$Function" "depths" "[I" : Cond) ∈ tb := tb_i7 (List.mem_of_getElem? (i := 7) rfl)
set_option maxRecDepth 100000 in
theorem wl_288 : (.methodLink R_Verifier 58 arraycopyName : Cond) ∈ lw_tbl := List.mem_append_right _ (List.mem_append_right _ (List.mem_append_left _ (List.mem_of_getElem? (i := 223) rfl)))
theorem wq_288 : (.methodLink R_Verifier 58 arraycopyName : Cond) ∈ tb := tb_i7 (List.mem_of_getElem? (i := 8) rfl)
set_option maxRecDepth 100000 in
theorem wl_289 : (.fieldLink R_Verifier 64 "StackBytes$Function" "rowsOnStack" "[I" : Cond) ∈ lw_tbl := List.mem_append_right _ (List.mem_append_left _ (List.mem_of_getElem? (i := 201) rfl))
theorem wq_289 : (.fieldLink R_Verifier 64 "StackBytes$Function" "rowsOnStack" "[I" : Cond) ∈ tb := tb_i7 (List.mem_of_getElem? (i := 9) rfl)
set_option maxRecDepth 100000 in
theorem wl_290 : (.methodLink R_Verifier 44 y_Verifier_lookAtAll : Cond) ∈ lw_tbl := List.mem_append_right _ (List.mem_append_right _ (List.mem_append_left _ (List.mem_of_getElem? (i := 139) rfl)))
theorem wq_290 : (.methodLink R_Verifier 44 y_Verifier_lookAtAll : Cond) ∈ tb := tb_i7 (List.mem_of_getElem? (i := 10) rfl)
set_option maxRecDepth 100000 in
theorem wl_291 : (.instanceMethod y_Verifier_lookAtAll : Cond) ∈ lw_tbl := List.mem_append_right _ (List.mem_append_right _ (List.mem_append_left _ (List.mem_of_getElem? (i := 141) rfl)))
theorem wq_291 : (.instanceMethod y_Verifier_lookAtAll : Cond) ∈ tb := tb_i7 (List.mem_of_getElem? (i := 11) rfl)
set_option maxRecDepth 100000 in
theorem wl_292 : (.selects R_Verifier y_Verifier_lookAtAll y_Verifier_lookAtAll : Cond) ∈ lw_tbl := List.mem_append_left _ (List.mem_of_getElem? (i := 7) rfl)
theorem wq_292 : (.selects R_Verifier y_Verifier_lookAtAll y_Verifier_lookAtAll : Cond) ∈ tb := tb_i7 (List.mem_of_getElem? (i := 12) rfl)
set_option maxRecDepth 100000 in
theorem wl_293 : (.code y_Fault_clear b_Fault_clear 1 none : Cond) ∈ lw_tbl := List.mem_append_right _ (List.mem_append_right _ (List.mem_append_left _ (List.mem_of_getElem? (i := 77) rfl)))
theorem wq_293 : (.code y_Fault_clear b_Fault_clear 1 none : Cond) ∈ tb := tb_i7 (List.mem_of_getElem? (i := 13) rfl)
set_option maxRecDepth 100000 in
theorem wl_294 : (.code y_Reader_readInto b_Reader_readInto 3 none : Cond) ∈ lw_tbl := List.mem_append_right _ (List.mem_append_right _ (List.mem_append_left _ (List.mem_of_getElem? (i := 81) rfl)))
theorem wq_294 : (.code y_Reader_readInto b_Reader_readInto 3 none : Cond) ∈ tb := tb_i7 (List.mem_of_getElem? (i := 14) rfl)
set_option maxRecDepth 100000 in
theorem wl_295 : (.fieldLink R_SB 75 "StackBytes$Program" "count" "I" : Cond) ∈ lw_tbl := List.mem_append_right _ (List.mem_append_left _ (List.mem_of_getElem? (i := 234) rfl))
theorem wq_295 : (.fieldLink R_SB 75 "StackBytes$Program" "count" "I" : Cond) ∈ tb := tb_i7 (List.mem_of_getElem? (i := 15) rfl)
set_option maxRecDepth 100000 in
theorem wl_296 : (.fieldLink R_SB 79 "StackBytes$Fault" "kind" "I" : Cond) ∈ lw_tbl := List.mem_append_right _ (List.mem_append_left _ (List.mem_of_getElem? (i := 50) rfl))
theorem wq_296 : (.fieldLink R_SB 79 "StackBytes$Fault" "kind" "I" : Cond) ∈ tb := tb_i7 (List.mem_of_getElem? (i := 16) rfl)
set_option maxRecDepth 100000 in
theorem wl_297 : (.code y_Verifier_verify b_Verifier_verify 4 none : Cond) ∈ lw_tbl := List.mem_append_right _ (List.mem_append_right _ (List.mem_append_left _ (List.mem_of_getElem? (i := 134) rfl)))
theorem wq_297 : (.code y_Verifier_verify b_Verifier_verify 4 none : Cond) ∈ tb := tb_i7 (List.mem_of_getElem? (i := 17) rfl)
set_option maxRecDepth 100000 in
theorem wl_298 : (.methodLink R_SB 82 y_Verifier_verify : Cond) ∈ lw_tbl := List.mem_append_right _ (List.mem_append_right _ (List.mem_append_left _ (List.mem_of_getElem? (i := 131) rfl)))
theorem wq_298 : (.methodLink R_SB 82 y_Verifier_verify : Cond) ∈ tb := tb_i7 (List.mem_of_getElem? (i := 18) rfl)
set_option maxRecDepth 100000 in
theorem wl_299 : (.instanceMethod y_Verifier_verify : Cond) ∈ lw_tbl := List.mem_append_right _ (List.mem_append_right _ (List.mem_append_left _ (List.mem_of_getElem? (i := 132) rfl)))
theorem wq_299 : (.instanceMethod y_Verifier_verify : Cond) ∈ tb := tb_i7 (List.mem_of_getElem? (i := 19) rfl)
set_option maxRecDepth 100000 in
theorem wl_300 : (.selects R_Verifier y_Verifier_verify y_Verifier_verify : Cond) ∈ lw_tbl := List.mem_append_right _ (List.mem_append_right _ (List.mem_append_left _ (List.mem_of_getElem? (i := 133) rfl)))
theorem wq_300 : (.selects R_Verifier y_Verifier_verify y_Verifier_verify : Cond) ∈ tb := tb_i7 (List.mem_of_getElem? (i := 20) rfl)
set_option maxRecDepth 100000 in
theorem wl_301 : (.methodLink R_SB 71 y_Reader_readInto : Cond) ∈ lw_tbl := List.mem_append_right _ (List.mem_append_right _ (List.mem_append_left _ (List.mem_of_getElem? (i := 78) rfl)))
theorem wq_301 : (.methodLink R_SB 71 y_Reader_readInto : Cond) ∈ tb := tb_i7 (List.mem_of_getElem? (i := 21) rfl)
set_option maxRecDepth 100000 in
theorem wl_302 : (.instanceMethod y_Reader_readInto : Cond) ∈ lw_tbl := List.mem_append_right _ (List.mem_append_right _ (List.mem_append_left _ (List.mem_of_getElem? (i := 79) rfl)))
theorem wq_302 : (.instanceMethod y_Reader_readInto : Cond) ∈ tb := tb_i7 (List.mem_of_getElem? (i := 22) rfl)
set_option maxRecDepth 100000 in
theorem wl_303 : (.selects R_Reader y_Reader_readInto y_Reader_readInto : Cond) ∈ lw_tbl := List.mem_append_right _ (List.mem_append_right _ (List.mem_append_left _ (List.mem_of_getElem? (i := 80) rfl)))
theorem wq_303 : (.selects R_Reader y_Reader_readInto y_Reader_readInto : Cond) ∈ tb := tb_i7 (List.mem_of_getElem? (i := 23) rfl)
set_option maxRecDepth 100000 in
theorem wl_304 : (.methodLink R_SB 68 y_Fault_clear : Cond) ∈ lw_tbl := List.mem_append_right _ (List.mem_append_right _ (List.mem_append_left _ (List.mem_of_getElem? (i := 74) rfl)))
theorem wq_304 : (.methodLink R_SB 68 y_Fault_clear : Cond) ∈ tb := tb_i7 (List.mem_of_getElem? (i := 24) rfl)
set_option maxRecDepth 100000 in
theorem wl_305 : (.instanceMethod y_Fault_clear : Cond) ∈ lw_tbl := List.mem_append_right _ (List.mem_append_right _ (List.mem_append_left _ (List.mem_of_getElem? (i := 75) rfl)))
theorem wq_305 : (.instanceMethod y_Fault_clear : Cond) ∈ tb := tb_i7 (List.mem_of_getElem? (i := 25) rfl)
set_option maxRecDepth 100000 in
theorem wl_306 : (.selects R_Fault y_Fault_clear y_Fault_clear : Cond) ∈ lw_tbl := List.mem_append_right _ (List.mem_append_right _ (List.mem_append_left _ (List.mem_of_getElem? (i := 76) rfl)))
theorem wq_306 : (.selects R_Fault y_Fault_clear y_Fault_clear : Cond) ∈ tb := tb_i7 (List.mem_of_getElem? (i := 26) rfl)
set_option maxRecDepth 100000 in
theorem wl_307 : (.fieldLink R_Handler 22 "StackBytes$Handler" "target" "I" : Cond) ∈ lw_tbl := List.mem_append_right _ (List.mem_append_left _ (List.mem_of_getElem? (i := 142) rfl))
theorem wq_307 : (.fieldLink R_Handler 22 "StackBytes$Handler" "target" "I" : Cond) ∈ tb := tb_i7 (List.mem_of_getElem? (i := 27) rfl)
set_option maxRecDepth 100000 in
theorem wl_308 : (.fieldLink R_Handler 25 "StackBytes$Handler" "forAny" "Z" : Cond) ∈ lw_tbl := List.mem_append_right _ (List.mem_append_left _ (List.mem_of_getElem? (i := 147) rfl))
theorem wq_308 : (.fieldLink R_Handler 25 "StackBytes$Handler" "forAny" "Z" : Cond) ∈ tb := tb_i7 (List.mem_of_getElem? (i := 28) rfl)
set_option maxRecDepth 100000 in
theorem wl_309 : (.fieldLink R_Handler 29 "StackBytes$Handler" "code" "I" : Cond) ∈ lw_tbl := List.mem_append_right _ (List.mem_append_left _ (List.mem_of_getElem? (i := 150) rfl))
theorem wq_309 : (.fieldLink R_Handler 29 "StackBytes$Handler" "code" "I" : Cond) ∈ tb := tb_i7 (List.mem_of_getElem? (i := 29) rfl)
set_option maxRecDepth 100000 in
theorem wl_310 : (.methodLink R_Handler 16 y_ByteRow_add : Cond) ∈ lw_tbl := List.mem_append_right _ (List.mem_append_right _ (List.mem_append_right _ (List.mem_append_left _ (List.mem_of_getElem? (i := 5) rfl))))
theorem wq_310 : (.methodLink R_Handler 16 y_ByteRow_add : Cond) ∈ tb := tb_i7 (List.mem_of_getElem? (i := 30) rfl)
set_option maxRecDepth 100000 in
theorem wl_311 : (.fieldLink R_Function 56 "StackBytes$Function" "params" "I" : Cond) ∈ lw_tbl := List.mem_append_right _ (List.mem_append_left _ (List.mem_of_getElem? (i := 165) rfl))
theorem wq_311 : (.fieldLink R_Function 56 "StackBytes$Function" "params" "I" : Cond) ∈ tb := tb_i7 (List.mem_of_getElem? (i := 31) rfl)
set_option maxRecDepth 100000 in
theorem wl_312 : (.fieldLink R_Function 65 "StackBytes$Function" "locals" "I" : Cond) ∈ lw_tbl := List.mem_append_right _ (List.mem_append_left _ (List.mem_of_getElem? (i := 170) rfl))
theorem wq_312 : (.fieldLink R_Function 65 "StackBytes$Function" "locals" "I" : Cond) ∈ tb := tb_i7 (List.mem_of_getElem? (i := 32) rfl)
set_option maxRecDepth 100000 in
theorem wl_313 : (.fieldLink R_Function 68 "StackBytes$Function" "result" "I" : Cond) ∈ lw_tbl := List.mem_append_right _ (List.mem_append_left _ (List.mem_of_getElem? (i := 176) rfl))
theorem wq_313 : (.fieldLink R_Function 68 "StackBytes$Function" "result" "I" : Cond) ∈ tb := tb_i7 (List.mem_of_getElem? (i := 33) rfl)
set_option maxRecDepth 100000 in
theorem wl_314 : (.methodLink R_Function 59 y_ByteRow_add : Cond) ∈ lw_tbl := List.mem_append_right _ (List.mem_append_right _ (List.mem_append_left _ (List.mem_of_getElem? (i := 239) rfl)))
theorem wq_314 : (.methodLink R_Function 59 y_ByteRow_add : Cond) ∈ tb := tb_i7 (List.mem_of_getElem? (i := 34) rfl)
set_option maxRecDepth 100000 in
theorem wl_315 : (.methodLink R_Function 71 y_Kinds_bytesBehind : Cond) ∈ lw_tbl := List.mem_append_right _ (List.mem_append_right _ (List.mem_append_right _ (List.mem_append_left _ (List.mem_of_getElem? (i := 0) rfl))))
theorem wq_315 : (.methodLink R_Function 71 y_Kinds_bytesBehind : Cond) ∈ tb := tb_i7 (List.mem_of_getElem? (i := 35) rfl)
set_option maxRecDepth 100000 in
theorem wl_316 : (.fieldLink R_Function 44 "StackBytes$Function" "handlerCount" "I" : Cond) ∈ lw_tbl := List.mem_append_right _ (List.mem_append_left _ (List.mem_of_getElem? (i := 185) rfl))
theorem wq_316 : (.fieldLink R_Function 44 "StackBytes$Function" "handlerCount" "I" : Cond) ∈ tb := tb_i7 (List.mem_of_getElem? (i := 36) rfl)
set_option maxRecDepth 100000 in
theorem wl_317 : (.code y_Handler_appendTo b_Handler_appendTo 2 none : Cond) ∈ lw_tbl := List.mem_append_right _ (List.mem_append_right _ (List.mem_append_right _ (List.mem_append_left _ (List.mem_of_getElem? (i := 4) rfl))))
theorem wq_317 : (.code y_Handler_appendTo b_Handler_appendTo 2 none : Cond) ∈ tb := tb_i7 (List.mem_of_getElem? (i := 37) rfl)
set_option maxRecDepth 100000 in
theorem wl_318 : (.methodLink R_Function 75 y_Handler_appendTo : Cond) ∈ lw_tbl := List.mem_append_right _ (List.mem_append_right _ (List.mem_append_right _ (List.mem_append_left _ (List.mem_of_getElem? (i := 1) rfl))))
theorem wq_318 : (.methodLink R_Function 75 y_Handler_appendTo : Cond) ∈ tb := tb_i7 (List.mem_of_getElem? (i := 38) rfl)
set_option maxRecDepth 100000 in
theorem wl_319 : (.instanceMethod y_Handler_appendTo : Cond) ∈ lw_tbl := List.mem_append_right _ (List.mem_append_right _ (List.mem_append_right _ (List.mem_append_left _ (List.mem_of_getElem? (i := 2) rfl))))
theorem wq_319 : (.instanceMethod y_Handler_appendTo : Cond) ∈ tb := tb_i7 (List.mem_of_getElem? (i := 39) rfl)
set_option maxRecDepth 100000 in
theorem wl_320 : (.selects R_Handler y_Handler_appendTo y_Handler_appendTo : Cond) ∈ lw_tbl := List.mem_append_right _ (List.mem_append_right _ (List.mem_append_right _ (List.mem_append_left _ (List.mem_of_getElem? (i := 3) rfl))))
theorem wq_320 : (.selects R_Handler y_Handler_appendTo y_Handler_appendTo : Cond) ∈ tb := tb_i8 (List.mem_of_getElem? (i := 0) rfl)
set_option maxRecDepth 100000 in
theorem wl_321 : (.constantLong R_Program 23 71 : Cond) ∈ lw_tbl := List.mem_append_right _ (List.mem_append_right _ (List.mem_append_left _ (List.mem_of_getElem? (i := 232) rfl)))
theorem wq_321 : (.constantLong R_Program 23 71 : Cond) ∈ tb := tb_i8 (List.mem_of_getElem? (i := 1) rfl)
set_option maxRecDepth 100000 in
theorem wl_322 : (.constantLong R_Program 31 70 : Cond) ∈ lw_tbl := List.mem_append_right _ (List.mem_append_right _ (List.mem_append_left _ (List.mem_of_getElem? (i := 234) rfl)))
theorem wq_322 : (.constantLong R_Program 31 70 : Cond) ∈ tb := tb_i8 (List.mem_of_getElem? (i := 2) rfl)
set_option maxRecDepth 100000 in
theorem wl_323 : (.code y_Function_appendTo b_Function_appendTo 3 none : Cond) ∈ lw_tbl := List.mem_append_right _ (List.mem_append_right _ (List.mem_append_left _ (List.mem_of_getElem? (i := 238) rfl)))
theorem wq_323 : (.code y_Function_appendTo b_Function_appendTo 3 none : Cond) ∈ tb := tb_i8 (List.mem_of_getElem? (i := 3) rfl)
set_option maxRecDepth 100000 in
theorem wl_324 : (.methodLink R_Program 33 y_Function_appendTo : Cond) ∈ lw_tbl := List.mem_append_right _ (List.mem_append_right _ (List.mem_append_left _ (List.mem_of_getElem? (i := 235) rfl)))
theorem wq_324 : (.methodLink R_Program 33 y_Function_appendTo : Cond) ∈ tb := tb_i8 (List.mem_of_getElem? (i := 4) rfl)
set_option maxRecDepth 100000 in
theorem wl_325 : (.instanceMethod y_Function_appendTo : Cond) ∈ lw_tbl := List.mem_append_right _ (List.mem_append_right _ (List.mem_append_left _ (List.mem_of_getElem? (i := 236) rfl)))
theorem wq_325 : (.instanceMethod y_Function_appendTo : Cond) ∈ tb := tb_i8 (List.mem_of_getElem? (i := 5) rfl)
set_option maxRecDepth 100000 in
theorem wl_326 : (.selects R_Function y_Function_appendTo y_Function_appendTo : Cond) ∈ lw_tbl := List.mem_append_right _ (List.mem_append_right _ (List.mem_append_left _ (List.mem_of_getElem? (i := 237) rfl)))
theorem wq_326 : (.selects R_Function y_Function_appendTo y_Function_appendTo : Cond) ∈ tb := tb_i8 (List.mem_of_getElem? (i := 6) rfl)
set_option maxRecDepth 100000 in
theorem wl_327 : (.methodLink R_Program 25 y_ByteRow_add : Cond) ∈ lw_tbl := List.mem_append_right _ (List.mem_append_right _ (List.mem_append_left _ (List.mem_of_getElem? (i := 233) rfl)))
theorem wq_327 : (.methodLink R_Program 25 y_ByteRow_add : Cond) ∈ tb := tb_i8 (List.mem_of_getElem? (i := 7) rfl)
set_option maxRecDepth 100000 in
theorem wl_328 : (.code y_Program_appendTo b_Program_appendTo 3 none : Cond) ∈ lw_tbl := List.mem_append_right _ (List.mem_append_right _ (List.mem_append_left _ (List.mem_of_getElem? (i := 231) rfl)))
theorem wq_328 : (.code y_Program_appendTo b_Program_appendTo 3 none : Cond) ∈ tb := tb_i8 (List.mem_of_getElem? (i := 8) rfl)
set_option maxRecDepth 100000 in
theorem wl_329 : (.fieldLink R_SB 90 "StackBytes$ByteRow" "count" "I" : Cond) ∈ lw_tbl := List.mem_append_right _ (List.mem_append_left _ (List.mem_of_getElem? (i := 32) rfl))
theorem wq_329 : (.fieldLink R_SB 90 "StackBytes$ByteRow" "count" "I" : Cond) ∈ tb := tb_i8 (List.mem_of_getElem? (i := 9) rfl)
set_option maxRecDepth 100000 in
theorem wl_330 : (.methodLink R_SB 86 y_Program_appendTo : Cond) ∈ lw_tbl := List.mem_append_right _ (List.mem_append_right _ (List.mem_append_left _ (List.mem_of_getElem? (i := 228) rfl)))
theorem wq_330 : (.methodLink R_SB 86 y_Program_appendTo : Cond) ∈ tb := tb_i8 (List.mem_of_getElem? (i := 10) rfl)
set_option maxRecDepth 100000 in
theorem wl_331 : (.instanceMethod y_Program_appendTo : Cond) ∈ lw_tbl := List.mem_append_right _ (List.mem_append_right _ (List.mem_append_left _ (List.mem_of_getElem? (i := 229) rfl)))
theorem wq_331 : (.instanceMethod y_Program_appendTo : Cond) ∈ tb := tb_i8 (List.mem_of_getElem? (i := 11) rfl)
set_option maxRecDepth 100000 in
theorem wl_332 : (.selects R_Program y_Program_appendTo y_Program_appendTo : Cond) ∈ lw_tbl := List.mem_append_right _ (List.mem_append_right _ (List.mem_append_left _ (List.mem_of_getElem? (i := 230) rfl)))
theorem wq_332 : (.selects R_Program y_Program_appendTo y_Program_appendTo : Cond) ∈ tb := tb_i8 (List.mem_of_getElem? (i := 12) rfl)
set_option maxRecDepth 100000 in
theorem wl_333 : (.methodLink R_ByteRow 26 arraycopyName : Cond) ∈ lw_tbl := List.mem_append_right _ (List.mem_append_right _ (List.mem_append_right _ (List.mem_append_left _ (List.mem_of_getElem? (i := 14) rfl))))
theorem wq_333 : (.methodLink R_ByteRow 26 arraycopyName : Cond) ∈ tb := tb_i8 (List.mem_of_getElem? (i := 13) rfl)
set_option maxRecDepth 100000 in
theorem wl_334 : (.code y_ByteRow_become b_ByteRow_become 2 (some .boolean) : Cond) ∈ lw_tbl := List.mem_append_right _ (List.mem_append_right _ (List.mem_append_right _ (List.mem_append_left _ (List.mem_of_getElem? (i := 13) rfl))))
theorem wq_334 : (.code y_ByteRow_become b_ByteRow_become 2 (some .boolean) : Cond) ∈ tb := tb_i8 (List.mem_of_getElem? (i := 14) rfl)
set_option maxRecDepth 100000 in
theorem wl_335 : (.methodLink R_SB 91 y_ByteRow_become : Cond) ∈ lw_tbl := List.mem_append_right _ (List.mem_append_right _ (List.mem_append_right _ (List.mem_append_left _ (List.mem_of_getElem? (i := 10) rfl))))
theorem wq_335 : (.methodLink R_SB 91 y_ByteRow_become : Cond) ∈ tb := tb_i8 (List.mem_of_getElem? (i := 15) rfl)
set_option maxRecDepth 100000 in
theorem wl_336 : (.instanceMethod y_ByteRow_become : Cond) ∈ lw_tbl := List.mem_append_right _ (List.mem_append_right _ (List.mem_append_right _ (List.mem_append_left _ (List.mem_of_getElem? (i := 11) rfl))))
theorem wq_336 : (.instanceMethod y_ByteRow_become : Cond) ∈ tb := tb_i8 (List.mem_of_getElem? (i := 16) rfl)
set_option maxRecDepth 100000 in
theorem wl_337 : (.selects R_ByteRow y_ByteRow_become y_ByteRow_become : Cond) ∈ lw_tbl := List.mem_append_right _ (List.mem_append_right _ (List.mem_append_right _ (List.mem_append_left _ (List.mem_of_getElem? (i := 12) rfl))))
theorem wq_337 : (.selects R_ByteRow y_ByteRow_become y_ByteRow_become : Cond) ∈ tb := tb_i8 (List.mem_of_getElem? (i := 17) rfl)
set_option maxRecDepth 100000 in
theorem wl_338 : (.methodLink R_Kinds 28 y_Kinds_mostBehind : Cond) ∈ lw_tbl := List.mem_append_right _ (List.mem_append_right _ (List.mem_append_right _ (List.mem_append_left _ (List.mem_of_getElem? (i := 25) rfl))))
theorem wq_338 : (.methodLink R_Kinds 28 y_Kinds_mostBehind : Cond) ∈ tb := tb_i8 (List.mem_of_getElem? (i := 18) rfl)
set_option maxRecDepth 100000 in
theorem wl_339 : (.methodLink R_Kinds 22 y_Kinds_leastBehind : Cond) ∈ lw_tbl := List.mem_append_right _ (List.mem_append_right _ (List.mem_append_right _ (List.mem_append_left _ (List.mem_of_getElem? (i := 24) rfl))))
theorem wq_339 : (.methodLink R_Kinds 22 y_Kinds_leastBehind : Cond) ∈ tb := tb_i8 (List.mem_of_getElem? (i := 19) rfl)
set_option maxRecDepth 100000 in
theorem wl_340 : (.methodLink R_SB 110 y_Fault_tell : Cond) ∈ lw_tbl := List.mem_append_right _ (List.mem_append_right _ (List.mem_append_right _ (List.mem_append_left _ (List.mem_of_getElem? (i := 26) rfl))))
theorem wq_340 : (.methodLink R_SB 110 y_Fault_tell : Cond) ∈ tb := tb_i8 (List.mem_of_getElem? (i := 20) rfl)
set_option maxRecDepth 100000 in
theorem wl_341 : (.code y_Kinds_canStand b_Kinds_canStand 4 (some .boolean) : Cond) ∈ lw_tbl := List.mem_append_right _ (List.mem_append_right _ (List.mem_append_right _ (List.mem_append_left _ (List.mem_of_getElem? (i := 23) rfl))))
theorem wq_341 : (.code y_Kinds_canStand b_Kinds_canStand 4 (some .boolean) : Cond) ∈ tb := tb_i8 (List.mem_of_getElem? (i := 21) rfl)
set_option maxRecDepth 100000 in
theorem wl_342 : (.fieldLink R_SB 114 "StackBytes$Function" "ops" "[I" : Cond) ∈ lw_tbl := List.mem_append_right _ (List.mem_append_left _ (List.mem_of_getElem? (i := 192) rfl))
theorem wq_342 : (.fieldLink R_SB 114 "StackBytes$Function" "ops" "[I" : Cond) ∈ tb := tb_i8 (List.mem_of_getElem? (i := 22) rfl)
set_option maxRecDepth 100000 in
theorem wl_343 : (.fieldLink R_SB 118 "StackBytes$Function" "behinds" "[I" : Cond) ∈ lw_tbl := List.mem_append_right _ (List.mem_append_left _ (List.mem_of_getElem? (i := 196) rfl))
theorem wq_343 : (.fieldLink R_SB 118 "StackBytes$Function" "behinds" "[I" : Cond) ∈ tb := tb_i8 (List.mem_of_getElem? (i := 23) rfl)
set_option maxRecDepth 100000 in
theorem wl_344 : (.methodLink R_SB 104 y_Kinds_canStand : Cond) ∈ lw_tbl := List.mem_append_right _ (List.mem_append_right _ (List.mem_append_right _ (List.mem_append_left _ (List.mem_of_getElem? (i := 21) rfl))))
theorem wq_344 : (.methodLink R_SB 104 y_Kinds_canStand : Cond) ∈ tb := tb_i8 (List.mem_of_getElem? (i := 24) rfl)
set_option maxRecDepth 100000 in
theorem wl_345 : (.static y_Kinds_canStand : Cond) ∈ lw_tbl := List.mem_append_right _ (List.mem_append_right _ (List.mem_append_right _ (List.mem_append_left _ (List.mem_of_getElem? (i := 22) rfl))))
theorem wq_345 : (.static y_Kinds_canStand : Cond) ∈ tb := tb_i8 (List.mem_of_getElem? (i := 25) rfl)
set_option maxRecDepth 100000 in
theorem wl_346 : (.methodLink R_SB 99 y_Function_has : Cond) ∈ lw_tbl := List.mem_append_right _ (List.mem_append_right _ (List.mem_append_right _ (List.mem_append_left _ (List.mem_of_getElem? (i := 20) rfl))))
theorem wq_346 : (.methodLink R_SB 99 y_Function_has : Cond) ∈ tb := tb_i8 (List.mem_of_getElem? (i := 26) rfl)
set_option maxRecDepth 100000 in
theorem wl_347 : (.methodLink R_SB 95 y_Program_at : Cond) ∈ lw_tbl := List.mem_append_right _ (List.mem_append_right _ (List.mem_append_right _ (List.mem_append_left _ (List.mem_of_getElem? (i := 19) rfl))))
theorem wq_347 : (.methodLink R_SB 95 y_Program_at : Cond) ∈ tb := tb_i8 (List.mem_of_getElem? (i := 27) rfl)
set_option maxRecDepth 100000 in
theorem wl_348 : (.methodLink R_Function 38 y_Kinds_goesToPlace : Cond) ∈ lw_tbl := List.mem_append_right _ (List.mem_append_right _ (List.mem_append_right _ (List.mem_append_left _ (List.mem_of_getElem? (i := 35) rfl))))
theorem wq_348 : (.methodLink R_Function 38 y_Kinds_goesToPlace : Cond) ∈ tb := tb_i8 (List.mem_of_getElem? (i := 28) rfl)
set_option maxRecDepth 100000 in
theorem wl_349 : (.fieldLink R_Function 47 "StackBytes$Handler" "target" "I" : Cond) ∈ lw_tbl := List.mem_append_right _ (List.mem_append_left _ (List.mem_of_getElem? (i := 143) rfl))
theorem wq_349 : (.fieldLink R_Function 47 "StackBytes$Handler" "target" "I" : Cond) ∈ tb := tb_i8 (List.mem_of_getElem? (i := 29) rfl)
set_option maxRecDepth 100000 in
theorem wl_350 : (.fieldLink R_SB 121 "StackBytes$Function" "depths" "[I" : Cond) ∈ lw_tbl := List.mem_append_right _ (List.mem_append_left _ (List.mem_of_getElem? (i := 199) rfl))
theorem wq_350 : (.fieldLink R_SB 121 "StackBytes$Function" "depths" "[I" : Cond) ∈ tb := tb_i8 (List.mem_of_getElem? (i := 30) rfl)
set_option maxRecDepth 100000 in
theorem wl_351 : (.fieldLink R_SB 124 "StackBytes$Function" "rowsOnStack" "[I" : Cond) ∈ lw_tbl := List.mem_append_right _ (List.mem_append_left _ (List.mem_of_getElem? (i := 202) rfl))
theorem wq_351 : (.fieldLink R_SB 124 "StackBytes$Function" "rowsOnStack" "[I" : Cond) ∈ tb := tb_i8 (List.mem_of_getElem? (i := 31) rfl)
set_option maxRecDepth 100000 in
theorem wl_352 : (.code y_Function_isGoneTo b_Function_isGoneTo 3 (some .boolean) : Cond) ∈ lw_tbl := List.mem_append_right _ (List.mem_append_right _ (List.mem_append_right _ (List.mem_append_left _ (List.mem_of_getElem? (i := 34) rfl))))
theorem wq_352 : (.code y_Function_isGoneTo b_Function_isGoneTo 3 (some .boolean) : Cond) ∈ tb := tb_i8 (List.mem_of_getElem? (i := 32) rfl)
set_option maxRecDepth 100000 in
theorem wl_353 : (.methodLink R_SB 127 y_Function_isGoneTo : Cond) ∈ lw_tbl := List.mem_append_right _ (List.mem_append_right _ (List.mem_append_right _ (List.mem_append_left _ (List.mem_of_getElem? (i := 31) rfl))))
theorem wq_353 : (.methodLink R_SB 127 y_Function_isGoneTo : Cond) ∈ tb := tb_i8 (List.mem_of_getElem? (i := 33) rfl)
set_option maxRecDepth 100000 in
theorem wl_354 : (.instanceMethod y_Function_isGoneTo : Cond) ∈ lw_tbl := List.mem_append_right _ (List.mem_append_right _ (List.mem_append_right _ (List.mem_append_left _ (List.mem_of_getElem? (i := 32) rfl))))
theorem wq_354 : (.instanceMethod y_Function_isGoneTo : Cond) ∈ tb := tb_i8 (List.mem_of_getElem? (i := 34) rfl)
set_option maxRecDepth 100000 in
theorem wl_355 : (.selects R_Function y_Function_isGoneTo y_Function_isGoneTo : Cond) ∈ lw_tbl := List.mem_append_right _ (List.mem_append_right _ (List.mem_append_right _ (List.mem_append_left _ (List.mem_of_getElem? (i := 33) rfl))))
theorem wq_355 : (.selects R_Function y_Function_isGoneTo y_Function_isGoneTo : Cond) ∈ tb := tb_i8 (List.mem_of_getElem? (i := 35) rfl)
set_option maxRecDepth 100000 in
theorem wl_356 : (.methodLink R_Function 50 Lib.Math.max.name : Cond) ∈ lw_tbl := List.mem_append_right _ (List.mem_append_right _ (List.mem_append_right _ (List.mem_append_left _ (List.mem_of_getElem? (i := 48) rfl))))
theorem wq_356 : (.methodLink R_Function 50 Lib.Math.max.name : Cond) ∈ tb := tb_i8 (List.mem_of_getElem? (i := 36) rfl)
set_option maxRecDepth 100000 in
theorem wl_357 : (.fieldLink R_SB 130 "StackBytes$Function" "params" "I" : Cond) ∈ lw_tbl := List.mem_append_right _ (List.mem_append_left _ (List.mem_of_getElem? (i := 166) rfl))
theorem wq_357 : (.fieldLink R_SB 130 "StackBytes$Function" "params" "I" : Cond) ∈ tb := tb_i8 (List.mem_of_getElem? (i := 37) rfl)
set_option maxRecDepth 100000 in
theorem wl_358 : (.fieldLink R_SB 133 "StackBytes$Function" "locals" "I" : Cond) ∈ lw_tbl := List.mem_append_right _ (List.mem_append_left _ (List.mem_of_getElem? (i := 171) rfl))
theorem wq_358 : (.fieldLink R_SB 133 "StackBytes$Function" "locals" "I" : Cond) ∈ tb := tb_i8 (List.mem_of_getElem? (i := 38) rfl)
set_option maxRecDepth 100000 in
theorem wl_359 : (.fieldLink R_SB 136 "StackBytes$Function" "rowLocals" "I" : Cond) ∈ lw_tbl := List.mem_append_right _ (List.mem_append_left _ (List.mem_of_getElem? (i := 174) rfl))
theorem wq_359 : (.fieldLink R_SB 136 "StackBytes$Function" "rowLocals" "I" : Cond) ∈ tb := tb_i8 (List.mem_of_getElem? (i := 39) rfl)
set_option maxRecDepth 100000 in
theorem wl_360 : (.fieldLink R_SB 139 "StackBytes$Function" "result" "I" : Cond) ∈ lw_tbl := List.mem_append_right _ (List.mem_append_left _ (List.mem_of_getElem? (i := 177) rfl))
theorem wq_360 : (.fieldLink R_SB 139 "StackBytes$Function" "result" "I" : Cond) ∈ tb := tb_i9 (List.mem_of_getElem? (i := 0) rfl)
set_option maxRecDepth 100000 in
theorem wl_361 : (.fieldLink R_SB 142 "StackBytes$Function" "count" "I" : Cond) ∈ lw_tbl := List.mem_append_right _ (List.mem_append_left _ (List.mem_of_getElem? (i := 184) rfl))
theorem wq_361 : (.fieldLink R_SB 142 "StackBytes$Function" "count" "I" : Cond) ∈ tb := tb_i9 (List.mem_of_getElem? (i := 1) rfl)
set_option maxRecDepth 100000 in
theorem wl_362 : (.fieldLink R_SB 143 "StackBytes$Function" "handlerCount" "I" : Cond) ∈ lw_tbl := List.mem_append_right _ (List.mem_append_left _ (List.mem_of_getElem? (i := 188) rfl))
theorem wq_362 : (.fieldLink R_SB 143 "StackBytes$Function" "handlerCount" "I" : Cond) ∈ tb := tb_i9 (List.mem_of_getElem? (i := 2) rfl)
set_option maxRecDepth 100000 in
theorem wl_363 : (.code y_Function_comeTo b_Function_comeTo 3 (some .int) : Cond) ∈ lw_tbl := List.mem_append_right _ (List.mem_append_right _ (List.mem_append_right _ (List.mem_append_left _ (List.mem_of_getElem? (i := 43) rfl))))
theorem wq_363 : (.code y_Function_comeTo b_Function_comeTo 3 (some .int) : Cond) ∈ tb := tb_i9 (List.mem_of_getElem? (i := 3) rfl)
set_option maxRecDepth 100000 in
theorem wl_364 : (.methodLink R_SB 146 y_Function_comeTo : Cond) ∈ lw_tbl := List.mem_append_right _ (List.mem_append_right _ (List.mem_append_right _ (List.mem_append_left _ (List.mem_of_getElem? (i := 40) rfl))))
theorem wq_364 : (.methodLink R_SB 146 y_Function_comeTo : Cond) ∈ tb := tb_i9 (List.mem_of_getElem? (i := 4) rfl)
set_option maxRecDepth 100000 in
theorem wl_365 : (.instanceMethod y_Function_comeTo : Cond) ∈ lw_tbl := List.mem_append_right _ (List.mem_append_right _ (List.mem_append_right _ (List.mem_append_left _ (List.mem_of_getElem? (i := 41) rfl))))
theorem wq_365 : (.instanceMethod y_Function_comeTo : Cond) ∈ tb := tb_i9 (List.mem_of_getElem? (i := 5) rfl)
set_option maxRecDepth 100000 in
theorem wl_366 : (.selects R_Function y_Function_comeTo y_Function_comeTo : Cond) ∈ lw_tbl := List.mem_append_right _ (List.mem_append_right _ (List.mem_append_right _ (List.mem_append_left _ (List.mem_of_getElem? (i := 42) rfl))))
theorem wq_366 : (.selects R_Function y_Function_comeTo y_Function_comeTo : Cond) ∈ tb := tb_i9 (List.mem_of_getElem? (i := 6) rfl)
set_option maxRecDepth 100000 in
theorem wl_367 : (.code y_Function_deepest b_Function_deepest 3 (some .int) : Cond) ∈ lw_tbl := List.mem_append_right _ (List.mem_append_right _ (List.mem_append_right _ (List.mem_append_left _ (List.mem_of_getElem? (i := 47) rfl))))
theorem wq_367 : (.code y_Function_deepest b_Function_deepest 3 (some .int) : Cond) ∈ tb := tb_i9 (List.mem_of_getElem? (i := 7) rfl)
set_option maxRecDepth 100000 in
theorem wl_368 : (.methodLink R_SB 150 y_Function_deepest : Cond) ∈ lw_tbl := List.mem_append_right _ (List.mem_append_right _ (List.mem_append_right _ (List.mem_append_left _ (List.mem_of_getElem? (i := 44) rfl))))
theorem wq_368 : (.methodLink R_SB 150 y_Function_deepest : Cond) ∈ tb := tb_i9 (List.mem_of_getElem? (i := 8) rfl)
set_option maxRecDepth 100000 in
theorem wl_369 : (.instanceMethod y_Function_deepest : Cond) ∈ lw_tbl := List.mem_append_right _ (List.mem_append_right _ (List.mem_append_right _ (List.mem_append_left _ (List.mem_of_getElem? (i := 45) rfl))))
theorem wq_369 : (.instanceMethod y_Function_deepest : Cond) ∈ tb := tb_i9 (List.mem_of_getElem? (i := 9) rfl)
set_option maxRecDepth 100000 in
theorem wl_370 : (.selects R_Function y_Function_deepest y_Function_deepest : Cond) ∈ lw_tbl := List.mem_append_right _ (List.mem_append_right _ (List.mem_append_right _ (List.mem_append_left _ (List.mem_of_getElem? (i := 46) rfl))))
theorem wq_370 : (.selects R_Function y_Function_deepest y_Function_deepest : Cond) ∈ tb := tb_i9 (List.mem_of_getElem? (i := 10) rfl)
set_option maxRecDepth 100000 in
theorem wl_371 : (.fieldLink R_SB 153 "StackBytes$Function" "handlers" "[LStackBytes$Handler;" : Cond) ∈ lw_tbl := List.mem_append_right _ (List.mem_append_left _ (List.mem_of_getElem? (i := 206) rfl))
theorem wq_371 : (.fieldLink R_SB 153 "StackBytes$Function" "handlers" "[LStackBytes$Handler;" : Cond) ∈ tb := tb_i9 (List.mem_of_getElem? (i := 11) rfl)
set_option maxRecDepth 100000 in
theorem wl_372 : (.fieldLink R_SB 157 "StackBytes$Handler" "from" "I" : Cond) ∈ lw_tbl := List.mem_append_right _ (List.mem_append_left _ (List.mem_of_getElem? (i := 138) rfl))
theorem wq_372 : (.fieldLink R_SB 157 "StackBytes$Handler" "from" "I" : Cond) ∈ tb := tb_i9 (List.mem_of_getElem? (i := 12) rfl)
set_option maxRecDepth 100000 in
theorem wl_373 : (.fieldLink R_SB 162 "StackBytes$Handler" "to" "I" : Cond) ∈ lw_tbl := List.mem_append_right _ (List.mem_append_left _ (List.mem_of_getElem? (i := 141) rfl))
theorem wq_373 : (.fieldLink R_SB 162 "StackBytes$Handler" "to" "I" : Cond) ∈ tb := tb_i9 (List.mem_of_getElem? (i := 13) rfl)
set_option maxRecDepth 100000 in
theorem wl_374 : (.fieldLink R_SB 165 "StackBytes$Handler" "target" "I" : Cond) ∈ lw_tbl := List.mem_append_right _ (List.mem_append_left _ (List.mem_of_getElem? (i := 146) rfl))
theorem wq_374 : (.fieldLink R_SB 165 "StackBytes$Handler" "target" "I" : Cond) ∈ tb := tb_i9 (List.mem_of_getElem? (i := 14) rfl)
set_option maxRecDepth 100000 in
theorem wl_375 : (.fieldLink R_SB 168 "StackBytes$Handler" "forAny" "Z" : Cond) ∈ lw_tbl := List.mem_append_right _ (List.mem_append_left _ (List.mem_of_getElem? (i := 149) rfl))
theorem wq_375 : (.fieldLink R_SB 168 "StackBytes$Handler" "forAny" "Z" : Cond) ∈ tb := tb_i9 (List.mem_of_getElem? (i := 15) rfl)
set_option maxRecDepth 100000 in
theorem wl_376 : (.fieldLink R_SB 172 "StackBytes$Handler" "code" "I" : Cond) ∈ lw_tbl := List.mem_append_right _ (List.mem_append_left _ (List.mem_of_getElem? (i := 152) rfl))
theorem wq_376 : (.fieldLink R_SB 172 "StackBytes$Handler" "code" "I" : Cond) ∈ tb := tb_i9 (List.mem_of_getElem? (i := 16) rfl)
set_option maxRecDepth 100000 in
theorem wl_377 : (.methodLink R_SB 175 y_ByteRow_at : Cond) ∈ lw_tbl := List.mem_append_right _ (List.mem_append_right _ (List.mem_append_right _ (List.mem_append_left _ (List.mem_of_getElem? (i := 57) rfl))))
theorem wq_377 : (.methodLink R_SB 175 y_ByteRow_at : Cond) ∈ tb := tb_i9 (List.mem_of_getElem? (i := 17) rfl)
set_option maxRecDepth 100000 in
theorem wl_378 : (.fieldLink R_Program 22 "StackBytes$Function" "count" "I" : Cond) ∈ lw_tbl := List.mem_append_right _ (List.mem_append_left _ (List.mem_of_getElem? (i := 181) rfl))
theorem wq_378 : (.fieldLink R_Program 22 "StackBytes$Function" "count" "I" : Cond) ∈ tb := tb_i9 (List.mem_of_getElem? (i := 18) rfl)
set_option maxRecDepth 100000 in
theorem wl_379 : (.code y_Program_instructions b_Program_instructions 3 (some .int) : Cond) ∈ lw_tbl := List.mem_append_right _ (List.mem_append_right _ (List.mem_append_right _ (List.mem_append_left _ (List.mem_of_getElem? (i := 65) rfl))))
theorem wq_379 : (.code y_Program_instructions b_Program_instructions 3 (some .int) : Cond) ∈ tb := tb_i9 (List.mem_of_getElem? (i := 19) rfl)
set_option maxRecDepth 100000 in
theorem wl_380 : (.methodLink R_SB 178 y_Program_instructions : Cond) ∈ lw_tbl := List.mem_append_right _ (List.mem_append_right _ (List.mem_append_right _ (List.mem_append_left _ (List.mem_of_getElem? (i := 62) rfl))))
theorem wq_380 : (.methodLink R_SB 178 y_Program_instructions : Cond) ∈ tb := tb_i9 (List.mem_of_getElem? (i := 20) rfl)
set_option maxRecDepth 100000 in
theorem wl_381 : (.instanceMethod y_Program_instructions : Cond) ∈ lw_tbl := List.mem_append_right _ (List.mem_append_right _ (List.mem_append_right _ (List.mem_append_left _ (List.mem_of_getElem? (i := 63) rfl))))
theorem wq_381 : (.instanceMethod y_Program_instructions : Cond) ∈ tb := tb_i9 (List.mem_of_getElem? (i := 21) rfl)
set_option maxRecDepth 100000 in
theorem wl_382 : (.selects R_Program y_Program_instructions y_Program_instructions : Cond) ∈ lw_tbl := List.mem_append_right _ (List.mem_append_right _ (List.mem_append_right _ (List.mem_append_left _ (List.mem_of_getElem? (i := 64) rfl))))
theorem wq_382 : (.selects R_Program y_Program_instructions y_Program_instructions : Cond) ∈ tb := tb_i9 (List.mem_of_getElem? (i := 22) rfl)
set_option maxRecDepth 100000 in
theorem wl_383 : (.fieldLink R_SB 181 "StackBytes$Fault" "place" "I" : Cond) ∈ lw_tbl := List.mem_append_right _ (List.mem_append_left _ (List.mem_of_getElem? (i := 52) rfl))
theorem wq_383 : (.fieldLink R_SB 181 "StackBytes$Fault" "place" "I" : Cond) ∈ tb := tb_i9 (List.mem_of_getElem? (i := 23) rfl)
set_option maxRecDepth 100000 in
theorem wl_384 : (.fieldLink R_Mo 79 "StackBytesModel" "bad" "I" : Cond) ∈ lw_tbl := List.mem_append_right _ (List.mem_append_right _ (List.mem_append_right _ (List.mem_append_left _ (List.mem_of_getElem? (i := 115) rfl))))
theorem wq_384 : (.fieldLink R_Mo 79 "StackBytesModel" "bad" "I" : Cond) ∈ tb := tb_i9 (List.mem_of_getElem? (i := 24) rfl)
set_option maxRecDepth 100000 in
theorem wl_385 : (.fieldLink R_Mo 82 "StackBytesModel" "where" "I" : Cond) ∈ lw_tbl := List.mem_append_right _ (List.mem_append_right _ (List.mem_append_right _ (List.mem_append_left _ (List.mem_of_getElem? (i := 116) rfl))))
theorem wq_385 : (.fieldLink R_Mo 82 "StackBytesModel" "where" "I" : Cond) ∈ tb := tb_i9 (List.mem_of_getElem? (i := 25) rfl)
set_option maxRecDepth 100000 in
theorem wl_386 : (.fieldLink R_Mo 63 "StackBytesModel" "heights" "[I" : Cond) ∈ lw_tbl := List.mem_append_right _ (List.mem_append_right _ (List.mem_append_right _ (List.mem_append_left _ (List.mem_of_getElem? (i := 131) rfl))))
theorem wq_386 : (.fieldLink R_Mo 63 "StackBytesModel" "heights" "[I" : Cond) ∈ tb := tb_i9 (List.mem_of_getElem? (i := 26) rfl)
set_option maxRecDepth 100000 in
theorem wl_387 : (.code y_Mo_wrong b_Mo_wrong 3 none : Cond) ∈ lw_tbl := List.mem_append_right _ (List.mem_append_right _ (List.mem_append_right _ (List.mem_append_left _ (List.mem_of_getElem? (i := 83) rfl))))
theorem wq_387 : (.code y_Mo_wrong b_Mo_wrong 3 none : Cond) ∈ tb := tb_i9 (List.mem_of_getElem? (i := 27) rfl)
set_option maxRecDepth 100000 in
theorem wl_388 : (.methodLink R_Mo 96 y_Mo_wrong : Cond) ∈ lw_tbl := List.mem_append_right _ (List.mem_append_right _ (List.mem_append_right _ (List.mem_append_left _ (List.mem_of_getElem? (i := 80) rfl))))
theorem wq_388 : (.methodLink R_Mo 96 y_Mo_wrong : Cond) ∈ tb := tb_i9 (List.mem_of_getElem? (i := 28) rfl)
set_option maxRecDepth 100000 in
theorem wl_389 : (.instanceMethod y_Mo_wrong : Cond) ∈ lw_tbl := List.mem_append_right _ (List.mem_append_right _ (List.mem_append_right _ (List.mem_append_left _ (List.mem_of_getElem? (i := 82) rfl))))
theorem wq_389 : (.instanceMethod y_Mo_wrong : Cond) ∈ tb := tb_i9 (List.mem_of_getElem? (i := 29) rfl)
set_option maxRecDepth 100000 in
theorem wl_390 : (.selects R_Mo y_Mo_wrong y_Mo_wrong : Cond) ∈ lw_tbl := List.mem_append_left _ (List.mem_of_getElem? (i := 25) rfl)
theorem wq_390 : (.selects R_Mo y_Mo_wrong y_Mo_wrong : Cond) ∈ tb := tb_i9 (List.mem_of_getElem? (i := 30) rfl)
set_option maxRecDepth 100000 in
theorem wl_391 : (.initialized R_Mo : Cond) ∈ lw_tbl := List.mem_append_right _ (List.mem_append_left _ (List.mem_of_getElem? (i := 9) rfl))
theorem wq_391 : (.initialized R_Mo : Cond) ∈ tb := tb_i9 (List.mem_of_getElem? (i := 31) rfl)
set_option maxRecDepth 100000 in
theorem wl_392 : (.fieldLink R_Mo 66 "StackBytesModel" "kinds" "[I" : Cond) ∈ lw_tbl := List.mem_append_right _ (List.mem_append_right _ (List.mem_append_right _ (List.mem_append_left _ (List.mem_of_getElem? (i := 132) rfl))))
theorem wq_392 : (.fieldLink R_Mo 66 "StackBytesModel" "kinds" "[I" : Cond) ∈ tb := tb_i9 (List.mem_of_getElem? (i := 32) rfl)
set_option maxRecDepth 100000 in
theorem wl_393 : (.fieldLink R_Mo 69 "StackBytesModel" "waits" "[Z" : Cond) ∈ lw_tbl := List.mem_append_right _ (List.mem_append_right _ (List.mem_append_right _ (List.mem_append_left _ (List.mem_of_getElem? (i := 133) rfl))))
theorem wq_393 : (.fieldLink R_Mo 69 "StackBytesModel" "waits" "[Z" : Cond) ∈ tb := tb_i9 (List.mem_of_getElem? (i := 33) rfl)
set_option maxRecDepth 100000 in
theorem wl_394 : (.fieldLink R_Mo 135 "StackBytesModel" "kind" "I" : Cond) ∈ lw_tbl := List.mem_append_right _ (List.mem_append_right _ (List.mem_append_right _ (List.mem_append_left _ (List.mem_of_getElem? (i := 136) rfl))))
theorem wq_394 : (.fieldLink R_Mo 135 "StackBytesModel" "kind" "I" : Cond) ∈ tb := tb_i9 (List.mem_of_getElem? (i := 34) rfl)
set_option maxRecDepth 100000 in
theorem wl_395 : (.fieldLink R_Mo 132 "StackBytesModel" "height" "I" : Cond) ∈ lw_tbl := List.mem_append_right _ (List.mem_append_right _ (List.mem_append_right _ (List.mem_append_left _ (List.mem_of_getElem? (i := 135) rfl))))
theorem wq_395 : (.fieldLink R_Mo 132 "StackBytesModel" "height" "I" : Cond) ∈ tb := tb_i9 (List.mem_of_getElem? (i := 35) rfl)
set_option maxRecDepth 100000 in
theorem wl_396 : (.fieldLink R_Mo 29 "StackBytesModel" "rowBits" "[I" : Cond) ∈ lw_tbl := List.mem_append_right _ (List.mem_append_right _ (List.mem_append_right _ (List.mem_append_left _ (List.mem_of_getElem? (i := 120) rfl))))
theorem wq_396 : (.fieldLink R_Mo 29 "StackBytesModel" "rowBits" "[I" : Cond) ∈ tb := tb_i9 (List.mem_of_getElem? (i := 36) rfl)
set_option maxRecDepth 100000 in
theorem wl_397 : (.code y_Mo_takes b_Mo_takes 3 (some .boolean) : Cond) ∈ lw_tbl := List.mem_append_right _ (List.mem_append_right _ (List.mem_append_right _ (List.mem_append_left _ (List.mem_of_getElem? (i := 99) rfl))))
theorem wq_397 : (.code y_Mo_takes b_Mo_takes 3 (some .boolean) : Cond) ∈ tb := tb_i9 (List.mem_of_getElem? (i := 37) rfl)
set_option maxRecDepth 100000 in
theorem wl_398 : (.methodLink R_Mo 138 y_Mo_takes : Cond) ∈ lw_tbl := List.mem_append_right _ (List.mem_append_right _ (List.mem_append_right _ (List.mem_append_left _ (List.mem_of_getElem? (i := 96) rfl))))
theorem wq_398 : (.methodLink R_Mo 138 y_Mo_takes : Cond) ∈ tb := tb_i9 (List.mem_of_getElem? (i := 38) rfl)
set_option maxRecDepth 100000 in
theorem wl_399 : (.instanceMethod y_Mo_takes : Cond) ∈ lw_tbl := List.mem_append_right _ (List.mem_append_right _ (List.mem_append_right _ (List.mem_append_left _ (List.mem_of_getElem? (i := 98) rfl))))
theorem wq_399 : (.instanceMethod y_Mo_takes : Cond) ∈ tb := tb_i9 (List.mem_of_getElem? (i := 39) rfl)
set_option maxRecDepth 100000 in
theorem wl_400 : (.selects R_Mo y_Mo_takes y_Mo_takes : Cond) ∈ lw_tbl := List.mem_append_left _ (List.mem_of_getElem? (i := 29) rfl)
theorem wq_400 : (.selects R_Mo y_Mo_takes y_Mo_takes : Cond) ∈ tb := tb_i10 (List.mem_of_getElem? (i := 0) rfl)
set_option maxRecDepth 100000 in
theorem wl_401 : (.code y_Mo_takesInts b_Mo_takesInts 4 (some .boolean) : Cond) ∈ lw_tbl := List.mem_append_right _ (List.mem_append_right _ (List.mem_append_right _ (List.mem_append_left _ (List.mem_of_getElem? (i := 107) rfl))))
theorem wq_401 : (.code y_Mo_takesInts b_Mo_takesInts 4 (some .boolean) : Cond) ∈ tb := tb_i10 (List.mem_of_getElem? (i := 1) rfl)
set_option maxRecDepth 100000 in
theorem wl_402 : (.code y_Mo_puts b_Mo_puts 2 none : Cond) ∈ lw_tbl := List.mem_append_right _ (List.mem_append_right _ (List.mem_append_right _ (List.mem_append_left _ (List.mem_of_getElem? (i := 95) rfl))))
theorem wq_402 : (.code y_Mo_puts b_Mo_puts 2 none : Cond) ∈ tb := tb_i10 (List.mem_of_getElem? (i := 2) rfl)
set_option maxRecDepth 100000 in
theorem wl_403 : (.methodLink R_Mo 142 y_Mo_puts : Cond) ∈ lw_tbl := List.mem_append_right _ (List.mem_append_right _ (List.mem_append_right _ (List.mem_append_left _ (List.mem_of_getElem? (i := 92) rfl))))
theorem wq_403 : (.methodLink R_Mo 142 y_Mo_puts : Cond) ∈ tb := tb_i10 (List.mem_of_getElem? (i := 3) rfl)
set_option maxRecDepth 100000 in
theorem wl_404 : (.instanceMethod y_Mo_puts : Cond) ∈ lw_tbl := List.mem_append_right _ (List.mem_append_right _ (List.mem_append_right _ (List.mem_append_left _ (List.mem_of_getElem? (i := 94) rfl))))
theorem wq_404 : (.instanceMethod y_Mo_puts : Cond) ∈ tb := tb_i10 (List.mem_of_getElem? (i := 4) rfl)
set_option maxRecDepth 100000 in
theorem wl_405 : (.selects R_Mo y_Mo_puts y_Mo_puts : Cond) ∈ lw_tbl := List.mem_append_left _ (List.mem_of_getElem? (i := 28) rfl)
theorem wq_405 : (.selects R_Mo y_Mo_puts y_Mo_puts : Cond) ∈ tb := tb_i10 (List.mem_of_getElem? (i := 5) rfl)
set_option maxRecDepth 100000 in
theorem wl_406 : (.methodLink R_Mo 150 y_Mo_takesInts : Cond) ∈ lw_tbl := List.mem_append_right _ (List.mem_append_right _ (List.mem_append_right _ (List.mem_append_left _ (List.mem_of_getElem? (i := 104) rfl))))
theorem wq_406 : (.methodLink R_Mo 150 y_Mo_takesInts : Cond) ∈ tb := tb_i10 (List.mem_of_getElem? (i := 6) rfl)
set_option maxRecDepth 100000 in
theorem wl_407 : (.instanceMethod y_Mo_takesInts : Cond) ∈ lw_tbl := List.mem_append_right _ (List.mem_append_right _ (List.mem_append_right _ (List.mem_append_left _ (List.mem_of_getElem? (i := 106) rfl))))
theorem wq_407 : (.instanceMethod y_Mo_takesInts : Cond) ∈ tb := tb_i10 (List.mem_of_getElem? (i := 7) rfl)
set_option maxRecDepth 100000 in
theorem wl_408 : (.selects R_Mo y_Mo_takesInts y_Mo_takesInts : Cond) ∈ lw_tbl := List.mem_append_left _ (List.mem_of_getElem? (i := 31) rfl)
theorem wq_408 : (.selects R_Mo y_Mo_takesInts y_Mo_takesInts : Cond) ∈ tb := tb_i10 (List.mem_of_getElem? (i := 8) rfl)
set_option maxRecDepth 100000 in
theorem wl_409 : (.fieldLink R_Mo 32 "StackBytesModel" "results" "[I" : Cond) ∈ lw_tbl := List.mem_append_right _ (List.mem_append_right _ (List.mem_append_right _ (List.mem_append_left _ (List.mem_of_getElem? (i := 121) rfl))))
theorem wq_409 : (.fieldLink R_Mo 32 "StackBytesModel" "results" "[I" : Cond) ∈ tb := tb_i10 (List.mem_of_getElem? (i := 9) rfl)
set_option maxRecDepth 100000 in
theorem wl_410 : (.fieldLink R_Mo 23 "StackBytesModel" "params" "[I" : Cond) ∈ lw_tbl := List.mem_append_right _ (List.mem_append_right _ (List.mem_append_right _ (List.mem_append_left _ (List.mem_of_getElem? (i := 118) rfl))))
theorem wq_410 : (.fieldLink R_Mo 23 "StackBytesModel" "params" "[I" : Cond) ∈ tb := tb_i10 (List.mem_of_getElem? (i := 10) rfl)
set_option maxRecDepth 100000 in
theorem wl_411 : (.code y_Mo_isRow b_Mo_isRow 3 (some .int) : Cond) ∈ lw_tbl := List.mem_append_right _ (List.mem_append_right _ (List.mem_append_right _ (List.mem_append_left _ (List.mem_of_getElem? (i := 103) rfl))))
theorem wq_411 : (.code y_Mo_isRow b_Mo_isRow 3 (some .int) : Cond) ∈ tb := tb_i10 (List.mem_of_getElem? (i := 11) rfl)
set_option maxRecDepth 100000 in
theorem wl_412 : (.methodLink R_Mo 146 y_Mo_isRow : Cond) ∈ lw_tbl := List.mem_append_right _ (List.mem_append_right _ (List.mem_append_right _ (List.mem_append_left _ (List.mem_of_getElem? (i := 100) rfl))))
theorem wq_412 : (.methodLink R_Mo 146 y_Mo_isRow : Cond) ∈ tb := tb_i10 (List.mem_of_getElem? (i := 12) rfl)
set_option maxRecDepth 100000 in
theorem wl_413 : (.instanceMethod y_Mo_isRow : Cond) ∈ lw_tbl := List.mem_append_right _ (List.mem_append_right _ (List.mem_append_right _ (List.mem_append_left _ (List.mem_of_getElem? (i := 102) rfl))))
theorem wq_413 : (.instanceMethod y_Mo_isRow : Cond) ∈ tb := tb_i10 (List.mem_of_getElem? (i := 13) rfl)
set_option maxRecDepth 100000 in
theorem wl_414 : (.selects R_Mo y_Mo_isRow y_Mo_isRow : Cond) ∈ lw_tbl := List.mem_append_left _ (List.mem_of_getElem? (i := 30) rfl)
theorem wq_414 : (.selects R_Mo y_Mo_isRow y_Mo_isRow : Cond) ∈ tb := tb_i10 (List.mem_of_getElem? (i := 14) rfl)
set_option maxRecDepth 100000 in
theorem wl_415 : (.fieldLink R_Mo 41 "StackBytesModel" "ops" "[I" : Cond) ∈ lw_tbl := List.mem_append_right _ (List.mem_append_right _ (List.mem_append_right _ (List.mem_append_left _ (List.mem_of_getElem? (i := 124) rfl))))
theorem wq_415 : (.fieldLink R_Mo 41 "StackBytesModel" "ops" "[I" : Cond) ∈ tb := tb_i10 (List.mem_of_getElem? (i := 15) rfl)
set_option maxRecDepth 100000 in
theorem wl_416 : (.fieldLink R_Mo 44 "StackBytesModel" "operands" "[I" : Cond) ∈ lw_tbl := List.mem_append_right _ (List.mem_append_right _ (List.mem_append_right _ (List.mem_append_left _ (List.mem_of_getElem? (i := 125) rfl))))
theorem wq_416 : (.fieldLink R_Mo 44 "StackBytesModel" "operands" "[I" : Cond) ∈ tb := tb_i10 (List.mem_of_getElem? (i := 16) rfl)
set_option maxRecDepth 100000 in
theorem wl_417 : (.code y_Mo_moves b_Mo_moves 9 (some .boolean) : Cond) ∈ lw_tbl := List.mem_append_right _ (List.mem_append_right _ (List.mem_append_right _ (List.mem_append_left _ (List.mem_of_getElem? (i := 91) rfl))))
theorem wq_417 : (.code y_Mo_moves b_Mo_moves 9 (some .boolean) : Cond) ∈ tb := tb_i10 (List.mem_of_getElem? (i := 17) rfl)
set_option maxRecDepth 100000 in
theorem wl_418 : (.fieldLink R_Mo 38 "StackBytesModel" "handlerMany" "[I" : Cond) ∈ lw_tbl := List.mem_append_right _ (List.mem_append_right _ (List.mem_append_right _ (List.mem_append_left _ (List.mem_of_getElem? (i := 123) rfl))))
theorem wq_418 : (.fieldLink R_Mo 38 "StackBytesModel" "handlerMany" "[I" : Cond) ∈ tb := tb_i10 (List.mem_of_getElem? (i := 18) rfl)
set_option maxRecDepth 100000 in
theorem wl_419 : (.fieldLink R_Mo 47 "StackBytesModel" "froms" "[I" : Cond) ∈ lw_tbl := List.mem_append_right _ (List.mem_append_right _ (List.mem_append_right _ (List.mem_append_left _ (List.mem_of_getElem? (i := 126) rfl))))
theorem wq_419 : (.fieldLink R_Mo 47 "StackBytesModel" "froms" "[I" : Cond) ∈ tb := tb_i10 (List.mem_of_getElem? (i := 19) rfl)
set_option maxRecDepth 100000 in
theorem wl_420 : (.fieldLink R_Mo 50 "StackBytesModel" "tos" "[I" : Cond) ∈ lw_tbl := List.mem_append_right _ (List.mem_append_right _ (List.mem_append_right _ (List.mem_append_left _ (List.mem_of_getElem? (i := 127) rfl))))
theorem wq_420 : (.fieldLink R_Mo 50 "StackBytesModel" "tos" "[I" : Cond) ∈ tb := tb_i10 (List.mem_of_getElem? (i := 20) rfl)
set_option maxRecDepth 100000 in
theorem wl_421 : (.fieldLink R_Mo 53 "StackBytesModel" "targets" "[I" : Cond) ∈ lw_tbl := List.mem_append_right _ (List.mem_append_right _ (List.mem_append_right _ (List.mem_append_left _ (List.mem_of_getElem? (i := 128) rfl))))
theorem wq_421 : (.fieldLink R_Mo 53 "StackBytesModel" "targets" "[I" : Cond) ∈ tb := tb_i10 (List.mem_of_getElem? (i := 21) rfl)
set_option maxRecDepth 100000 in
theorem wl_422 : (.code y_Mo_comeTo b_Mo_comeTo 7 none : Cond) ∈ lw_tbl := List.mem_append_right _ (List.mem_append_right _ (List.mem_append_right _ (List.mem_append_left _ (List.mem_of_getElem? (i := 79) rfl))))
theorem wq_422 : (.code y_Mo_comeTo b_Mo_comeTo 7 none : Cond) ∈ tb := tb_i10 (List.mem_of_getElem? (i := 22) rfl)
set_option maxRecDepth 100000 in
theorem wl_423 : (.methodLink R_Mo 153 y_Mo_comeTo : Cond) ∈ lw_tbl := List.mem_append_right _ (List.mem_append_right _ (List.mem_append_right _ (List.mem_append_left _ (List.mem_of_getElem? (i := 76) rfl))))
theorem wq_423 : (.methodLink R_Mo 153 y_Mo_comeTo : Cond) ∈ tb := tb_i10 (List.mem_of_getElem? (i := 23) rfl)
set_option maxRecDepth 100000 in
theorem wl_424 : (.instanceMethod y_Mo_comeTo : Cond) ∈ lw_tbl := List.mem_append_right _ (List.mem_append_right _ (List.mem_append_right _ (List.mem_append_left _ (List.mem_of_getElem? (i := 78) rfl))))
theorem wq_424 : (.instanceMethod y_Mo_comeTo : Cond) ∈ tb := tb_i10 (List.mem_of_getElem? (i := 24) rfl)
set_option maxRecDepth 100000 in
theorem wl_425 : (.selects R_Mo y_Mo_comeTo y_Mo_comeTo : Cond) ∈ lw_tbl := List.mem_append_left _ (List.mem_of_getElem? (i := 24) rfl)
theorem wq_425 : (.selects R_Mo y_Mo_comeTo y_Mo_comeTo : Cond) ∈ tb := tb_i10 (List.mem_of_getElem? (i := 25) rfl)
set_option maxRecDepth 100000 in
theorem wl_426 : (.fieldLink R_Mo 35 "StackBytesModel" "sizes" "[I" : Cond) ∈ lw_tbl := List.mem_append_right _ (List.mem_append_right _ (List.mem_append_right _ (List.mem_append_left _ (List.mem_of_getElem? (i := 122) rfl))))
theorem wq_426 : (.fieldLink R_Mo 35 "StackBytesModel" "sizes" "[I" : Cond) ∈ tb := tb_i10 (List.mem_of_getElem? (i := 26) rfl)
set_option maxRecDepth 100000 in
theorem wl_427 : (.methodLink R_Mo 161 y_Mo_moves : Cond) ∈ lw_tbl := List.mem_append_right _ (List.mem_append_right _ (List.mem_append_right _ (List.mem_append_left _ (List.mem_of_getElem? (i := 88) rfl))))
theorem wq_427 : (.methodLink R_Mo 161 y_Mo_moves : Cond) ∈ tb := tb_i10 (List.mem_of_getElem? (i := 27) rfl)
set_option maxRecDepth 100000 in
theorem wl_428 : (.instanceMethod y_Mo_moves : Cond) ∈ lw_tbl := List.mem_append_right _ (List.mem_append_right _ (List.mem_append_right _ (List.mem_append_left _ (List.mem_of_getElem? (i := 90) rfl))))
theorem wq_428 : (.instanceMethod y_Mo_moves : Cond) ∈ tb := tb_i10 (List.mem_of_getElem? (i := 28) rfl)
set_option maxRecDepth 100000 in
theorem wl_429 : (.selects R_Mo y_Mo_moves y_Mo_moves : Cond) ∈ lw_tbl := List.mem_append_left _ (List.mem_of_getElem? (i := 27) rfl)
theorem wq_429 : (.selects R_Mo y_Mo_moves y_Mo_moves : Cond) ∈ tb := tb_i10 (List.mem_of_getElem? (i := 29) rfl)
set_option maxRecDepth 100000 in
theorem wl_430 : (.code y_Mo_lookAtOne b_Mo_lookAtOne 10 none : Cond) ∈ lw_tbl := List.mem_append_right _ (List.mem_append_right _ (List.mem_append_right _ (List.mem_append_left _ (List.mem_of_getElem? (i := 87) rfl))))
theorem wq_430 : (.code y_Mo_lookAtOne b_Mo_lookAtOne 10 none : Cond) ∈ tb := tb_i10 (List.mem_of_getElem? (i := 30) rfl)
set_option maxRecDepth 100000 in
theorem wl_431 : (.methodLink R_Mo 157 y_Mo_lookAtOne : Cond) ∈ lw_tbl := List.mem_append_right _ (List.mem_append_right _ (List.mem_append_right _ (List.mem_append_left _ (List.mem_of_getElem? (i := 84) rfl))))
theorem wq_431 : (.methodLink R_Mo 157 y_Mo_lookAtOne : Cond) ∈ tb := tb_i10 (List.mem_of_getElem? (i := 31) rfl)
set_option maxRecDepth 100000 in
theorem wl_432 : (.instanceMethod y_Mo_lookAtOne : Cond) ∈ lw_tbl := List.mem_append_right _ (List.mem_append_right _ (List.mem_append_right _ (List.mem_append_left _ (List.mem_of_getElem? (i := 86) rfl))))
theorem wq_432 : (.instanceMethod y_Mo_lookAtOne : Cond) ∈ tb := tb_i10 (List.mem_of_getElem? (i := 32) rfl)
set_option maxRecDepth 100000 in
theorem wl_433 : (.selects R_Mo y_Mo_lookAtOne y_Mo_lookAtOne : Cond) ∈ lw_tbl := List.mem_append_left _ (List.mem_of_getElem? (i := 26) rfl)
theorem wq_433 : (.selects R_Mo y_Mo_lookAtOne y_Mo_lookAtOne : Cond) ∈ tb := tb_i10 (List.mem_of_getElem? (i := 33) rfl)
set_option maxRecDepth 100000 in
theorem wl_434 : (.methodLink R_Mo 1 objectInit : Cond) ∈ lw_tbl := List.mem_append_right _ (List.mem_append_right _ (List.mem_append_right _ (List.mem_append_left _ (List.mem_of_getElem? (i := 71) rfl))))
theorem wq_434 : (.methodLink R_Mo 1 objectInit : Cond) ∈ tb := tb_i10 (List.mem_of_getElem? (i := 34) rfl)
set_option maxRecDepth 100000 in
theorem wl_435 : (.fieldLink R_Mo 7 "StackBytesModel" "bytes" "[I" : Cond) ∈ lw_tbl := List.mem_append_right _ (List.mem_append_right _ (List.mem_append_right _ (List.mem_append_left _ (List.mem_of_getElem? (i := 109) rfl))))
theorem wq_435 : (.fieldLink R_Mo 7 "StackBytesModel" "bytes" "[I" : Cond) ∈ tb := tb_i10 (List.mem_of_getElem? (i := 35) rfl)
set_option maxRecDepth 100000 in
theorem wl_436 : (.fieldLink R_Mo 13 "StackBytesModel" "written" "[I" : Cond) ∈ lw_tbl := List.mem_append_right _ (List.mem_append_right _ (List.mem_append_right _ (List.mem_append_left _ (List.mem_of_getElem? (i := 111) rfl))))
theorem wq_436 : (.fieldLink R_Mo 13 "StackBytesModel" "written" "[I" : Cond) ∈ tb := tb_i10 (List.mem_of_getElem? (i := 36) rfl)
set_option maxRecDepth 100000 in
theorem wl_437 : (.fieldLink R_Mo 16 "StackBytesModel" "place" "I" : Cond) ∈ lw_tbl := List.mem_append_right _ (List.mem_append_right _ (List.mem_append_right _ (List.mem_append_left _ (List.mem_of_getElem? (i := 114) rfl))))
theorem wq_437 : (.fieldLink R_Mo 16 "StackBytesModel" "place" "I" : Cond) ∈ tb := tb_i10 (List.mem_of_getElem? (i := 37) rfl)
set_option maxRecDepth 100000 in
theorem wl_438 : (.fieldLink R_Mo 20 "StackBytesModel" "functions" "[I" : Cond) ∈ lw_tbl := List.mem_append_right _ (List.mem_append_right _ (List.mem_append_right _ (List.mem_append_left _ (List.mem_of_getElem? (i := 117) rfl))))
theorem wq_438 : (.fieldLink R_Mo 20 "StackBytesModel" "functions" "[I" : Cond) ∈ tb := tb_i10 (List.mem_of_getElem? (i := 38) rfl)
set_option maxRecDepth 100000 in
theorem wl_439 : (.fieldLink R_Mo 26 "StackBytesModel" "locals" "[I" : Cond) ∈ lw_tbl := List.mem_append_right _ (List.mem_append_right _ (List.mem_append_right _ (List.mem_append_left _ (List.mem_of_getElem? (i := 119) rfl))))
theorem wq_439 : (.fieldLink R_Mo 26 "StackBytesModel" "locals" "[I" : Cond) ∈ tb := tb_i10 (List.mem_of_getElem? (i := 39) rfl)
set_option maxRecDepth 100000 in
theorem wl_440 : (.fieldLink R_Mo 56 "StackBytesModel" "anyCode" "[Z" : Cond) ∈ lw_tbl := List.mem_append_right _ (List.mem_append_right _ (List.mem_append_right _ (List.mem_append_left _ (List.mem_of_getElem? (i := 129) rfl))))
theorem wq_440 : (.fieldLink R_Mo 56 "StackBytesModel" "anyCode" "[Z" : Cond) ∈ tb := tb_i11 (List.mem_of_getElem? (i := 0) rfl)
set_option maxRecDepth 100000 in
theorem wl_441 : (.fieldLink R_Mo 60 "StackBytesModel" "handlerCodes" "[I" : Cond) ∈ lw_tbl := List.mem_append_right _ (List.mem_append_right _ (List.mem_append_right _ (List.mem_append_left _ (List.mem_of_getElem? (i := 130) rfl))))
theorem wq_441 : (.fieldLink R_Mo 60 "StackBytesModel" "handlerCodes" "[I" : Cond) ∈ tb := tb_i11 (List.mem_of_getElem? (i := 1) rfl)
set_option maxRecDepth 100000 in
theorem wl_442 : (.code y_Mo_verify b_Mo_verify 5 none : Cond) ∈ lw_tbl := List.mem_append_right _ (List.mem_append_right _ (List.mem_append_right _ (List.mem_append_left _ (List.mem_of_getElem? (i := 75) rfl))))
theorem wq_442 : (.code y_Mo_verify b_Mo_verify 5 none : Cond) ∈ tb := tb_i11 (List.mem_of_getElem? (i := 2) rfl)
set_option maxRecDepth 100000 in
theorem wl_443 : (.methodLink R_Mo 72 y_Mo_verify : Cond) ∈ lw_tbl := List.mem_append_right _ (List.mem_append_right _ (List.mem_append_right _ (List.mem_append_left _ (List.mem_of_getElem? (i := 72) rfl))))
theorem wq_443 : (.methodLink R_Mo 72 y_Mo_verify : Cond) ∈ tb := tb_i11 (List.mem_of_getElem? (i := 3) rfl)
set_option maxRecDepth 100000 in
theorem wl_444 : (.instanceMethod y_Mo_verify : Cond) ∈ lw_tbl := List.mem_append_right _ (List.mem_append_right _ (List.mem_append_right _ (List.mem_append_left _ (List.mem_of_getElem? (i := 74) rfl))))
theorem wq_444 : (.instanceMethod y_Mo_verify : Cond) ∈ tb := tb_i11 (List.mem_of_getElem? (i := 4) rfl)
set_option maxRecDepth 100000 in
theorem wl_445 : (.selects R_Mo y_Mo_verify y_Mo_verify : Cond) ∈ lw_tbl := List.mem_append_left _ (List.mem_of_getElem? (i := 23) rfl)
theorem wq_445 : (.selects R_Mo y_Mo_verify y_Mo_verify : Cond) ∈ tb := tb_i11 (List.mem_of_getElem? (i := 5) rfl)
set_option maxRecDepth 100000 in
theorem wl_446 : (.fieldLink R_Mo 76 "StackBytesModel" "thrown" "I" : Cond) ∈ lw_tbl := List.mem_append_right _ (List.mem_append_right _ (List.mem_append_right _ (List.mem_append_left _ (List.mem_of_getElem? (i := 108) rfl))))
theorem wq_446 : (.fieldLink R_Mo 76 "StackBytesModel" "thrown" "I" : Cond) ∈ tb := tb_i11 (List.mem_of_getElem? (i := 6) rfl)
set_option maxRecDepth 100000 in
theorem wl_447 : (.fieldLink R_Mo 85 "StackBytesModel" "many" "I" : Cond) ∈ lw_tbl := List.mem_append_right _ (List.mem_append_right _ (List.mem_append_right _ (List.mem_append_left _ (List.mem_of_getElem? (i := 110) rfl))))
theorem wq_447 : (.fieldLink R_Mo 85 "StackBytesModel" "many" "I" : Cond) ∈ tb := tb_i11 (List.mem_of_getElem? (i := 7) rfl)
set_option maxRecDepth 100000 in
theorem wl_448 : (.constantLong R_Mo 88 255 : Cond) ∈ lw_tbl := List.mem_append_right _ (List.mem_append_right _ (List.mem_append_right _ (List.mem_append_left _ (List.mem_of_getElem? (i := 200) rfl))))
theorem wq_448 : (.constantLong R_Mo 88 255 : Cond) ∈ tb := tb_i11 (List.mem_of_getElem? (i := 8) rfl)
set_option maxRecDepth 100000 in
theorem wl_449 : (.fieldLink R_Mo 90 "StackBytesModel" "writtenMany" "I" : Cond) ∈ lw_tbl := List.mem_append_right _ (List.mem_append_right _ (List.mem_append_right _ (List.mem_append_left _ (List.mem_of_getElem? (i := 112) rfl))))
theorem wq_449 : (.fieldLink R_Mo 90 "StackBytesModel" "writtenMany" "I" : Cond) ∈ tb := tb_i11 (List.mem_of_getElem? (i := 9) rfl)
set_option maxRecDepth 100000 in
theorem wl_450 : (.fieldLink R_Mo 93 "StackBytesModel" "p" "I" : Cond) ∈ lw_tbl := List.mem_append_right _ (List.mem_append_right _ (List.mem_append_right _ (List.mem_append_left _ (List.mem_of_getElem? (i := 134) rfl))))
theorem wq_450 : (.fieldLink R_Mo 93 "StackBytesModel" "p" "I" : Cond) ∈ tb := tb_i11 (List.mem_of_getElem? (i := 10) rfl)
set_option maxRecDepth 100000 in
theorem wl_451 : (.code y_Mo_byteNext b_Mo_byteNext 1 (some .int) : Cond) ∈ lw_tbl := List.mem_append_right _ (List.mem_append_right _ (List.mem_append_right _ (List.mem_append_left _ (List.mem_of_getElem? (i := 228) rfl))))
theorem wq_451 : (.code y_Mo_byteNext b_Mo_byteNext 1 (some .int) : Cond) ∈ tb := tb_i11 (List.mem_of_getElem? (i := 11) rfl)
set_option maxRecDepth 100000 in
theorem wl_452 : (.methodLink R_Mo 99 y_Mo_byteNext : Cond) ∈ lw_tbl := List.mem_append_right _ (List.mem_append_right _ (List.mem_append_right _ (List.mem_append_left _ (List.mem_of_getElem? (i := 225) rfl))))
theorem wq_452 : (.methodLink R_Mo 99 y_Mo_byteNext : Cond) ∈ tb := tb_i11 (List.mem_of_getElem? (i := 12) rfl)
set_option maxRecDepth 100000 in
theorem wl_453 : (.instanceMethod y_Mo_byteNext : Cond) ∈ lw_tbl := List.mem_append_right _ (List.mem_append_right _ (List.mem_append_right _ (List.mem_append_left _ (List.mem_of_getElem? (i := 227) rfl))))
theorem wq_453 : (.instanceMethod y_Mo_byteNext : Cond) ∈ tb := tb_i11 (List.mem_of_getElem? (i := 13) rfl)
set_option maxRecDepth 100000 in
theorem wl_454 : (.selects R_Mo y_Mo_byteNext y_Mo_byteNext : Cond) ∈ lw_tbl := List.mem_append_left _ (List.mem_of_getElem? (i := 33) rfl)
theorem wq_454 : (.selects R_Mo y_Mo_byteNext y_Mo_byteNext : Cond) ∈ tb := tb_i11 (List.mem_of_getElem? (i := 14) rfl)
set_option maxRecDepth 100000 in
theorem wl_455 : (.code y_Mo_numberNext b_Mo_numberNext 7 (some .int) : Cond) ∈ lw_tbl := List.mem_append_right _ (List.mem_append_right _ (List.mem_append_right _ (List.mem_append_left _ (List.mem_of_getElem? (i := 232) rfl))))
theorem wq_455 : (.code y_Mo_numberNext b_Mo_numberNext 7 (some .int) : Cond) ∈ tb := tb_i11 (List.mem_of_getElem? (i := 15) rfl)
set_option maxRecDepth 100000 in
theorem wl_456 : (.methodLink R_Mo 103 y_Mo_numberNext : Cond) ∈ lw_tbl := List.mem_append_right _ (List.mem_append_right _ (List.mem_append_right _ (List.mem_append_left _ (List.mem_of_getElem? (i := 229) rfl))))
theorem wq_456 : (.methodLink R_Mo 103 y_Mo_numberNext : Cond) ∈ tb := tb_i11 (List.mem_of_getElem? (i := 16) rfl)
set_option maxRecDepth 100000 in
theorem wl_457 : (.instanceMethod y_Mo_numberNext : Cond) ∈ lw_tbl := List.mem_append_right _ (List.mem_append_right _ (List.mem_append_right _ (List.mem_append_left _ (List.mem_of_getElem? (i := 231) rfl))))
theorem wq_457 : (.instanceMethod y_Mo_numberNext : Cond) ∈ tb := tb_i11 (List.mem_of_getElem? (i := 17) rfl)
set_option maxRecDepth 100000 in
theorem wl_458 : (.selects R_Mo y_Mo_numberNext y_Mo_numberNext : Cond) ∈ lw_tbl := List.mem_append_left _ (List.mem_of_getElem? (i := 34) rfl)
theorem wq_458 : (.selects R_Mo y_Mo_numberNext y_Mo_numberNext : Cond) ∈ tb := tb_i11 (List.mem_of_getElem? (i := 18) rfl)
set_option maxRecDepth 100000 in
theorem wl_459 : (.constant R_Mo 107 (-2147483648) : Cond) ∈ lw_tbl := List.mem_append_right _ (List.mem_append_right _ (List.mem_append_right _ (List.mem_append_right _ (List.mem_of_getElem? (i := 1) rfl))))
theorem wq_459 : (.constant R_Mo 107 (-2147483648) : Cond) ∈ tb := tb_i11 (List.mem_of_getElem? (i := 19) rfl)
set_option maxRecDepth 100000 in
theorem wl_460 : (.constant R_Mo 108 2147483647 : Cond) ∈ lw_tbl := List.mem_append_right _ (List.mem_append_right _ (List.mem_append_right _ (List.mem_append_right _ (List.mem_of_getElem? (i := 2) rfl))))
theorem wq_460 : (.constant R_Mo 108 2147483647 : Cond) ∈ tb := tb_i11 (List.mem_of_getElem? (i := 20) rfl)
set_option maxRecDepth 100000 in
theorem wl_461 : (.code y_Mo_readInstruction b_Mo_readInstruction 7 none : Cond) ∈ lw_tbl := List.mem_append_right _ (List.mem_append_right _ (List.mem_append_right _ (List.mem_append_right _ (List.mem_of_getElem? (i := 0) rfl))))
theorem wq_461 : (.code y_Mo_readInstruction b_Mo_readInstruction 7 none : Cond) ∈ tb := tb_i11 (List.mem_of_getElem? (i := 21) rfl)
set_option maxRecDepth 100000 in
theorem wl_462 : (.methodLink R_Mo 109 y_Mo_readInstruction : Cond) ∈ lw_tbl := List.mem_append_right _ (List.mem_append_right _ (List.mem_append_right _ (List.mem_append_left _ (List.mem_of_getElem? (i := 237) rfl))))
theorem wq_462 : (.methodLink R_Mo 109 y_Mo_readInstruction : Cond) ∈ tb := tb_i11 (List.mem_of_getElem? (i := 22) rfl)
set_option maxRecDepth 100000 in
theorem wl_463 : (.instanceMethod y_Mo_readInstruction : Cond) ∈ lw_tbl := List.mem_append_right _ (List.mem_append_right _ (List.mem_append_right _ (List.mem_append_left _ (List.mem_of_getElem? (i := 239) rfl))))
theorem wq_463 : (.instanceMethod y_Mo_readInstruction : Cond) ∈ tb := tb_i11 (List.mem_of_getElem? (i := 23) rfl)
set_option maxRecDepth 100000 in
theorem wl_464 : (.selects R_Mo y_Mo_readInstruction y_Mo_readInstruction : Cond) ∈ lw_tbl := List.mem_append_left _ (List.mem_of_getElem? (i := 36) rfl)
theorem wq_464 : (.selects R_Mo y_Mo_readInstruction y_Mo_readInstruction : Cond) ∈ tb := tb_i11 (List.mem_of_getElem? (i := 24) rfl)
set_option maxRecDepth 100000 in
theorem wl_465 : (.code y_Mo_readFunction b_Mo_readFunction 6 none : Cond) ∈ lw_tbl := List.mem_append_right _ (List.mem_append_right _ (List.mem_append_right _ (List.mem_append_left _ (List.mem_of_getElem? (i := 236) rfl))))
theorem wq_465 : (.code y_Mo_readFunction b_Mo_readFunction 6 none : Cond) ∈ tb := tb_i11 (List.mem_of_getElem? (i := 25) rfl)
set_option maxRecDepth 100000 in
theorem wl_466 : (.methodLink R_Mo 113 y_Mo_readFunction : Cond) ∈ lw_tbl := List.mem_append_right _ (List.mem_append_right _ (List.mem_append_right _ (List.mem_append_left _ (List.mem_of_getElem? (i := 233) rfl))))
theorem wq_466 : (.methodLink R_Mo 113 y_Mo_readFunction : Cond) ∈ tb := tb_i11 (List.mem_of_getElem? (i := 26) rfl)
set_option maxRecDepth 100000 in
theorem wl_467 : (.instanceMethod y_Mo_readFunction : Cond) ∈ lw_tbl := List.mem_append_right _ (List.mem_append_right _ (List.mem_append_right _ (List.mem_append_left _ (List.mem_of_getElem? (i := 235) rfl))))
theorem wq_467 : (.instanceMethod y_Mo_readFunction : Cond) ∈ tb := tb_i11 (List.mem_of_getElem? (i := 27) rfl)
set_option maxRecDepth 100000 in
theorem wl_468 : (.selects R_Mo y_Mo_readFunction y_Mo_readFunction : Cond) ∈ lw_tbl := List.mem_append_left _ (List.mem_of_getElem? (i := 35) rfl)
theorem wq_468 : (.selects R_Mo y_Mo_readFunction y_Mo_readFunction : Cond) ∈ tb := tb_i11 (List.mem_of_getElem? (i := 28) rfl)
set_option maxRecDepth 100000 in
theorem wl_469 : (.fieldLink R_Mo 116 "StackBytesModel" "fault" "I" : Cond) ∈ lw_tbl := List.mem_append_right _ (List.mem_append_right _ (List.mem_append_right _ (List.mem_append_left _ (List.mem_of_getElem? (i := 113) rfl))))
theorem wq_469 : (.fieldLink R_Mo 116 "StackBytesModel" "fault" "I" : Cond) ∈ tb := tb_i11 (List.mem_of_getElem? (i := 29) rfl)
set_option maxRecDepth 100000 in
theorem wl_470 : (.code y_Mo_readProgram b_Mo_readProgram 3 none : Cond) ∈ lw_tbl := List.mem_append_right _ (List.mem_append_right _ (List.mem_append_right _ (List.mem_append_left _ (List.mem_of_getElem? (i := 224) rfl))))
theorem wq_470 : (.code y_Mo_readProgram b_Mo_readProgram 3 none : Cond) ∈ tb := tb_i11 (List.mem_of_getElem? (i := 30) rfl)
set_option maxRecDepth 100000 in
theorem wl_471 : (.code y_Mo_told b_Mo_told 1 (some .int) : Cond) ∈ lw_tbl := List.mem_append_right _ (List.mem_append_right _ (List.mem_append_right _ (List.mem_append_right _ (List.mem_of_getElem? (i := 10) rfl))))
theorem wq_471 : (.code y_Mo_told b_Mo_told 1 (some .int) : Cond) ∈ tb := tb_i11 (List.mem_of_getElem? (i := 31) rfl)
set_option maxRecDepth 100000 in
theorem wl_472 : (.methodLink R_Mo 125 y_Mo_told : Cond) ∈ lw_tbl := List.mem_append_right _ (List.mem_append_right _ (List.mem_append_right _ (List.mem_append_right _ (List.mem_of_getElem? (i := 7) rfl))))
theorem wq_472 : (.methodLink R_Mo 125 y_Mo_told : Cond) ∈ tb := tb_i11 (List.mem_of_getElem? (i := 32) rfl)
set_option maxRecDepth 100000 in
theorem wl_473 : (.instanceMethod y_Mo_told : Cond) ∈ lw_tbl := List.mem_append_right _ (List.mem_append_right _ (List.mem_append_right _ (List.mem_append_right _ (List.mem_of_getElem? (i := 9) rfl))))
theorem wq_473 : (.instanceMethod y_Mo_told : Cond) ∈ tb := tb_i11 (List.mem_of_getElem? (i := 33) rfl)
set_option maxRecDepth 100000 in
theorem wl_474 : (.selects R_Mo y_Mo_told y_Mo_told : Cond) ∈ lw_tbl := List.mem_append_left _ (List.mem_of_getElem? (i := 38) rfl)
theorem wq_474 : (.selects R_Mo y_Mo_told y_Mo_told : Cond) ∈ tb := tb_i11 (List.mem_of_getElem? (i := 34) rfl)
set_option maxRecDepth 100000 in
theorem wl_475 : (.code y_Mo_copyProgram b_Mo_copyProgram 4 none : Cond) ∈ lw_tbl := List.mem_append_right _ (List.mem_append_right _ (List.mem_append_right _ (List.mem_append_right _ (List.mem_of_getElem? (i := 6) rfl))))
theorem wq_475 : (.code y_Mo_copyProgram b_Mo_copyProgram 4 none : Cond) ∈ tb := tb_i11 (List.mem_of_getElem? (i := 35) rfl)
set_option maxRecDepth 100000 in
theorem wl_476 : (.methodLink R_Mo 122 y_Mo_copyProgram : Cond) ∈ lw_tbl := List.mem_append_right _ (List.mem_append_right _ (List.mem_append_right _ (List.mem_append_right _ (List.mem_of_getElem? (i := 3) rfl))))
theorem wq_476 : (.methodLink R_Mo 122 y_Mo_copyProgram : Cond) ∈ tb := tb_i11 (List.mem_of_getElem? (i := 36) rfl)
set_option maxRecDepth 100000 in
theorem wl_477 : (.instanceMethod y_Mo_copyProgram : Cond) ∈ lw_tbl := List.mem_append_right _ (List.mem_append_right _ (List.mem_append_right _ (List.mem_append_right _ (List.mem_of_getElem? (i := 5) rfl))))
theorem wq_477 : (.instanceMethod y_Mo_copyProgram : Cond) ∈ tb := tb_i11 (List.mem_of_getElem? (i := 37) rfl)
set_option maxRecDepth 100000 in
theorem wl_478 : (.selects R_Mo y_Mo_copyProgram y_Mo_copyProgram : Cond) ∈ lw_tbl := List.mem_append_left _ (List.mem_of_getElem? (i := 37) rfl)
theorem wq_478 : (.selects R_Mo y_Mo_copyProgram y_Mo_copyProgram : Cond) ∈ tb := tb_i11 (List.mem_of_getElem? (i := 38) rfl)
set_option maxRecDepth 100000 in
theorem wl_479 : (.methodLink R_Mo 119 y_Mo_readProgram : Cond) ∈ lw_tbl := List.mem_append_right _ (List.mem_append_right _ (List.mem_append_right _ (List.mem_append_left _ (List.mem_of_getElem? (i := 221) rfl))))
theorem wq_479 : (.methodLink R_Mo 119 y_Mo_readProgram : Cond) ∈ tb := tb_i11 (List.mem_of_getElem? (i := 39) rfl)
set_option maxRecDepth 100000 in
theorem wl_480 : (.instanceMethod y_Mo_readProgram : Cond) ∈ lw_tbl := List.mem_append_right _ (List.mem_append_right _ (List.mem_append_right _ (List.mem_append_left _ (List.mem_of_getElem? (i := 223) rfl))))
theorem wq_480 : (.instanceMethod y_Mo_readProgram : Cond) ∈ tb := tb_i12 (List.mem_of_getElem? (i := 0) rfl)
set_option maxRecDepth 100000 in
theorem wl_481 : (.selects R_Mo y_Mo_readProgram y_Mo_readProgram : Cond) ∈ lw_tbl := List.mem_append_left _ (List.mem_of_getElem? (i := 32) rfl)
theorem wq_481 : (.selects R_Mo y_Mo_readProgram y_Mo_readProgram : Cond) ∈ tb := tb_i12 (List.mem_of_getElem? (i := 1) rfl)
set_option maxRecDepth 100000 in
theorem wl_482 : (.code y_Mo_canStand b_Mo_canStand 4 (some .boolean) : Cond) ∈ lw_tbl := List.mem_append_right _ (List.mem_append_right _ (List.mem_append_right _ (List.mem_append_right _ (List.mem_of_getElem? (i := 18) rfl))))
theorem wq_482 : (.code y_Mo_canStand b_Mo_canStand 4 (some .boolean) : Cond) ∈ tb := tb_i12 (List.mem_of_getElem? (i := 2) rfl)
set_option maxRecDepth 100000 in
theorem wl_483 : (.methodLink R_Mo 128 y_Mo_canStand : Cond) ∈ lw_tbl := List.mem_append_right _ (List.mem_append_right _ (List.mem_append_right _ (List.mem_append_right _ (List.mem_of_getElem? (i := 15) rfl))))
theorem wq_483 : (.methodLink R_Mo 128 y_Mo_canStand : Cond) ∈ tb := tb_i12 (List.mem_of_getElem? (i := 3) rfl)
set_option maxRecDepth 100000 in
theorem wl_484 : (.instanceMethod y_Mo_canStand : Cond) ∈ lw_tbl := List.mem_append_right _ (List.mem_append_right _ (List.mem_append_right _ (List.mem_append_right _ (List.mem_of_getElem? (i := 17) rfl))))
theorem wq_484 : (.instanceMethod y_Mo_canStand : Cond) ∈ tb := tb_i12 (List.mem_of_getElem? (i := 4) rfl)
set_option maxRecDepth 100000 in
theorem wl_485 : (.selects R_Mo y_Mo_canStand y_Mo_canStand : Cond) ∈ lw_tbl := List.mem_append_left _ (List.mem_of_getElem? (i := 39) rfl)
theorem wq_485 : (.selects R_Mo y_Mo_canStand y_Mo_canStand : Cond) ∈ tb := tb_i12 (List.mem_of_getElem? (i := 5) rfl)
set_option maxRecDepth 100000 in
theorem wl_486 : (.code y_Mo_put b_Mo_put 4 none : Cond) ∈ lw_tbl := List.mem_append_right _ (List.mem_append_right _ (List.mem_append_right _ (List.mem_append_right _ (List.mem_of_getElem? (i := 26) rfl))))
theorem wq_486 : (.code y_Mo_put b_Mo_put 4 none : Cond) ∈ tb := tb_i12 (List.mem_of_getElem? (i := 6) rfl)
set_option maxRecDepth 100000 in
theorem wl_487 : (.code y_Mo_behind b_Mo_behind 1 (some .int) : Cond) ∈ lw_tbl := List.mem_append_right _ (List.mem_append_right _ (List.mem_append_right _ (List.mem_append_right _ (List.mem_of_getElem? (i := 29) rfl))))
theorem wq_487 : (.code y_Mo_behind b_Mo_behind 1 (some .int) : Cond) ∈ tb := tb_i12 (List.mem_of_getElem? (i := 7) rfl)
set_option maxRecDepth 100000 in
theorem wl_488 : (.methodLink R_Mo 165 y_Mo_put : Cond) ∈ lw_tbl := List.mem_append_right _ (List.mem_append_right _ (List.mem_append_right _ (List.mem_append_right _ (List.mem_of_getElem? (i := 23) rfl))))
theorem wq_488 : (.methodLink R_Mo 165 y_Mo_put : Cond) ∈ tb := tb_i12 (List.mem_of_getElem? (i := 8) rfl)
set_option maxRecDepth 100000 in
theorem wl_489 : (.instanceMethod y_Mo_put : Cond) ∈ lw_tbl := List.mem_append_right _ (List.mem_append_right _ (List.mem_append_right _ (List.mem_append_right _ (List.mem_of_getElem? (i := 25) rfl))))
theorem wq_489 : (.instanceMethod y_Mo_put : Cond) ∈ tb := tb_i12 (List.mem_of_getElem? (i := 9) rfl)
set_option maxRecDepth 100000 in
theorem wl_490 : (.selects R_Mo y_Mo_put y_Mo_put : Cond) ∈ lw_tbl := List.mem_append_left _ (List.mem_of_getElem? (i := 40) rfl)
theorem wq_490 : (.selects R_Mo y_Mo_put y_Mo_put : Cond) ∈ tb := tb_i12 (List.mem_of_getElem? (i := 10) rfl)
set_option maxRecDepth 100000 in
theorem wl_491 : (.methodLink R_Mo 168 y_Mo_behind : Cond) ∈ lw_tbl := List.mem_append_right _ (List.mem_append_right _ (List.mem_append_right _ (List.mem_append_right _ (List.mem_of_getElem? (i := 27) rfl))))
theorem wq_491 : (.methodLink R_Mo 168 y_Mo_behind : Cond) ∈ tb := tb_i12 (List.mem_of_getElem? (i := 11) rfl)
set_option maxRecDepth 100000 in
theorem wl_492 : (.static y_Mo_behind : Cond) ∈ lw_tbl := List.mem_append_right _ (List.mem_append_right _ (List.mem_append_right _ (List.mem_append_right _ (List.mem_of_getElem? (i := 28) rfl))))
theorem wq_492 : (.static y_Mo_behind : Cond) ∈ tb := tb_i12 (List.mem_of_getElem? (i := 12) rfl)
set_option maxRecDepth 100000 in
theorem wl_493 : (.code y_Mo_isFunction b_Mo_isFunction 2 (some .boolean) : Cond) ∈ lw_tbl := List.mem_append_right _ (List.mem_append_right _ (List.mem_append_right _ (List.mem_append_right _ (List.mem_of_getElem? (i := 37) rfl))))
theorem wq_493 : (.code y_Mo_isFunction b_Mo_isFunction 2 (some .boolean) : Cond) ∈ tb := tb_i12 (List.mem_of_getElem? (i := 13) rfl)
set_option maxRecDepth 100000 in
theorem wl_494 : (.code y_Mo_isGoal b_Mo_isGoal 6 (some .int) : Cond) ∈ lw_tbl := List.mem_append_right _ (List.mem_append_right _ (List.mem_append_right _ (List.mem_append_right _ (List.mem_of_getElem? (i := 41) rfl))))
theorem wq_494 : (.code y_Mo_isGoal b_Mo_isGoal 6 (some .int) : Cond) ∈ tb := tb_i12 (List.mem_of_getElem? (i := 14) rfl)
set_option maxRecDepth 100000 in
theorem wl_495 : (.methodLink R_Mo 175 y_Mo_isGoal : Cond) ∈ lw_tbl := List.mem_append_right _ (List.mem_append_right _ (List.mem_append_right _ (List.mem_append_right _ (List.mem_of_getElem? (i := 38) rfl))))
theorem wq_495 : (.methodLink R_Mo 175 y_Mo_isGoal : Cond) ∈ tb := tb_i12 (List.mem_of_getElem? (i := 15) rfl)
set_option maxRecDepth 100000 in
theorem wl_496 : (.instanceMethod y_Mo_isGoal : Cond) ∈ lw_tbl := List.mem_append_right _ (List.mem_append_right _ (List.mem_append_right _ (List.mem_append_right _ (List.mem_of_getElem? (i := 40) rfl))))
theorem wq_496 : (.instanceMethod y_Mo_isGoal : Cond) ∈ tb := tb_i12 (List.mem_of_getElem? (i := 16) rfl)
set_option maxRecDepth 100000 in
theorem wl_497 : (.selects R_Mo y_Mo_isGoal y_Mo_isGoal : Cond) ∈ lw_tbl := List.mem_append_left _ (List.mem_of_getElem? (i := 42) rfl)
theorem wq_497 : (.selects R_Mo y_Mo_isGoal y_Mo_isGoal : Cond) ∈ tb := tb_i12 (List.mem_of_getElem? (i := 17) rfl)
set_option maxRecDepth 100000 in
theorem wl_498 : (.methodLink R_Mo 172 y_Mo_isFunction : Cond) ∈ lw_tbl := List.mem_append_right _ (List.mem_append_right _ (List.mem_append_right _ (List.mem_append_right _ (List.mem_of_getElem? (i := 34) rfl))))
theorem wq_498 : (.methodLink R_Mo 172 y_Mo_isFunction : Cond) ∈ tb := tb_i12 (List.mem_of_getElem? (i := 18) rfl)
set_option maxRecDepth 100000 in
theorem wl_499 : (.instanceMethod y_Mo_isFunction : Cond) ∈ lw_tbl := List.mem_append_right _ (List.mem_append_right _ (List.mem_append_right _ (List.mem_append_right _ (List.mem_of_getElem? (i := 36) rfl))))
theorem wq_499 : (.instanceMethod y_Mo_isFunction : Cond) ∈ tb := tb_i12 (List.mem_of_getElem? (i := 19) rfl)
set_option maxRecDepth 100000 in
theorem wl_500 : (.selects R_Mo y_Mo_isFunction y_Mo_isFunction : Cond) ∈ lw_tbl := List.mem_append_left _ (List.mem_of_getElem? (i := 41) rfl)
theorem wq_500 : (.selects R_Mo y_Mo_isFunction y_Mo_isFunction : Cond) ∈ tb := tb_i12 (List.mem_of_getElem? (i := 20) rfl)
set_option maxRecDepth 100000 in
theorem wl_501 : (.code y_Mo_known b_Mo_known 7 (some .int) : Cond) ∈ lw_tbl := List.mem_append_right _ (List.mem_append_right _ (List.mem_append_right _ (List.mem_append_right _ (List.mem_of_getElem? (i := 49) rfl))))
theorem wq_501 : (.code y_Mo_known b_Mo_known 7 (some .int) : Cond) ∈ tb := tb_i12 (List.mem_of_getElem? (i := 21) rfl)
set_option maxRecDepth 100000 in
theorem wl_502 : (.methodLink R_Mo 178 y_Mo_known : Cond) ∈ lw_tbl := List.mem_append_right _ (List.mem_append_right _ (List.mem_append_right _ (List.mem_append_right _ (List.mem_of_getElem? (i := 46) rfl))))
theorem wq_502 : (.methodLink R_Mo 178 y_Mo_known : Cond) ∈ tb := tb_i12 (List.mem_of_getElem? (i := 22) rfl)
set_option maxRecDepth 100000 in
theorem wl_503 : (.instanceMethod y_Mo_known : Cond) ∈ lw_tbl := List.mem_append_right _ (List.mem_append_right _ (List.mem_append_right _ (List.mem_append_right _ (List.mem_of_getElem? (i := 48) rfl))))
theorem wq_503 : (.instanceMethod y_Mo_known : Cond) ∈ tb := tb_i12 (List.mem_of_getElem? (i := 23) rfl)
set_option maxRecDepth 100000 in
theorem wl_504 : (.selects R_Mo y_Mo_known y_Mo_known : Cond) ∈ lw_tbl := List.mem_append_left _ (List.mem_of_getElem? (i := 43) rfl)
theorem wq_504 : (.selects R_Mo y_Mo_known y_Mo_known : Cond) ∈ tb := tb_i12 (List.mem_of_getElem? (i := 24) rfl)
set_option maxRecDepth 100000 in
theorem wl_505 : (.code y_Mo_codes b_Mo_codes 3 (some .int) : Cond) ∈ lw_tbl := List.mem_append_right _ (List.mem_append_right _ (List.mem_append_right _ (List.mem_append_right _ (List.mem_of_getElem? (i := 61) rfl))))
theorem wq_505 : (.code y_Mo_codes b_Mo_codes 3 (some .int) : Cond) ∈ tb := tb_i12 (List.mem_of_getElem? (i := 25) rfl)
set_option maxRecDepth 100000 in
theorem wl_506 : (.methodLink R_Mo 182 y_Mo_codes : Cond) ∈ lw_tbl := List.mem_append_right _ (List.mem_append_right _ (List.mem_append_right _ (List.mem_append_right _ (List.mem_of_getElem? (i := 58) rfl))))
theorem wq_506 : (.methodLink R_Mo 182 y_Mo_codes : Cond) ∈ tb := tb_i12 (List.mem_of_getElem? (i := 26) rfl)
set_option maxRecDepth 100000 in
theorem wl_507 : (.instanceMethod y_Mo_codes : Cond) ∈ lw_tbl := List.mem_append_right _ (List.mem_append_right _ (List.mem_append_right _ (List.mem_append_right _ (List.mem_of_getElem? (i := 60) rfl))))
theorem wq_507 : (.instanceMethod y_Mo_codes : Cond) ∈ tb := tb_i12 (List.mem_of_getElem? (i := 27) rfl)
set_option maxRecDepth 100000 in
theorem wl_508 : (.selects R_Mo y_Mo_codes y_Mo_codes : Cond) ∈ lw_tbl := List.mem_append_left _ (List.mem_of_getElem? (i := 44) rfl)
theorem wq_508 : (.selects R_Mo y_Mo_codes y_Mo_codes : Cond) ∈ tb := tb_i12 (List.mem_of_getElem? (i := 28) rfl)
set_option maxRecDepth 100000 in
theorem wl_509 : (.laysFinal R_SB "StackBytes" "bytes" "LStackBytes$ByteRow;" : Cond) ∈ lw_tbl := List.mem_append_right _ (List.mem_append_right _ (List.mem_append_left _ (List.mem_of_getElem? (i := 7) rfl)))
theorem wq_509 : (.laysFinal R_SB "StackBytes" "bytes" "LStackBytes$ByteRow;" : Cond) ∈ tb := tb_i12 (List.mem_of_getElem? (i := 29) rfl)
set_option maxRecDepth 100000 in
theorem wl_510 : (.laysFinal R_SB "StackBytes" "written" "LStackBytes$ByteRow;" : Cond) ∈ lw_tbl := List.mem_append_right _ (List.mem_append_right _ (List.mem_append_left _ (List.mem_of_getElem? (i := 9) rfl)))
theorem wq_510 : (.laysFinal R_SB "StackBytes" "written" "LStackBytes$ByteRow;" : Cond) ∈ tb := tb_i12 (List.mem_of_getElem? (i := 30) rfl)
set_option maxRecDepth 100000 in
theorem wl_511 : (.laysFinal R_SB "StackBytes" "latest" "LStackBytes$Fault;" : Cond) ∈ lw_tbl := List.mem_append_right _ (List.mem_append_right _ (List.mem_append_left _ (List.mem_of_getElem? (i := 11) rfl)))
theorem wq_511 : (.laysFinal R_SB "StackBytes" "latest" "LStackBytes$Fault;" : Cond) ∈ tb := tb_i12 (List.mem_of_getElem? (i := 31) rfl)
set_option maxRecDepth 100000 in
theorem wl_512 : (.laysFinal R_SB "StackBytes" "reader" "LStackBytes$Reader;" : Cond) ∈ lw_tbl := List.mem_append_right _ (List.mem_append_right _ (List.mem_append_left _ (List.mem_of_getElem? (i := 13) rfl)))
theorem wq_512 : (.laysFinal R_SB "StackBytes" "reader" "LStackBytes$Reader;" : Cond) ∈ tb := tb_i12 (List.mem_of_getElem? (i := 32) rfl)
set_option maxRecDepth 100000 in
theorem wl_513 : (.laysFinal R_SB "StackBytes" "verifier" "LStackBytes$Verifier;" : Cond) ∈ lw_tbl := List.mem_append_right _ (List.mem_append_right _ (List.mem_append_left _ (List.mem_of_getElem? (i := 15) rfl)))
theorem wq_513 : (.laysFinal R_SB "StackBytes" "verifier" "LStackBytes$Verifier;" : Cond) ∈ tb := tb_i12 (List.mem_of_getElem? (i := 33) rfl)
set_option maxRecDepth 100000 in
theorem wl_514 : (.lays R_SB "StackBytes" "program" "LStackBytes$Program;" : Cond) ∈ lw_tbl := List.mem_append_right _ (List.mem_append_right _ (List.mem_append_left _ (List.mem_of_getElem? (i := 17) rfl)))
theorem wq_514 : (.lays R_SB "StackBytes" "program" "LStackBytes$Program;" : Cond) ∈ tb := tb_i12 (List.mem_of_getElem? (i := 34) rfl)
set_option maxRecDepth 100000 in
theorem wl_515 : (.lays R_SB "StackBytes" "spare" "LStackBytes$Program;" : Cond) ∈ lw_tbl := List.mem_append_right _ (List.mem_append_right _ (List.mem_append_left _ (List.mem_of_getElem? (i := 19) rfl)))
theorem wq_515 : (.lays R_SB "StackBytes" "spare" "LStackBytes$Program;" : Cond) ∈ tb := tb_i12 (List.mem_of_getElem? (i := 35) rfl)
set_option maxRecDepth 100000 in
theorem wl_516 : (.laysFinal R_ByteRow "StackBytes$ByteRow" "most" "I" : Cond) ∈ lw_tbl := List.mem_append_right _ (List.mem_append_left _ (List.mem_of_getElem? (i := 33) rfl))
theorem wq_516 : (.laysFinal R_ByteRow "StackBytes$ByteRow" "most" "I" : Cond) ∈ tb := tb_i12 (List.mem_of_getElem? (i := 36) rfl)
set_option maxRecDepth 100000 in
theorem wl_517 : (.lays R_ByteRow "StackBytes$ByteRow" "row" "[B" : Cond) ∈ lw_tbl := List.mem_append_right _ (List.mem_append_left _ (List.mem_of_getElem? (i := 35) rfl))
theorem wq_517 : (.lays R_ByteRow "StackBytes$ByteRow" "row" "[B" : Cond) ∈ tb := tb_i12 (List.mem_of_getElem? (i := 37) rfl)
set_option maxRecDepth 100000 in
theorem wl_518 : (.lays R_ByteRow "StackBytes$ByteRow" "count" "I" : Cond) ∈ lw_tbl := List.mem_append_right _ (List.mem_append_left _ (List.mem_of_getElem? (i := 37) rfl))
theorem wq_518 : (.lays R_ByteRow "StackBytes$ByteRow" "count" "I" : Cond) ∈ tb := tb_i12 (List.mem_of_getElem? (i := 38) rfl)
set_option maxRecDepth 100000 in
theorem wl_519 : (.lays R_Fault "StackBytes$Fault" "kind" "I" : Cond) ∈ lw_tbl := List.mem_append_right _ (List.mem_append_left _ (List.mem_of_getElem? (i := 53) rfl))
theorem wq_519 : (.lays R_Fault "StackBytes$Fault" "kind" "I" : Cond) ∈ tb := tb_i12 (List.mem_of_getElem? (i := 39) rfl)
set_option maxRecDepth 100000 in
theorem wl_520 : (.lays R_Fault "StackBytes$Fault" "place" "I" : Cond) ∈ lw_tbl := List.mem_append_right _ (List.mem_append_left _ (List.mem_of_getElem? (i := 55) rfl))
theorem wq_520 : (.lays R_Fault "StackBytes$Fault" "place" "I" : Cond) ∈ tb := tb_i13 (List.mem_of_getElem? (i := 0) rfl)
set_option maxRecDepth 100000 in
theorem wl_521 : (.lays R_Function "StackBytes$Function" "params" "I" : Cond) ∈ lw_tbl := List.mem_append_right _ (List.mem_append_left _ (List.mem_of_getElem? (i := 207) rfl))
theorem wq_521 : (.lays R_Function "StackBytes$Function" "params" "I" : Cond) ∈ tb := tb_i13 (List.mem_of_getElem? (i := 1) rfl)
set_option maxRecDepth 100000 in
theorem wl_522 : (.lays R_Function "StackBytes$Function" "locals" "I" : Cond) ∈ lw_tbl := List.mem_append_right _ (List.mem_append_left _ (List.mem_of_getElem? (i := 209) rfl))
theorem wq_522 : (.lays R_Function "StackBytes$Function" "locals" "I" : Cond) ∈ tb := tb_i13 (List.mem_of_getElem? (i := 2) rfl)
set_option maxRecDepth 100000 in
theorem wl_523 : (.lays R_Function "StackBytes$Function" "rowLocals" "I" : Cond) ∈ lw_tbl := List.mem_append_right _ (List.mem_append_left _ (List.mem_of_getElem? (i := 211) rfl))
theorem wq_523 : (.lays R_Function "StackBytes$Function" "rowLocals" "I" : Cond) ∈ tb := tb_i13 (List.mem_of_getElem? (i := 3) rfl)
set_option maxRecDepth 100000 in
theorem wl_524 : (.lays R_Function "StackBytes$Function" "result" "I" : Cond) ∈ lw_tbl := List.mem_append_right _ (List.mem_append_left _ (List.mem_of_getElem? (i := 213) rfl))
theorem wq_524 : (.lays R_Function "StackBytes$Function" "result" "I" : Cond) ∈ tb := tb_i13 (List.mem_of_getElem? (i := 4) rfl)
set_option maxRecDepth 100000 in
theorem wl_525 : (.lays R_Function "StackBytes$Function" "count" "I" : Cond) ∈ lw_tbl := List.mem_append_right _ (List.mem_append_left _ (List.mem_of_getElem? (i := 215) rfl))
theorem wq_525 : (.lays R_Function "StackBytes$Function" "count" "I" : Cond) ∈ tb := tb_i13 (List.mem_of_getElem? (i := 5) rfl)
set_option maxRecDepth 100000 in
theorem wl_526 : (.lays R_Function "StackBytes$Function" "handlerCount" "I" : Cond) ∈ lw_tbl := List.mem_append_right _ (List.mem_append_left _ (List.mem_of_getElem? (i := 217) rfl))
theorem wq_526 : (.lays R_Function "StackBytes$Function" "handlerCount" "I" : Cond) ∈ tb := tb_i13 (List.mem_of_getElem? (i := 6) rfl)
set_option maxRecDepth 100000 in
theorem wl_527 : (.laysFinal R_Function "StackBytes$Function" "ops" "[I" : Cond) ∈ lw_tbl := List.mem_append_right _ (List.mem_append_left _ (List.mem_of_getElem? (i := 219) rfl))
theorem wq_527 : (.laysFinal R_Function "StackBytes$Function" "ops" "[I" : Cond) ∈ tb := tb_i13 (List.mem_of_getElem? (i := 7) rfl)
set_option maxRecDepth 100000 in
theorem wl_528 : (.laysFinal R_Function "StackBytes$Function" "behinds" "[I" : Cond) ∈ lw_tbl := List.mem_append_right _ (List.mem_append_left _ (List.mem_of_getElem? (i := 221) rfl))
theorem wq_528 : (.laysFinal R_Function "StackBytes$Function" "behinds" "[I" : Cond) ∈ tb := tb_i13 (List.mem_of_getElem? (i := 8) rfl)
set_option maxRecDepth 100000 in
theorem wl_529 : (.laysFinal R_Function "StackBytes$Function" "depths" "[I" : Cond) ∈ lw_tbl := List.mem_append_right _ (List.mem_append_left _ (List.mem_of_getElem? (i := 223) rfl))
theorem wq_529 : (.laysFinal R_Function "StackBytes$Function" "depths" "[I" : Cond) ∈ tb := tb_i13 (List.mem_of_getElem? (i := 9) rfl)
set_option maxRecDepth 100000 in
theorem wl_530 : (.laysFinal R_Function "StackBytes$Function" "rowsOnStack" "[I" : Cond) ∈ lw_tbl := List.mem_append_right _ (List.mem_append_left _ (List.mem_of_getElem? (i := 225) rfl))
theorem wq_530 : (.laysFinal R_Function "StackBytes$Function" "rowsOnStack" "[I" : Cond) ∈ tb := tb_i13 (List.mem_of_getElem? (i := 10) rfl)
set_option maxRecDepth 100000 in
theorem wl_531 : (.laysFinal R_Function "StackBytes$Function" "handlers" "[LStackBytes$Handler;" : Cond) ∈ lw_tbl := List.mem_append_right _ (List.mem_append_left _ (List.mem_of_getElem? (i := 227) rfl))
theorem wq_531 : (.laysFinal R_Function "StackBytes$Function" "handlers" "[LStackBytes$Handler;" : Cond) ∈ tb := tb_i13 (List.mem_of_getElem? (i := 11) rfl)
set_option maxRecDepth 100000 in
theorem wl_532 : (.lays R_Handler "StackBytes$Handler" "from" "I" : Cond) ∈ lw_tbl := List.mem_append_right _ (List.mem_append_left _ (List.mem_of_getElem? (i := 153) rfl))
theorem wq_532 : (.lays R_Handler "StackBytes$Handler" "from" "I" : Cond) ∈ tb := tb_i13 (List.mem_of_getElem? (i := 12) rfl)
set_option maxRecDepth 100000 in
theorem wl_533 : (.lays R_Handler "StackBytes$Handler" "to" "I" : Cond) ∈ lw_tbl := List.mem_append_right _ (List.mem_append_left _ (List.mem_of_getElem? (i := 155) rfl))
theorem wq_533 : (.lays R_Handler "StackBytes$Handler" "to" "I" : Cond) ∈ tb := tb_i13 (List.mem_of_getElem? (i := 13) rfl)
set_option maxRecDepth 100000 in
theorem wl_534 : (.lays R_Handler "StackBytes$Handler" "target" "I" : Cond) ∈ lw_tbl := List.mem_append_right _ (List.mem_append_left _ (List.mem_of_getElem? (i := 157) rfl))
theorem wq_534 : (.lays R_Handler "StackBytes$Handler" "target" "I" : Cond) ∈ tb := tb_i13 (List.mem_of_getElem? (i := 14) rfl)
set_option maxRecDepth 100000 in
theorem wl_535 : (.lays R_Handler "StackBytes$Handler" "forAny" "Z" : Cond) ∈ lw_tbl := List.mem_append_right _ (List.mem_append_left _ (List.mem_of_getElem? (i := 159) rfl))
theorem wq_535 : (.lays R_Handler "StackBytes$Handler" "forAny" "Z" : Cond) ∈ tb := tb_i13 (List.mem_of_getElem? (i := 15) rfl)
set_option maxRecDepth 100000 in
theorem wl_536 : (.lays R_Handler "StackBytes$Handler" "code" "I" : Cond) ∈ lw_tbl := List.mem_append_right _ (List.mem_append_left _ (List.mem_of_getElem? (i := 161) rfl))
theorem wq_536 : (.lays R_Handler "StackBytes$Handler" "code" "I" : Cond) ∈ tb := tb_i13 (List.mem_of_getElem? (i := 16) rfl)
set_option maxRecDepth 100000 in
theorem wl_537 : (.laysFinal R_Program "StackBytes$Program" "functions" "[LStackBytes$Function;" : Cond) ∈ lw_tbl := List.mem_append_right _ (List.mem_append_left _ (List.mem_of_getElem? (i := 235) rfl))
theorem wq_537 : (.laysFinal R_Program "StackBytes$Program" "functions" "[LStackBytes$Function;" : Cond) ∈ tb := tb_i13 (List.mem_of_getElem? (i := 17) rfl)
set_option maxRecDepth 100000 in
theorem wl_538 : (.lays R_Program "StackBytes$Program" "count" "I" : Cond) ∈ lw_tbl := List.mem_append_right _ (List.mem_append_left _ (List.mem_of_getElem? (i := 237) rfl))
theorem wq_538 : (.lays R_Program "StackBytes$Program" "count" "I" : Cond) ∈ tb := tb_i13 (List.mem_of_getElem? (i := 18) rfl)
set_option maxRecDepth 100000 in
theorem wl_539 : (.laysFinal R_Reader "StackBytes$Reader" "in" "LStackBytes$ByteRow;" : Cond) ∈ lw_tbl := List.mem_append_right _ (List.mem_append_left _ (List.mem_of_getElem? (i := 67) rfl))
theorem wq_539 : (.laysFinal R_Reader "StackBytes$Reader" "in" "LStackBytes$ByteRow;" : Cond) ∈ tb := tb_i13 (List.mem_of_getElem? (i := 19) rfl)
set_option maxRecDepth 100000 in
theorem wl_540 : (.laysFinal R_Reader "StackBytes$Reader" "fault" "LStackBytes$Fault;" : Cond) ∈ lw_tbl := List.mem_append_right _ (List.mem_append_left _ (List.mem_of_getElem? (i := 69) rfl))
theorem wq_540 : (.laysFinal R_Reader "StackBytes$Reader" "fault" "LStackBytes$Fault;" : Cond) ∈ tb := tb_i13 (List.mem_of_getElem? (i := 20) rfl)
set_option maxRecDepth 100000 in
theorem wl_541 : (.lays R_Reader "StackBytes$Reader" "at" "I" : Cond) ∈ lw_tbl := List.mem_append_right _ (List.mem_append_left _ (List.mem_of_getElem? (i := 71) rfl))
theorem wq_541 : (.lays R_Reader "StackBytes$Reader" "at" "I" : Cond) ∈ tb := tb_i13 (List.mem_of_getElem? (i := 21) rfl)
set_option maxRecDepth 100000 in
theorem wl_542 : (.laysFinal R_Verifier "StackBytes$Verifier" "fault" "LStackBytes$Fault;" : Cond) ∈ lw_tbl := List.mem_append_right _ (List.mem_append_left _ (List.mem_of_getElem? (i := 91) rfl))
theorem wq_542 : (.laysFinal R_Verifier "StackBytes$Verifier" "fault" "LStackBytes$Fault;" : Cond) ∈ tb := tb_i13 (List.mem_of_getElem? (i := 22) rfl)
set_option maxRecDepth 100000 in
theorem wl_543 : (.laysFinal R_Verifier "StackBytes$Verifier" "depths" "[I" : Cond) ∈ lw_tbl := List.mem_append_right _ (List.mem_append_left _ (List.mem_of_getElem? (i := 93) rfl))
theorem wq_543 : (.laysFinal R_Verifier "StackBytes$Verifier" "depths" "[I" : Cond) ∈ tb := tb_i13 (List.mem_of_getElem? (i := 23) rfl)
set_option maxRecDepth 100000 in
theorem wl_544 : (.laysFinal R_Verifier "StackBytes$Verifier" "rowsOnStack" "[I" : Cond) ∈ lw_tbl := List.mem_append_right _ (List.mem_append_left _ (List.mem_of_getElem? (i := 95) rfl))
theorem wq_544 : (.laysFinal R_Verifier "StackBytes$Verifier" "rowsOnStack" "[I" : Cond) ∈ tb := tb_i13 (List.mem_of_getElem? (i := 24) rfl)
set_option maxRecDepth 100000 in
theorem wl_545 : (.laysFinal R_Verifier "StackBytes$Verifier" "waits" "[Z" : Cond) ∈ lw_tbl := List.mem_append_right _ (List.mem_append_left _ (List.mem_of_getElem? (i := 97) rfl))
theorem wq_545 : (.laysFinal R_Verifier "StackBytes$Verifier" "waits" "[Z" : Cond) ∈ tb := tb_i13 (List.mem_of_getElem? (i := 25) rfl)
set_option maxRecDepth 100000 in
theorem wl_546 : (.lays R_Verifier "StackBytes$Verifier" "leastWaiting" "I" : Cond) ∈ lw_tbl := List.mem_append_right _ (List.mem_append_left _ (List.mem_of_getElem? (i := 99) rfl))
theorem wq_546 : (.lays R_Verifier "StackBytes$Verifier" "leastWaiting" "I" : Cond) ∈ tb := tb_i13 (List.mem_of_getElem? (i := 26) rfl)
set_option maxRecDepth 100000 in
theorem wl_547 : (.lays R_Verifier "StackBytes$Verifier" "program" "LStackBytes$Program;" : Cond) ∈ lw_tbl := List.mem_append_right _ (List.mem_append_left _ (List.mem_of_getElem? (i := 101) rfl))
theorem wq_547 : (.lays R_Verifier "StackBytes$Verifier" "program" "LStackBytes$Program;" : Cond) ∈ tb := tb_i13 (List.mem_of_getElem? (i := 27) rfl)
set_option maxRecDepth 100000 in
theorem wl_548 : (.lays R_Verifier "StackBytes$Verifier" "function" "LStackBytes$Function;" : Cond) ∈ lw_tbl := List.mem_append_right _ (List.mem_append_left _ (List.mem_of_getElem? (i := 103) rfl))
theorem wq_548 : (.lays R_Verifier "StackBytes$Verifier" "function" "LStackBytes$Function;" : Cond) ∈ tb := tb_i13 (List.mem_of_getElem? (i := 28) rfl)
set_option maxRecDepth 100000 in
theorem wl_549 : (.lays R_Verifier "StackBytes$Verifier" "firstPlace" "I" : Cond) ∈ lw_tbl := List.mem_append_right _ (List.mem_append_left _ (List.mem_of_getElem? (i := 105) rfl))
theorem wq_549 : (.lays R_Verifier "StackBytes$Verifier" "firstPlace" "I" : Cond) ∈ tb := tb_i13 (List.mem_of_getElem? (i := 29) rfl)
set_option maxRecDepth 100000 in
theorem wl_550 : (.lays R_Verifier "StackBytes$Verifier" "current" "I" : Cond) ∈ lw_tbl := List.mem_append_right _ (List.mem_append_left _ (List.mem_of_getElem? (i := 107) rfl))
theorem wq_550 : (.lays R_Verifier "StackBytes$Verifier" "current" "I" : Cond) ∈ tb := tb_i13 (List.mem_of_getElem? (i := 30) rfl)
set_option maxRecDepth 100000 in
theorem wl_551 : (.lays R_Verifier "StackBytes$Verifier" "depth" "I" : Cond) ∈ lw_tbl := List.mem_append_right _ (List.mem_append_left _ (List.mem_of_getElem? (i := 109) rfl))
theorem wq_551 : (.lays R_Verifier "StackBytes$Verifier" "depth" "I" : Cond) ∈ tb := tb_i13 (List.mem_of_getElem? (i := 31) rfl)
set_option maxRecDepth 100000 in
theorem wl_552 : (.lays R_Verifier "StackBytes$Verifier" "rows" "I" : Cond) ∈ lw_tbl := List.mem_append_right _ (List.mem_append_left _ (List.mem_of_getElem? (i := 111) rfl))
theorem wq_552 : (.lays R_Verifier "StackBytes$Verifier" "rows" "I" : Cond) ∈ tb := tb_i13 (List.mem_of_getElem? (i := 32) rfl)
set_option maxRecDepth 100000 in
theorem wl_553 : (.lays R_Mo "StackBytesModel" "thrown" "I" : Cond) ∈ lw_tbl := List.mem_append_right _ (List.mem_append_right _ (List.mem_append_right _ (List.mem_append_left _ (List.mem_of_getElem? (i := 137) rfl))))
theorem wq_553 : (.lays R_Mo "StackBytesModel" "thrown" "I" : Cond) ∈ tb := tb_i13 (List.mem_of_getElem? (i := 33) rfl)
set_option maxRecDepth 100000 in
theorem wl_554 : (.laysFinal R_Mo "StackBytesModel" "bytes" "[I" : Cond) ∈ lw_tbl := List.mem_append_right _ (List.mem_append_right _ (List.mem_append_right _ (List.mem_append_left _ (List.mem_of_getElem? (i := 139) rfl))))
theorem wq_554 : (.laysFinal R_Mo "StackBytesModel" "bytes" "[I" : Cond) ∈ tb := tb_i13 (List.mem_of_getElem? (i := 34) rfl)
set_option maxRecDepth 100000 in
theorem wl_555 : (.lays R_Mo "StackBytesModel" "many" "I" : Cond) ∈ lw_tbl := List.mem_append_right _ (List.mem_append_right _ (List.mem_append_right _ (List.mem_append_left _ (List.mem_of_getElem? (i := 141) rfl))))
theorem wq_555 : (.lays R_Mo "StackBytesModel" "many" "I" : Cond) ∈ tb := tb_i13 (List.mem_of_getElem? (i := 35) rfl)
set_option maxRecDepth 100000 in
theorem wl_556 : (.laysFinal R_Mo "StackBytesModel" "written" "[I" : Cond) ∈ lw_tbl := List.mem_append_right _ (List.mem_append_right _ (List.mem_append_right _ (List.mem_append_left _ (List.mem_of_getElem? (i := 143) rfl))))
theorem wq_556 : (.laysFinal R_Mo "StackBytesModel" "written" "[I" : Cond) ∈ tb := tb_i13 (List.mem_of_getElem? (i := 36) rfl)
set_option maxRecDepth 100000 in
theorem wl_557 : (.lays R_Mo "StackBytesModel" "writtenMany" "I" : Cond) ∈ lw_tbl := List.mem_append_right _ (List.mem_append_right _ (List.mem_append_right _ (List.mem_append_left _ (List.mem_of_getElem? (i := 145) rfl))))
theorem wq_557 : (.lays R_Mo "StackBytesModel" "writtenMany" "I" : Cond) ∈ tb := tb_i13 (List.mem_of_getElem? (i := 37) rfl)
set_option maxRecDepth 100000 in
theorem wl_558 : (.lays R_Mo "StackBytesModel" "fault" "I" : Cond) ∈ lw_tbl := List.mem_append_right _ (List.mem_append_right _ (List.mem_append_right _ (List.mem_append_left _ (List.mem_of_getElem? (i := 147) rfl))))
theorem wq_558 : (.lays R_Mo "StackBytesModel" "fault" "I" : Cond) ∈ tb := tb_i13 (List.mem_of_getElem? (i := 38) rfl)
set_option maxRecDepth 100000 in
theorem wl_559 : (.lays R_Mo "StackBytesModel" "place" "I" : Cond) ∈ lw_tbl := List.mem_append_right _ (List.mem_append_right _ (List.mem_append_right _ (List.mem_append_left _ (List.mem_of_getElem? (i := 149) rfl))))
theorem wq_559 : (.lays R_Mo "StackBytesModel" "place" "I" : Cond) ∈ tb := tb_i13 (List.mem_of_getElem? (i := 39) rfl)
set_option maxRecDepth 100000 in
theorem wl_560 : (.lays R_Mo "StackBytesModel" "bad" "I" : Cond) ∈ lw_tbl := List.mem_append_right _ (List.mem_append_right _ (List.mem_append_right _ (List.mem_append_left _ (List.mem_of_getElem? (i := 151) rfl))))
theorem wq_560 : (.lays R_Mo "StackBytesModel" "bad" "I" : Cond) ∈ tb := tb_i14 (List.mem_of_getElem? (i := 0) rfl)
set_option maxRecDepth 100000 in
theorem wl_561 : (.lays R_Mo "StackBytesModel" "where" "I" : Cond) ∈ lw_tbl := List.mem_append_right _ (List.mem_append_right _ (List.mem_append_right _ (List.mem_append_left _ (List.mem_of_getElem? (i := 153) rfl))))
theorem wq_561 : (.lays R_Mo "StackBytesModel" "where" "I" : Cond) ∈ tb := tb_i14 (List.mem_of_getElem? (i := 1) rfl)
set_option maxRecDepth 100000 in
theorem wl_562 : (.laysFinal R_Mo "StackBytesModel" "functions" "[I" : Cond) ∈ lw_tbl := List.mem_append_right _ (List.mem_append_right _ (List.mem_append_right _ (List.mem_append_left _ (List.mem_of_getElem? (i := 155) rfl))))
theorem wq_562 : (.laysFinal R_Mo "StackBytesModel" "functions" "[I" : Cond) ∈ tb := tb_i14 (List.mem_of_getElem? (i := 2) rfl)
set_option maxRecDepth 100000 in
theorem wl_563 : (.laysFinal R_Mo "StackBytesModel" "params" "[I" : Cond) ∈ lw_tbl := List.mem_append_right _ (List.mem_append_right _ (List.mem_append_right _ (List.mem_append_left _ (List.mem_of_getElem? (i := 157) rfl))))
theorem wq_563 : (.laysFinal R_Mo "StackBytesModel" "params" "[I" : Cond) ∈ tb := tb_i14 (List.mem_of_getElem? (i := 3) rfl)
set_option maxRecDepth 100000 in
theorem wl_564 : (.laysFinal R_Mo "StackBytesModel" "locals" "[I" : Cond) ∈ lw_tbl := List.mem_append_right _ (List.mem_append_right _ (List.mem_append_right _ (List.mem_append_left _ (List.mem_of_getElem? (i := 159) rfl))))
theorem wq_564 : (.laysFinal R_Mo "StackBytesModel" "locals" "[I" : Cond) ∈ tb := tb_i14 (List.mem_of_getElem? (i := 4) rfl)
set_option maxRecDepth 100000 in
theorem wl_565 : (.laysFinal R_Mo "StackBytesModel" "rowBits" "[I" : Cond) ∈ lw_tbl := List.mem_append_right _ (List.mem_append_right _ (List.mem_append_right _ (List.mem_append_left _ (List.mem_of_getElem? (i := 161) rfl))))
theorem wq_565 : (.laysFinal R_Mo "StackBytesModel" "rowBits" "[I" : Cond) ∈ tb := tb_i14 (List.mem_of_getElem? (i := 5) rfl)
set_option maxRecDepth 100000 in
theorem wl_566 : (.laysFinal R_Mo "StackBytesModel" "results" "[I" : Cond) ∈ lw_tbl := List.mem_append_right _ (List.mem_append_right _ (List.mem_append_right _ (List.mem_append_left _ (List.mem_of_getElem? (i := 163) rfl))))
theorem wq_566 : (.laysFinal R_Mo "StackBytesModel" "results" "[I" : Cond) ∈ tb := tb_i14 (List.mem_of_getElem? (i := 6) rfl)
set_option maxRecDepth 100000 in
theorem wl_567 : (.laysFinal R_Mo "StackBytesModel" "sizes" "[I" : Cond) ∈ lw_tbl := List.mem_append_right _ (List.mem_append_right _ (List.mem_append_right _ (List.mem_append_left _ (List.mem_of_getElem? (i := 165) rfl))))
theorem wq_567 : (.laysFinal R_Mo "StackBytesModel" "sizes" "[I" : Cond) ∈ tb := tb_i14 (List.mem_of_getElem? (i := 7) rfl)
set_option maxRecDepth 100000 in
theorem wl_568 : (.laysFinal R_Mo "StackBytesModel" "handlerMany" "[I" : Cond) ∈ lw_tbl := List.mem_append_right _ (List.mem_append_right _ (List.mem_append_right _ (List.mem_append_left _ (List.mem_of_getElem? (i := 167) rfl))))
theorem wq_568 : (.laysFinal R_Mo "StackBytesModel" "handlerMany" "[I" : Cond) ∈ tb := tb_i14 (List.mem_of_getElem? (i := 8) rfl)
set_option maxRecDepth 100000 in
theorem wl_569 : (.laysFinal R_Mo "StackBytesModel" "ops" "[I" : Cond) ∈ lw_tbl := List.mem_append_right _ (List.mem_append_right _ (List.mem_append_right _ (List.mem_append_left _ (List.mem_of_getElem? (i := 169) rfl))))
theorem wq_569 : (.laysFinal R_Mo "StackBytesModel" "ops" "[I" : Cond) ∈ tb := tb_i14 (List.mem_of_getElem? (i := 9) rfl)
set_option maxRecDepth 100000 in
theorem wl_570 : (.laysFinal R_Mo "StackBytesModel" "operands" "[I" : Cond) ∈ lw_tbl := List.mem_append_right _ (List.mem_append_right _ (List.mem_append_right _ (List.mem_append_left _ (List.mem_of_getElem? (i := 171) rfl))))
theorem wq_570 : (.laysFinal R_Mo "StackBytesModel" "operands" "[I" : Cond) ∈ tb := tb_i14 (List.mem_of_getElem? (i := 10) rfl)
set_option maxRecDepth 100000 in
theorem wl_571 : (.laysFinal R_Mo "StackBytesModel" "froms" "[I" : Cond) ∈ lw_tbl := List.mem_append_right _ (List.mem_append_right _ (List.mem_append_right _ (List.mem_append_left _ (List.mem_of_getElem? (i := 173) rfl))))
theorem wq_571 : (.laysFinal R_Mo "StackBytesModel" "froms" "[I" : Cond) ∈ tb := tb_i14 (List.mem_of_getElem? (i := 11) rfl)
set_option maxRecDepth 100000 in
theorem wl_572 : (.laysFinal R_Mo "StackBytesModel" "tos" "[I" : Cond) ∈ lw_tbl := List.mem_append_right _ (List.mem_append_right _ (List.mem_append_right _ (List.mem_append_left _ (List.mem_of_getElem? (i := 175) rfl))))
theorem wq_572 : (.laysFinal R_Mo "StackBytesModel" "tos" "[I" : Cond) ∈ tb := tb_i14 (List.mem_of_getElem? (i := 12) rfl)
set_option maxRecDepth 100000 in
theorem wl_573 : (.laysFinal R_Mo "StackBytesModel" "targets" "[I" : Cond) ∈ lw_tbl := List.mem_append_right _ (List.mem_append_right _ (List.mem_append_right _ (List.mem_append_left _ (List.mem_of_getElem? (i := 177) rfl))))
theorem wq_573 : (.laysFinal R_Mo "StackBytesModel" "targets" "[I" : Cond) ∈ tb := tb_i14 (List.mem_of_getElem? (i := 13) rfl)
set_option maxRecDepth 100000 in
theorem wl_574 : (.laysFinal R_Mo "StackBytesModel" "anyCode" "[Z" : Cond) ∈ lw_tbl := List.mem_append_right _ (List.mem_append_right _ (List.mem_append_right _ (List.mem_append_left _ (List.mem_of_getElem? (i := 179) rfl))))
theorem wq_574 : (.laysFinal R_Mo "StackBytesModel" "anyCode" "[Z" : Cond) ∈ tb := tb_i14 (List.mem_of_getElem? (i := 14) rfl)
set_option maxRecDepth 100000 in
theorem wl_575 : (.laysFinal R_Mo "StackBytesModel" "handlerCodes" "[I" : Cond) ∈ lw_tbl := List.mem_append_right _ (List.mem_append_right _ (List.mem_append_right _ (List.mem_append_left _ (List.mem_of_getElem? (i := 181) rfl))))
theorem wq_575 : (.laysFinal R_Mo "StackBytesModel" "handlerCodes" "[I" : Cond) ∈ tb := tb_i14 (List.mem_of_getElem? (i := 15) rfl)
set_option maxRecDepth 100000 in
theorem wl_576 : (.laysFinal R_Mo "StackBytesModel" "heights" "[I" : Cond) ∈ lw_tbl := List.mem_append_right _ (List.mem_append_right _ (List.mem_append_right _ (List.mem_append_left _ (List.mem_of_getElem? (i := 183) rfl))))
theorem wq_576 : (.laysFinal R_Mo "StackBytesModel" "heights" "[I" : Cond) ∈ tb := tb_i14 (List.mem_of_getElem? (i := 16) rfl)
set_option maxRecDepth 100000 in
theorem wl_577 : (.laysFinal R_Mo "StackBytesModel" "kinds" "[I" : Cond) ∈ lw_tbl := List.mem_append_right _ (List.mem_append_right _ (List.mem_append_right _ (List.mem_append_left _ (List.mem_of_getElem? (i := 185) rfl))))
theorem wq_577 : (.laysFinal R_Mo "StackBytesModel" "kinds" "[I" : Cond) ∈ tb := tb_i14 (List.mem_of_getElem? (i := 17) rfl)
set_option maxRecDepth 100000 in
theorem wl_578 : (.laysFinal R_Mo "StackBytesModel" "waits" "[Z" : Cond) ∈ lw_tbl := List.mem_append_right _ (List.mem_append_right _ (List.mem_append_right _ (List.mem_append_left _ (List.mem_of_getElem? (i := 187) rfl))))
theorem wq_578 : (.laysFinal R_Mo "StackBytesModel" "waits" "[Z" : Cond) ∈ tb := tb_i14 (List.mem_of_getElem? (i := 18) rfl)
set_option maxRecDepth 100000 in
theorem wl_579 : (.lays R_Mo "StackBytesModel" "p" "I" : Cond) ∈ lw_tbl := List.mem_append_right _ (List.mem_append_right _ (List.mem_append_right _ (List.mem_append_left _ (List.mem_of_getElem? (i := 189) rfl))))
theorem wq_579 : (.lays R_Mo "StackBytesModel" "p" "I" : Cond) ∈ tb := tb_i14 (List.mem_of_getElem? (i := 19) rfl)
set_option maxRecDepth 100000 in
theorem wl_580 : (.lays R_Mo "StackBytesModel" "height" "I" : Cond) ∈ lw_tbl := List.mem_append_right _ (List.mem_append_right _ (List.mem_append_right _ (List.mem_append_left _ (List.mem_of_getElem? (i := 191) rfl))))
theorem wq_580 : (.lays R_Mo "StackBytesModel" "height" "I" : Cond) ∈ tb := tb_i14 (List.mem_of_getElem? (i := 20) rfl)
set_option maxRecDepth 100000 in
theorem wl_581 : (.lays R_Mo "StackBytesModel" "kind" "I" : Cond) ∈ lw_tbl := List.mem_append_right _ (List.mem_append_right _ (List.mem_append_right _ (List.mem_append_left _ (List.mem_of_getElem? (i := 193) rfl))))
theorem wq_581 : (.lays R_Mo "StackBytesModel" "kind" "I" : Cond) ∈ tb := tb_i14 (List.mem_of_getElem? (i := 21) rfl)
set_option maxRecDepth 100000 in
theorem wl_582 : (.initialized R_SB : Cond) ∈ lw_tbl := List.mem_append_right _ (List.mem_append_left _ (List.mem_of_getElem? (i := 1) rfl))
theorem wq_582 : (.initialized R_SB : Cond) ∈ tb := tb_i14 (List.mem_of_getElem? (i := 22) rfl)
set_option maxRecDepth 100000 in
theorem wl_583 : (.instantiable R_SB 7 : Cond) ∈ lw_tbl := List.mem_append_right _ (List.mem_append_left _ (List.mem_of_getElem? (i := 15) rfl))
theorem wq_583 : (.instantiable R_SB 7 : Cond) ∈ tb := tb_i14 (List.mem_of_getElem? (i := 23) rfl)
set_option maxRecDepth 100000 in
theorem wl_584 : (.instantiable R_Mo 29 : Cond) ∈ lw_tbl := List.mem_append_right _ (List.mem_append_right _ (List.mem_append_right _ (List.mem_append_left _ (List.mem_of_getElem? (i := 67) rfl))))
theorem wq_584 : (.instantiable R_Mo 29 : Cond) ∈ tb := tb_i14 (List.mem_of_getElem? (i := 24) rfl)
set_option maxRecDepth 100000 in
theorem tb_s0 : ∀ w ∈ tb_0, w ∈ lw_tbl := List.forall_mem_cons.mpr ⟨wl_0, List.forall_mem_cons.mpr ⟨wl_1, List.forall_mem_cons.mpr ⟨wl_2, List.forall_mem_cons.mpr ⟨wl_3, List.forall_mem_cons.mpr ⟨wl_4, List.forall_mem_cons.mpr ⟨wl_5, List.forall_mem_cons.mpr ⟨wl_6, List.forall_mem_cons.mpr ⟨wl_7, List.forall_mem_cons.mpr ⟨wl_8, List.forall_mem_cons.mpr ⟨wl_9, List.forall_mem_cons.mpr ⟨wl_10, List.forall_mem_cons.mpr ⟨wl_11, List.forall_mem_cons.mpr ⟨wl_12, List.forall_mem_cons.mpr ⟨wl_13, List.forall_mem_cons.mpr ⟨wl_14, List.forall_mem_cons.mpr ⟨wl_15, List.forall_mem_cons.mpr ⟨wl_16, List.forall_mem_cons.mpr ⟨wl_17, List.forall_mem_cons.mpr ⟨wl_18, List.forall_mem_cons.mpr ⟨wl_19, List.forall_mem_cons.mpr ⟨wl_20, List.forall_mem_cons.mpr ⟨wl_21, List.forall_mem_cons.mpr ⟨wl_22, List.forall_mem_cons.mpr ⟨wl_23, List.forall_mem_cons.mpr ⟨wl_24, List.forall_mem_cons.mpr ⟨wl_25, List.forall_mem_cons.mpr ⟨wl_26, List.forall_mem_cons.mpr ⟨wl_27, List.forall_mem_cons.mpr ⟨wl_28, List.forall_mem_cons.mpr ⟨wl_29, List.forall_mem_cons.mpr ⟨wl_30, List.forall_mem_cons.mpr ⟨wl_31, List.forall_mem_cons.mpr ⟨wl_32, List.forall_mem_cons.mpr ⟨wl_33, List.forall_mem_cons.mpr ⟨wl_34, List.forall_mem_cons.mpr ⟨wl_35, List.forall_mem_cons.mpr ⟨wl_36, List.forall_mem_cons.mpr ⟨wl_37, List.forall_mem_cons.mpr ⟨wl_38, List.forall_mem_cons.mpr ⟨wl_39, fun _ h => absurd h List.not_mem_nil⟩⟩⟩⟩⟩⟩⟩⟩⟩⟩⟩⟩⟩⟩⟩⟩⟩⟩⟩⟩⟩⟩⟩⟩⟩⟩⟩⟩⟩⟩⟩⟩⟩⟩⟩⟩⟩⟩⟩⟩
set_option maxRecDepth 100000 in
theorem tb_g0 : tb_0.all goodWord = true := by decide +kernel
theorem tb_h0 : GoodIn lw_tbl tb_0 := fun w h => ⟨tb_s0 w h, good_of_word (List.all_eq_true.mp tb_g0 w h)⟩
set_option maxRecDepth 100000 in
theorem tb_s1 : ∀ w ∈ tb_1, w ∈ lw_tbl := List.forall_mem_cons.mpr ⟨wl_40, List.forall_mem_cons.mpr ⟨wl_41, List.forall_mem_cons.mpr ⟨wl_42, List.forall_mem_cons.mpr ⟨wl_43, List.forall_mem_cons.mpr ⟨wl_44, List.forall_mem_cons.mpr ⟨wl_45, List.forall_mem_cons.mpr ⟨wl_46, List.forall_mem_cons.mpr ⟨wl_47, List.forall_mem_cons.mpr ⟨wl_48, List.forall_mem_cons.mpr ⟨wl_49, List.forall_mem_cons.mpr ⟨wl_50, List.forall_mem_cons.mpr ⟨wl_51, List.forall_mem_cons.mpr ⟨wl_52, List.forall_mem_cons.mpr ⟨wl_53, List.forall_mem_cons.mpr ⟨wl_54, List.forall_mem_cons.mpr ⟨wl_55, List.forall_mem_cons.mpr ⟨wl_56, List.forall_mem_cons.mpr ⟨wl_57, List.forall_mem_cons.mpr ⟨wl_58, List.forall_mem_cons.mpr ⟨wl_59, List.forall_mem_cons.mpr ⟨wl_60, List.forall_mem_cons.mpr ⟨wl_61, List.forall_mem_cons.mpr ⟨wl_62, List.forall_mem_cons.mpr ⟨wl_63, List.forall_mem_cons.mpr ⟨wl_64, List.forall_mem_cons.mpr ⟨wl_65, List.forall_mem_cons.mpr ⟨wl_66, List.forall_mem_cons.mpr ⟨wl_67, List.forall_mem_cons.mpr ⟨wl_68, List.forall_mem_cons.mpr ⟨wl_69, List.forall_mem_cons.mpr ⟨wl_70, List.forall_mem_cons.mpr ⟨wl_71, List.forall_mem_cons.mpr ⟨wl_72, List.forall_mem_cons.mpr ⟨wl_73, List.forall_mem_cons.mpr ⟨wl_74, List.forall_mem_cons.mpr ⟨wl_75, List.forall_mem_cons.mpr ⟨wl_76, List.forall_mem_cons.mpr ⟨wl_77, List.forall_mem_cons.mpr ⟨wl_78, List.forall_mem_cons.mpr ⟨wl_79, fun _ h => absurd h List.not_mem_nil⟩⟩⟩⟩⟩⟩⟩⟩⟩⟩⟩⟩⟩⟩⟩⟩⟩⟩⟩⟩⟩⟩⟩⟩⟩⟩⟩⟩⟩⟩⟩⟩⟩⟩⟩⟩⟩⟩⟩⟩
set_option maxRecDepth 100000 in
theorem tb_g1 : tb_1.all goodWord = true := by decide +kernel
theorem tb_h1 : GoodIn lw_tbl tb_1 := fun w h => ⟨tb_s1 w h, good_of_word (List.all_eq_true.mp tb_g1 w h)⟩
set_option maxRecDepth 100000 in
theorem tb_s2 : ∀ w ∈ tb_2, w ∈ lw_tbl := List.forall_mem_cons.mpr ⟨wl_80, List.forall_mem_cons.mpr ⟨wl_81, List.forall_mem_cons.mpr ⟨wl_82, List.forall_mem_cons.mpr ⟨wl_83, List.forall_mem_cons.mpr ⟨wl_84, List.forall_mem_cons.mpr ⟨wl_85, List.forall_mem_cons.mpr ⟨wl_86, List.forall_mem_cons.mpr ⟨wl_87, List.forall_mem_cons.mpr ⟨wl_88, List.forall_mem_cons.mpr ⟨wl_89, List.forall_mem_cons.mpr ⟨wl_90, List.forall_mem_cons.mpr ⟨wl_91, List.forall_mem_cons.mpr ⟨wl_92, List.forall_mem_cons.mpr ⟨wl_93, List.forall_mem_cons.mpr ⟨wl_94, List.forall_mem_cons.mpr ⟨wl_95, List.forall_mem_cons.mpr ⟨wl_96, List.forall_mem_cons.mpr ⟨wl_97, List.forall_mem_cons.mpr ⟨wl_98, List.forall_mem_cons.mpr ⟨wl_99, List.forall_mem_cons.mpr ⟨wl_100, List.forall_mem_cons.mpr ⟨wl_101, List.forall_mem_cons.mpr ⟨wl_102, List.forall_mem_cons.mpr ⟨wl_103, List.forall_mem_cons.mpr ⟨wl_104, List.forall_mem_cons.mpr ⟨wl_105, List.forall_mem_cons.mpr ⟨wl_106, List.forall_mem_cons.mpr ⟨wl_107, List.forall_mem_cons.mpr ⟨wl_108, List.forall_mem_cons.mpr ⟨wl_109, List.forall_mem_cons.mpr ⟨wl_110, List.forall_mem_cons.mpr ⟨wl_111, List.forall_mem_cons.mpr ⟨wl_112, List.forall_mem_cons.mpr ⟨wl_113, List.forall_mem_cons.mpr ⟨wl_114, List.forall_mem_cons.mpr ⟨wl_115, List.forall_mem_cons.mpr ⟨wl_116, List.forall_mem_cons.mpr ⟨wl_117, List.forall_mem_cons.mpr ⟨wl_118, List.forall_mem_cons.mpr ⟨wl_119, fun _ h => absurd h List.not_mem_nil⟩⟩⟩⟩⟩⟩⟩⟩⟩⟩⟩⟩⟩⟩⟩⟩⟩⟩⟩⟩⟩⟩⟩⟩⟩⟩⟩⟩⟩⟩⟩⟩⟩⟩⟩⟩⟩⟩⟩⟩
set_option maxRecDepth 100000 in
theorem tb_g2 : tb_2.all goodWord = true := by decide +kernel
theorem tb_h2 : GoodIn lw_tbl tb_2 := fun w h => ⟨tb_s2 w h, good_of_word (List.all_eq_true.mp tb_g2 w h)⟩
set_option maxRecDepth 100000 in
theorem tb_s3 : ∀ w ∈ tb_3, w ∈ lw_tbl := List.forall_mem_cons.mpr ⟨wl_120, List.forall_mem_cons.mpr ⟨wl_121, List.forall_mem_cons.mpr ⟨wl_122, List.forall_mem_cons.mpr ⟨wl_123, List.forall_mem_cons.mpr ⟨wl_124, List.forall_mem_cons.mpr ⟨wl_125, List.forall_mem_cons.mpr ⟨wl_126, List.forall_mem_cons.mpr ⟨wl_127, List.forall_mem_cons.mpr ⟨wl_128, List.forall_mem_cons.mpr ⟨wl_129, List.forall_mem_cons.mpr ⟨wl_130, List.forall_mem_cons.mpr ⟨wl_131, List.forall_mem_cons.mpr ⟨wl_132, List.forall_mem_cons.mpr ⟨wl_133, List.forall_mem_cons.mpr ⟨wl_134, List.forall_mem_cons.mpr ⟨wl_135, List.forall_mem_cons.mpr ⟨wl_136, List.forall_mem_cons.mpr ⟨wl_137, List.forall_mem_cons.mpr ⟨wl_138, List.forall_mem_cons.mpr ⟨wl_139, List.forall_mem_cons.mpr ⟨wl_140, List.forall_mem_cons.mpr ⟨wl_141, List.forall_mem_cons.mpr ⟨wl_142, List.forall_mem_cons.mpr ⟨wl_143, List.forall_mem_cons.mpr ⟨wl_144, List.forall_mem_cons.mpr ⟨wl_145, List.forall_mem_cons.mpr ⟨wl_146, List.forall_mem_cons.mpr ⟨wl_147, List.forall_mem_cons.mpr ⟨wl_148, List.forall_mem_cons.mpr ⟨wl_149, List.forall_mem_cons.mpr ⟨wl_150, List.forall_mem_cons.mpr ⟨wl_151, List.forall_mem_cons.mpr ⟨wl_152, List.forall_mem_cons.mpr ⟨wl_153, List.forall_mem_cons.mpr ⟨wl_154, List.forall_mem_cons.mpr ⟨wl_155, List.forall_mem_cons.mpr ⟨wl_156, List.forall_mem_cons.mpr ⟨wl_157, List.forall_mem_cons.mpr ⟨wl_158, List.forall_mem_cons.mpr ⟨wl_159, fun _ h => absurd h List.not_mem_nil⟩⟩⟩⟩⟩⟩⟩⟩⟩⟩⟩⟩⟩⟩⟩⟩⟩⟩⟩⟩⟩⟩⟩⟩⟩⟩⟩⟩⟩⟩⟩⟩⟩⟩⟩⟩⟩⟩⟩⟩
set_option maxRecDepth 100000 in
theorem tb_g3 : tb_3.all goodWord = true := by decide +kernel
theorem tb_h3 : GoodIn lw_tbl tb_3 := fun w h => ⟨tb_s3 w h, good_of_word (List.all_eq_true.mp tb_g3 w h)⟩
set_option maxRecDepth 100000 in
theorem tb_s4 : ∀ w ∈ tb_4, w ∈ lw_tbl := List.forall_mem_cons.mpr ⟨wl_160, List.forall_mem_cons.mpr ⟨wl_161, List.forall_mem_cons.mpr ⟨wl_162, List.forall_mem_cons.mpr ⟨wl_163, List.forall_mem_cons.mpr ⟨wl_164, List.forall_mem_cons.mpr ⟨wl_165, List.forall_mem_cons.mpr ⟨wl_166, List.forall_mem_cons.mpr ⟨wl_167, List.forall_mem_cons.mpr ⟨wl_168, List.forall_mem_cons.mpr ⟨wl_169, List.forall_mem_cons.mpr ⟨wl_170, List.forall_mem_cons.mpr ⟨wl_171, List.forall_mem_cons.mpr ⟨wl_172, List.forall_mem_cons.mpr ⟨wl_173, List.forall_mem_cons.mpr ⟨wl_174, List.forall_mem_cons.mpr ⟨wl_175, List.forall_mem_cons.mpr ⟨wl_176, List.forall_mem_cons.mpr ⟨wl_177, List.forall_mem_cons.mpr ⟨wl_178, List.forall_mem_cons.mpr ⟨wl_179, List.forall_mem_cons.mpr ⟨wl_180, List.forall_mem_cons.mpr ⟨wl_181, List.forall_mem_cons.mpr ⟨wl_182, List.forall_mem_cons.mpr ⟨wl_183, List.forall_mem_cons.mpr ⟨wl_184, List.forall_mem_cons.mpr ⟨wl_185, List.forall_mem_cons.mpr ⟨wl_186, List.forall_mem_cons.mpr ⟨wl_187, List.forall_mem_cons.mpr ⟨wl_188, List.forall_mem_cons.mpr ⟨wl_189, List.forall_mem_cons.mpr ⟨wl_190, List.forall_mem_cons.mpr ⟨wl_191, List.forall_mem_cons.mpr ⟨wl_192, List.forall_mem_cons.mpr ⟨wl_193, List.forall_mem_cons.mpr ⟨wl_194, List.forall_mem_cons.mpr ⟨wl_195, List.forall_mem_cons.mpr ⟨wl_196, List.forall_mem_cons.mpr ⟨wl_197, List.forall_mem_cons.mpr ⟨wl_198, List.forall_mem_cons.mpr ⟨wl_199, fun _ h => absurd h List.not_mem_nil⟩⟩⟩⟩⟩⟩⟩⟩⟩⟩⟩⟩⟩⟩⟩⟩⟩⟩⟩⟩⟩⟩⟩⟩⟩⟩⟩⟩⟩⟩⟩⟩⟩⟩⟩⟩⟩⟩⟩⟩
set_option maxRecDepth 100000 in
theorem tb_g4 : tb_4.all goodWord = true := by decide +kernel
theorem tb_h4 : GoodIn lw_tbl tb_4 := fun w h => ⟨tb_s4 w h, good_of_word (List.all_eq_true.mp tb_g4 w h)⟩
set_option maxRecDepth 100000 in
theorem tb_s5 : ∀ w ∈ tb_5, w ∈ lw_tbl := List.forall_mem_cons.mpr ⟨wl_200, List.forall_mem_cons.mpr ⟨wl_201, List.forall_mem_cons.mpr ⟨wl_202, List.forall_mem_cons.mpr ⟨wl_203, List.forall_mem_cons.mpr ⟨wl_204, List.forall_mem_cons.mpr ⟨wl_205, List.forall_mem_cons.mpr ⟨wl_206, List.forall_mem_cons.mpr ⟨wl_207, List.forall_mem_cons.mpr ⟨wl_208, List.forall_mem_cons.mpr ⟨wl_209, List.forall_mem_cons.mpr ⟨wl_210, List.forall_mem_cons.mpr ⟨wl_211, List.forall_mem_cons.mpr ⟨wl_212, List.forall_mem_cons.mpr ⟨wl_213, List.forall_mem_cons.mpr ⟨wl_214, List.forall_mem_cons.mpr ⟨wl_215, List.forall_mem_cons.mpr ⟨wl_216, List.forall_mem_cons.mpr ⟨wl_217, List.forall_mem_cons.mpr ⟨wl_218, List.forall_mem_cons.mpr ⟨wl_219, List.forall_mem_cons.mpr ⟨wl_220, List.forall_mem_cons.mpr ⟨wl_221, List.forall_mem_cons.mpr ⟨wl_222, List.forall_mem_cons.mpr ⟨wl_223, List.forall_mem_cons.mpr ⟨wl_224, List.forall_mem_cons.mpr ⟨wl_225, List.forall_mem_cons.mpr ⟨wl_226, List.forall_mem_cons.mpr ⟨wl_227, List.forall_mem_cons.mpr ⟨wl_228, List.forall_mem_cons.mpr ⟨wl_229, List.forall_mem_cons.mpr ⟨wl_230, List.forall_mem_cons.mpr ⟨wl_231, List.forall_mem_cons.mpr ⟨wl_232, List.forall_mem_cons.mpr ⟨wl_233, List.forall_mem_cons.mpr ⟨wl_234, List.forall_mem_cons.mpr ⟨wl_235, List.forall_mem_cons.mpr ⟨wl_236, List.forall_mem_cons.mpr ⟨wl_237, List.forall_mem_cons.mpr ⟨wl_238, List.forall_mem_cons.mpr ⟨wl_239, fun _ h => absurd h List.not_mem_nil⟩⟩⟩⟩⟩⟩⟩⟩⟩⟩⟩⟩⟩⟩⟩⟩⟩⟩⟩⟩⟩⟩⟩⟩⟩⟩⟩⟩⟩⟩⟩⟩⟩⟩⟩⟩⟩⟩⟩⟩
set_option maxRecDepth 100000 in
theorem tb_g5 : tb_5.all goodWord = true := by decide +kernel
theorem tb_h5 : GoodIn lw_tbl tb_5 := fun w h => ⟨tb_s5 w h, good_of_word (List.all_eq_true.mp tb_g5 w h)⟩
set_option maxRecDepth 100000 in
theorem tb_s6 : ∀ w ∈ tb_6, w ∈ lw_tbl := List.forall_mem_cons.mpr ⟨wl_240, List.forall_mem_cons.mpr ⟨wl_241, List.forall_mem_cons.mpr ⟨wl_242, List.forall_mem_cons.mpr ⟨wl_243, List.forall_mem_cons.mpr ⟨wl_244, List.forall_mem_cons.mpr ⟨wl_245, List.forall_mem_cons.mpr ⟨wl_246, List.forall_mem_cons.mpr ⟨wl_247, List.forall_mem_cons.mpr ⟨wl_248, List.forall_mem_cons.mpr ⟨wl_249, List.forall_mem_cons.mpr ⟨wl_250, List.forall_mem_cons.mpr ⟨wl_251, List.forall_mem_cons.mpr ⟨wl_252, List.forall_mem_cons.mpr ⟨wl_253, List.forall_mem_cons.mpr ⟨wl_254, List.forall_mem_cons.mpr ⟨wl_255, List.forall_mem_cons.mpr ⟨wl_256, List.forall_mem_cons.mpr ⟨wl_257, List.forall_mem_cons.mpr ⟨wl_258, List.forall_mem_cons.mpr ⟨wl_259, List.forall_mem_cons.mpr ⟨wl_260, List.forall_mem_cons.mpr ⟨wl_261, List.forall_mem_cons.mpr ⟨wl_262, List.forall_mem_cons.mpr ⟨wl_263, List.forall_mem_cons.mpr ⟨wl_264, List.forall_mem_cons.mpr ⟨wl_265, List.forall_mem_cons.mpr ⟨wl_266, List.forall_mem_cons.mpr ⟨wl_267, List.forall_mem_cons.mpr ⟨wl_268, List.forall_mem_cons.mpr ⟨wl_269, List.forall_mem_cons.mpr ⟨wl_270, List.forall_mem_cons.mpr ⟨wl_271, List.forall_mem_cons.mpr ⟨wl_272, List.forall_mem_cons.mpr ⟨wl_273, List.forall_mem_cons.mpr ⟨wl_274, List.forall_mem_cons.mpr ⟨wl_275, List.forall_mem_cons.mpr ⟨wl_276, List.forall_mem_cons.mpr ⟨wl_277, List.forall_mem_cons.mpr ⟨wl_278, List.forall_mem_cons.mpr ⟨wl_279, fun _ h => absurd h List.not_mem_nil⟩⟩⟩⟩⟩⟩⟩⟩⟩⟩⟩⟩⟩⟩⟩⟩⟩⟩⟩⟩⟩⟩⟩⟩⟩⟩⟩⟩⟩⟩⟩⟩⟩⟩⟩⟩⟩⟩⟩⟩
set_option maxRecDepth 100000 in
theorem tb_g6 : tb_6.all goodWord = true := by decide +kernel
theorem tb_h6 : GoodIn lw_tbl tb_6 := fun w h => ⟨tb_s6 w h, good_of_word (List.all_eq_true.mp tb_g6 w h)⟩
set_option maxRecDepth 100000 in
theorem tb_s7 : ∀ w ∈ tb_7, w ∈ lw_tbl := List.forall_mem_cons.mpr ⟨wl_280, List.forall_mem_cons.mpr ⟨wl_281, List.forall_mem_cons.mpr ⟨wl_282, List.forall_mem_cons.mpr ⟨wl_283, List.forall_mem_cons.mpr ⟨wl_284, List.forall_mem_cons.mpr ⟨wl_285, List.forall_mem_cons.mpr ⟨wl_286, List.forall_mem_cons.mpr ⟨wl_287, List.forall_mem_cons.mpr ⟨wl_288, List.forall_mem_cons.mpr ⟨wl_289, List.forall_mem_cons.mpr ⟨wl_290, List.forall_mem_cons.mpr ⟨wl_291, List.forall_mem_cons.mpr ⟨wl_292, List.forall_mem_cons.mpr ⟨wl_293, List.forall_mem_cons.mpr ⟨wl_294, List.forall_mem_cons.mpr ⟨wl_295, List.forall_mem_cons.mpr ⟨wl_296, List.forall_mem_cons.mpr ⟨wl_297, List.forall_mem_cons.mpr ⟨wl_298, List.forall_mem_cons.mpr ⟨wl_299, List.forall_mem_cons.mpr ⟨wl_300, List.forall_mem_cons.mpr ⟨wl_301, List.forall_mem_cons.mpr ⟨wl_302, List.forall_mem_cons.mpr ⟨wl_303, List.forall_mem_cons.mpr ⟨wl_304, List.forall_mem_cons.mpr ⟨wl_305, List.forall_mem_cons.mpr ⟨wl_306, List.forall_mem_cons.mpr ⟨wl_307, List.forall_mem_cons.mpr ⟨wl_308, List.forall_mem_cons.mpr ⟨wl_309, List.forall_mem_cons.mpr ⟨wl_310, List.forall_mem_cons.mpr ⟨wl_311, List.forall_mem_cons.mpr ⟨wl_312, List.forall_mem_cons.mpr ⟨wl_313, List.forall_mem_cons.mpr ⟨wl_314, List.forall_mem_cons.mpr ⟨wl_315, List.forall_mem_cons.mpr ⟨wl_316, List.forall_mem_cons.mpr ⟨wl_317, List.forall_mem_cons.mpr ⟨wl_318, List.forall_mem_cons.mpr ⟨wl_319, fun _ h => absurd h List.not_mem_nil⟩⟩⟩⟩⟩⟩⟩⟩⟩⟩⟩⟩⟩⟩⟩⟩⟩⟩⟩⟩⟩⟩⟩⟩⟩⟩⟩⟩⟩⟩⟩⟩⟩⟩⟩⟩⟩⟩⟩⟩
set_option maxRecDepth 100000 in
theorem tb_g7 : tb_7.all goodWord = true := by decide +kernel
theorem tb_h7 : GoodIn lw_tbl tb_7 := fun w h => ⟨tb_s7 w h, good_of_word (List.all_eq_true.mp tb_g7 w h)⟩
set_option maxRecDepth 100000 in
theorem tb_s8 : ∀ w ∈ tb_8, w ∈ lw_tbl := List.forall_mem_cons.mpr ⟨wl_320, List.forall_mem_cons.mpr ⟨wl_321, List.forall_mem_cons.mpr ⟨wl_322, List.forall_mem_cons.mpr ⟨wl_323, List.forall_mem_cons.mpr ⟨wl_324, List.forall_mem_cons.mpr ⟨wl_325, List.forall_mem_cons.mpr ⟨wl_326, List.forall_mem_cons.mpr ⟨wl_327, List.forall_mem_cons.mpr ⟨wl_328, List.forall_mem_cons.mpr ⟨wl_329, List.forall_mem_cons.mpr ⟨wl_330, List.forall_mem_cons.mpr ⟨wl_331, List.forall_mem_cons.mpr ⟨wl_332, List.forall_mem_cons.mpr ⟨wl_333, List.forall_mem_cons.mpr ⟨wl_334, List.forall_mem_cons.mpr ⟨wl_335, List.forall_mem_cons.mpr ⟨wl_336, List.forall_mem_cons.mpr ⟨wl_337, List.forall_mem_cons.mpr ⟨wl_338, List.forall_mem_cons.mpr ⟨wl_339, List.forall_mem_cons.mpr ⟨wl_340, List.forall_mem_cons.mpr ⟨wl_341, List.forall_mem_cons.mpr ⟨wl_342, List.forall_mem_cons.mpr ⟨wl_343, List.forall_mem_cons.mpr ⟨wl_344, List.forall_mem_cons.mpr ⟨wl_345, List.forall_mem_cons.mpr ⟨wl_346, List.forall_mem_cons.mpr ⟨wl_347, List.forall_mem_cons.mpr ⟨wl_348, List.forall_mem_cons.mpr ⟨wl_349, List.forall_mem_cons.mpr ⟨wl_350, List.forall_mem_cons.mpr ⟨wl_351, List.forall_mem_cons.mpr ⟨wl_352, List.forall_mem_cons.mpr ⟨wl_353, List.forall_mem_cons.mpr ⟨wl_354, List.forall_mem_cons.mpr ⟨wl_355, List.forall_mem_cons.mpr ⟨wl_356, List.forall_mem_cons.mpr ⟨wl_357, List.forall_mem_cons.mpr ⟨wl_358, List.forall_mem_cons.mpr ⟨wl_359, fun _ h => absurd h List.not_mem_nil⟩⟩⟩⟩⟩⟩⟩⟩⟩⟩⟩⟩⟩⟩⟩⟩⟩⟩⟩⟩⟩⟩⟩⟩⟩⟩⟩⟩⟩⟩⟩⟩⟩⟩⟩⟩⟩⟩⟩⟩
set_option maxRecDepth 100000 in
theorem tb_g8 : tb_8.all goodWord = true := by decide +kernel
theorem tb_h8 : GoodIn lw_tbl tb_8 := fun w h => ⟨tb_s8 w h, good_of_word (List.all_eq_true.mp tb_g8 w h)⟩
set_option maxRecDepth 100000 in
theorem tb_s9 : ∀ w ∈ tb_9, w ∈ lw_tbl := List.forall_mem_cons.mpr ⟨wl_360, List.forall_mem_cons.mpr ⟨wl_361, List.forall_mem_cons.mpr ⟨wl_362, List.forall_mem_cons.mpr ⟨wl_363, List.forall_mem_cons.mpr ⟨wl_364, List.forall_mem_cons.mpr ⟨wl_365, List.forall_mem_cons.mpr ⟨wl_366, List.forall_mem_cons.mpr ⟨wl_367, List.forall_mem_cons.mpr ⟨wl_368, List.forall_mem_cons.mpr ⟨wl_369, List.forall_mem_cons.mpr ⟨wl_370, List.forall_mem_cons.mpr ⟨wl_371, List.forall_mem_cons.mpr ⟨wl_372, List.forall_mem_cons.mpr ⟨wl_373, List.forall_mem_cons.mpr ⟨wl_374, List.forall_mem_cons.mpr ⟨wl_375, List.forall_mem_cons.mpr ⟨wl_376, List.forall_mem_cons.mpr ⟨wl_377, List.forall_mem_cons.mpr ⟨wl_378, List.forall_mem_cons.mpr ⟨wl_379, List.forall_mem_cons.mpr ⟨wl_380, List.forall_mem_cons.mpr ⟨wl_381, List.forall_mem_cons.mpr ⟨wl_382, List.forall_mem_cons.mpr ⟨wl_383, List.forall_mem_cons.mpr ⟨wl_384, List.forall_mem_cons.mpr ⟨wl_385, List.forall_mem_cons.mpr ⟨wl_386, List.forall_mem_cons.mpr ⟨wl_387, List.forall_mem_cons.mpr ⟨wl_388, List.forall_mem_cons.mpr ⟨wl_389, List.forall_mem_cons.mpr ⟨wl_390, List.forall_mem_cons.mpr ⟨wl_391, List.forall_mem_cons.mpr ⟨wl_392, List.forall_mem_cons.mpr ⟨wl_393, List.forall_mem_cons.mpr ⟨wl_394, List.forall_mem_cons.mpr ⟨wl_395, List.forall_mem_cons.mpr ⟨wl_396, List.forall_mem_cons.mpr ⟨wl_397, List.forall_mem_cons.mpr ⟨wl_398, List.forall_mem_cons.mpr ⟨wl_399, fun _ h => absurd h List.not_mem_nil⟩⟩⟩⟩⟩⟩⟩⟩⟩⟩⟩⟩⟩⟩⟩⟩⟩⟩⟩⟩⟩⟩⟩⟩⟩⟩⟩⟩⟩⟩⟩⟩⟩⟩⟩⟩⟩⟩⟩⟩
set_option maxRecDepth 100000 in
theorem tb_g9 : tb_9.all goodWord = true := by decide +kernel
theorem tb_h9 : GoodIn lw_tbl tb_9 := fun w h => ⟨tb_s9 w h, good_of_word (List.all_eq_true.mp tb_g9 w h)⟩
set_option maxRecDepth 100000 in
theorem tb_s10 : ∀ w ∈ tb_10, w ∈ lw_tbl := List.forall_mem_cons.mpr ⟨wl_400, List.forall_mem_cons.mpr ⟨wl_401, List.forall_mem_cons.mpr ⟨wl_402, List.forall_mem_cons.mpr ⟨wl_403, List.forall_mem_cons.mpr ⟨wl_404, List.forall_mem_cons.mpr ⟨wl_405, List.forall_mem_cons.mpr ⟨wl_406, List.forall_mem_cons.mpr ⟨wl_407, List.forall_mem_cons.mpr ⟨wl_408, List.forall_mem_cons.mpr ⟨wl_409, List.forall_mem_cons.mpr ⟨wl_410, List.forall_mem_cons.mpr ⟨wl_411, List.forall_mem_cons.mpr ⟨wl_412, List.forall_mem_cons.mpr ⟨wl_413, List.forall_mem_cons.mpr ⟨wl_414, List.forall_mem_cons.mpr ⟨wl_415, List.forall_mem_cons.mpr ⟨wl_416, List.forall_mem_cons.mpr ⟨wl_417, List.forall_mem_cons.mpr ⟨wl_418, List.forall_mem_cons.mpr ⟨wl_419, List.forall_mem_cons.mpr ⟨wl_420, List.forall_mem_cons.mpr ⟨wl_421, List.forall_mem_cons.mpr ⟨wl_422, List.forall_mem_cons.mpr ⟨wl_423, List.forall_mem_cons.mpr ⟨wl_424, List.forall_mem_cons.mpr ⟨wl_425, List.forall_mem_cons.mpr ⟨wl_426, List.forall_mem_cons.mpr ⟨wl_427, List.forall_mem_cons.mpr ⟨wl_428, List.forall_mem_cons.mpr ⟨wl_429, List.forall_mem_cons.mpr ⟨wl_430, List.forall_mem_cons.mpr ⟨wl_431, List.forall_mem_cons.mpr ⟨wl_432, List.forall_mem_cons.mpr ⟨wl_433, List.forall_mem_cons.mpr ⟨wl_434, List.forall_mem_cons.mpr ⟨wl_435, List.forall_mem_cons.mpr ⟨wl_436, List.forall_mem_cons.mpr ⟨wl_437, List.forall_mem_cons.mpr ⟨wl_438, List.forall_mem_cons.mpr ⟨wl_439, fun _ h => absurd h List.not_mem_nil⟩⟩⟩⟩⟩⟩⟩⟩⟩⟩⟩⟩⟩⟩⟩⟩⟩⟩⟩⟩⟩⟩⟩⟩⟩⟩⟩⟩⟩⟩⟩⟩⟩⟩⟩⟩⟩⟩⟩⟩
set_option maxRecDepth 100000 in
theorem tb_g10 : tb_10.all goodWord = true := by decide +kernel
theorem tb_h10 : GoodIn lw_tbl tb_10 := fun w h => ⟨tb_s10 w h, good_of_word (List.all_eq_true.mp tb_g10 w h)⟩
set_option maxRecDepth 100000 in
theorem tb_s11 : ∀ w ∈ tb_11, w ∈ lw_tbl := List.forall_mem_cons.mpr ⟨wl_440, List.forall_mem_cons.mpr ⟨wl_441, List.forall_mem_cons.mpr ⟨wl_442, List.forall_mem_cons.mpr ⟨wl_443, List.forall_mem_cons.mpr ⟨wl_444, List.forall_mem_cons.mpr ⟨wl_445, List.forall_mem_cons.mpr ⟨wl_446, List.forall_mem_cons.mpr ⟨wl_447, List.forall_mem_cons.mpr ⟨wl_448, List.forall_mem_cons.mpr ⟨wl_449, List.forall_mem_cons.mpr ⟨wl_450, List.forall_mem_cons.mpr ⟨wl_451, List.forall_mem_cons.mpr ⟨wl_452, List.forall_mem_cons.mpr ⟨wl_453, List.forall_mem_cons.mpr ⟨wl_454, List.forall_mem_cons.mpr ⟨wl_455, List.forall_mem_cons.mpr ⟨wl_456, List.forall_mem_cons.mpr ⟨wl_457, List.forall_mem_cons.mpr ⟨wl_458, List.forall_mem_cons.mpr ⟨wl_459, List.forall_mem_cons.mpr ⟨wl_460, List.forall_mem_cons.mpr ⟨wl_461, List.forall_mem_cons.mpr ⟨wl_462, List.forall_mem_cons.mpr ⟨wl_463, List.forall_mem_cons.mpr ⟨wl_464, List.forall_mem_cons.mpr ⟨wl_465, List.forall_mem_cons.mpr ⟨wl_466, List.forall_mem_cons.mpr ⟨wl_467, List.forall_mem_cons.mpr ⟨wl_468, List.forall_mem_cons.mpr ⟨wl_469, List.forall_mem_cons.mpr ⟨wl_470, List.forall_mem_cons.mpr ⟨wl_471, List.forall_mem_cons.mpr ⟨wl_472, List.forall_mem_cons.mpr ⟨wl_473, List.forall_mem_cons.mpr ⟨wl_474, List.forall_mem_cons.mpr ⟨wl_475, List.forall_mem_cons.mpr ⟨wl_476, List.forall_mem_cons.mpr ⟨wl_477, List.forall_mem_cons.mpr ⟨wl_478, List.forall_mem_cons.mpr ⟨wl_479, fun _ h => absurd h List.not_mem_nil⟩⟩⟩⟩⟩⟩⟩⟩⟩⟩⟩⟩⟩⟩⟩⟩⟩⟩⟩⟩⟩⟩⟩⟩⟩⟩⟩⟩⟩⟩⟩⟩⟩⟩⟩⟩⟩⟩⟩⟩
set_option maxRecDepth 100000 in
theorem tb_g11 : tb_11.all goodWord = true := by decide +kernel
theorem tb_h11 : GoodIn lw_tbl tb_11 := fun w h => ⟨tb_s11 w h, good_of_word (List.all_eq_true.mp tb_g11 w h)⟩
set_option maxRecDepth 100000 in
theorem tb_s12 : ∀ w ∈ tb_12, w ∈ lw_tbl := List.forall_mem_cons.mpr ⟨wl_480, List.forall_mem_cons.mpr ⟨wl_481, List.forall_mem_cons.mpr ⟨wl_482, List.forall_mem_cons.mpr ⟨wl_483, List.forall_mem_cons.mpr ⟨wl_484, List.forall_mem_cons.mpr ⟨wl_485, List.forall_mem_cons.mpr ⟨wl_486, List.forall_mem_cons.mpr ⟨wl_487, List.forall_mem_cons.mpr ⟨wl_488, List.forall_mem_cons.mpr ⟨wl_489, List.forall_mem_cons.mpr ⟨wl_490, List.forall_mem_cons.mpr ⟨wl_491, List.forall_mem_cons.mpr ⟨wl_492, List.forall_mem_cons.mpr ⟨wl_493, List.forall_mem_cons.mpr ⟨wl_494, List.forall_mem_cons.mpr ⟨wl_495, List.forall_mem_cons.mpr ⟨wl_496, List.forall_mem_cons.mpr ⟨wl_497, List.forall_mem_cons.mpr ⟨wl_498, List.forall_mem_cons.mpr ⟨wl_499, List.forall_mem_cons.mpr ⟨wl_500, List.forall_mem_cons.mpr ⟨wl_501, List.forall_mem_cons.mpr ⟨wl_502, List.forall_mem_cons.mpr ⟨wl_503, List.forall_mem_cons.mpr ⟨wl_504, List.forall_mem_cons.mpr ⟨wl_505, List.forall_mem_cons.mpr ⟨wl_506, List.forall_mem_cons.mpr ⟨wl_507, List.forall_mem_cons.mpr ⟨wl_508, List.forall_mem_cons.mpr ⟨wl_509, List.forall_mem_cons.mpr ⟨wl_510, List.forall_mem_cons.mpr ⟨wl_511, List.forall_mem_cons.mpr ⟨wl_512, List.forall_mem_cons.mpr ⟨wl_513, List.forall_mem_cons.mpr ⟨wl_514, List.forall_mem_cons.mpr ⟨wl_515, List.forall_mem_cons.mpr ⟨wl_516, List.forall_mem_cons.mpr ⟨wl_517, List.forall_mem_cons.mpr ⟨wl_518, List.forall_mem_cons.mpr ⟨wl_519, fun _ h => absurd h List.not_mem_nil⟩⟩⟩⟩⟩⟩⟩⟩⟩⟩⟩⟩⟩⟩⟩⟩⟩⟩⟩⟩⟩⟩⟩⟩⟩⟩⟩⟩⟩⟩⟩⟩⟩⟩⟩⟩⟩⟩⟩⟩
set_option maxRecDepth 100000 in
theorem tb_g12 : tb_12.all goodWord = true := by decide +kernel
theorem tb_h12 : GoodIn lw_tbl tb_12 := fun w h => ⟨tb_s12 w h, good_of_word (List.all_eq_true.mp tb_g12 w h)⟩
set_option maxRecDepth 100000 in
theorem tb_s13 : ∀ w ∈ tb_13, w ∈ lw_tbl := List.forall_mem_cons.mpr ⟨wl_520, List.forall_mem_cons.mpr ⟨wl_521, List.forall_mem_cons.mpr ⟨wl_522, List.forall_mem_cons.mpr ⟨wl_523, List.forall_mem_cons.mpr ⟨wl_524, List.forall_mem_cons.mpr ⟨wl_525, List.forall_mem_cons.mpr ⟨wl_526, List.forall_mem_cons.mpr ⟨wl_527, List.forall_mem_cons.mpr ⟨wl_528, List.forall_mem_cons.mpr ⟨wl_529, List.forall_mem_cons.mpr ⟨wl_530, List.forall_mem_cons.mpr ⟨wl_531, List.forall_mem_cons.mpr ⟨wl_532, List.forall_mem_cons.mpr ⟨wl_533, List.forall_mem_cons.mpr ⟨wl_534, List.forall_mem_cons.mpr ⟨wl_535, List.forall_mem_cons.mpr ⟨wl_536, List.forall_mem_cons.mpr ⟨wl_537, List.forall_mem_cons.mpr ⟨wl_538, List.forall_mem_cons.mpr ⟨wl_539, List.forall_mem_cons.mpr ⟨wl_540, List.forall_mem_cons.mpr ⟨wl_541, List.forall_mem_cons.mpr ⟨wl_542, List.forall_mem_cons.mpr ⟨wl_543, List.forall_mem_cons.mpr ⟨wl_544, List.forall_mem_cons.mpr ⟨wl_545, List.forall_mem_cons.mpr ⟨wl_546, List.forall_mem_cons.mpr ⟨wl_547, List.forall_mem_cons.mpr ⟨wl_548, List.forall_mem_cons.mpr ⟨wl_549, List.forall_mem_cons.mpr ⟨wl_550, List.forall_mem_cons.mpr ⟨wl_551, List.forall_mem_cons.mpr ⟨wl_552, List.forall_mem_cons.mpr ⟨wl_553, List.forall_mem_cons.mpr ⟨wl_554, List.forall_mem_cons.mpr ⟨wl_555, List.forall_mem_cons.mpr ⟨wl_556, List.forall_mem_cons.mpr ⟨wl_557, List.forall_mem_cons.mpr ⟨wl_558, List.forall_mem_cons.mpr ⟨wl_559, fun _ h => absurd h List.not_mem_nil⟩⟩⟩⟩⟩⟩⟩⟩⟩⟩⟩⟩⟩⟩⟩⟩⟩⟩⟩⟩⟩⟩⟩⟩⟩⟩⟩⟩⟩⟩⟩⟩⟩⟩⟩⟩⟩⟩⟩⟩
set_option maxRecDepth 100000 in
theorem tb_g13 : tb_13.all goodWord = true := by decide +kernel
theorem tb_h13 : GoodIn lw_tbl tb_13 := fun w h => ⟨tb_s13 w h, good_of_word (List.all_eq_true.mp tb_g13 w h)⟩
set_option maxRecDepth 100000 in
theorem tb_s14 : ∀ w ∈ tb_14, w ∈ lw_tbl := List.forall_mem_cons.mpr ⟨wl_560, List.forall_mem_cons.mpr ⟨wl_561, List.forall_mem_cons.mpr ⟨wl_562, List.forall_mem_cons.mpr ⟨wl_563, List.forall_mem_cons.mpr ⟨wl_564, List.forall_mem_cons.mpr ⟨wl_565, List.forall_mem_cons.mpr ⟨wl_566, List.forall_mem_cons.mpr ⟨wl_567, List.forall_mem_cons.mpr ⟨wl_568, List.forall_mem_cons.mpr ⟨wl_569, List.forall_mem_cons.mpr ⟨wl_570, List.forall_mem_cons.mpr ⟨wl_571, List.forall_mem_cons.mpr ⟨wl_572, List.forall_mem_cons.mpr ⟨wl_573, List.forall_mem_cons.mpr ⟨wl_574, List.forall_mem_cons.mpr ⟨wl_575, List.forall_mem_cons.mpr ⟨wl_576, List.forall_mem_cons.mpr ⟨wl_577, List.forall_mem_cons.mpr ⟨wl_578, List.forall_mem_cons.mpr ⟨wl_579, List.forall_mem_cons.mpr ⟨wl_580, List.forall_mem_cons.mpr ⟨wl_581, List.forall_mem_cons.mpr ⟨wl_582, List.forall_mem_cons.mpr ⟨wl_583, List.forall_mem_cons.mpr ⟨wl_584, fun _ h => absurd h List.not_mem_nil⟩⟩⟩⟩⟩⟩⟩⟩⟩⟩⟩⟩⟩⟩⟩⟩⟩⟩⟩⟩⟩⟩⟩⟩⟩
set_option maxRecDepth 100000 in
theorem tb_g14 : tb_14.all goodWord = true := by decide +kernel
theorem tb_h14 : GoodIn lw_tbl tb_14 := fun w h => ⟨tb_s14 w h, good_of_word (List.all_eq_true.mp tb_g14 w h)⟩
theorem good_ap {big a b : List Cond} (ha : GoodIn big a) (hb : GoodIn big b) : GoodIn big (a ++ b) := fun w h => (List.mem_append.mp h).elim (ha w) (hb w)
theorem tb_good : GoodIn lw_tbl tb := good_ap tb_h0 (good_ap tb_h1 (good_ap tb_h2 (good_ap tb_h3 (good_ap tb_h4 (good_ap tb_h5 (good_ap tb_h6 (good_ap tb_h7 (good_ap tb_h8 (good_ap tb_h9 (good_ap tb_h10 (good_ap tb_h11 (good_ap tb_h12 (good_ap tb_h13 tb_h14)))))))))))))
theorem hG : GoodIn tb tb := fun w h => ⟨h, (tb_good w h).2⟩
abbrev vwcl : List vw_C := [(R_SB, F_SB, 7), (R_ByteRow, F_ByteRow, 3), (R_Fault, F_Fault, 2), (R_Function, F_Function, 11), (R_Handler, F_Handler, 5), (R_Kinds, F_Kinds, 0), (R_Program, F_Program, 2), (R_Reader, F_Reader, 3), (R_Verifier, F_Verifier, 11), (R_Mo, F_Mo, 29)]
abbrev artys : List FieldType := [.int, .int, .int, .int, .int, .int, .boolean, .byte, .object "StackBytes$Function", .object "StackBytes$Handler", .int, .int, .int, .int, .int, .int, .int, .int, .int, .int, .int, .int, .int, .int, .boolean, .int, .int, .int, .boolean]
abbrev nestw : List (String × Nat × MethodName × String) := [(R_Function, 34, y_Handler_init, "StackBytes")]
abbrev aoverw : List String := ["StackBytes$Function", "StackBytes$Handler"]
abbrev gg (D : va_G) (dA : Nat → ClassId) : hc_G := (D, dA, vwcl, artys, nestw, aoverw)
theorem nq_Function_34 : (R_Function, 34, y_Handler_init, "StackBytes") ∈ nestw := List.mem_of_getElem? (i := 0) rfl
set_option maxRecDepth 100000 in
theorem cf_SB : hc_cls tb vwcl 0 R_SB F_SB 7 t_SB := ⟨rfl, show ∀ w ∈ ([.laysFinal R_SB "StackBytes" "bytes" "LStackBytes$ByteRow;", .laysFinal R_SB "StackBytes" "written" "LStackBytes$ByteRow;", .laysFinal R_SB "StackBytes" "latest" "LStackBytes$Fault;", .laysFinal R_SB "StackBytes" "reader" "LStackBytes$Reader;", .laysFinal R_SB "StackBytes" "verifier" "LStackBytes$Verifier;", .lays R_SB "StackBytes" "program" "LStackBytes$Program;", .lays R_SB "StackBytes" "spare" "LStackBytes$Program;"] : List Cond), w ∈ tb from List.forall_mem_cons.mpr ⟨wq_509, List.forall_mem_cons.mpr ⟨wq_510, List.forall_mem_cons.mpr ⟨wq_511, List.forall_mem_cons.mpr ⟨wq_512, List.forall_mem_cons.mpr ⟨wq_513, List.forall_mem_cons.mpr ⟨wq_514, List.forall_mem_cons.mpr ⟨wq_515, fun _ h => absurd h List.not_mem_nil⟩⟩⟩⟩⟩⟩⟩, by decide +kernel, by decide +kernel⟩
set_option maxRecDepth 100000 in
theorem cf_ByteRow : hc_cls tb vwcl 1 R_ByteRow F_ByteRow 3 t_ByteRow := ⟨rfl, show ∀ w ∈ ([.laysFinal R_ByteRow "StackBytes$ByteRow" "most" "I", .lays R_ByteRow "StackBytes$ByteRow" "row" "[B", .lays R_ByteRow "StackBytes$ByteRow" "count" "I"] : List Cond), w ∈ tb from List.forall_mem_cons.mpr ⟨wq_516, List.forall_mem_cons.mpr ⟨wq_517, List.forall_mem_cons.mpr ⟨wq_518, fun _ h => absurd h List.not_mem_nil⟩⟩⟩, by decide +kernel, by decide +kernel⟩
set_option maxRecDepth 100000 in
theorem cf_Fault : hc_cls tb vwcl 2 R_Fault F_Fault 2 t_Fault := ⟨rfl, show ∀ w ∈ ([.lays R_Fault "StackBytes$Fault" "kind" "I", .lays R_Fault "StackBytes$Fault" "place" "I"] : List Cond), w ∈ tb from List.forall_mem_cons.mpr ⟨wq_519, List.forall_mem_cons.mpr ⟨wq_520, fun _ h => absurd h List.not_mem_nil⟩⟩, by decide +kernel, by decide +kernel⟩
set_option maxRecDepth 100000 in
theorem cf_Function : hc_cls tb vwcl 3 R_Function F_Function 11 t_Function := ⟨rfl, show ∀ w ∈ ([.lays R_Function "StackBytes$Function" "params" "I", .lays R_Function "StackBytes$Function" "locals" "I", .lays R_Function "StackBytes$Function" "rowLocals" "I", .lays R_Function "StackBytes$Function" "result" "I", .lays R_Function "StackBytes$Function" "count" "I", .lays R_Function "StackBytes$Function" "handlerCount" "I", .laysFinal R_Function "StackBytes$Function" "ops" "[I", .laysFinal R_Function "StackBytes$Function" "behinds" "[I", .laysFinal R_Function "StackBytes$Function" "depths" "[I", .laysFinal R_Function "StackBytes$Function" "rowsOnStack" "[I", .laysFinal R_Function "StackBytes$Function" "handlers" "[LStackBytes$Handler;"] : List Cond), w ∈ tb from List.forall_mem_cons.mpr ⟨wq_521, List.forall_mem_cons.mpr ⟨wq_522, List.forall_mem_cons.mpr ⟨wq_523, List.forall_mem_cons.mpr ⟨wq_524, List.forall_mem_cons.mpr ⟨wq_525, List.forall_mem_cons.mpr ⟨wq_526, List.forall_mem_cons.mpr ⟨wq_527, List.forall_mem_cons.mpr ⟨wq_528, List.forall_mem_cons.mpr ⟨wq_529, List.forall_mem_cons.mpr ⟨wq_530, List.forall_mem_cons.mpr ⟨wq_531, fun _ h => absurd h List.not_mem_nil⟩⟩⟩⟩⟩⟩⟩⟩⟩⟩⟩, by decide +kernel, by decide +kernel⟩
set_option maxRecDepth 100000 in
theorem cf_Handler : hc_cls tb vwcl 4 R_Handler F_Handler 5 t_Handler := ⟨rfl, show ∀ w ∈ ([.lays R_Handler "StackBytes$Handler" "from" "I", .lays R_Handler "StackBytes$Handler" "to" "I", .lays R_Handler "StackBytes$Handler" "target" "I", .lays R_Handler "StackBytes$Handler" "forAny" "Z", .lays R_Handler "StackBytes$Handler" "code" "I"] : List Cond), w ∈ tb from List.forall_mem_cons.mpr ⟨wq_532, List.forall_mem_cons.mpr ⟨wq_533, List.forall_mem_cons.mpr ⟨wq_534, List.forall_mem_cons.mpr ⟨wq_535, List.forall_mem_cons.mpr ⟨wq_536, fun _ h => absurd h List.not_mem_nil⟩⟩⟩⟩⟩, by decide +kernel, by decide +kernel⟩
set_option maxRecDepth 100000 in
theorem cf_Kinds : hc_cls tb vwcl 5 R_Kinds F_Kinds 0 t_Kinds := ⟨rfl, show ∀ w ∈ ([] : List Cond), w ∈ tb from fun _ h => absurd h List.not_mem_nil, by decide +kernel, by decide +kernel⟩
set_option maxRecDepth 100000 in
theorem cf_Program : hc_cls tb vwcl 6 R_Program F_Program 2 t_Program := ⟨rfl, show ∀ w ∈ ([.laysFinal R_Program "StackBytes$Program" "functions" "[LStackBytes$Function;", .lays R_Program "StackBytes$Program" "count" "I"] : List Cond), w ∈ tb from List.forall_mem_cons.mpr ⟨wq_537, List.forall_mem_cons.mpr ⟨wq_538, fun _ h => absurd h List.not_mem_nil⟩⟩, by decide +kernel, by decide +kernel⟩
set_option maxRecDepth 100000 in
theorem cf_Reader : hc_cls tb vwcl 7 R_Reader F_Reader 3 t_Reader := ⟨rfl, show ∀ w ∈ ([.laysFinal R_Reader "StackBytes$Reader" "in" "LStackBytes$ByteRow;", .laysFinal R_Reader "StackBytes$Reader" "fault" "LStackBytes$Fault;", .lays R_Reader "StackBytes$Reader" "at" "I"] : List Cond), w ∈ tb from List.forall_mem_cons.mpr ⟨wq_539, List.forall_mem_cons.mpr ⟨wq_540, List.forall_mem_cons.mpr ⟨wq_541, fun _ h => absurd h List.not_mem_nil⟩⟩⟩, by decide +kernel, by decide +kernel⟩
set_option maxRecDepth 100000 in
theorem cf_Verifier : hc_cls tb vwcl 8 R_Verifier F_Verifier 11 t_Verifier := ⟨rfl, show ∀ w ∈ ([.laysFinal R_Verifier "StackBytes$Verifier" "fault" "LStackBytes$Fault;", .laysFinal R_Verifier "StackBytes$Verifier" "depths" "[I", .laysFinal R_Verifier "StackBytes$Verifier" "rowsOnStack" "[I", .laysFinal R_Verifier "StackBytes$Verifier" "waits" "[Z", .lays R_Verifier "StackBytes$Verifier" "leastWaiting" "I", .lays R_Verifier "StackBytes$Verifier" "program" "LStackBytes$Program;", .lays R_Verifier "StackBytes$Verifier" "function" "LStackBytes$Function;", .lays R_Verifier "StackBytes$Verifier" "firstPlace" "I", .lays R_Verifier "StackBytes$Verifier" "current" "I", .lays R_Verifier "StackBytes$Verifier" "depth" "I", .lays R_Verifier "StackBytes$Verifier" "rows" "I"] : List Cond), w ∈ tb from List.forall_mem_cons.mpr ⟨wq_542, List.forall_mem_cons.mpr ⟨wq_543, List.forall_mem_cons.mpr ⟨wq_544, List.forall_mem_cons.mpr ⟨wq_545, List.forall_mem_cons.mpr ⟨wq_546, List.forall_mem_cons.mpr ⟨wq_547, List.forall_mem_cons.mpr ⟨wq_548, List.forall_mem_cons.mpr ⟨wq_549, List.forall_mem_cons.mpr ⟨wq_550, List.forall_mem_cons.mpr ⟨wq_551, List.forall_mem_cons.mpr ⟨wq_552, fun _ h => absurd h List.not_mem_nil⟩⟩⟩⟩⟩⟩⟩⟩⟩⟩⟩, by decide +kernel, by decide +kernel⟩
set_option maxRecDepth 100000 in
theorem cf_Mo : hc_cls tb vwcl 9 R_Mo F_Mo 29 t_Mo := ⟨rfl, show ∀ w ∈ ([.lays R_Mo "StackBytesModel" "thrown" "I", .laysFinal R_Mo "StackBytesModel" "bytes" "[I", .lays R_Mo "StackBytesModel" "many" "I", .laysFinal R_Mo "StackBytesModel" "written" "[I", .lays R_Mo "StackBytesModel" "writtenMany" "I", .lays R_Mo "StackBytesModel" "fault" "I", .lays R_Mo "StackBytesModel" "place" "I", .lays R_Mo "StackBytesModel" "bad" "I", .lays R_Mo "StackBytesModel" "where" "I", .laysFinal R_Mo "StackBytesModel" "functions" "[I", .laysFinal R_Mo "StackBytesModel" "params" "[I", .laysFinal R_Mo "StackBytesModel" "locals" "[I", .laysFinal R_Mo "StackBytesModel" "rowBits" "[I", .laysFinal R_Mo "StackBytesModel" "results" "[I", .laysFinal R_Mo "StackBytesModel" "sizes" "[I", .laysFinal R_Mo "StackBytesModel" "handlerMany" "[I", .laysFinal R_Mo "StackBytesModel" "ops" "[I", .laysFinal R_Mo "StackBytesModel" "operands" "[I", .laysFinal R_Mo "StackBytesModel" "froms" "[I", .laysFinal R_Mo "StackBytesModel" "tos" "[I", .laysFinal R_Mo "StackBytesModel" "targets" "[I", .laysFinal R_Mo "StackBytesModel" "anyCode" "[Z", .laysFinal R_Mo "StackBytesModel" "handlerCodes" "[I", .laysFinal R_Mo "StackBytesModel" "heights" "[I", .laysFinal R_Mo "StackBytesModel" "kinds" "[I", .laysFinal R_Mo "StackBytesModel" "waits" "[Z", .lays R_Mo "StackBytesModel" "p" "I", .lays R_Mo "StackBytesModel" "height" "I", .lays R_Mo "StackBytesModel" "kind" "I"] : List Cond), w ∈ tb from List.forall_mem_cons.mpr ⟨wq_553, List.forall_mem_cons.mpr ⟨wq_554, List.forall_mem_cons.mpr ⟨wq_555, List.forall_mem_cons.mpr ⟨wq_556, List.forall_mem_cons.mpr ⟨wq_557, List.forall_mem_cons.mpr ⟨wq_558, List.forall_mem_cons.mpr ⟨wq_559, List.forall_mem_cons.mpr ⟨wq_560, List.forall_mem_cons.mpr ⟨wq_561, List.forall_mem_cons.mpr ⟨wq_562, List.forall_mem_cons.mpr ⟨wq_563, List.forall_mem_cons.mpr ⟨wq_564, List.forall_mem_cons.mpr ⟨wq_565, List.forall_mem_cons.mpr ⟨wq_566, List.forall_mem_cons.mpr ⟨wq_567, List.forall_mem_cons.mpr ⟨wq_568, List.forall_mem_cons.mpr ⟨wq_569, List.forall_mem_cons.mpr ⟨wq_570, List.forall_mem_cons.mpr ⟨wq_571, List.forall_mem_cons.mpr ⟨wq_572, List.forall_mem_cons.mpr ⟨wq_573, List.forall_mem_cons.mpr ⟨wq_574, List.forall_mem_cons.mpr ⟨wq_575, List.forall_mem_cons.mpr ⟨wq_576, List.forall_mem_cons.mpr ⟨wq_577, List.forall_mem_cons.mpr ⟨wq_578, List.forall_mem_cons.mpr ⟨wq_579, List.forall_mem_cons.mpr ⟨wq_580, List.forall_mem_cons.mpr ⟨wq_581, fun _ h => absurd h List.not_mem_nil⟩⟩⟩⟩⟩⟩⟩⟩⟩⟩⟩⟩⟩⟩⟩⟩⟩⟩⟩⟩⟩⟩⟩⟩⟩⟩⟩⟩⟩, by decide +kernel, by decide +kernel⟩
end
section
def p_ByteRow_init (o : Option Nat) (x1 : Int32) : hM Unit :=
  hm_bind (hm_puti 1 0 o x1) fun _ =>
  hm_bind (hm_newi 7 64) fun q1 =>
  hm_bind (hm_putr 1 1 o (some q1)) fun _ =>
  hm_bind (hm_puti 1 2 o 0) fun _ =>
  hm_ret ()
def p_Fault_init (o : Option Nat) : hM Unit :=
  hm_bind (hm_puti 2 0 o 0) fun _ =>
  hm_bind (hm_puti 2 1 o (-1)) fun _ =>
  hm_ret ()
def p_Reader_init (o : Option Nat) (x1 : Option Nat) (x2 : Option Nat) : hM Unit :=
  hm_bind (hm_putr 7 0 o x1) fun _ =>
  hm_bind (hm_putr 7 1 o x2) fun _ =>
  hm_bind (hm_puti 7 2 o 0) fun _ =>
  hm_ret ()
def p_Verifier_init (o : Option Nat) (x1 : Option Nat) : hM Unit :=
  hm_bind (hm_newi 4 400) fun q1 =>
  hm_bind (hm_putr 8 1 o (some q1)) fun _ =>
  hm_bind (hm_newi 5 400) fun q2 =>
  hm_bind (hm_putr 8 2 o (some q2)) fun _ =>
  hm_bind (hm_newi 6 400) fun q3 =>
  hm_bind (hm_putr 8 3 o (some q3)) fun _ =>
  hm_bind (hm_putr 8 0 o x1) fun _ =>
  hm_ret ()
def p_Handler_init (o : Option Nat) : hM Unit :=
  hm_ret ()
def p_Function_init_64 (x0 : Option Nat) (kx : hM Unit) : Nat → Int32 → hM Unit
  | 0, _ => hm_fail
  | fu + 1, v1 =>
    if 6 ≤ v1 then (
      kx)
    else (
      hm_bind (hm_getr 3 10 x0) fun a7 =>
      hm_bind (hm_new 4 5 [vi_ 0, vi_ 0, vi_ 0, vi_ 0, vi_ 0]) fun q8 =>
      hm_bind (p_Handler_init (some q8) ) fun _ =>
      hm_bind (hm_qst 9 4 a7 v1 (some q8)) fun _ =>
      p_Function_init_64 x0 kx fu (v1 + 1))
def p_Function_init (o : Option Nat) : hM Unit :=
  hm_bind (hm_newi 0 400) fun q1 =>
  hm_bind (hm_putr 3 6 o (some q1)) fun _ =>
  hm_bind (hm_newi 1 400) fun q2 =>
  hm_bind (hm_putr 3 7 o (some q2)) fun _ =>
  hm_bind (hm_newi 2 400) fun q3 =>
  hm_bind (hm_putr 3 8 o (some q3)) fun _ =>
  hm_bind (hm_newi 3 400) fun q4 =>
  hm_bind (hm_putr 3 9 o (some q4)) fun _ =>
  hm_bind (hm_newq 9 6) fun q5 =>
  hm_bind (hm_putr 3 10 o (some q5)) fun _ =>
  hm_bind (hm_puti 3 4 o 1) fun _ =>
  hm_bind (hm_getr 3 6 o) fun a6 =>
  hm_bind (hm_ist 0 a6 0 27) fun _ =>
  p_Function_init_64 o (
    hm_ret ()) hm_fuel 0
def p_Program_init (o : Option Nat) : hM Unit :=
  hm_bind (hm_newq 8 12) fun q1 =>
  hm_bind (hm_putr 6 0 o (some q1)) fun _ =>
  hm_bind (hm_getr 6 0 o) fun a2 =>
  hm_bind (hm_new 3 11 [vi_ 0, vi_ 0, vi_ 0, vi_ 0, vi_ 0, vi_ 0, vr_ none, vr_ none, vr_ none, vr_ none, vr_ none]) fun q3 =>
  hm_bind (p_Function_init (some q3) ) fun _ =>
  hm_bind (hm_qst 8 3 a2 0 (some q3)) fun _ =>
  hm_bind (hm_puti 6 1 o 1) fun _ =>
  hm_ret ()
def p_SB_init (o : Option Nat) : hM Unit :=
  hm_bind (hm_new 1 3 [vi_ 0, vr_ none, vi_ 0]) fun q1 =>
  hm_bind (p_ByteRow_init (some q1) 4096) fun _ =>
  hm_bind (hm_putr 0 0 o (some q1)) fun _ =>
  hm_bind (hm_new 1 3 [vi_ 0, vr_ none, vi_ 0]) fun q2 =>
  hm_bind (p_ByteRow_init (some q2) 24892) fun _ =>
  hm_bind (hm_putr 0 1 o (some q2)) fun _ =>
  hm_bind (hm_new 2 2 [vi_ 0, vi_ 0]) fun q3 =>
  hm_bind (p_Fault_init (some q3) ) fun _ =>
  hm_bind (hm_putr 0 2 o (some q3)) fun _ =>
  hm_bind (hm_new 7 3 [vr_ none, vr_ none, vi_ 0]) fun q4 =>
  hm_bind (hm_getr 0 0 o) fun a5 =>
  hm_bind (hm_getr 0 2 o) fun a6 =>
  hm_bind (p_Reader_init (some q4) a5 a6) fun _ =>
  hm_bind (hm_putr 0 3 o (some q4)) fun _ =>
  hm_bind (hm_new 8 11 [vr_ none, vr_ none, vr_ none, vr_ none, vi_ 0, vr_ none, vr_ none, vi_ 0, vi_ 0, vi_ 0, vi_ 0]) fun q7 =>
  hm_bind (hm_getr 0 2 o) fun a8 =>
  hm_bind (p_Verifier_init (some q7) a8) fun _ =>
  hm_bind (hm_putr 0 4 o (some q7)) fun _ =>
  hm_bind (hm_new 6 2 [vr_ none, vi_ 0]) fun q9 =>
  hm_bind (p_Program_init (some q9) ) fun _ =>
  hm_bind (hm_putr 0 5 o (some q9)) fun _ =>
  hm_bind (hm_new 6 2 [vr_ none, vi_ 0]) fun q10 =>
  hm_bind (p_Program_init (some q10) ) fun _ =>
  hm_bind (hm_putr 0 6 o (some q10)) fun _ =>
  hm_ret ()
def p_Ar_copyOf (x0 : Option Nat) (x1 : Int32) : hM (Option Nat) :=
  hm_bind (hm_leni 7 x0) fun a1 =>
  if x1 = a1 then (
    hm_fail)
  else (
    hm_bind (hm_newi 7 x1) fun q2 =>
    hm_bind (hm_leni 7 x0) fun a3 =>
    hm_bind (hm_copy 7 7 x0 0 (some q2) 0 (if x1 < a3 then x1 else a3)) fun _ =>
    hm_ret (some q2))
def p_ByteRow_makeRoom (o : Option Nat) (x1 : Int32) : hM Unit :=
  hm_bind (hm_getr 1 1 o) fun a1 =>
  hm_bind (hm_leni 7 a1) fun a2 =>
  if x1 ≤ a2 then (
    hm_ret ())
  else (
    hm_bind (hm_getr 1 1 o) fun a3 =>
    hm_bind (hm_geti 1 0 o) fun a4 =>
    hm_bind (hm_getr 1 1 o) fun a5 =>
    hm_bind (hm_leni 7 a5) fun a6 =>
    hm_bind (p_Ar_copyOf a3 (if x1 < (if (2 * a6) < a4 then (2 * a6) else a4) then (if (2 * a6) < a4 then (2 * a6) else a4) else x1)) fun a7 =>
    hm_bind (hm_putr 1 1 o a7) fun _ =>
    hm_ret ())
def p_ByteRow_add_30 (x0 : Option Nat) (x1 : Int64) (kx : hM Int32) : Nat → Int32 → hM Int32
  | 0, _ => hm_fail
  | fu + 1, v4 =>
    if v4 < 0 then (
      kx)
    else (
      hm_bind (hm_getr 1 1 x0) fun a4 =>
      hm_bind (hm_geti 1 2 x0) fun a5 =>
      hm_bind (hm_ist 7 a4 a5 ((Int32.toInt8 ((Int32.toInt8 (Int64.toInt32 (x1 >>> (Int32.toInt64 (8 * v4) &&& 63)))).toInt32)).toInt32)) fun _ =>
      hm_bind (hm_geti 1 2 x0) fun a6 =>
      hm_bind (hm_puti 1 2 x0 (a6 + 1)) fun _ =>
      p_ByteRow_add_30 x0 x1 kx fu (v4 + (-1)))
def p_ByteRow_add (o : Option Nat) (x1 : Int64) (x3 : Int32) : hM Int32 :=
  hm_bind (hm_geti 1 0 o) fun a1 =>
  hm_bind (hm_geti 1 2 o) fun a2 =>
  if x3 ≤ (a1 - a2) then (
    hm_bind (hm_geti 1 2 o) fun a3 =>
    hm_bind (hm_on 1 o (p_ByteRow_makeRoom o (a3 + x3))) fun _ =>
    p_ByteRow_add_30 o x1 (
      hm_z 1) hm_fuel (x3 - 1))
  else (
    hm_z 0)
def p_SB_give (o : Option Nat) (x1 : Int64) (x3 : Int32) : hM Int32 :=
  if x3 < 1 then (
    hm_z 0)
  else (
    if 8 < x3 then (
      hm_z 0)
    else (
      hm_bind (hm_getr 0 0 o) fun a1 =>
      hm_bind (hm_on 1 a1 (p_ByteRow_add a1 x1 x3)) fun a2 =>
      if a2 = 0 then (
        hm_z 0)
      else (
        hm_z 1)))
def p_ByteRow_keepFirst (o : Option Nat) (x1 : Int32) : hM Int32 :=
  if x1 < 0 then (
    hm_z 0)
  else (
    hm_bind (hm_geti 1 2 o) fun a1 =>
    if x1 ≤ a1 then (
      hm_bind (hm_puti 1 2 o x1) fun _ =>
      hm_z 1)
    else (
      hm_z 0))
def p_SB_cut (o : Option Nat) (x1 : Int32) : hM Int32 :=
  hm_bind (hm_getr 0 0 o) fun a1 =>
  hm_bind (hm_on 1 a1 (p_ByteRow_keepFirst a1 x1)) fun a2 =>
  hm_z a2
def p_ByteRow_set (o : Option Nat) (x1 : Int32) (x2 : Int32) : hM Int32 :=
  if x1 < 0 then (
    hm_z 0)
  else (
    hm_bind (hm_geti 1 2 o) fun a1 =>
    if x1 < a1 then (
      hm_bind (hm_getr 1 1 o) fun a2 =>
      hm_bind (hm_ist 7 a2 x1 ((Int32.toInt8 ((Int32.toInt8 x2).toInt32)).toInt32)) fun _ =>
      hm_z 1)
    else (
      hm_z 0))
def p_SB_poke (o : Option Nat) (x1 : Int32) (x2 : Int32) : hM Int32 :=
  hm_bind (hm_getr 0 0 o) fun a1 =>
  hm_bind (hm_on 1 a1 (p_ByteRow_set a1 x1 x2)) fun a2 =>
  hm_z a2
def p_Fault_clear (o : Option Nat) : hM Unit :=
  hm_bind (hm_puti 2 0 o 0) fun _ =>
  hm_bind (hm_puti 2 1 o (-1)) fun _ =>
  hm_ret ()
def p_Fault_tell (o : Option Nat) (x1 : Int32) (x2 : Int32) : hM Unit :=
  hm_bind (hm_geti 2 0 o) fun a1 =>
  if a1 = 0 then (
    hm_bind (hm_puti 2 0 o x1) fun _ =>
    hm_bind (hm_puti 2 1 o x2) fun _ =>
    hm_ret ())
  else (
    hm_ret ())
def p_ByteRow_at (o : Option Nat) (x1 : Int32) : hM Int32 :=
  if x1 < 0 then (
    hm_ret (-1))
  else (
    hm_bind (hm_geti 1 2 o) fun a1 =>
    if x1 < a1 then (
      hm_bind (hm_getr 1 1 o) fun a2 =>
      hm_bind (hm_ild 7 a2 x1) fun a3 =>
      hm_ret (a3 &&& 255))
    else (
      hm_ret (-1)))
def p_Reader_nextByte (o : Option Nat) : hM Int32 :=
  hm_bind (hm_geti 7 2 o) fun a1 =>
  hm_bind (hm_getr 7 0 o) fun a2 =>
  hm_bind (hm_geti 1 2 a2) fun a3 =>
  if a1 < a3 then (
    hm_bind (hm_getr 7 0 o) fun a4 =>
    hm_bind (hm_geti 7 2 o) fun a5 =>
    hm_bind (hm_on 1 a4 (p_ByteRow_at a4 a5)) fun a6 =>
    hm_bind (hm_geti 7 2 o) fun a7 =>
    hm_bind (hm_puti 7 2 o (a7 + 1)) fun _ =>
    hm_ret a6)
  else (
    hm_bind (hm_getr 7 1 o) fun a8 =>
    hm_bind (hm_getr 7 0 o) fun a9 =>
    hm_bind (hm_geti 1 2 a9) fun a10 =>
    hm_bind (hm_on 2 a8 (p_Fault_tell a8 1 a10)) fun _ =>
    hm_ret 0)
def p_Reader_start (o : Option Nat) (x1 : Int32) : hM Unit :=
  hm_bind (hm_geti 7 2 o) fun a1 =>
  hm_bind (hm_on 7 o (p_Reader_nextByte o )) fun a2 =>
  if a2 = x1 then (
    hm_ret ())
  else (
    hm_bind (hm_getr 7 1 o) fun a3 =>
    hm_bind (hm_on 2 a3 (p_Fault_tell a3 2 a1)) fun _ =>
    hm_ret ())
def p_Reader_number_12 (x0 : Option Nat) (x1 : Int32) (x2 : Int32) (x3 : Int32) (x4 : Int32) (kx : Int32 → hM Int32) : Nat → Int32 → Int32 → hM Int32
  | 0, _, _ => hm_fail
  | fu + 1, v5, v6 =>
    if x1 ≤ v6 then (
      kx v5)
    else (
      hm_bind (hm_on 7 x0 (p_Reader_nextByte x0 )) fun a2 =>
      p_Reader_number_12 x0 x1 x2 x3 x4 kx fu ((v5 <<< ((8 : Int32) &&& 31)) ||| a2) (v6 + 1))
def p_Reader_number (o : Option Nat) (x1 : Int32) (x2 : Int32) (x3 : Int32) : hM Int32 :=
  hm_bind (hm_geti 7 2 o) fun a1 =>
  p_Reader_number_12 o x1 x2 x3 a1 (fun (v5_3 : Int32) =>
    hm_jn (
      hm_bind (hm_getr 7 1 o) fun a4 =>
      hm_bind (hm_geti 2 0 a4) fun a5 =>
      if a5 = 0 then (
        hm_ret v5_3)
      else (
        hm_ret x2)) fun k58 =>
    hm_jn (
      hm_bind (hm_getr 7 1 o) fun a6 =>
      hm_bind (hm_on 2 a6 (p_Fault_tell a6 3 a1)) fun _ =>
      k58) fun k48 =>
    if v5_3 < x2 then (
      k48)
    else (
      if v5_3 ≤ x3 then (
        k58)
      else (
        k48))) hm_fuel 0 0
def p_Program_setCount_2 (x0 : Option Nat) (x1 : Int32) (kx : hM Unit) : Nat → Int32 → hM Unit
  | 0, _ => hm_fail
  | fu + 1, v2 =>
    if x1 ≤ v2 then (
      kx)
    else (
      hm_bind (hm_getr 6 0 x0) fun a1 =>
      hm_bind (hm_qld 8 a1 v2) fun a2 =>
      hm_jn (
        p_Program_setCount_2 x0 x1 kx fu (v2 + 1)) fun k29 =>
      if a2 = none then (
        hm_bind (hm_getr 6 0 x0) fun a3 =>
        hm_bind (hm_new 3 11 [vi_ 0, vi_ 0, vi_ 0, vi_ 0, vi_ 0, vi_ 0, vr_ none, vr_ none, vr_ none, vr_ none, vr_ none]) fun q4 =>
        hm_bind (p_Function_init (some q4) ) fun _ =>
        hm_bind (hm_qst 8 3 a3 v2 (some q4)) fun _ =>
        k29)
      else (
        k29))
def p_Program_setCount (o : Option Nat) (x1 : Int32) : hM Unit :=
  p_Program_setCount_2 o x1 (
    hm_bind (hm_puti 6 1 o x1) fun _ =>
    hm_ret ()) hm_fuel 0
def p_Reader_head (o : Option Nat) (x1 : Option Nat) (x2 : Int32) : hM Unit :=
  hm_jn (fun (z1 : Int32) =>
    hm_bind (hm_on 7 o (p_Reader_number o 1 0 z1)) fun a2 =>
    hm_bind (hm_puti 3 0 x1 a2) fun _ =>
    hm_bind (hm_geti 3 0 x1) fun a3 =>
    hm_bind (hm_on 7 o (p_Reader_number o 1 a3 12)) fun a4 =>
    hm_bind (hm_puti 3 1 x1 a4) fun _ =>
    hm_bind (hm_geti 3 1 x1) fun a5 =>
    hm_bind (hm_on 7 o (p_Reader_number o 2 0 (((1 : Int32) <<< (a5 &&& 31)) - 1))) fun a6 =>
    hm_bind (hm_puti 3 2 x1 a6) fun _ =>
    hm_jn (fun (z7 : Int32) =>
      hm_bind (hm_on 7 o (p_Reader_number o 1 0 z7)) fun a8 =>
      hm_bind (hm_puti 3 3 x1 a8) fun _ =>
      hm_bind (hm_on 7 o (p_Reader_number o 2 1 400)) fun a9 =>
      hm_bind (hm_puti 3 4 x1 a9) fun _ =>
      hm_ret ()) fun k65 =>
    if x2 = 0 then (
      k65 2)
    else (
      k65 1)) fun k13 =>
  if x2 = 0 then (
    k13 4)
  else (
    k13 0)
def p_Kinds_bytesBehind (x0 : Int32) : hM Int32 :=
  if x0 = 0 then (
    hm_ret 4)
  else (
    if x0 = 4 ∨ x0 = 5 ∨ x0 = 25 ∨ x0 = 26 ∨ x0 = 29 then (
      hm_ret 1)
    else (
      if x0 = 18 ∨ x0 = 19 ∨ x0 = 20 then (
        hm_ret 2)
      else (
        hm_ret 0)))
def p_Kinds_leastBehind (x0 : Int32) : hM Int32 :=
  if x0 = 0 then (
    hm_ret (-2147483648))
  else (
    hm_ret 0)
def p_Kinds_mostBehind (x0 : Int32) (x1 : Option Nat) (x2 : Int32) : hM Int32 :=
  if x0 = 0 then (
    hm_ret 2147483647)
  else (
    if x0 = 4 ∨ x0 = 5 then (
      hm_bind (hm_geti 3 1 x1) fun a1 =>
      hm_ret (a1 - 1))
    else (
      if x0 = 18 ∨ x0 = 19 ∨ x0 = 20 then (
        hm_bind (hm_geti 3 4 x1) fun a2 =>
        hm_ret (a2 - 1))
      else (
        if x0 = 25 then (
          hm_ret (x2 - 1))
        else (
          if x0 = 26 ∨ x0 = 29 then (
            hm_ret 15)
          else (
            hm_ret 0)))))
def p_Reader_instructions_2 (x0 : Option Nat) (x1 : Option Nat) (x2 : Int32) (kx : hM Unit) : Nat → Int32 → hM Unit
  | 0, _ => hm_fail
  | fu + 1, v3 =>
    hm_bind (hm_geti 3 4 x1) fun a1 =>
    if a1 ≤ v3 then (
      kx)
    else (
      hm_bind (hm_getr 7 1 x0) fun a2 =>
      hm_bind (hm_geti 2 0 a2) fun a3 =>
      if a3 = 0 then (
        hm_bind (hm_on 7 x0 (p_Reader_number x0 1 0 29)) fun a4 =>
        hm_bind (hm_getr 3 6 x1) fun a5 =>
        hm_bind (hm_ist 0 a5 v3 a4) fun _ =>
        hm_bind (hm_getr 3 7 x1) fun a6 =>
        hm_bind (p_Kinds_bytesBehind a4) fun a7 =>
        hm_bind (p_Kinds_leastBehind a4) fun a8 =>
        hm_bind (p_Kinds_mostBehind a4 x1 x2) fun a9 =>
        hm_bind (hm_on 7 x0 (p_Reader_number x0 a7 a8 a9)) fun a10 =>
        hm_bind (hm_ist 1 a6 v3 a10) fun _ =>
        p_Reader_instructions_2 x0 x1 x2 kx fu (v3 + 1))
      else (
        kx))
def p_Reader_instructions (o : Option Nat) (x1 : Option Nat) (x2 : Int32) : hM Unit :=
  p_Reader_instructions_2 o x1 x2 (
    hm_ret ()) hm_fuel 0
def p_Reader_handlers_14 (x0 : Option Nat) (x1 : Option Nat) (kx : hM Unit) : Nat → Int32 → hM Unit
  | 0, _ => hm_fail
  | fu + 1, v2 =>
    hm_bind (hm_geti 3 5 x1) fun a2 =>
    if a2 ≤ v2 then (
      kx)
    else (
      hm_bind (hm_getr 7 1 x0) fun a3 =>
      hm_bind (hm_geti 2 0 a3) fun a4 =>
      if a4 = 0 then (
        hm_bind (hm_getr 3 10 x1) fun a5 =>
        hm_bind (hm_qld 9 a5 v2) fun a6 =>
        hm_bind (hm_geti 3 4 x1) fun a7 =>
        hm_bind (hm_on 7 x0 (p_Reader_number x0 2 0 (a7 - 1))) fun a8 =>
        hm_bind (hm_puti 4 0 a6 a8) fun _ =>
        hm_bind (hm_geti 4 0 a6) fun a9 =>
        hm_bind (hm_geti 3 4 x1) fun a10 =>
        hm_bind (hm_on 7 x0 (p_Reader_number x0 2 (a9 + 1) a10)) fun a11 =>
        hm_bind (hm_puti 4 1 a6 a11) fun _ =>
        hm_bind (hm_geti 3 4 x1) fun a12 =>
        hm_bind (hm_on 7 x0 (p_Reader_number x0 2 0 (a12 - 1))) fun a13 =>
        hm_bind (hm_puti 4 2 a6 a13) fun _ =>
        hm_bind (hm_on 7 x0 (p_Reader_number x0 1 0 1)) fun a14 =>
        hm_jn (fun (z15 : Int32) =>
          hm_bind (hm_putz 4 3 a6 z15) fun _ =>
          hm_bind (hm_geti 4 3 a6) fun a16 =>
          hm_jn (fun (z17 : Int32) =>
            hm_bind (hm_on 7 x0 (p_Reader_number x0 z17 (-2147483648) 2147483647)) fun a18 =>
            hm_bind (hm_puti 4 4 a6 a18) fun _ =>
            p_Reader_handlers_14 x0 x1 kx fu (v2 + 1)) fun k123 =>
          if a16 = 0 then (
            k123 4)
          else (
            k123 0)) fun k106 =>
        if a14 = 0 then (
          k106 1)
        else (
          k106 0))
      else (
        kx))
def p_Reader_handlers (o : Option Nat) (x1 : Option Nat) : hM Unit :=
  hm_bind (hm_on 7 o (p_Reader_number o 1 0 6)) fun a1 =>
  hm_bind (hm_puti 3 5 x1 a1) fun _ =>
  p_Reader_handlers_14 o x1 (
    hm_ret ()) hm_fuel 0
def p_Reader_readInto_36 (x0 : Option Nat) (x1 : Option Nat) (kx : hM Unit) : Nat → Int32 → hM Unit
  | 0, _ => hm_fail
  | fu + 1, v2 =>
    hm_bind (hm_geti 6 1 x1) fun a2 =>
    if a2 ≤ v2 then (
      kx)
    else (
      hm_bind (hm_getr 7 1 x0) fun a3 =>
      hm_bind (hm_geti 2 0 a3) fun a4 =>
      if a4 = 0 then (
        hm_bind (hm_getr 6 0 x1) fun a5 =>
        hm_bind (hm_qld 8 a5 v2) fun a6 =>
        hm_jn (fun (z7 : Int32) =>
          hm_bind (hm_on 7 x0 (p_Reader_head x0 a6 z7)) fun _ =>
          hm_bind (hm_getr 6 0 x1) fun a8 =>
          hm_bind (hm_qld 8 a8 v2) fun a9 =>
          hm_bind (hm_geti 6 1 x1) fun a10 =>
          hm_bind (hm_on 7 x0 (p_Reader_instructions x0 a9 a10)) fun _ =>
          hm_bind (hm_getr 6 0 x1) fun a11 =>
          hm_bind (hm_qld 8 a11 v2) fun a12 =>
          hm_bind (hm_on 7 x0 (p_Reader_handlers x0 a12)) fun _ =>
          p_Reader_readInto_36 x0 x1 kx fu (v2 + 1)) fun k70 =>
        if v2 = 0 then (
          k70 1)
        else (
          k70 0))
      else (
        kx))
def p_Reader_readInto (o : Option Nat) (x1 : Option Nat) : hM Unit :=
  hm_bind (hm_puti 7 2 o 0) fun _ =>
  hm_bind (hm_on 7 o (p_Reader_start o 71)) fun _ =>
  hm_bind (hm_on 7 o (p_Reader_start o 70)) fun _ =>
  hm_bind (hm_on 7 o (p_Reader_start o 1)) fun _ =>
  hm_bind (hm_on 7 o (p_Reader_number o 1 1 12)) fun a1 =>
  hm_bind (hm_on 6 x1 (p_Program_setCount x1 a1)) fun _ =>
  p_Reader_readInto_36 o x1 (
    hm_bind (hm_geti 7 2 o) fun a13 =>
    hm_bind (hm_getr 7 0 o) fun a14 =>
    hm_bind (hm_geti 1 2 a14) fun a15 =>
    if a15 ≤ a13 then (
      hm_ret ())
    else (
      hm_bind (hm_getr 7 1 o) fun a16 =>
      hm_bind (hm_geti 7 2 o) fun a17 =>
      hm_bind (hm_on 2 a16 (p_Fault_tell a16 4 a17)) fun _ =>
      hm_ret ())) hm_fuel 0
def p_Program_at (o : Option Nat) (x1 : Int32) : hM (Option Nat) :=
  hm_jn (
    hm_ret none) fun k12 =>
  if x1 < 0 then (
    k12)
  else (
    hm_bind (hm_geti 6 1 o) fun a1 =>
    if x1 < a1 then (
      hm_bind (hm_getr 6 0 o) fun a2 =>
      hm_bind (hm_qld 8 a2 x1) fun a3 =>
      hm_ret a3)
    else (
      k12))
def p_Function_has (o : Option Nat) (x1 : Int32) : hM Int32 :=
  if x1 < 0 then (
    hm_z 0)
  else (
    hm_bind (hm_geti 3 4 o) fun a1 =>
    if a1 ≤ x1 then (
      hm_z 0)
    else (
      hm_z 1))
def p_Verifier_comeTo (o : Option Nat) (x1 : Int32) (x2 : Int32) (x3 : Int32) : hM Unit :=
  hm_bind (hm_getr 8 0 o) fun a1 =>
  hm_bind (hm_geti 2 0 a1) fun a2 =>
  if a2 = 0 then (
    hm_bind (hm_getr 8 6 o) fun a3 =>
    hm_bind (hm_on 3 a3 (p_Function_has a3 x1)) fun a4 =>
    if a4 = 0 then (
      hm_ret ())
    else (
      hm_bind (hm_getr 8 1 o) fun a5 =>
      hm_bind (hm_ild 4 a5 x1) fun a6 =>
      if a6 = (-1) then (
        hm_bind (hm_getr 8 1 o) fun a13 =>
        hm_bind (hm_ist 4 a13 x1 x2) fun _ =>
        hm_bind (hm_getr 8 2 o) fun a14 =>
        hm_bind (hm_ist 5 a14 x1 x3) fun _ =>
        hm_bind (hm_getr 8 3 o) fun a15 =>
        hm_bind (hm_ist 6 a15 x1 (1 &&& 1)) fun _ =>
        hm_bind (hm_geti 8 4 o) fun a16 =>
        hm_bind (hm_puti 8 4 o (if x1 < a16 then x1 else a16)) fun _ =>
        hm_ret ())
      else (
        hm_bind (hm_getr 8 1 o) fun a7 =>
        hm_bind (hm_ild 4 a7 x1) fun a8 =>
        hm_jn (
          hm_bind (hm_getr 8 0 o) fun a9 =>
          hm_bind (hm_geti 8 7 o) fun a10 =>
          hm_bind (hm_on 2 a9 (p_Fault_tell a9 7 (a10 + x1))) fun _ =>
          hm_ret ()) fun k88 =>
        if a8 = x2 then (
          hm_bind (hm_getr 8 2 o) fun a11 =>
          hm_bind (hm_ild 5 a11 x1) fun a12 =>
          if a12 = x3 then (
            hm_ret ())
          else (
            k88))
        else (
          k88))))
  else (
    hm_ret ())
def p_Verifier_findLeastWaiting_0 (x0 : Option Nat) (kx : hM Unit) : Nat → hM Unit
  | 0 => hm_fail
  | fu + 1 =>
    hm_bind (hm_geti 8 4 x0) fun a1 =>
    hm_bind (hm_getr 8 6 x0) fun a2 =>
    hm_bind (hm_geti 3 4 a2) fun a3 =>
    if a3 ≤ a1 then (
      kx)
    else (
      hm_bind (hm_getr 8 3 x0) fun a4 =>
      hm_bind (hm_geti 8 4 x0) fun a5 =>
      hm_bind (hm_ild 6 a4 a5) fun a6 =>
      if a6 = 0 then (
        hm_bind (hm_geti 8 4 x0) fun a7 =>
        hm_bind (hm_puti 8 4 x0 (a7 + 1)) fun _ =>
        p_Verifier_findLeastWaiting_0 x0 kx fu)
      else (
        kx))
def p_Verifier_findLeastWaiting (o : Option Nat) : hM Unit :=
  p_Verifier_findLeastWaiting_0 o (
    hm_ret ()) hm_fuel
def p_Verifier_put (o : Option Nat) (x1 : Int32) : hM Unit :=
  hm_bind (hm_geti 8 9 o) fun a1 =>
  if a1 < 16 then (
    hm_jn (
      hm_bind (hm_geti 8 9 o) fun a2 =>
      hm_bind (hm_puti 8 9 o (a2 + 1)) fun _ =>
      hm_ret ()) fun k48 =>
    if x1 = 2 then (
      hm_bind (hm_geti 8 10 o) fun a3 =>
      hm_bind (hm_geti 8 9 o) fun a4 =>
      hm_bind (hm_puti 8 10 o (a3 ||| ((1 : Int32) <<< (a4 &&& 31)))) fun _ =>
      k48)
    else (
      k48))
  else (
    hm_bind (hm_getr 8 0 o) fun a5 =>
    hm_bind (hm_geti 8 7 o) fun a6 =>
    hm_bind (hm_geti 8 8 o) fun a7 =>
    hm_bind (hm_on 2 a5 (p_Fault_tell a5 6 (a6 + a7))) fun _ =>
    hm_ret ())
def p_Verifier_take (o : Option Nat) (x1 : Int32) : hM Int32 :=
  hm_bind (hm_geti 8 9 o) fun a1 =>
  hm_jn (fun (z2 : Int32) =>
    hm_jn (
      hm_bind (hm_getr 8 0 o) fun a3 =>
      hm_bind (hm_geti 8 7 o) fun a4 =>
      hm_bind (hm_geti 8 8 o) fun a5 =>
      hm_bind (hm_on 2 a3 (p_Fault_tell a3 5 (a4 + a5))) fun _ =>
      hm_ret 0) fun k47 =>
    if z2 = 0 then (
      k47)
    else (
      hm_jn (
        hm_bind (hm_geti 8 9 o) fun a6 =>
        hm_bind (hm_puti 8 9 o (a6 - 1)) fun _ =>
        hm_bind (hm_geti 8 10 o) fun a7 =>
        hm_bind (hm_geti 8 9 o) fun a8 =>
        hm_bind (hm_puti 8 10 o (a7 &&& (((1 : Int32) <<< (a8 &&& 31)) - 1))) fun _ =>
        hm_ret z2) fun k66 =>
      if x1 = 0 then (
        k66)
      else (
        if x1 = z2 then (
          k66)
        else (
          k47)))) fun k33 =>
  if a1 = 0 then (
    k33 0)
  else (
    hm_bind (hm_geti 8 10 o) fun a9 =>
    hm_bind (hm_geti 8 9 o) fun a10 =>
    if ((a9 >>> ((a10 - 1) &&& 31)) &&& 1) = 1 then (
      k33 2)
    else (
      k33 1))
def p_Verifier_repeatTop (o : Option Nat) : hM Unit :=
  hm_bind (hm_on 8 o (p_Verifier_take o 0)) fun a1 =>
  hm_bind (hm_on 8 o (p_Verifier_put o a1)) fun _ =>
  hm_bind (hm_on 8 o (p_Verifier_put o a1)) fun _ =>
  hm_ret ()
def p_Verifier_swapUpperTwo (o : Option Nat) : hM Unit :=
  hm_bind (hm_on 8 o (p_Verifier_take o 0)) fun a1 =>
  hm_bind (hm_on 8 o (p_Verifier_take o 0)) fun a2 =>
  hm_bind (hm_on 8 o (p_Verifier_put o a1)) fun _ =>
  hm_bind (hm_on 8 o (p_Verifier_put o a2)) fun _ =>
  hm_ret ()
def p_Function_typeOfLocal (o : Option Nat) (x1 : Int32) : hM Int32 :=
  hm_bind (hm_geti 3 2 o) fun a1 =>
  if ((a1 >>> (x1 &&& 31)) &&& 1) = 1 then (
    hm_ret 2)
  else (
    hm_ret 1)
def p_Verifier_takeInts_2 (x0 : Option Nat) (x1 : Int32) (kx : hM Unit) : Nat → Int32 → hM Unit
  | 0, _ => hm_fail
  | fu + 1, v2 =>
    if x1 ≤ v2 then (
      kx)
    else (
      hm_bind (hm_on 8 x0 (p_Verifier_take x0 1)) fun a1 =>
      p_Verifier_takeInts_2 x0 x1 kx fu (v2 + 1))
def p_Verifier_takeInts (o : Option Nat) (x1 : Int32) : hM Unit :=
  p_Verifier_takeInts_2 o x1 (
    hm_ret ()) hm_fuel 0
def p_Verifier_useRow (o : Option Nat) (x1 : Int32) : hM Unit :=
  if x1 = 21 then (
    hm_bind (hm_on 8 o (p_Verifier_take o 1)) fun a3 =>
    hm_bind (hm_on 8 o (p_Verifier_put o 2)) fun _ =>
    hm_ret ())
  else (
    hm_jn (fun (z1 : Int32) =>
      hm_bind (hm_on 8 o (p_Verifier_takeInts o z1)) fun _ =>
      hm_bind (hm_on 8 o (p_Verifier_take o 2)) fun a2 =>
      if x1 = 23 then (
        hm_ret ())
      else (
        hm_bind (hm_on 8 o (p_Verifier_put o 1)) fun _ =>
        hm_ret ())) fun k40 =>
    if x1 = 23 then (
      k40 2)
    else (
      if x1 = 22 then (
        k40 1)
      else (
        k40 0)))
def p_Verifier_callFunction_12 (x0 : Option Nat) (x1 : Option Nat) (kx : hM Unit) : Nat → Int32 → hM Unit
  | 0, _ => hm_fail
  | fu + 1, v2 =>
    if v2 < 0 then (
      kx)
    else (
      hm_bind (hm_on 3 x1 (p_Function_typeOfLocal x1 v2)) fun a2 =>
      hm_bind (hm_on 8 x0 (p_Verifier_take x0 a2)) fun a3 =>
      p_Verifier_callFunction_12 x0 x1 kx fu (v2 + (-1)))
def p_Verifier_callFunction (o : Option Nat) (x1 : Option Nat) : hM Unit :=
  if x1 = none then (
    hm_ret ())
  else (
    hm_bind (hm_geti 3 0 x1) fun a1 =>
    p_Verifier_callFunction_12 o x1 (
      hm_bind (hm_geti 3 3 x1) fun a4 =>
      if a4 = 0 then (
        hm_ret ())
      else (
        hm_bind (hm_geti 3 3 x1) fun a5 =>
        hm_bind (hm_on 8 o (p_Verifier_put o a5)) fun _ =>
        hm_ret ())) hm_fuel (a1 - 1))
def p_Verifier_takeResult (o : Option Nat) : hM Unit :=
  hm_bind (hm_getr 8 6 o) fun a1 =>
  hm_bind (hm_geti 3 3 a1) fun a2 =>
  if a2 = 0 then (
    hm_ret ())
  else (
    hm_bind (hm_getr 8 6 o) fun a3 =>
    hm_bind (hm_geti 3 3 a3) fun a4 =>
    hm_bind (hm_on 8 o (p_Verifier_take o a4)) fun a5 =>
    hm_ret ())
def p_Verifier_putInts_2 (x0 : Option Nat) (x1 : Int32) (kx : hM Unit) : Nat → Int32 → hM Unit
  | 0, _ => hm_fail
  | fu + 1, v2 =>
    if x1 ≤ v2 then (
      kx)
    else (
      hm_bind (hm_on 8 x0 (p_Verifier_put x0 1)) fun _ =>
      p_Verifier_putInts_2 x0 x1 kx fu (v2 + 1))
def p_Verifier_putInts (o : Option Nat) (x1 : Int32) : hM Unit :=
  p_Verifier_putInts_2 o x1 (
    hm_ret ()) hm_fuel 0
def p_Verifier_takeAndPut (o : Option Nat) (x1 : Int32) (x2 : Int32) : hM Unit :=
  if x1 = 0 then (
    hm_bind (hm_on 8 o (p_Verifier_put o 1)) fun _ =>
    hm_ret ())
  else (
    if x1 = 1 then (
      hm_bind (hm_on 8 o (p_Verifier_take o 0)) fun a1 =>
      hm_ret ())
    else (
      if x1 = 2 then (
        hm_bind (hm_on 8 o (p_Verifier_repeatTop o )) fun _ =>
        hm_ret ())
      else (
        if x1 = 3 then (
          hm_bind (hm_on 8 o (p_Verifier_swapUpperTwo o )) fun _ =>
          hm_ret ())
        else (
          if x1 = 4 then (
            hm_bind (hm_getr 8 6 o) fun a2 =>
            hm_bind (hm_on 3 a2 (p_Function_typeOfLocal a2 x2)) fun a3 =>
            hm_bind (hm_on 8 o (p_Verifier_put o a3)) fun _ =>
            hm_ret ())
          else (
            if x1 = 5 then (
              hm_bind (hm_getr 8 6 o) fun a4 =>
              hm_bind (hm_on 3 a4 (p_Function_typeOfLocal a4 x2)) fun a5 =>
              hm_bind (hm_on 8 o (p_Verifier_take o a5)) fun a6 =>
              hm_ret ())
            else (
              if x1 = 18 then (
                hm_ret ())
              else (
                if x1 = 19 ∨ x1 = 20 ∨ x1 = 28 then (
                  hm_bind (hm_on 8 o (p_Verifier_take o 1)) fun a7 =>
                  hm_ret ())
                else (
                  if x1 = 21 ∨ x1 = 22 ∨ x1 = 23 ∨ x1 = 24 then (
                    hm_bind (hm_on 8 o (p_Verifier_useRow o x1)) fun _ =>
                    hm_ret ())
                  else (
                    if x1 = 25 then (
                      hm_bind (hm_getr 8 5 o) fun a8 =>
                      hm_bind (hm_on 6 a8 (p_Program_at a8 x2)) fun a9 =>
                      hm_bind (hm_on 8 o (p_Verifier_callFunction o a9)) fun _ =>
                      hm_ret ())
                    else (
                      if x1 = 26 then (
                        hm_ne 4 <|
                        hm_bind (hm_on 8 o (p_Verifier_takeInts o (x2 - x2 / 4 * 4))) fun _ =>
                        hm_bind (hm_on 8 o (p_Verifier_put o 1)) fun _ =>
                        hm_ret ())
                      else (
                        if x1 = 27 then (
                          hm_bind (hm_on 8 o (p_Verifier_takeResult o )) fun _ =>
                          hm_ret ())
                        else (
                          if x1 = 29 then (
                            hm_ne 4 <|
                            hm_bind (hm_on 8 o (p_Verifier_takeInts o (x2 - x2 / 4 * 4))) fun _ =>
                            hm_ne 4 <|
                            hm_bind (hm_on 8 o (p_Verifier_putInts o (x2 - x2 / 4 * 4))) fun _ =>
                            hm_ret ())
                          else (
                            hm_bind (hm_on 8 o (p_Verifier_takeInts o 2)) fun _ =>
                            hm_bind (hm_on 8 o (p_Verifier_put o 1)) fun _ =>
                            hm_ret ())))))))))))))
def p_Handler_covers (o : Option Nat) (x1 : Int32) : hM Int32 :=
  hm_bind (hm_geti 4 0 o) fun a1 =>
  if x1 < a1 then (
    hm_z 0)
  else (
    hm_bind (hm_geti 4 1 o) fun a2 =>
    if a2 ≤ x1 then (
      hm_z 0)
    else (
      hm_z 1))
def p_Verifier_comeToHandlers_2 (x0 : Option Nat) (kx : hM Unit) : Nat → Int32 → hM Unit
  | 0, _ => hm_fail
  | fu + 1, v1 =>
    hm_bind (hm_getr 8 6 x0) fun a1 =>
    hm_bind (hm_geti 3 5 a1) fun a2 =>
    if a2 ≤ v1 then (
      kx)
    else (
      hm_bind (hm_getr 8 6 x0) fun a3 =>
      hm_bind (hm_getr 3 10 a3) fun a4 =>
      hm_bind (hm_qld 9 a4 v1) fun a5 =>
      hm_bind (hm_geti 8 8 x0) fun a6 =>
      hm_bind (hm_on 4 a5 (p_Handler_covers a5 a6)) fun a7 =>
      hm_jn (
        p_Verifier_comeToHandlers_2 x0 kx fu (v1 + 1)) fun k44 =>
      if a7 = 0 then (
        k44)
      else (
        hm_bind (hm_geti 4 2 a5) fun a8 =>
        hm_bind (hm_on 8 x0 (p_Verifier_comeTo x0 a8 1 0)) fun _ =>
        k44))
def p_Verifier_comeToHandlers (o : Option Nat) : hM Unit :=
  p_Verifier_comeToHandlers_2 o (
    hm_ret ()) hm_fuel 0
def p_Kinds_goesToPlace (x0 : Int32) : hM Int32 :=
  if x0 = 18 then (
    hm_z 1)
  else (
    if x0 = 19 then (
      hm_z 1)
    else (
      if x0 = 20 then (
        hm_z 1)
      else (
        hm_z 0)))
def p_Kinds_goesOnBehind (x0 : Int32) : hM Int32 :=
  if x0 = 18 then (
    hm_z 0)
  else (
    if x0 = 27 then (
      hm_z 0)
    else (
      if x0 = 28 then (
        hm_z 0)
      else (
        hm_z 1)))
def p_Verifier_comeToNext (o : Option Nat) : hM Unit :=
  hm_bind (hm_geti 8 8 o) fun a1 =>
  hm_bind (hm_getr 8 6 o) fun a2 =>
  hm_bind (hm_geti 3 4 a2) fun a3 =>
  if a3 ≤ (a1 + 1) then (
    hm_bind (hm_getr 8 0 o) fun a4 =>
    hm_bind (hm_geti 8 7 o) fun a5 =>
    hm_bind (hm_geti 8 8 o) fun a6 =>
    hm_bind (hm_on 2 a4 (p_Fault_tell a4 8 (a5 + a6))) fun _ =>
    hm_ret ())
  else (
    hm_bind (hm_geti 8 8 o) fun a7 =>
    hm_bind (hm_geti 8 9 o) fun a8 =>
    hm_bind (hm_geti 8 10 o) fun a9 =>
    hm_bind (hm_on 8 o (p_Verifier_comeTo o (a7 + 1) a8 a9)) fun _ =>
    hm_ret ())
def p_Verifier_lookAt (o : Option Nat) (x1 : Int32) : hM Unit :=
  hm_bind (hm_getr 8 3 o) fun a1 =>
  hm_bind (hm_ist 6 a1 x1 (0 &&& 1)) fun _ =>
  hm_bind (hm_puti 8 8 o x1) fun _ =>
  hm_bind (hm_getr 8 1 o) fun a2 =>
  hm_bind (hm_ild 4 a2 x1) fun a3 =>
  hm_bind (hm_puti 8 9 o a3) fun _ =>
  hm_bind (hm_getr 8 2 o) fun a4 =>
  hm_bind (hm_ild 5 a4 x1) fun a5 =>
  hm_bind (hm_puti 8 10 o a5) fun _ =>
  hm_bind (hm_getr 8 6 o) fun a6 =>
  hm_bind (hm_getr 3 6 a6) fun a7 =>
  hm_bind (hm_ild 0 a7 x1) fun a8 =>
  hm_bind (hm_getr 8 6 o) fun a9 =>
  hm_bind (hm_getr 3 7 a9) fun a10 =>
  hm_bind (hm_ild 1 a10 x1) fun a11 =>
  hm_bind (hm_on 8 o (p_Verifier_takeAndPut o a8 a11)) fun _ =>
  hm_bind (hm_on 8 o (p_Verifier_comeToHandlers o )) fun _ =>
  hm_bind (p_Kinds_goesToPlace a8) fun a12 =>
  hm_jn (
    hm_bind (p_Kinds_goesOnBehind a8) fun a13 =>
    if a13 = 0 then (
      hm_ret ())
    else (
      hm_bind (hm_on 8 o (p_Verifier_comeToNext o )) fun _ =>
      hm_ret ())) fun k82 =>
  if a12 = 0 then (
    k82)
  else (
    hm_bind (hm_geti 8 9 o) fun a14 =>
    hm_bind (hm_geti 8 10 o) fun a15 =>
    hm_bind (hm_on 8 o (p_Verifier_comeTo o a11 a14 a15)) fun _ =>
    k82)
def p_Verifier_lookAtAll_10 (x0 : Option Nat) (x1 : Int32) (kx : hM Unit) : Nat → Int32 → hM Unit
  | 0, _ => hm_fail
  | fu + 1, v2 =>
    if x1 ≤ v2 then (
      kx)
    else (
      hm_bind (hm_getr 8 1 x0) fun a3 =>
      hm_bind (hm_ist 4 a3 v2 (-1)) fun _ =>
      hm_bind (hm_getr 8 2 x0) fun a4 =>
      hm_bind (hm_ist 5 a4 v2 0) fun _ =>
      hm_bind (hm_getr 8 3 x0) fun a5 =>
      hm_bind (hm_ist 6 a5 v2 (0 &&& 1)) fun _ =>
      p_Verifier_lookAtAll_10 x0 x1 kx fu (v2 + 1))
def p_Verifier_lookAtAll_56 (x0 : Option Nat) (x1 : Int32) (kx : hM Unit) : Nat → Int32 → hM Unit
  | 0, _ => hm_fail
  | fu + 1, v2 =>
    if x1 ≤ v2 then (
      kx)
    else (
      hm_bind (hm_getr 8 0 x0) fun a6 =>
      hm_bind (hm_geti 2 0 a6) fun a7 =>
      if a7 = 0 then (
        hm_bind (hm_on 8 x0 (p_Verifier_findLeastWaiting x0 )) fun _ =>
        hm_bind (hm_geti 8 4 x0) fun a8 =>
        if a8 = x1 then (
          hm_ret ())
        else (
          hm_bind (hm_geti 8 4 x0) fun a9 =>
          hm_bind (hm_on 8 x0 (p_Verifier_lookAt x0 a9)) fun _ =>
          p_Verifier_lookAtAll_56 x0 x1 kx fu (v2 + 1)))
      else (
        kx))
def p_Verifier_lookAtAll (o : Option Nat) : hM Unit :=
  hm_bind (hm_getr 8 6 o) fun a1 =>
  hm_bind (hm_geti 3 4 a1) fun a2 =>
  p_Verifier_lookAtAll_10 o a2 (
    hm_bind (hm_puti 8 4 o 0) fun _ =>
    hm_bind (hm_on 8 o (p_Verifier_comeTo o 0 0 0)) fun _ =>
    p_Verifier_lookAtAll_56 o a2 (
      hm_ret ()) hm_fuel 0) hm_fuel 0
def p_Verifier_verify (o : Option Nat) (x1 : Option Nat) (x2 : Int32) : hM Unit :=
  hm_bind (hm_on 6 x1 (p_Program_at x1 x2)) fun a1 =>
  if a1 = none then (
    hm_ret ())
  else (
    hm_bind (hm_putr 8 5 o x1) fun _ =>
    hm_bind (hm_putr 8 6 o a1) fun _ =>
    hm_bind (hm_puti 8 7 o (x2 * 512)) fun _ =>
    hm_bind (hm_on 8 o (p_Verifier_lookAtAll o )) fun _ =>
    hm_bind (hm_getr 8 0 o) fun a2 =>
    hm_bind (hm_geti 2 0 a2) fun a3 =>
    if a3 = 0 then (
      hm_bind (hm_getr 8 1 o) fun a4 =>
      hm_bind (hm_getr 8 6 o) fun a5 =>
      hm_bind (hm_getr 3 8 a5) fun a6 =>
      hm_bind (hm_getr 8 6 o) fun a7 =>
      hm_bind (hm_geti 3 4 a7) fun a8 =>
      hm_bind (hm_copy 4 2 a4 0 a6 0 a8) fun _ =>
      hm_bind (hm_getr 8 2 o) fun a9 =>
      hm_bind (hm_getr 8 6 o) fun a10 =>
      hm_bind (hm_getr 3 9 a10) fun a11 =>
      hm_bind (hm_getr 8 6 o) fun a12 =>
      hm_bind (hm_geti 3 4 a12) fun a13 =>
      hm_bind (hm_copy 5 3 a9 0 a11 0 a13) fun _ =>
      hm_ret ())
    else (
      hm_ret ()))
def p_SB_read_20 (x0 : Option Nat) (kx : hM Int32) : Nat → Int32 → hM Int32
  | 0, _ => hm_fail
  | fu + 1, v1 =>
    hm_bind (hm_getr 0 6 x0) fun a4 =>
    hm_bind (hm_geti 6 1 a4) fun a5 =>
    if a5 ≤ v1 then (
      kx)
    else (
      hm_bind (hm_getr 0 2 x0) fun a6 =>
      hm_bind (hm_geti 2 0 a6) fun a7 =>
      if a7 = 0 then (
        hm_bind (hm_getr 0 4 x0) fun a8 =>
        hm_bind (hm_getr 0 6 x0) fun a9 =>
        hm_bind (hm_on 8 a8 (p_Verifier_verify a8 a9 v1)) fun _ =>
        p_SB_read_20 x0 kx fu (v1 + 1))
      else (
        kx))
def p_SB_read (o : Option Nat) : hM Int32 :=
  hm_bind (hm_getr 0 2 o) fun a1 =>
  hm_bind (hm_on 2 a1 (p_Fault_clear a1 )) fun _ =>
  hm_bind (hm_getr 0 3 o) fun a2 =>
  hm_bind (hm_getr 0 6 o) fun a3 =>
  hm_bind (hm_on 7 a2 (p_Reader_readInto a2 a3)) fun _ =>
  p_SB_read_20 o (
    hm_bind (hm_getr 0 2 o) fun a10 =>
    hm_bind (hm_geti 2 0 a10) fun a11 =>
    hm_jn (
      hm_bind (hm_getr 0 2 o) fun a12 =>
      hm_bind (hm_geti 2 0 a12) fun a13 =>
      hm_ret a13) fun k87 =>
    if a11 = 0 then (
      hm_bind (hm_getr 0 5 o) fun a14 =>
      hm_bind (hm_getr 0 6 o) fun a15 =>
      hm_bind (hm_putr 0 5 o a15) fun _ =>
      hm_bind (hm_putr 0 6 o a14) fun _ =>
      k87)
    else (
      k87)) hm_fuel 0
def p_Handler_appendTo (o : Option Nat) (x1 : Option Nat) : hM Unit :=
  hm_bind (hm_geti 4 0 o) fun a1 =>
  hm_bind (hm_on 1 x1 (p_ByteRow_add x1 (Int32.toInt64 a1) 2)) fun a2 =>
  hm_bind (hm_geti 4 1 o) fun a3 =>
  hm_bind (hm_on 1 x1 (p_ByteRow_add x1 (Int32.toInt64 a3) 2)) fun a4 =>
  hm_bind (hm_geti 4 2 o) fun a5 =>
  hm_bind (hm_on 1 x1 (p_ByteRow_add x1 (Int32.toInt64 a5) 2)) fun a6 =>
  hm_bind (hm_geti 4 3 o) fun a7 =>
  hm_jn (fun (z8 : Int64) =>
    hm_bind (hm_on 1 x1 (p_ByteRow_add x1 z8 1)) fun a9 =>
    hm_bind (hm_geti 4 4 o) fun a10 =>
    hm_bind (hm_geti 4 3 o) fun a11 =>
    hm_jn (fun (z12 : Int32) =>
      hm_bind (hm_on 1 x1 (p_ByteRow_add x1 (Int32.toInt64 a10) z12)) fun a13 =>
      hm_ret ()) fun k69 =>
    if a11 = 0 then (
      k69 4)
    else (
      k69 0)) fun k46 =>
  if a7 = 0 then (
    k46 1)
  else (
    k46 0)
def p_Function_appendTo_57 (x0 : Option Nat) (x1 : Option Nat) (kx : hM Unit) : Nat → Int32 → hM Unit
  | 0, _ => hm_fail
  | fu + 1, v2 =>
    hm_bind (hm_geti 3 4 x0) fun a11 =>
    if a11 ≤ v2 then (
      kx)
    else (
      hm_bind (hm_getr 3 6 x0) fun a12 =>
      hm_bind (hm_ild 0 a12 v2) fun a13 =>
      hm_bind (hm_on 1 x1 (p_ByteRow_add x1 (Int32.toInt64 a13) 1)) fun a14 =>
      hm_bind (hm_getr 3 7 x0) fun a15 =>
      hm_bind (hm_ild 1 a15 v2) fun a16 =>
      hm_bind (hm_getr 3 6 x0) fun a17 =>
      hm_bind (hm_ild 0 a17 v2) fun a18 =>
      hm_bind (p_Kinds_bytesBehind a18) fun a19 =>
      hm_bind (hm_on 1 x1 (p_ByteRow_add x1 (Int32.toInt64 a16) a19)) fun a20 =>
      p_Function_appendTo_57 x0 x1 kx fu (v2 + 1))
def p_Function_appendTo_118 (x0 : Option Nat) (x1 : Option Nat) (kx : hM Unit) : Nat → Int32 → hM Unit
  | 0, _ => hm_fail
  | fu + 1, v2 =>
    hm_bind (hm_geti 3 5 x0) fun a23 =>
    if a23 ≤ v2 then (
      kx)
    else (
      hm_bind (hm_getr 3 10 x0) fun a24 =>
      hm_bind (hm_qld 9 a24 v2) fun a25 =>
      hm_bind (hm_on 4 a25 (p_Handler_appendTo a25 x1)) fun _ =>
      p_Function_appendTo_118 x0 x1 kx fu (v2 + 1))
def p_Function_appendTo (o : Option Nat) (x1 : Option Nat) : hM Unit :=
  hm_bind (hm_geti 3 0 o) fun a1 =>
  hm_bind (hm_on 1 x1 (p_ByteRow_add x1 (Int32.toInt64 a1) 1)) fun a2 =>
  hm_bind (hm_geti 3 1 o) fun a3 =>
  hm_bind (hm_on 1 x1 (p_ByteRow_add x1 (Int32.toInt64 a3) 1)) fun a4 =>
  hm_bind (hm_geti 3 2 o) fun a5 =>
  hm_bind (hm_on 1 x1 (p_ByteRow_add x1 (Int32.toInt64 a5) 2)) fun a6 =>
  hm_bind (hm_geti 3 3 o) fun a7 =>
  hm_bind (hm_on 1 x1 (p_ByteRow_add x1 (Int32.toInt64 a7) 1)) fun a8 =>
  hm_bind (hm_geti 3 4 o) fun a9 =>
  hm_bind (hm_on 1 x1 (p_ByteRow_add x1 (Int32.toInt64 a9) 2)) fun a10 =>
  p_Function_appendTo_57 o x1 (
    hm_bind (hm_geti 3 5 o) fun a21 =>
    hm_bind (hm_on 1 x1 (p_ByteRow_add x1 (Int32.toInt64 a21) 1)) fun a22 =>
    p_Function_appendTo_118 o x1 (
      hm_ret ()) hm_fuel 0) hm_fuel 0
def p_Program_appendTo_38 (x0 : Option Nat) (x1 : Option Nat) (kx : hM Unit) : Nat → Int32 → hM Unit
  | 0, _ => hm_fail
  | fu + 1, v2 =>
    hm_bind (hm_geti 6 1 x0) fun a6 =>
    if a6 ≤ v2 then (
      kx)
    else (
      hm_bind (hm_getr 6 0 x0) fun a7 =>
      hm_bind (hm_qld 8 a7 v2) fun a8 =>
      hm_bind (hm_on 3 a8 (p_Function_appendTo a8 x1)) fun _ =>
      p_Program_appendTo_38 x0 x1 kx fu (v2 + 1))
def p_Program_appendTo (o : Option Nat) (x1 : Option Nat) : hM Unit :=
  hm_bind (hm_on 1 x1 (p_ByteRow_add x1 71 1)) fun a1 =>
  hm_bind (hm_on 1 x1 (p_ByteRow_add x1 70 1)) fun a2 =>
  hm_bind (hm_on 1 x1 (p_ByteRow_add x1 1 1)) fun a3 =>
  hm_bind (hm_geti 6 1 o) fun a4 =>
  hm_bind (hm_on 1 x1 (p_ByteRow_add x1 (Int32.toInt64 a4) 1)) fun a5 =>
  p_Program_appendTo_38 o x1 (
    hm_ret ()) hm_fuel 0
def p_SB_write (o : Option Nat) : hM Int32 :=
  hm_bind (hm_getr 0 1 o) fun a1 =>
  hm_bind (hm_on 1 a1 (p_ByteRow_keepFirst a1 0)) fun a2 =>
  hm_bind (hm_getr 0 5 o) fun a3 =>
  hm_bind (hm_getr 0 1 o) fun a4 =>
  hm_bind (hm_on 6 a3 (p_Program_appendTo a3 a4)) fun _ =>
  hm_bind (hm_getr 0 1 o) fun a5 =>
  hm_bind (hm_geti 1 2 a5) fun a6 =>
  hm_ret a6
def p_ByteRow_become (o : Option Nat) (x1 : Option Nat) : hM Int32 :=
  hm_bind (hm_geti 1 2 x1) fun a1 =>
  hm_bind (hm_geti 1 0 o) fun a2 =>
  if a1 ≤ a2 then (
    hm_bind (hm_geti 1 2 x1) fun a3 =>
    hm_bind (hm_on 1 o (p_ByteRow_makeRoom o a3)) fun _ =>
    hm_bind (hm_getr 1 1 x1) fun a4 =>
    hm_bind (hm_getr 1 1 o) fun a5 =>
    hm_bind (hm_geti 1 2 x1) fun a6 =>
    hm_bind (hm_copy 7 7 a4 0 a5 0 a6) fun _ =>
    hm_bind (hm_geti 1 2 x1) fun a7 =>
    hm_bind (hm_puti 1 2 o a7) fun _ =>
    hm_z 1)
  else (
    hm_z 0)
def p_SB_turnOver (o : Option Nat) : hM Int32 :=
  hm_bind (hm_getr 0 0 o) fun a1 =>
  hm_bind (hm_getr 0 1 o) fun a2 =>
  hm_bind (hm_on 1 a1 (p_ByteRow_become a1 a2)) fun a3 =>
  hm_z a3
def p_Kinds_canStand (x0 : Int32) (x1 : Int32) (x2 : Option Nat) (x3 : Int32) : hM Int32 :=
  if x0 < 0 then (
    hm_z 0)
  else (
    if 29 < x0 then (
      hm_z 0)
    else (
      hm_bind (p_Kinds_leastBehind x0) fun a1 =>
      if x1 < a1 then (
        hm_z 0)
      else (
        hm_bind (p_Kinds_mostBehind x0 x2 x3) fun a2 =>
        if a2 < x1 then (
          hm_z 0)
        else (
          hm_z 1))))
def p_SB_change (o : Option Nat) (x1 : Int32) (x2 : Int32) (x3 : Int32) (x4 : Int32) : hM Int32 :=
  hm_bind (hm_getr 0 2 o) fun a1 =>
  hm_bind (hm_on 2 a1 (p_Fault_clear a1 )) fun _ =>
  hm_bind (hm_getr 0 5 o) fun a2 =>
  hm_bind (hm_on 6 a2 (p_Program_at a2 x1)) fun a3 =>
  hm_jn (
    hm_bind (hm_getr 0 2 o) fun a4 =>
    hm_bind (hm_on 2 a4 (p_Fault_tell a4 3 (-1))) fun _ =>
    hm_bind (hm_getr 0 2 o) fun a5 =>
    hm_bind (hm_geti 2 0 a5) fun a6 =>
    hm_ret a6) fun k49 =>
  if a3 = none then (
    k49)
  else (
    hm_bind (hm_on 3 a3 (p_Function_has a3 x2)) fun a7 =>
    if a7 = 0 then (
      k49)
    else (
      hm_bind (hm_getr 0 5 o) fun a8 =>
      hm_bind (hm_geti 6 1 a8) fun a9 =>
      hm_bind (p_Kinds_canStand x3 x4 a3 a9) fun a10 =>
      if a10 = 0 then (
        k49)
      else (
        hm_bind (hm_getr 3 6 a3) fun a11 =>
        hm_bind (hm_ild 0 a11 x2) fun a12 =>
        hm_bind (hm_getr 3 7 a3) fun a13 =>
        hm_bind (hm_ild 1 a13 x2) fun a14 =>
        hm_bind (hm_getr 3 6 a3) fun a15 =>
        hm_bind (hm_ist 0 a15 x2 x3) fun _ =>
        hm_bind (hm_getr 3 7 a3) fun a16 =>
        hm_bind (hm_ist 1 a16 x2 x4) fun _ =>
        hm_bind (hm_getr 0 4 o) fun a17 =>
        hm_bind (hm_getr 0 5 o) fun a18 =>
        hm_bind (hm_on 8 a17 (p_Verifier_verify a17 a18 x1)) fun _ =>
        hm_bind (hm_getr 0 2 o) fun a19 =>
        hm_bind (hm_geti 2 0 a19) fun a20 =>
        hm_jn (
          hm_bind (hm_getr 0 2 o) fun a21 =>
          hm_bind (hm_geti 2 0 a21) fun a22 =>
          hm_ret a22) fun k141 =>
        if a20 = 0 then (
          k141)
        else (
          hm_bind (hm_getr 3 6 a3) fun a23 =>
          hm_bind (hm_ist 0 a23 x2 a12) fun _ =>
          hm_bind (hm_getr 3 7 a3) fun a24 =>
          hm_bind (hm_ist 1 a24 x2 a14) fun _ =>
          k141))))
def p_Function_isGoneTo_2 (x0 : Option Nat) (x1 : Int32) (kx : hM Int32) : Nat → Int32 → hM Int32
  | 0, _ => hm_fail
  | fu + 1, v2 =>
    hm_bind (hm_geti 3 4 x0) fun a1 =>
    if a1 ≤ v2 then (
      kx)
    else (
      hm_bind (hm_getr 3 6 x0) fun a2 =>
      hm_bind (hm_ild 0 a2 v2) fun a3 =>
      hm_bind (p_Kinds_goesToPlace a3) fun a4 =>
      hm_jn (
        p_Function_isGoneTo_2 x0 x1 kx fu (v2 + 1)) fun k34 =>
      if a4 = 0 then (
        k34)
      else (
        hm_bind (hm_getr 3 7 x0) fun a5 =>
        hm_bind (hm_ild 1 a5 v2) fun a6 =>
        if a6 = x1 then (
          hm_z 1)
        else (
          k34)))
def p_Function_isGoneTo_42 (x0 : Option Nat) (x1 : Int32) (kx : hM Int32) : Nat → Int32 → hM Int32
  | 0, _ => hm_fail
  | fu + 1, v2 =>
    hm_bind (hm_geti 3 5 x0) fun a7 =>
    if a7 ≤ v2 then (
      kx)
    else (
      hm_bind (hm_getr 3 10 x0) fun a8 =>
      hm_bind (hm_qld 9 a8 v2) fun a9 =>
      hm_bind (hm_geti 4 2 a9) fun a10 =>
      if a10 = x1 then (
        hm_z 1)
      else (
        p_Function_isGoneTo_42 x0 x1 kx fu (v2 + 1)))
def p_Function_isGoneTo (o : Option Nat) (x1 : Int32) : hM Int32 :=
  p_Function_isGoneTo_2 o x1 (
    p_Function_isGoneTo_42 o x1 (
      hm_z 0) hm_fuel 0) hm_fuel 0
def p_SB_code (o : Option Nat) (x1 : Int32) (x2 : Int32) (x3 : Int32) : hM Int32 :=
  hm_bind (hm_getr 0 5 o) fun a1 =>
  hm_bind (hm_on 6 a1 (p_Program_at a1 x1)) fun a2 =>
  if a2 = none then (
    hm_ret 0)
  else (
    hm_bind (hm_on 3 a2 (p_Function_has a2 x2)) fun a3 =>
    if a3 = 0 then (
      hm_ret 0)
    else (
      if x3 = 0 then (
        hm_bind (hm_getr 3 6 a2) fun a4 =>
        hm_bind (hm_ild 0 a4 x2) fun a5 =>
        hm_ret a5)
      else (
        if x3 = 1 then (
          hm_bind (hm_getr 3 7 a2) fun a6 =>
          hm_bind (hm_ild 1 a6 x2) fun a7 =>
          hm_ret a7)
        else (
          if x3 = 2 then (
            hm_bind (hm_getr 3 8 a2) fun a8 =>
            hm_bind (hm_ild 2 a8 x2) fun a9 =>
            hm_ret a9)
          else (
            if x3 = 3 then (
              hm_bind (hm_getr 3 9 a2) fun a10 =>
              hm_bind (hm_ild 3 a10 x2) fun a11 =>
              hm_ret a11)
            else (
              if x3 = 4 then (
                hm_bind (hm_on 3 a2 (p_Function_isGoneTo a2 x2)) fun a12 =>
                if a12 = 0 then (
                  hm_ret 0)
                else (
                  hm_ret 1))
              else (
                hm_ret 0)))))))
def p_Function_comeTo_4 (x0 : Option Nat) (kx : Int32 → hM Int32) : Nat → Int32 → Int32 → hM Int32
  | 0, _, _ => hm_fail
  | fu + 1, v1, v2 =>
    hm_bind (hm_geti 3 4 x0) fun a1 =>
    if a1 ≤ v2 then (
      kx v1)
    else (
      hm_bind (hm_getr 3 8 x0) fun a2 =>
      hm_bind (hm_ild 2 a2 v2) fun a3 =>
      hm_jn (fun (w1_4 : Int32) =>
        p_Function_comeTo_4 x0 kx fu w1_4 (v2 + 1)) fun k25 =>
      if a3 = (-1) then (
        k25 v1)
      else (
        k25 (v1 + 1)))
def p_Function_comeTo (o : Option Nat) : hM Int32 :=
  p_Function_comeTo_4 o (fun (v1_5 : Int32) =>
    hm_ret v1_5) hm_fuel 0 0
def p_Function_deepest_4 (x0 : Option Nat) (kx : Int32 → hM Int32) : Nat → Int32 → Int32 → hM Int32
  | 0, _, _ => hm_fail
  | fu + 1, v1, v2 =>
    hm_bind (hm_geti 3 4 x0) fun a1 =>
    if a1 ≤ v2 then (
      kx v1)
    else (
      hm_bind (hm_getr 3 8 x0) fun a2 =>
      hm_bind (hm_ild 2 a2 v2) fun a3 =>
      p_Function_deepest_4 x0 kx fu (if v1 < a3 then a3 else v1) (v2 + 1))
def p_Function_deepest (o : Option Nat) : hM Int32 :=
  p_Function_deepest_4 o (fun (v1_4 : Int32) =>
    hm_ret v1_4) hm_fuel 0 0
def p_SB_function (o : Option Nat) (x1 : Int32) (x2 : Int32) : hM Int32 :=
  hm_bind (hm_getr 0 5 o) fun a1 =>
  hm_bind (hm_on 6 a1 (p_Program_at a1 x1)) fun a2 =>
  if a2 = none then (
    hm_ret (-1))
  else (
    if x2 = 0 then (
      hm_bind (hm_geti 3 0 a2) fun a3 =>
      hm_ret a3)
    else (
      if x2 = 1 then (
        hm_bind (hm_geti 3 1 a2) fun a4 =>
        hm_ret a4)
      else (
        if x2 = 2 then (
          hm_bind (hm_geti 3 2 a2) fun a5 =>
          hm_ret a5)
        else (
          if x2 = 3 then (
            hm_bind (hm_geti 3 3 a2) fun a6 =>
            hm_ret a6)
          else (
            if x2 = 4 then (
              hm_bind (hm_geti 3 4 a2) fun a7 =>
              hm_ret a7)
            else (
              if x2 = 5 then (
                hm_bind (hm_geti 3 5 a2) fun a8 =>
                hm_ret a8)
              else (
                if x2 = 6 then (
                  hm_bind (hm_on 3 a2 (p_Function_comeTo a2 )) fun a9 =>
                  hm_ret a9)
                else (
                  if x2 = 7 then (
                    hm_bind (hm_on 3 a2 (p_Function_deepest a2 )) fun a10 =>
                    hm_ret a10)
                  else (
                    hm_ret (-1))))))))))
def p_SB_handler (o : Option Nat) (x1 : Int32) (x2 : Int32) (x3 : Int32) : hM Int32 :=
  hm_bind (hm_getr 0 5 o) fun a1 =>
  hm_bind (hm_on 6 a1 (p_Program_at a1 x1)) fun a2 =>
  if a2 = none then (
    hm_ret 0)
  else (
    if x2 < 0 then (
      hm_ret 0)
    else (
      hm_bind (hm_geti 3 5 a2) fun a3 =>
      if x2 < a3 then (
        hm_bind (hm_getr 3 10 a2) fun a4 =>
        hm_bind (hm_qld 9 a4 x2) fun a5 =>
        if x3 = 0 then (
          hm_bind (hm_geti 4 0 a5) fun a6 =>
          hm_ret a6)
        else (
          if x3 = 1 then (
            hm_bind (hm_geti 4 1 a5) fun a7 =>
            hm_ret a7)
          else (
            if x3 = 2 then (
              hm_bind (hm_geti 4 2 a5) fun a8 =>
              hm_ret a8)
            else (
              if x3 = 3 then (
                hm_bind (hm_geti 4 3 a5) fun a9 =>
                if a9 = 0 then (
                  hm_ret 0)
                else (
                  hm_ret 1))
              else (
                if x3 = 4 then (
                  hm_bind (hm_geti 4 4 a5) fun a10 =>
                  hm_ret a10)
                else (
                  hm_ret 0))))))
      else (
        hm_ret 0)))
def p_SB_byteAt (o : Option Nat) (x1 : Int32) (x2 : Int32) : hM Int32 :=
  if x2 = 0 then (
    hm_bind (hm_getr 0 1 o) fun a1 =>
    hm_bind (hm_on 1 a1 (p_ByteRow_at a1 x1)) fun a2 =>
    hm_ret a2)
  else (
    hm_bind (hm_getr 0 0 o) fun a3 =>
    hm_bind (hm_on 1 a3 (p_ByteRow_at a3 x1)) fun a4 =>
    hm_ret a4)
def p_Program_instructions_4 (x0 : Option Nat) (kx : Int32 → hM Int32) : Nat → Int32 → Int32 → hM Int32
  | 0, _, _ => hm_fail
  | fu + 1, v1, v2 =>
    hm_bind (hm_geti 6 1 x0) fun a1 =>
    if a1 ≤ v2 then (
      kx v1)
    else (
      hm_bind (hm_getr 6 0 x0) fun a2 =>
      hm_bind (hm_qld 8 a2 v2) fun a3 =>
      hm_bind (hm_geti 3 4 a3) fun a4 =>
      p_Program_instructions_4 x0 kx fu (v1 + a4) (v2 + 1))
def p_Program_instructions (o : Option Nat) : hM Int32 :=
  p_Program_instructions_4 o (fun (v1_5 : Int32) =>
    hm_ret v1_5) hm_fuel 0 0
def p_SB_look (o : Option Nat) (x1 : Int32) : hM Int32 :=
  if x1 = 0 then (
    hm_bind (hm_getr 0 5 o) fun a1 =>
    hm_bind (hm_geti 6 1 a1) fun a2 =>
    hm_ret a2)
  else (
    if x1 = 1 then (
      hm_bind (hm_getr 0 5 o) fun a3 =>
      hm_bind (hm_on 6 a3 (p_Program_instructions a3 )) fun a4 =>
      hm_ret a4)
    else (
      if x1 = 2 then (
        hm_bind (hm_getr 0 0 o) fun a5 =>
        hm_bind (hm_geti 1 2 a5) fun a6 =>
        hm_ret a6)
      else (
        if x1 = 3 then (
          hm_bind (hm_getr 0 1 o) fun a7 =>
          hm_bind (hm_geti 1 2 a7) fun a8 =>
          hm_ret a8)
        else (
          if x1 = 4 then (
            hm_bind (hm_getr 0 2 o) fun a9 =>
            hm_bind (hm_geti 2 0 a9) fun a10 =>
            hm_ret a10)
          else (
            if x1 = 5 then (
              hm_bind (hm_getr 0 2 o) fun a11 =>
              hm_bind (hm_geti 2 1 a11) fun a12 =>
              hm_ret a12)
            else (
              hm_ret (-1)))))))
def p_Mo_wrong (o : Option Nat) (x1 : Int32) (x2 : Int32) : hM Unit :=
  hm_bind (hm_geti 9 7 o) fun a1 =>
  if a1 = 0 then (
    hm_bind (hm_puti 9 7 o x1) fun _ =>
    hm_bind (hm_puti 9 8 o x2) fun _ =>
    hm_ret ())
  else (
    hm_ret ())
def p_Mo_comeTo (o : Option Nat) (x1 : Int32) (x2 : Int32) (x3 : Int32) (x4 : Int32) (x5 : Int32) : hM Unit :=
  hm_bind (hm_getr 9 23 o) fun a1 =>
  hm_bind (hm_ild 26 a1 (((4800 * x1) + (400 * x2)) + x3)) fun a2 =>
  if 0 ≤ a2 then (
    hm_bind (hm_getr 9 23 o) fun a3 =>
    hm_bind (hm_ild 26 a3 (((4800 * x1) + (400 * x2)) + x3)) fun a4 =>
    hm_jn (
      hm_bind (hm_on 9 o (p_Mo_wrong o 7 ((512 * x2) + x3))) fun _ =>
      hm_ret ()) fun k77 =>
    if a4 = x4 then (
      hm_bind (hm_getr 9 24 o) fun a5 =>
      hm_bind (hm_ild 27 a5 (((4800 * x1) + (400 * x2)) + x3)) fun a6 =>
      if a6 = x5 then (
        hm_ret ())
      else (
        k77))
    else (
      k77))
  else (
    hm_bind (hm_getr 9 23 o) fun a7 =>
    hm_bind (hm_ist 26 a7 (((4800 * x1) + (400 * x2)) + x3) x4) fun _ =>
    hm_bind (hm_getr 9 24 o) fun a8 =>
    hm_bind (hm_ist 27 a8 (((4800 * x1) + (400 * x2)) + x3) x5) fun _ =>
    hm_bind (hm_getr 9 25 o) fun a9 =>
    hm_bind (hm_ist 28 a9 x3 (1 &&& 1)) fun _ =>
    hm_ret ())
def p_Mo_puts (o : Option Nat) (x1 : Int32) : hM Unit :=
  hm_bind (hm_geti 9 28 o) fun a1 =>
  hm_bind (hm_geti 9 27 o) fun a2 =>
  hm_bind (hm_puti 9 28 o (a1 ||| (x1 <<< (a2 &&& 31)))) fun _ =>
  hm_bind (hm_geti 9 27 o) fun a3 =>
  hm_bind (hm_puti 9 27 o (a3 + 1)) fun _ =>
  hm_ret ()
def p_Mo_takes (o : Option Nat) (x1 : Int32) : hM Int32 :=
  hm_bind (hm_geti 9 27 o) fun a1 =>
  if a1 = 0 then (
    hm_z 0)
  else (
    hm_bind (hm_geti 9 27 o) fun a2 =>
    hm_bind (hm_puti 9 27 o (a2 - 1)) fun _ =>
    hm_bind (hm_geti 9 28 o) fun a3 =>
    hm_bind (hm_geti 9 27 o) fun a4 =>
    hm_bind (hm_geti 9 28 o) fun a5 =>
    hm_bind (hm_geti 9 27 o) fun a6 =>
    hm_bind (hm_puti 9 28 o (a5 &&& (((1 : Int32) <<< (a6 &&& 31)) - 1))) fun _ =>
    if x1 = 2 then (
      hm_z 1)
    else (
      if x1 = ((a3 >>> (a4 &&& 31)) &&& 1) then (
        hm_z 1)
      else (
        hm_z 0)))
def p_Mo_isRow (o : Option Nat) (x1 : Int32) (x2 : Int32) : hM Int32 :=
  hm_bind (hm_getr 9 12 o) fun a1 =>
  hm_bind (hm_ild 15 a1 x1) fun a2 =>
  hm_ret ((a2 >>> (x2 &&& 31)) &&& 1)
def p_Mo_takesInts_4 (x0 : Option Nat) (x1 : Int32) (kx : Int32 → hM Int32) : Nat → Int32 → Int32 → hM Int32
  | 0, _, _ => hm_fail
  | fu + 1, v2, v3 =>
    if x1 ≤ v3 then (
      kx v2)
    else (
      hm_jn (fun (z1 : Int32) =>
        p_Mo_takesInts_4 x0 x1 kx fu z1 (v3 + 1)) fun k26 =>
      hm_jn (
        k26 0) fun k25 =>
      if v2 = 0 then (
        k25)
      else (
        hm_bind (hm_on 9 x0 (p_Mo_takes x0 0)) fun a2 =>
        if a2 = 0 then (
          k25)
        else (
          k26 1)))
def p_Mo_takesInts (o : Option Nat) (x1 : Int32) : hM Int32 :=
  p_Mo_takesInts_4 o x1 (fun (v2_3 : Int32) =>
    hm_z v2_3) hm_fuel 1 0
def p_Mo_moves_571 (x0 : Option Nat) (x4 : Int32) (x6 : Int32) (kx : hM Int32) : Nat → Int32 → hM Int32
  | 0, _ => hm_fail
  | fu + 1, v7 =>
    hm_ne 4 <|
    if (x4 - x4 / 4 * 4) ≤ v7 then (
      kx)
    else (
      hm_bind (hm_on 9 x0 (p_Mo_puts x0 0)) fun _ =>
      p_Mo_moves_571 x0 x4 x6 kx fu (v7 + 1))
def p_Mo_moves_430 (x0 : Option Nat) (x7 : Int32) (kx : Int32 → hM Int32) : Nat → Int32 → Int32 → hM Int32
  | 0, _, _ => hm_fail
  | fu + 1, v6, v8 =>
    if v8 < 0 then (
      kx v6)
    else (
      hm_jn (fun (z11 : Int32) =>
        p_Mo_moves_430 x0 x7 kx fu z11 (v8 + (-1))) fun k460 =>
      hm_jn (
        k460 0) fun k459 =>
      if v6 = 0 then (
        k459)
      else (
        hm_bind (hm_on 9 x0 (p_Mo_isRow x0 x7 v8)) fun a12 =>
        hm_bind (hm_on 9 x0 (p_Mo_takes x0 a12)) fun a13 =>
        if a13 = 0 then (
          k459)
        else (
          k460 1)))
def p_Mo_moves (o : Option Nat) (x1 : Int32) (x2 : Int32) (x3 : Int32) (x4 : Int32) : hM Int32 :=
  if x3 = 0 then (
    hm_bind (hm_on 9 o (p_Mo_puts o 0)) fun _ =>
    hm_z 1)
  else (
    if x3 = 1 then (
      hm_bind (hm_on 9 o (p_Mo_takes o 2)) fun a47 =>
      hm_z a47)
    else (
      if x3 = 2 then (
        hm_bind (hm_geti 9 27 o) fun a42 =>
        hm_jn (fun (z43 : Int32) =>
          hm_jn (fun (z44 : Int32) =>
            hm_bind (hm_on 9 o (p_Mo_puts o z44)) fun _ =>
            hm_z z43) fun k80 =>
          if z43 = 0 then (
            k80 0)
          else (
            hm_bind (hm_geti 9 28 o) fun a45 =>
            hm_bind (hm_geti 9 27 o) fun a46 =>
            k80 ((a45 >>> ((a46 - 1) &&& 31)) &&& 1))) fun k55 =>
        if a42 ≤ 0 then (
          k55 0)
        else (
          k55 1))
      else (
        if x3 = 3 then (
          hm_bind (hm_geti 9 27 o) fun a31 =>
          hm_jn (fun (z32 : Int32) =>
            hm_jn (fun (z33 : Int32) =>
              hm_jn (fun (z34 : Int32) =>
                hm_jn (fun (z35 : Int32) =>
                  if z35 = 0 then (
                    hm_z z35)
                  else (
                    hm_bind (hm_on 9 o (p_Mo_puts o z33)) fun _ =>
                    hm_bind (hm_on 9 o (p_Mo_puts o z34)) fun _ =>
                    hm_z z35)) fun k180 =>
                hm_jn (
                  k180 0) fun k179 =>
                if z32 = 0 then (
                  k179)
                else (
                  hm_bind (hm_on 9 o (p_Mo_takes o 2)) fun a36 =>
                  if a36 = 0 then (
                    k179)
                  else (
                    hm_bind (hm_on 9 o (p_Mo_takes o 2)) fun a37 =>
                    if a37 = 0 then (
                      k179)
                    else (
                      k180 1)))) fun k152 =>
              if z32 = 0 then (
                k152 0)
              else (
                hm_bind (hm_geti 9 28 o) fun a38 =>
                hm_bind (hm_geti 9 27 o) fun a39 =>
                k152 ((a38 >>> ((a39 - 2) &&& 31)) &&& 1))) fun k128 =>
            if z32 = 0 then (
              k128 0)
            else (
              hm_bind (hm_geti 9 28 o) fun a40 =>
              hm_bind (hm_geti 9 27 o) fun a41 =>
              k128 ((a40 >>> ((a41 - 1) &&& 31)) &&& 1))) fun k104 =>
          if a31 ≤ 1 then (
            k104 0)
          else (
            k104 1))
        else (
          if x3 = 4 then (
            hm_bind (hm_on 9 o (p_Mo_isRow o ((12 * x1) + x2) x4)) fun a30 =>
            hm_bind (hm_on 9 o (p_Mo_puts o a30)) fun _ =>
            hm_z 1)
          else (
            if x3 = 5 then (
              hm_bind (hm_on 9 o (p_Mo_isRow o ((12 * x1) + x2) x4)) fun a28 =>
              hm_bind (hm_on 9 o (p_Mo_takes o a28)) fun a29 =>
              hm_z a29)
            else (
              if 18 ≤ x3 then (
                hm_jn (
                  hm_bind (hm_on 9 o (p_Mo_takes o 0)) fun a1 =>
                  hm_z a1) fun k283 =>
                if x3 = 19 then (
                  k283)
                else (
                  if x3 = 20 then (
                    k283)
                  else (
                    if x3 = 28 then (
                      k283)
                    else (
                      if x3 = 21 then (
                        hm_bind (hm_on 9 o (p_Mo_takes o 0)) fun a26 =>
                        hm_bind (hm_on 9 o (p_Mo_puts o 1)) fun _ =>
                        hm_z a26)
                      else (
                        if x3 = 22 then (
                          hm_bind (hm_on 9 o (p_Mo_takes o 0)) fun a23 =>
                          hm_jn (fun (z24 : Int32) =>
                            hm_bind (hm_on 9 o (p_Mo_puts o 0)) fun _ =>
                            hm_z z24) fun k341 =>
                          hm_jn (
                            k341 0) fun k340 =>
                          if a23 = 0 then (
                            k340)
                          else (
                            hm_bind (hm_on 9 o (p_Mo_takes o 1)) fun a25 =>
                            if a25 = 0 then (
                              k340)
                            else (
                              k341 1)))
                        else (
                          if x3 = 23 then (
                            hm_bind (hm_on 9 o (p_Mo_takesInts o 2)) fun a20 =>
                            hm_jn (fun (z21 : Int32) =>
                              hm_z z21) fun k378 =>
                            hm_jn (
                              k378 0) fun k377 =>
                            if a20 = 0 then (
                              k377)
                            else (
                              hm_bind (hm_on 9 o (p_Mo_takes o 1)) fun a22 =>
                              if a22 = 0 then (
                                k377)
                              else (
                                k378 1)))
                          else (
                            if x3 = 24 then (
                              hm_bind (hm_on 9 o (p_Mo_takes o 1)) fun a19 =>
                              hm_bind (hm_on 9 o (p_Mo_puts o 0)) fun _ =>
                              hm_z a19)
                            else (
                              if x3 = 25 then (
                                hm_bind (hm_getr 9 10 o) fun a9 =>
                                hm_bind (hm_ild 13 a9 ((12 * x1) + x4)) fun a10 =>
                                p_Mo_moves_430 o ((12 * x1) + x4) (fun (v6_14 : Int32) =>
                                  hm_bind (hm_getr 9 13 o) fun a15 =>
                                  hm_bind (hm_ild 16 a15 ((12 * x1) + x4)) fun a16 =>
                                  if a16 ≤ 0 then (
                                    hm_z v6_14)
                                  else (
                                    hm_bind (hm_getr 9 13 o) fun a17 =>
                                    hm_bind (hm_ild 16 a17 ((12 * x1) + x4)) fun a18 =>
                                    hm_bind (hm_on 9 o (p_Mo_puts o (a18 - 1))) fun _ =>
                                    hm_z v6_14)) hm_fuel 1 (a10 - 1))
                              else (
                                if x3 = 26 then (
                                  hm_ne 4 <|
                                  hm_bind (hm_on 9 o (p_Mo_takesInts o (x4 - x4 / 4 * 4))) fun a8 =>
                                  hm_bind (hm_on 9 o (p_Mo_puts o 0)) fun _ =>
                                  hm_z a8)
                                else (
                                  hm_jn (
                                    if x3 = 29 then (
                                      hm_ne 4 <|
                                      hm_bind (hm_on 9 o (p_Mo_takesInts o (x4 - x4 / 4 * 4))) fun a2 =>
                                      p_Mo_moves_571 o x4 a2 (
                                        hm_z a2) hm_fuel 0)
                                    else (
                                      hm_z 1)) fun k552 =>
                                  if x3 = 27 then (
                                    hm_bind (hm_getr 9 13 o) fun a3 =>
                                    hm_bind (hm_ild 16 a3 ((12 * x1) + x2)) fun a4 =>
                                    if a4 ≤ 0 then (
                                      k552)
                                    else (
                                      hm_bind (hm_getr 9 13 o) fun a5 =>
                                      hm_bind (hm_ild 16 a5 ((12 * x1) + x2)) fun a6 =>
                                      hm_bind (hm_on 9 o (p_Mo_takes o (a6 - 1))) fun a7 =>
                                      hm_z a7))
                                  else (
                                    k552)))))))))))
              else (
                hm_bind (hm_on 9 o (p_Mo_takesInts o 2)) fun a27 =>
                hm_bind (hm_on 9 o (p_Mo_puts o 0)) fun _ =>
                hm_z a27)))))))
def p_Mo_lookAtOne_140 (x0 : Option Nat) (x1 : Int32) (x2 : Int32) (x3 : Int32) (x4 : Int32) (x5 : Int32) (x6 : Int32) (x7 : Int32) (x8 : Int32) (kx : hM Unit) : Nat → Int32 → hM Unit
  | 0, _ => hm_fail
  | fu + 1, v9 =>
    hm_bind (hm_getr 9 15 x0) fun a13 =>
    hm_bind (hm_ild 18 a13 x4) fun a14 =>
    if (((72 * x1) + (6 * x2)) + a14) ≤ v9 then (
      kx)
    else (
      hm_bind (hm_geti 9 7 x0) fun a15 =>
      if a15 = 0 then (
        hm_bind (hm_getr 9 18 x0) fun a16 =>
        hm_bind (hm_ild 21 a16 v9) fun a17 =>
        hm_jn (
          p_Mo_lookAtOne_140 x0 x1 x2 x3 x4 x5 x6 x7 x8 kx fu (v9 + 1)) fun k206 =>
        if x3 < a17 then (
          k206)
        else (
          hm_bind (hm_getr 9 19 x0) fun a18 =>
          hm_bind (hm_ild 22 a18 v9) fun a19 =>
          if a19 ≤ x3 then (
            k206)
          else (
            hm_bind (hm_getr 9 20 x0) fun a20 =>
            hm_bind (hm_ild 23 a20 v9) fun a21 =>
            hm_bind (hm_on 9 x0 (p_Mo_comeTo x0 x1 x2 a21 1 0)) fun _ =>
            k206)))
      else (
        kx))
def p_Mo_lookAtOne (o : Option Nat) (x1 : Int32) (x2 : Int32) (x3 : Int32) : hM Unit :=
  hm_bind (hm_getr 9 16 o) fun a1 =>
  hm_bind (hm_ild 19 a1 (((4800 * x1) + (400 * x2)) + x3)) fun a2 =>
  hm_bind (hm_getr 9 23 o) fun a3 =>
  hm_bind (hm_ild 26 a3 (((4800 * x1) + (400 * x2)) + x3)) fun a4 =>
  hm_bind (hm_puti 9 27 o a4) fun _ =>
  hm_bind (hm_getr 9 24 o) fun a5 =>
  hm_bind (hm_ild 27 a5 (((4800 * x1) + (400 * x2)) + x3)) fun a6 =>
  hm_bind (hm_puti 9 28 o a6) fun _ =>
  hm_bind (hm_getr 9 17 o) fun a7 =>
  hm_bind (hm_ild 20 a7 (((4800 * x1) + (400 * x2)) + x3)) fun a8 =>
  hm_bind (hm_on 9 o (p_Mo_moves o x1 x2 a2 a8)) fun a9 =>
  hm_jn (
    hm_bind (hm_geti 9 7 o) fun a10 =>
    if a10 ≤ 0 then (
      hm_bind (hm_geti 9 27 o) fun a11 =>
      hm_bind (hm_geti 9 28 o) fun a12 =>
      p_Mo_lookAtOne_140 o x1 x2 x3 ((12 * x1) + x2) (((4800 * x1) + (400 * x2)) + x3) a2 a11 a12 (
        hm_jn (
          if a2 = 18 then (
            hm_ret ())
          else (
            if a2 = 27 then (
              hm_ret ())
            else (
              if a2 = 28 then (
                hm_ret ())
              else (
                hm_bind (hm_geti 9 7 o) fun a22 =>
                if a22 = 0 then (
                  hm_bind (hm_getr 9 14 o) fun a23 =>
                  hm_bind (hm_ild 17 a23 ((12 * x1) + x2)) fun a24 =>
                  if (x3 + 1) = a24 then (
                    hm_bind (hm_on 9 o (p_Mo_wrong o 8 ((512 * x2) + x3))) fun _ =>
                    hm_ret ())
                  else (
                    hm_bind (hm_on 9 o (p_Mo_comeTo o x1 x2 (x3 + 1) a11 a12)) fun _ =>
                    hm_ret ()))
                else (
                  hm_ret ()))))) fun k250 =>
        if a2 ≤ 17 then (
          k250)
        else (
          if 21 ≤ a2 then (
            k250)
          else (
            hm_bind (hm_geti 9 7 o) fun a25 =>
            if a25 = 0 then (
              hm_bind (hm_getr 9 17 o) fun a26 =>
              hm_bind (hm_ild 20 a26 (((4800 * x1) + (400 * x2)) + x3)) fun a27 =>
              hm_bind (hm_on 9 o (p_Mo_comeTo o x1 x2 a27 a11 a12)) fun _ =>
              k250)
            else (
              k250)))) hm_fuel ((72 * x1) + (6 * x2)))
    else (
      hm_ret ())) fun k109 =>
  if a9 = 0 then (
    hm_bind (hm_on 9 o (p_Mo_wrong o 5 ((512 * x2) + x3))) fun _ =>
    k109)
  else (
    hm_bind (hm_geti 9 27 o) fun a28 =>
    if a28 ≤ 16 then (
      k109)
    else (
      hm_bind (hm_on 9 o (p_Mo_wrong o 6 ((512 * x2) + x3))) fun _ =>
      k109))
def p_Mo_verify_10 (x0 : Option Nat) (x1 : Int32) (x2 : Int32) (x3 : Int32) (kx : hM Unit) : Nat → Int32 → hM Unit
  | 0, _ => hm_fail
  | fu + 1, v4 =>
    if 400 ≤ v4 then (
      kx)
    else (
      hm_bind (hm_getr 9 25 x0) fun a1 =>
      hm_bind (hm_ist 28 a1 v4 (0 &&& 1)) fun _ =>
      hm_bind (hm_getr 9 23 x0) fun a2 =>
      hm_bind (hm_ist 26 a2 (((4800 * x1) + (400 * x2)) + v4) (-1)) fun _ =>
      hm_bind (hm_getr 9 24 x0) fun a3 =>
      hm_bind (hm_ist 27 a3 (((4800 * x1) + (400 * x2)) + v4) 0) fun _ =>
      p_Mo_verify_10 x0 x1 x2 x3 kx fu (v4 + 1))
def p_Mo_verify_84 (x0 : Option Nat) (x1 : Int32) (x2 : Int32) (x3 : Int32) (kx : hM Unit) : Nat → Int32 → hM Unit
  | 0, _ => hm_fail
  | fu + 1, v4 =>
    hm_bind (hm_geti 9 7 x0) fun a4 =>
    if a4 = 0 then (
      hm_bind (hm_getr 9 14 x0) fun a5 =>
      hm_bind (hm_ild 17 a5 x3) fun a6 =>
      if a6 ≤ v4 then (
        kx)
      else (
        hm_bind (hm_getr 9 25 x0) fun a7 =>
        hm_bind (hm_ild 28 a7 v4) fun a8 =>
        if a8 = 0 then (
          p_Mo_verify_84 x0 x1 x2 x3 kx fu (v4 + 1))
        else (
          hm_bind (hm_getr 9 25 x0) fun a9 =>
          hm_bind (hm_ist 28 a9 v4 (0 &&& 1)) fun _ =>
          hm_bind (hm_on 9 x0 (p_Mo_lookAtOne x0 x1 x2 v4)) fun _ =>
          p_Mo_verify_84 x0 x1 x2 x3 kx fu 0)))
    else (
      kx)
def p_Mo_verify (o : Option Nat) (x1 : Int32) (x2 : Int32) : hM Unit :=
  p_Mo_verify_10 o x1 x2 ((12 * x1) + x2) (
    hm_bind (hm_on 9 o (p_Mo_comeTo o x1 x2 0 0 0)) fun _ =>
    p_Mo_verify_84 o x1 x2 ((12 * x1) + x2) (
      hm_ret ()) hm_fuel 0) hm_fuel 0
def p_Mo_init (o : Option Nat) : hM Unit :=
  hm_bind (hm_newi 10 4096) fun q1 =>
  hm_bind (hm_putr 9 1 o (some q1)) fun _ =>
  hm_bind (hm_newi 11 26000) fun q2 =>
  hm_bind (hm_putr 9 3 o (some q2)) fun _ =>
  hm_bind (hm_puti 9 6 o (-1)) fun _ =>
  hm_bind (hm_newi 12 2) fun q3 =>
  hm_bind (hm_putr 9 9 o (some q3)) fun _ =>
  hm_bind (hm_newi 13 24) fun q4 =>
  hm_bind (hm_putr 9 10 o (some q4)) fun _ =>
  hm_bind (hm_newi 14 24) fun q5 =>
  hm_bind (hm_putr 9 11 o (some q5)) fun _ =>
  hm_bind (hm_newi 15 24) fun q6 =>
  hm_bind (hm_putr 9 12 o (some q6)) fun _ =>
  hm_bind (hm_newi 16 24) fun q7 =>
  hm_bind (hm_putr 9 13 o (some q7)) fun _ =>
  hm_bind (hm_newi 17 24) fun q8 =>
  hm_bind (hm_putr 9 14 o (some q8)) fun _ =>
  hm_bind (hm_newi 18 24) fun q9 =>
  hm_bind (hm_putr 9 15 o (some q9)) fun _ =>
  hm_bind (hm_newi 19 9600) fun q10 =>
  hm_bind (hm_putr 9 16 o (some q10)) fun _ =>
  hm_bind (hm_newi 20 9600) fun q11 =>
  hm_bind (hm_putr 9 17 o (some q11)) fun _ =>
  hm_bind (hm_newi 21 144) fun q12 =>
  hm_bind (hm_putr 9 18 o (some q12)) fun _ =>
  hm_bind (hm_newi 22 144) fun q13 =>
  hm_bind (hm_putr 9 19 o (some q13)) fun _ =>
  hm_bind (hm_newi 23 144) fun q14 =>
  hm_bind (hm_putr 9 20 o (some q14)) fun _ =>
  hm_bind (hm_newi 24 144) fun q15 =>
  hm_bind (hm_putr 9 21 o (some q15)) fun _ =>
  hm_bind (hm_newi 25 144) fun q16 =>
  hm_bind (hm_putr 9 22 o (some q16)) fun _ =>
  hm_bind (hm_newi 26 9600) fun q17 =>
  hm_bind (hm_putr 9 23 o (some q17)) fun _ =>
  hm_bind (hm_newi 27 9600) fun q18 =>
  hm_bind (hm_putr 9 24 o (some q18)) fun _ =>
  hm_bind (hm_newi 28 400) fun q19 =>
  hm_bind (hm_putr 9 25 o (some q19)) fun _ =>
  hm_bind (hm_getr 9 9 o) fun a20 =>
  hm_bind (hm_ist 12 a20 0 1) fun _ =>
  hm_bind (hm_getr 9 14 o) fun a21 =>
  hm_bind (hm_ist 17 a21 0 1) fun _ =>
  hm_bind (hm_getr 9 16 o) fun a22 =>
  hm_bind (hm_ist 19 a22 0 27) fun _ =>
  hm_bind (hm_on 9 o (p_Mo_verify o 0 0)) fun _ =>
  hm_ret ()
def p_Mo_give_35 (x0 : Option Nat) (x1 : Int64) (kx : hM Int32) : Nat → Int32 → hM Int32
  | 0, _ => hm_fail
  | fu + 1, v4 =>
    if v4 < 0 then (
      kx)
    else (
      hm_bind (hm_getr 9 1 x0) fun a2 =>
      hm_bind (hm_geti 9 2 x0) fun a3 =>
      hm_bind (hm_ist 10 a2 a3 (Int64.toInt32 ((x1 >>> (Int32.toInt64 (8 * v4) &&& 63)) &&& 255))) fun _ =>
      hm_bind (hm_geti 9 2 x0) fun a4 =>
      hm_bind (hm_puti 9 2 x0 (a4 + 1)) fun _ =>
      p_Mo_give_35 x0 x1 kx fu (v4 + (-1)))
def p_Mo_give (o : Option Nat) (x1 : Int64) (x3 : Int32) : hM Int32 :=
  hm_bind (hm_puti 9 0 o 0) fun _ =>
  if x3 < 1 then (
    hm_z 0)
  else (
    if 8 < x3 then (
      hm_z 0)
    else (
      hm_bind (hm_geti 9 2 o) fun a1 =>
      if (a1 + x3) ≤ 4096 then (
        p_Mo_give_35 o x1 (
          hm_z 1) hm_fuel (x3 - 1))
      else (
        hm_z 0)))
def p_Mo_cut (o : Option Nat) (x1 : Int32) : hM Int32 :=
  hm_bind (hm_puti 9 0 o 0) fun _ =>
  if x1 < 0 then (
    hm_z 0)
  else (
    hm_bind (hm_geti 9 2 o) fun a1 =>
    if x1 ≤ a1 then (
      hm_bind (hm_puti 9 2 o x1) fun _ =>
      hm_z 1)
    else (
      hm_z 0))
def p_Mo_poke (o : Option Nat) (x1 : Int32) (x2 : Int32) : hM Int32 :=
  hm_bind (hm_puti 9 0 o 0) fun _ =>
  if x1 < 0 then (
    hm_z 0)
  else (
    hm_bind (hm_geti 9 2 o) fun a1 =>
    if x1 < a1 then (
      hm_bind (hm_getr 9 1 o) fun a2 =>
      hm_bind (hm_ist 10 a2 x1 (x2 &&& 255)) fun _ =>
      hm_z 1)
    else (
      hm_z 0))
def p_Mo_turnOver_27 (x0 : Option Nat) (kx : hM Int32) : Nat → Int32 → hM Int32
  | 0, _ => hm_fail
  | fu + 1, v1 =>
    hm_bind (hm_geti 9 2 x0) fun a3 =>
    if a3 ≤ v1 then (
      kx)
    else (
      hm_bind (hm_getr 9 1 x0) fun a4 =>
      hm_bind (hm_getr 9 3 x0) fun a5 =>
      hm_bind (hm_ild 11 a5 v1) fun a6 =>
      hm_bind (hm_ist 10 a4 v1 a6) fun _ =>
      p_Mo_turnOver_27 x0 kx fu (v1 + 1))
def p_Mo_turnOver (o : Option Nat) : hM Int32 :=
  hm_bind (hm_puti 9 0 o 0) fun _ =>
  hm_bind (hm_geti 9 4 o) fun a1 =>
  if a1 ≤ 4096 then (
    hm_bind (hm_geti 9 4 o) fun a2 =>
    hm_bind (hm_puti 9 2 o a2) fun _ =>
    p_Mo_turnOver_27 o (
      hm_z 1) hm_fuel 0)
  else (
    hm_z 0)
def p_Mo_byteAt (o : Option Nat) (x1 : Int32) (x2 : Int32) : hM Int32 :=
  hm_bind (hm_puti 9 0 o 0) fun _ =>
  if x1 < 0 then (
    hm_ret (-1))
  else (
    hm_jn (fun (z1 : Int32) =>
      if x1 < z1 then (
        if x2 = 0 then (
          hm_bind (hm_getr 9 3 o) fun a2 =>
          hm_bind (hm_ild 11 a2 x1) fun a3 =>
          hm_ret a3)
        else (
          hm_bind (hm_getr 9 1 o) fun a4 =>
          hm_bind (hm_ild 10 a4 x1) fun a5 =>
          hm_ret a5))
      else (
        hm_ret (-1))) fun k25 =>
    if x2 = 0 then (
      hm_bind (hm_geti 9 4 o) fun a6 =>
      k25 a6)
    else (
      hm_bind (hm_geti 9 2 o) fun a7 =>
      k25 a7))
def p_Mo_byteNext (o : Option Nat) : hM Int32 :=
  hm_bind (hm_geti 9 7 o) fun a1 =>
  hm_jn (
    hm_bind (hm_geti 9 2 o) fun a2 =>
    hm_bind (hm_on 9 o (p_Mo_wrong o 1 a2)) fun _ =>
    hm_ret 0) fun k18 =>
  if 0 < a1 then (
    k18)
  else (
    hm_bind (hm_geti 9 26 o) fun a3 =>
    hm_bind (hm_geti 9 2 o) fun a4 =>
    if a3 = a4 then (
      k18)
    else (
      hm_bind (hm_geti 9 26 o) fun a5 =>
      hm_bind (hm_puti 9 26 o (a5 + 1)) fun _ =>
      hm_bind (hm_getr 9 1 o) fun a6 =>
      hm_bind (hm_geti 9 26 o) fun a7 =>
      hm_bind (hm_ild 10 a6 (a7 - 1)) fun a8 =>
      hm_ret a8))
def p_Mo_numberNext_12 (x0 : Option Nat) (x1 : Int32) (x2 : Int32) (x3 : Int32) (x4 : Int32) (kx : Int32 → hM Int32) : Nat → Int32 → Int32 → hM Int32
  | 0, _, _ => hm_fail
  | fu + 1, v5, v6 =>
    if x1 ≤ v6 then (
      kx v5)
    else (
      hm_bind (hm_on 9 x0 (p_Mo_byteNext x0 )) fun a2 =>
      p_Mo_numberNext_12 x0 x1 x2 x3 x4 kx fu ((v5 <<< ((8 : Int32) &&& 31)) ||| a2) (v6 + 1))
def p_Mo_numberNext (o : Option Nat) (x1 : Int32) (x2 : Int32) (x3 : Int32) : hM Int32 :=
  hm_bind (hm_geti 9 26 o) fun a1 =>
  p_Mo_numberNext_12 o x1 x2 x3 a1 (fun (v5_3 : Int32) =>
    hm_bind (hm_geti 9 7 o) fun a4 =>
    if a4 = 0 then (
      hm_jn (
        hm_bind (hm_on 9 o (p_Mo_wrong o 3 a1)) fun _ =>
        hm_ret v5_3) fun k55 =>
      if v5_3 < x2 then (
        k55)
      else (
        if v5_3 ≤ x3 then (
          hm_ret v5_3)
        else (
          k55)))
    else (
      hm_ret v5_3)) hm_fuel 0 0
def p_Mo_readInstruction (o : Option Nat) (x1 : Int32) (x2 : Int32) (x3 : Int32) (x4 : Int32) : hM Unit :=
  hm_bind (hm_on 9 o (p_Mo_numberNext o 1 0 29)) fun a1 =>
  hm_jn (fun (w6_2 : Int32) =>
    hm_bind (hm_getr 9 16 o) fun a3 =>
    hm_bind (hm_ist 19 a3 ((4800 + (400 * x1)) + x2) a1) fun _ =>
    hm_bind (hm_getr 9 17 o) fun a4 =>
    hm_bind (hm_ist 20 a4 ((4800 + (400 * x1)) + x2) w6_2) fun _ =>
    hm_ret ()) fun k140 =>
  if a1 = 0 then (
    hm_bind (hm_on 9 o (p_Mo_numberNext o 4 (-2147483648) 2147483647)) fun a11 =>
    k140 a11)
  else (
    hm_jn (
      hm_bind (hm_getr 9 11 o) fun a5 =>
      hm_bind (hm_ild 14 a5 (12 + x1)) fun a6 =>
      hm_bind (hm_on 9 o (p_Mo_numberNext o 1 0 (a6 - 1))) fun a7 =>
      k140 a7) fun k44 =>
    if a1 = 4 then (
      k44)
    else (
      if a1 = 5 then (
        k44)
      else (
        hm_jn (
          if a1 = 25 then (
            hm_bind (hm_on 9 o (p_Mo_numberNext o 1 0 (x4 - 1))) fun a9 =>
            k140 a9)
          else (
            hm_jn (
              hm_bind (hm_on 9 o (p_Mo_numberNext o 1 0 15)) fun a8 =>
              k140 a8) fun k130 =>
            if a1 = 26 then (
              k130)
            else (
              if a1 = 29 then (
                k130)
              else (
                k140 0)))) fun k94 =>
        if a1 ≤ 17 then (
          k94)
        else (
          if 21 ≤ a1 then (
            k94)
          else (
            hm_bind (hm_on 9 o (p_Mo_numberNext o 2 0 (x3 - 1))) fun a10 =>
            k140 a10)))))
def p_Mo_readFunction_109 (x0 : Option Nat) (x1 : Int32) (x2 : Int32) (x3 : Int32) (kx : hM Unit) : Nat → Int32 → hM Unit
  | 0, _ => hm_fail
  | fu + 1, v4 =>
    hm_bind (hm_getr 9 14 x0) fun a17 =>
    hm_bind (hm_ild 17 a17 x3) fun a18 =>
    if a18 ≤ v4 then (
      kx)
    else (
      hm_bind (hm_geti 9 7 x0) fun a19 =>
      if a19 = 0 then (
        hm_bind (hm_getr 9 14 x0) fun a20 =>
        hm_bind (hm_ild 17 a20 x3) fun a21 =>
        hm_bind (hm_on 9 x0 (p_Mo_readInstruction x0 x1 v4 a21 x2)) fun _ =>
        p_Mo_readFunction_109 x0 x1 x2 x3 kx fu (v4 + 1))
      else (
        kx))
def p_Mo_readFunction_164 (x0 : Option Nat) (x1 : Int32) (x3 : Int32) (kx : hM Unit) : Nat → Int32 → hM Unit
  | 0, _ => hm_fail
  | fu + 1, v4 =>
    hm_bind (hm_getr 9 15 x0) fun a24 =>
    hm_bind (hm_ild 18 a24 x3) fun a25 =>
    if a25 ≤ v4 then (
      kx)
    else (
      hm_bind (hm_geti 9 7 x0) fun a26 =>
      if a26 = 0 then (
        hm_bind (hm_getr 9 18 x0) fun a27 =>
        hm_bind (hm_getr 9 14 x0) fun a28 =>
        hm_bind (hm_ild 17 a28 x3) fun a29 =>
        hm_bind (hm_on 9 x0 (p_Mo_numberNext x0 2 0 (a29 - 1))) fun a30 =>
        hm_bind (hm_ist 21 a27 ((72 + (6 * x1)) + v4) a30) fun _ =>
        hm_bind (hm_getr 9 19 x0) fun a31 =>
        hm_bind (hm_getr 9 18 x0) fun a32 =>
        hm_bind (hm_ild 21 a32 ((72 + (6 * x1)) + v4)) fun a33 =>
        hm_bind (hm_getr 9 14 x0) fun a34 =>
        hm_bind (hm_ild 17 a34 x3) fun a35 =>
        hm_bind (hm_on 9 x0 (p_Mo_numberNext x0 2 (a33 + 1) a35)) fun a36 =>
        hm_bind (hm_ist 22 a31 ((72 + (6 * x1)) + v4) a36) fun _ =>
        hm_bind (hm_getr 9 20 x0) fun a37 =>
        hm_bind (hm_getr 9 14 x0) fun a38 =>
        hm_bind (hm_ild 17 a38 x3) fun a39 =>
        hm_bind (hm_on 9 x0 (p_Mo_numberNext x0 2 0 (a39 - 1))) fun a40 =>
        hm_bind (hm_ist 23 a37 ((72 + (6 * x1)) + v4) a40) fun _ =>
        hm_bind (hm_getr 9 21 x0) fun a41 =>
        hm_bind (hm_on 9 x0 (p_Mo_numberNext x0 1 0 1)) fun a42 =>
        hm_jn (fun (z43 : Int32) =>
          hm_bind (hm_ist 24 a41 ((72 + (6 * x1)) + v4) (z43 &&& 1)) fun _ =>
          hm_bind (hm_getr 9 22 x0) fun a44 =>
          hm_bind (hm_getr 9 21 x0) fun a45 =>
          hm_bind (hm_ild 24 a45 ((72 + (6 * x1)) + v4)) fun a46 =>
          hm_jn (fun (z47 : Int32) =>
            hm_bind (hm_ist 25 a44 ((72 + (6 * x1)) + v4) z47) fun _ =>
            p_Mo_readFunction_164 x0 x1 x3 kx fu (v4 + 1)) fun k314 =>
          if a46 = 0 then (
            hm_bind (hm_on 9 x0 (p_Mo_numberNext x0 4 (-2147483648) 2147483647)) fun a48 =>
            k314 a48)
          else (
            k314 0)) fun k284 =>
        if a42 = 0 then (
          k284 1)
        else (
          k284 0))
      else (
        kx))
def p_Mo_readFunction (o : Option Nat) (x1 : Int32) (x2 : Int32) : hM Unit :=
  hm_bind (hm_getr 9 10 o) fun a1 =>
  hm_jn (fun (z2 : Int32) =>
    hm_bind (hm_on 9 o (p_Mo_numberNext o 1 0 z2)) fun a3 =>
    hm_bind (hm_ist 13 a1 (12 + x1) a3) fun _ =>
    hm_bind (hm_getr 9 11 o) fun a4 =>
    hm_bind (hm_getr 9 10 o) fun a5 =>
    hm_bind (hm_ild 13 a5 (12 + x1)) fun a6 =>
    hm_bind (hm_on 9 o (p_Mo_numberNext o 1 a6 12)) fun a7 =>
    hm_bind (hm_ist 14 a4 (12 + x1) a7) fun _ =>
    hm_bind (hm_getr 9 12 o) fun a8 =>
    hm_bind (hm_getr 9 11 o) fun a9 =>
    hm_bind (hm_ild 14 a9 (12 + x1)) fun a10 =>
    hm_bind (hm_on 9 o (p_Mo_numberNext o 2 0 (((1 : Int32) <<< ((a10 &&& 15) &&& 31)) - 1))) fun a11 =>
    hm_bind (hm_ist 15 a8 (12 + x1) a11) fun _ =>
    hm_bind (hm_getr 9 13 o) fun a12 =>
    hm_jn (fun (z13 : Int32) =>
      hm_bind (hm_on 9 o (p_Mo_numberNext o 1 0 z13)) fun a14 =>
      hm_bind (hm_ist 16 a12 (12 + x1) a14) fun _ =>
      hm_bind (hm_getr 9 14 o) fun a15 =>
      hm_bind (hm_on 9 o (p_Mo_numberNext o 2 1 400)) fun a16 =>
      hm_bind (hm_ist 17 a15 (12 + x1) a16) fun _ =>
      p_Mo_readFunction_109 o x1 x2 (12 + x1) (
        hm_bind (hm_getr 9 15 o) fun a22 =>
        hm_bind (hm_on 9 o (p_Mo_numberNext o 1 0 6)) fun a23 =>
        hm_bind (hm_ist 18 a22 (12 + x1) a23) fun _ =>
        p_Mo_readFunction_164 o x1 (12 + x1) (
          hm_ret ()) hm_fuel 0) hm_fuel 0) fun k87 =>
    if x1 = 0 then (
      k87 1)
    else (
      k87 2)) fun k22 =>
  if x1 = 0 then (
    k22 0)
  else (
    k22 4)
def p_Mo_readProgram_17 (x0 : Option Nat) (kx : hM Unit) : Nat → Int32 → hM Unit
  | 0, _ => hm_fail
  | fu + 1, v1 =>
    if 3 ≤ v1 then (
      kx)
    else (
      hm_bind (hm_on 9 x0 (p_Mo_byteNext x0 )) fun a1 =>
      hm_bind (hm_geti 9 7 x0) fun a2 =>
      hm_jn (
        p_Mo_readProgram_17 x0 kx fu (v1 + 1)) fun k64 =>
      if a2 = 0 then (
        hm_jn (fun (z3 : Int32) =>
          if a1 = z3 then (
            k64)
          else (
            hm_bind (hm_on 9 x0 (p_Mo_wrong x0 2 v1)) fun _ =>
            k64)) fun k55 =>
        if v1 = 0 then (
          k55 71)
        else (
          if v1 = 1 then (
            k55 70)
          else (
            k55 1)))
      else (
        k64))
def p_Mo_readProgram_86 (x0 : Option Nat) (kx : hM Unit) : Nat → Int32 → hM Unit
  | 0, _ => hm_fail
  | fu + 1, v1 =>
    hm_bind (hm_getr 9 9 x0) fun a6 =>
    hm_bind (hm_ild 12 a6 1) fun a7 =>
    if a7 ≤ v1 then (
      kx)
    else (
      hm_bind (hm_geti 9 7 x0) fun a8 =>
      if a8 = 0 then (
        hm_bind (hm_getr 9 9 x0) fun a9 =>
        hm_bind (hm_ild 12 a9 1) fun a10 =>
        hm_bind (hm_on 9 x0 (p_Mo_readFunction x0 v1 a10)) fun _ =>
        p_Mo_readProgram_86 x0 kx fu (v1 + 1))
      else (
        kx))
def p_Mo_readProgram (o : Option Nat) : hM Unit :=
  hm_bind (hm_puti 9 26 o 0) fun _ =>
  hm_bind (hm_puti 9 7 o 0) fun _ =>
  hm_bind (hm_puti 9 8 o (-1)) fun _ =>
  p_Mo_readProgram_17 o (
    hm_bind (hm_getr 9 9 o) fun a4 =>
    hm_bind (hm_on 9 o (p_Mo_numberNext o 1 1 12)) fun a5 =>
    hm_bind (hm_ist 12 a4 1 a5) fun _ =>
    p_Mo_readProgram_86 o (
      hm_bind (hm_geti 9 7 o) fun a11 =>
      if a11 = 0 then (
        hm_bind (hm_geti 9 26 o) fun a12 =>
        hm_bind (hm_geti 9 2 o) fun a13 =>
        if a13 ≤ a12 then (
          hm_ret ())
        else (
          hm_bind (hm_geti 9 26 o) fun a14 =>
          hm_bind (hm_on 9 o (p_Mo_wrong o 4 a14)) fun _ =>
          hm_ret ()))
      else (
        hm_ret ())) hm_fuel 0) hm_fuel 0
def p_Mo_copyProgram_14 (x0 : Option Nat) (x1 : Int32) (x2 : Int32) (kx : hM Unit) : Nat → Int32 → hM Unit
  | 0, _ => hm_fail
  | fu + 1, v3 =>
    if 12 ≤ v3 then (
      kx)
    else (
      hm_bind (hm_getr 9 10 x0) fun a4 =>
      hm_bind (hm_getr 9 10 x0) fun a5 =>
      hm_bind (hm_ild 13 a5 ((12 * x1) + v3)) fun a6 =>
      hm_bind (hm_ist 13 a4 ((12 * x2) + v3) a6) fun _ =>
      hm_bind (hm_getr 9 11 x0) fun a7 =>
      hm_bind (hm_getr 9 11 x0) fun a8 =>
      hm_bind (hm_ild 14 a8 ((12 * x1) + v3)) fun a9 =>
      hm_bind (hm_ist 14 a7 ((12 * x2) + v3) a9) fun _ =>
      hm_bind (hm_getr 9 12 x0) fun a10 =>
      hm_bind (hm_getr 9 12 x0) fun a11 =>
      hm_bind (hm_ild 15 a11 ((12 * x1) + v3)) fun a12 =>
      hm_bind (hm_ist 15 a10 ((12 * x2) + v3) a12) fun _ =>
      hm_bind (hm_getr 9 13 x0) fun a13 =>
      hm_bind (hm_getr 9 13 x0) fun a14 =>
      hm_bind (hm_ild 16 a14 ((12 * x1) + v3)) fun a15 =>
      hm_bind (hm_ist 16 a13 ((12 * x2) + v3) a15) fun _ =>
      hm_bind (hm_getr 9 14 x0) fun a16 =>
      hm_bind (hm_getr 9 14 x0) fun a17 =>
      hm_bind (hm_ild 17 a17 ((12 * x1) + v3)) fun a18 =>
      hm_bind (hm_ist 17 a16 ((12 * x2) + v3) a18) fun _ =>
      hm_bind (hm_getr 9 15 x0) fun a19 =>
      hm_bind (hm_getr 9 15 x0) fun a20 =>
      hm_bind (hm_ild 18 a20 ((12 * x1) + v3)) fun a21 =>
      hm_bind (hm_ist 18 a19 ((12 * x2) + v3) a21) fun _ =>
      p_Mo_copyProgram_14 x0 x1 x2 kx fu (v3 + 1))
def p_Mo_copyProgram_160 (x0 : Option Nat) (x1 : Int32) (x2 : Int32) (kx : hM Unit) : Nat → Int32 → hM Unit
  | 0, _ => hm_fail
  | fu + 1, v3 =>
    if 4800 ≤ v3 then (
      kx)
    else (
      hm_bind (hm_getr 9 16 x0) fun a22 =>
      hm_bind (hm_getr 9 16 x0) fun a23 =>
      hm_bind (hm_ild 19 a23 ((4800 * x1) + v3)) fun a24 =>
      hm_bind (hm_ist 19 a22 ((4800 * x2) + v3) a24) fun _ =>
      hm_bind (hm_getr 9 17 x0) fun a25 =>
      hm_bind (hm_getr 9 17 x0) fun a26 =>
      hm_bind (hm_ild 20 a26 ((4800 * x1) + v3)) fun a27 =>
      hm_bind (hm_ist 20 a25 ((4800 * x2) + v3) a27) fun _ =>
      hm_bind (hm_getr 9 23 x0) fun a28 =>
      hm_bind (hm_getr 9 23 x0) fun a29 =>
      hm_bind (hm_ild 26 a29 ((4800 * x1) + v3)) fun a30 =>
      hm_bind (hm_ist 26 a28 ((4800 * x2) + v3) a30) fun _ =>
      hm_bind (hm_getr 9 24 x0) fun a31 =>
      hm_bind (hm_getr 9 24 x0) fun a32 =>
      hm_bind (hm_ild 27 a32 ((4800 * x1) + v3)) fun a33 =>
      hm_bind (hm_ist 27 a31 ((4800 * x2) + v3) a33) fun _ =>
      p_Mo_copyProgram_160 x0 x1 x2 kx fu (v3 + 1))
def p_Mo_copyProgram_271 (x0 : Option Nat) (x1 : Int32) (x2 : Int32) (kx : hM Unit) : Nat → Int32 → hM Unit
  | 0, _ => hm_fail
  | fu + 1, v3 =>
    if 72 ≤ v3 then (
      kx)
    else (
      hm_bind (hm_getr 9 18 x0) fun a34 =>
      hm_bind (hm_getr 9 18 x0) fun a35 =>
      hm_bind (hm_ild 21 a35 ((72 * x1) + v3)) fun a36 =>
      hm_bind (hm_ist 21 a34 ((72 * x2) + v3) a36) fun _ =>
      hm_bind (hm_getr 9 19 x0) fun a37 =>
      hm_bind (hm_getr 9 19 x0) fun a38 =>
      hm_bind (hm_ild 22 a38 ((72 * x1) + v3)) fun a39 =>
      hm_bind (hm_ist 22 a37 ((72 * x2) + v3) a39) fun _ =>
      hm_bind (hm_getr 9 20 x0) fun a40 =>
      hm_bind (hm_getr 9 20 x0) fun a41 =>
      hm_bind (hm_ild 23 a41 ((72 * x1) + v3)) fun a42 =>
      hm_bind (hm_ist 23 a40 ((72 * x2) + v3) a42) fun _ =>
      hm_bind (hm_getr 9 21 x0) fun a43 =>
      hm_bind (hm_getr 9 21 x0) fun a44 =>
      hm_bind (hm_ild 24 a44 ((72 * x1) + v3)) fun a45 =>
      hm_bind (hm_ist 24 a43 ((72 * x2) + v3) (a45 &&& 1)) fun _ =>
      hm_bind (hm_getr 9 22 x0) fun a46 =>
      hm_bind (hm_getr 9 22 x0) fun a47 =>
      hm_bind (hm_ild 25 a47 ((72 * x1) + v3)) fun a48 =>
      hm_bind (hm_ist 25 a46 ((72 * x2) + v3) a48) fun _ =>
      p_Mo_copyProgram_271 x0 x1 x2 kx fu (v3 + 1))
def p_Mo_copyProgram (o : Option Nat) (x1 : Int32) (x2 : Int32) : hM Unit :=
  hm_bind (hm_getr 9 9 o) fun a1 =>
  hm_bind (hm_getr 9 9 o) fun a2 =>
  hm_bind (hm_ild 12 a2 x1) fun a3 =>
  hm_bind (hm_ist 12 a1 x2 a3) fun _ =>
  p_Mo_copyProgram_14 o x1 x2 (
    p_Mo_copyProgram_160 o x1 x2 (
      p_Mo_copyProgram_271 o x1 x2 (
        hm_ret ()) hm_fuel 0) hm_fuel 0) hm_fuel 0
def p_Mo_told (o : Option Nat) : hM Int32 :=
  hm_bind (hm_geti 9 7 o) fun a1 =>
  hm_bind (hm_puti 9 5 o a1) fun _ =>
  hm_bind (hm_geti 9 8 o) fun a2 =>
  hm_bind (hm_puti 9 6 o a2) fun _ =>
  hm_bind (hm_geti 9 7 o) fun a3 =>
  hm_ret a3
def p_Mo_read_11 (x0 : Option Nat) (kx : hM Int32) : Nat → Int32 → hM Int32
  | 0, _ => hm_fail
  | fu + 1, v1 =>
    hm_bind (hm_geti 9 7 x0) fun a1 =>
    if a1 = 0 then (
      hm_bind (hm_getr 9 9 x0) fun a2 =>
      hm_bind (hm_ild 12 a2 1) fun a3 =>
      if a3 ≤ v1 then (
        kx)
      else (
        hm_bind (hm_on 9 x0 (p_Mo_verify x0 1 v1)) fun _ =>
        p_Mo_read_11 x0 kx fu (v1 + 1)))
    else (
      kx)
def p_Mo_read (o : Option Nat) : hM Int32 :=
  hm_bind (hm_puti 9 0 o 0) fun _ =>
  hm_bind (hm_on 9 o (p_Mo_readProgram o )) fun _ =>
  p_Mo_read_11 o (
    hm_bind (hm_geti 9 7 o) fun a4 =>
    hm_jn (
      hm_bind (hm_on 9 o (p_Mo_told o )) fun a5 =>
      hm_ret a5) fun k53 =>
    if a4 = 0 then (
      hm_bind (hm_on 9 o (p_Mo_copyProgram o 1 0)) fun _ =>
      k53)
    else (
      k53)) hm_fuel 0
def p_Mo_canStand (o : Option Nat) (x1 : Int32) (x2 : Int32) (x3 : Int32) : hM Int32 :=
  hm_jn (
    if x3 < 0 then (
      hm_z 0)
    else (
      hm_bind (hm_getr 9 11 o) fun a1 =>
      hm_bind (hm_ild 14 a1 x1) fun a2 =>
      if a2 ≤ x3 then (
        hm_z 0)
      else (
        hm_z 1))) fun k10 =>
  if x2 = 4 then (
    k10)
  else (
    if x2 = 5 then (
      k10)
    else (
      hm_jn (
        if x2 = 0 then (
          hm_z 1)
        else (
          if x2 = 25 then (
            if x3 < 0 then (
              hm_z 0)
            else (
              hm_bind (hm_getr 9 9 o) fun a3 =>
              hm_bind (hm_ild 12 a3 0) fun a4 =>
              if a4 ≤ x3 then (
                hm_z 0)
              else (
                hm_z 1)))
          else (
            hm_jn (
              if x3 < 0 then (
                hm_z 0)
              else (
                if 16 ≤ x3 then (
                  hm_z 0)
                else (
                  hm_z 1))) fun k101 =>
            if x2 = 26 then (
              k101)
            else (
              if x2 = 29 then (
                k101)
              else (
                if x3 = 0 then (
                  hm_z 1)
                else (
                  hm_z 0)))))) fun k62 =>
      if x2 ≤ 17 then (
        k62)
      else (
        if 21 ≤ x2 then (
          k62)
        else (
          if x3 < 0 then (
            hm_z 0)
          else (
            hm_bind (hm_getr 9 14 o) fun a5 =>
            hm_bind (hm_ild 17 a5 x1) fun a6 =>
            if a6 ≤ x3 then (
              hm_z 0)
            else (
              hm_z 1))))))
def p_Mo_change (o : Option Nat) (x1 : Int32) (x2 : Int32) (x3 : Int32) (x4 : Int32) : hM Int32 :=
  hm_bind (hm_puti 9 0 o 0) fun _ =>
  hm_bind (hm_puti 9 7 o 0) fun _ =>
  hm_bind (hm_puti 9 8 o (-1)) fun _ =>
  hm_jn (
    hm_bind (hm_on 9 o (p_Mo_wrong o 3 (-1))) fun _ =>
    hm_bind (hm_on 9 o (p_Mo_told o )) fun a1 =>
    hm_ret a1) fun k78 =>
  if x1 < 0 then (
    k78)
  else (
    hm_bind (hm_getr 9 9 o) fun a2 =>
    hm_bind (hm_ild 12 a2 0) fun a3 =>
    if a3 ≤ x1 then (
      k78)
    else (
      if x2 < 0 then (
        k78)
      else (
        hm_bind (hm_getr 9 14 o) fun a4 =>
        hm_jn (fun (z5 : Int32) =>
          hm_bind (hm_ild 17 a4 z5) fun a6 =>
          if a6 ≤ x2 then (
            k78)
          else (
            if x3 < 0 then (
              k78)
            else (
              if 29 < x3 then (
                k78)
              else (
                hm_bind (hm_on 9 o (p_Mo_canStand o x1 x3 x4)) fun a7 =>
                if a7 = 0 then (
                  k78)
                else (
                  hm_bind (hm_on 9 o (p_Mo_copyProgram o 0 1)) fun _ =>
                  hm_bind (hm_getr 9 16 o) fun a8 =>
                  hm_bind (hm_ist 19 a8 ((4800 + (400 * x1)) + x2) x3) fun _ =>
                  hm_bind (hm_getr 9 17 o) fun a9 =>
                  hm_bind (hm_ist 20 a9 ((4800 + (400 * x1)) + x2) x4) fun _ =>
                  hm_bind (hm_on 9 o (p_Mo_verify o 1 x1)) fun _ =>
                  hm_bind (hm_geti 9 7 o) fun a10 =>
                  hm_jn (
                    hm_bind (hm_on 9 o (p_Mo_told o )) fun a11 =>
                    hm_ret a11) fun k149 =>
                  if a10 = 0 then (
                    hm_bind (hm_on 9 o (p_Mo_copyProgram o 1 0)) fun _ =>
                    k149)
                  else (
                    k149)))))) fun k53 =>
        hm_jn (
          k53 0) fun k52 =>
        if x1 < 0 then (
          k52)
        else (
          if 12 ≤ x1 then (
            k52)
          else (
            k53 x1)))))
def p_Mo_behind (x0 : Int32) : hM Int32 :=
  if x0 = 0 then (
    hm_ret 4)
  else (
    hm_jn (
      if x0 = 4 then (
        hm_ret 1)
      else (
        if x0 = 5 then (
          hm_ret 1)
        else (
          if x0 = 25 then (
            hm_ret 1)
          else (
            if x0 = 26 then (
              hm_ret 1)
            else (
              if x0 = 29 then (
                hm_ret 1)
              else (
                hm_ret 0)))))) fun k24 =>
    if x0 ≤ 17 then (
      k24)
    else (
      if 21 ≤ x0 then (
        k24)
      else (
        hm_ret 2)))
def p_Mo_put_4 (x0 : Option Nat) (x1 : Int32) (kx : hM Unit) : Nat → Int32 → hM Unit
  | 0, _ => hm_fail
  | fu + 1, v3 =>
    if v3 < 0 then (
      kx)
    else (
      hm_bind (hm_getr 9 3 x0) fun a1 =>
      hm_bind (hm_geti 9 4 x0) fun a2 =>
      hm_bind (hm_ist 11 a1 a2 ((x1 >>> ((8 * v3) &&& 31)) &&& 255)) fun _ =>
      hm_bind (hm_geti 9 4 x0) fun a3 =>
      hm_bind (hm_puti 9 4 x0 (a3 + 1)) fun _ =>
      p_Mo_put_4 x0 x1 kx fu (v3 + (-1)))
def p_Mo_put (o : Option Nat) (x1 : Int32) (x2 : Int32) : hM Unit :=
  p_Mo_put_4 o x1 (
    hm_ret ()) hm_fuel (x2 - 1)
def p_Mo_write_110 (x0 : Option Nat) (x1 : Int32) (kx : hM Int32) : Nat → Int32 → hM Int32
  | 0, _ => hm_fail
  | fu + 1, v2 =>
    hm_bind (hm_getr 9 14 x0) fun a15 =>
    hm_bind (hm_ild 17 a15 x1) fun a16 =>
    if a16 ≤ v2 then (
      kx)
    else (
      hm_bind (hm_getr 9 16 x0) fun a17 =>
      hm_bind (hm_ild 19 a17 ((400 * x1) + v2)) fun a18 =>
      hm_bind (hm_on 9 x0 (p_Mo_put x0 a18 1)) fun _ =>
      hm_bind (hm_getr 9 17 x0) fun a19 =>
      hm_bind (hm_ild 20 a19 ((400 * x1) + v2)) fun a20 =>
      hm_bind (hm_getr 9 16 x0) fun a21 =>
      hm_bind (hm_ild 19 a21 ((400 * x1) + v2)) fun a22 =>
      hm_bind (p_Mo_behind a22) fun a23 =>
      hm_bind (hm_on 9 x0 (p_Mo_put x0 a20 a23)) fun _ =>
      p_Mo_write_110 x0 x1 kx fu (v2 + 1))
def p_Mo_write_190 (x0 : Option Nat) (x1 : Int32) (kx : hM Int32) : Nat → Int32 → hM Int32
  | 0, _ => hm_fail
  | fu + 1, v2 =>
    hm_bind (hm_getr 9 15 x0) fun a26 =>
    hm_bind (hm_ild 18 a26 x1) fun a27 =>
    if ((6 * x1) + a27) ≤ v2 then (
      kx)
    else (
      hm_bind (hm_getr 9 18 x0) fun a28 =>
      hm_bind (hm_ild 21 a28 v2) fun a29 =>
      hm_bind (hm_on 9 x0 (p_Mo_put x0 a29 2)) fun _ =>
      hm_bind (hm_getr 9 19 x0) fun a30 =>
      hm_bind (hm_ild 22 a30 v2) fun a31 =>
      hm_bind (hm_on 9 x0 (p_Mo_put x0 a31 2)) fun _ =>
      hm_bind (hm_getr 9 20 x0) fun a32 =>
      hm_bind (hm_ild 23 a32 v2) fun a33 =>
      hm_bind (hm_on 9 x0 (p_Mo_put x0 a33 2)) fun _ =>
      hm_bind (hm_getr 9 21 x0) fun a34 =>
      hm_bind (hm_ild 24 a34 v2) fun a35 =>
      hm_jn (fun (z36 : Int32) =>
        hm_bind (hm_on 9 x0 (p_Mo_put x0 z36 1)) fun _ =>
        hm_bind (hm_getr 9 22 x0) fun a37 =>
        hm_bind (hm_ild 25 a37 v2) fun a38 =>
        hm_bind (hm_getr 9 21 x0) fun a39 =>
        hm_bind (hm_ild 24 a39 v2) fun a40 =>
        hm_jn (fun (z41 : Int32) =>
          hm_bind (hm_on 9 x0 (p_Mo_put x0 a38 z41)) fun _ =>
          p_Mo_write_190 x0 x1 kx fu (v2 + 1)) fun k278 =>
        if a40 = 0 then (
          k278 4)
        else (
          k278 0)) fun k253 =>
      if a35 = 0 then (
        k253 1)
      else (
        k253 0))
def p_Mo_write_43 (x0 : Option Nat) (kx : hM Int32) : Nat → Int32 → hM Int32
  | 0, _ => hm_fail
  | fu + 1, v1 =>
    hm_bind (hm_getr 9 9 x0) fun a3 =>
    hm_bind (hm_ild 12 a3 0) fun a4 =>
    if a4 ≤ v1 then (
      kx)
    else (
      hm_bind (hm_getr 9 10 x0) fun a5 =>
      hm_bind (hm_ild 13 a5 v1) fun a6 =>
      hm_bind (hm_on 9 x0 (p_Mo_put x0 a6 1)) fun _ =>
      hm_bind (hm_getr 9 11 x0) fun a7 =>
      hm_bind (hm_ild 14 a7 v1) fun a8 =>
      hm_bind (hm_on 9 x0 (p_Mo_put x0 a8 1)) fun _ =>
      hm_bind (hm_getr 9 12 x0) fun a9 =>
      hm_bind (hm_ild 15 a9 v1) fun a10 =>
      hm_bind (hm_on 9 x0 (p_Mo_put x0 a10 2)) fun _ =>
      hm_bind (hm_getr 9 13 x0) fun a11 =>
      hm_bind (hm_ild 16 a11 v1) fun a12 =>
      hm_bind (hm_on 9 x0 (p_Mo_put x0 a12 1)) fun _ =>
      hm_bind (hm_getr 9 14 x0) fun a13 =>
      hm_bind (hm_ild 17 a13 v1) fun a14 =>
      hm_bind (hm_on 9 x0 (p_Mo_put x0 a14 2)) fun _ =>
      p_Mo_write_110 x0 v1 (
        hm_bind (hm_getr 9 15 x0) fun a24 =>
        hm_bind (hm_ild 18 a24 v1) fun a25 =>
        hm_bind (hm_on 9 x0 (p_Mo_put x0 a25 1)) fun _ =>
        p_Mo_write_190 x0 v1 (
          p_Mo_write_43 x0 kx fu (v1 + 1)) hm_fuel (6 * v1)) hm_fuel 0)
def p_Mo_write (o : Option Nat) : hM Int32 :=
  hm_bind (hm_puti 9 0 o 0) fun _ =>
  hm_bind (hm_puti 9 4 o 0) fun _ =>
  hm_bind (hm_on 9 o (p_Mo_put o 71 1)) fun _ =>
  hm_bind (hm_on 9 o (p_Mo_put o 70 1)) fun _ =>
  hm_bind (hm_on 9 o (p_Mo_put o 1 1)) fun _ =>
  hm_bind (hm_getr 9 9 o) fun a1 =>
  hm_bind (hm_ild 12 a1 0) fun a2 =>
  hm_bind (hm_on 9 o (p_Mo_put o a2 1)) fun _ =>
  p_Mo_write_43 o (
    hm_bind (hm_geti 9 4 o) fun a42 =>
    hm_ret a42) hm_fuel 0
def p_Mo_isFunction (o : Option Nat) (x1 : Int32) : hM Int32 :=
  if x1 < 0 then (
    hm_z 0)
  else (
    hm_bind (hm_getr 9 9 o) fun a1 =>
    hm_bind (hm_ild 12 a1 0) fun a2 =>
    if a2 ≤ x1 then (
      hm_z 0)
    else (
      hm_z 1))
def p_Mo_isGoal_5 (x0 : Option Nat) (x1 : Int32) (x2 : Int32) (kx : Int32 → hM Int32) : Nat → Int32 → Int32 → hM Int32
  | 0, _, _ => hm_fail
  | fu + 1, v3, v4 =>
    hm_bind (hm_getr 9 14 x0) fun a1 =>
    hm_bind (hm_ild 17 a1 x1) fun a2 =>
    if a2 ≤ v4 then (
      kx v3)
    else (
      hm_bind (hm_getr 9 16 x0) fun a3 =>
      hm_bind (hm_ild 19 a3 ((400 * x1) + v4)) fun a4 =>
      hm_jn (fun (z5 : Int32) =>
        p_Mo_isGoal_5 x0 x1 x2 kx fu z5 (v4 + 1)) fun k67 =>
      hm_jn (
        k67 v3) fun k66 =>
      if a4 ≤ 17 then (
        k66)
      else (
        if 21 ≤ a4 then (
          k66)
        else (
          hm_bind (hm_getr 9 17 x0) fun a6 =>
          hm_bind (hm_ild 20 a6 ((400 * x1) + v4)) fun a7 =>
          if a7 = x2 then (
            k67 1)
          else (
            k66))))
def p_Mo_isGoal_80 (x0 : Option Nat) (x1 : Int32) (x2 : Int32) (kx : Int32 → hM Int32) : Nat → Int32 → Int32 → hM Int32
  | 0, _, _ => hm_fail
  | fu + 1, v3, v4 =>
    hm_bind (hm_getr 9 15 x0) fun a9 =>
    hm_bind (hm_ild 18 a9 x1) fun a10 =>
    if ((6 * x1) + a10) ≤ v4 then (
      kx v3)
    else (
      hm_bind (hm_getr 9 20 x0) fun a11 =>
      hm_bind (hm_ild 23 a11 v4) fun a12 =>
      hm_jn (fun (z13 : Int32) =>
        p_Mo_isGoal_80 x0 x1 x2 kx fu z13 (v4 + 1)) fun k112 =>
      if a12 = x2 then (
        k112 1)
      else (
        k112 v3))
def p_Mo_isGoal (o : Option Nat) (x1 : Int32) (x2 : Int32) : hM Int32 :=
  p_Mo_isGoal_5 o x1 x2 (fun (v3_8 : Int32) =>
    p_Mo_isGoal_80 o x1 x2 (fun (v3_14 : Int32) =>
      hm_ret v3_14) hm_fuel v3_8 (6 * x1)) hm_fuel 0 0
def p_Mo_code (o : Option Nat) (x1 : Int32) (x2 : Int32) (x3 : Int32) : hM Int32 :=
  hm_bind (hm_puti 9 0 o 0) fun _ =>
  hm_bind (hm_on 9 o (p_Mo_isFunction o x1)) fun a1 =>
  if a1 = 0 then (
    hm_ret 0)
  else (
    if x2 < 0 then (
      hm_ret 0)
    else (
      hm_bind (hm_getr 9 14 o) fun a2 =>
      hm_bind (hm_on 9 o (p_Mo_isFunction o x1)) fun a3 =>
      hm_jn (fun (z4 : Int32) =>
        hm_bind (hm_ild 17 a2 z4) fun a5 =>
        if x2 < a5 then (
          if x3 = 0 then (
            hm_bind (hm_getr 9 16 o) fun a6 =>
            hm_bind (hm_ild 19 a6 ((400 * x1) + x2)) fun a7 =>
            hm_ret a7)
          else (
            if x3 = 1 then (
              hm_bind (hm_getr 9 17 o) fun a8 =>
              hm_bind (hm_ild 20 a8 ((400 * x1) + x2)) fun a9 =>
              hm_ret a9)
            else (
              if x3 = 2 then (
                hm_bind (hm_getr 9 23 o) fun a10 =>
                hm_bind (hm_ild 26 a10 ((400 * x1) + x2)) fun a11 =>
                hm_ret a11)
              else (
                if x3 = 3 then (
                  hm_bind (hm_getr 9 24 o) fun a12 =>
                  hm_bind (hm_ild 27 a12 ((400 * x1) + x2)) fun a13 =>
                  hm_ret a13)
                else (
                  if x3 = 4 then (
                    hm_bind (hm_on 9 o (p_Mo_isGoal o x1 x2)) fun a14 =>
                    hm_ret a14)
                  else (
                    hm_ret 0))))))
        else (
          hm_ret 0)) fun k35 =>
      if a3 = 0 then (
        k35 0)
      else (
        k35 x1)))
def p_Mo_known_8 (x0 : Option Nat) (x1 : Int32) (x2 : Int32) (kx : Int32 → Int32 → hM Int32) : Nat → Int32 → Int32 → Int32 → hM Int32
  | 0, _, _, _ => hm_fail
  | fu + 1, v3, v4, v5 =>
    hm_bind (hm_getr 9 14 x0) fun a1 =>
    hm_bind (hm_ild 17 a1 x1) fun a2 =>
    if a2 ≤ v5 then (
      kx v3 v4)
    else (
      hm_bind (hm_getr 9 23 x0) fun a3 =>
      hm_bind (hm_ild 26 a3 ((400 * x1) + v5)) fun a4 =>
      hm_jn (fun (z5 : Int32) =>
        hm_jn (fun (z6 : Int32) =>
          p_Mo_known_8 x0 x1 x2 kx fu (v3 + z5) z6 (v5 + 1)) fun k61 =>
        if a4 ≤ v4 then (
          k61 v4)
        else (
          k61 a4)) fun k45 =>
      if a4 < 0 then (
        k45 0)
      else (
        k45 1))
def p_Mo_known (o : Option Nat) (x1 : Int32) (x2 : Int32) : hM Int32 :=
  p_Mo_known_8 o x1 x2 (fun (v3_7 : Int32) (v4_8 : Int32) =>
    if x2 = 0 then (
      hm_ret v3_7)
    else (
      hm_ret v4_8)) hm_fuel 0 0 0
def p_Mo_function (o : Option Nat) (x1 : Int32) (x2 : Int32) : hM Int32 :=
  hm_bind (hm_puti 9 0 o 0) fun _ =>
  hm_bind (hm_on 9 o (p_Mo_isFunction o x1)) fun a1 =>
  if a1 = 0 then (
    hm_ret (-1))
  else (
    if x2 = 0 then (
      hm_bind (hm_getr 9 10 o) fun a2 =>
      hm_bind (hm_ild 13 a2 x1) fun a3 =>
      hm_ret a3)
    else (
      if x2 = 1 then (
        hm_bind (hm_getr 9 11 o) fun a4 =>
        hm_bind (hm_ild 14 a4 x1) fun a5 =>
        hm_ret a5)
      else (
        if x2 = 2 then (
          hm_bind (hm_getr 9 12 o) fun a6 =>
          hm_bind (hm_ild 15 a6 x1) fun a7 =>
          hm_ret a7)
        else (
          if x2 = 3 then (
            hm_bind (hm_getr 9 13 o) fun a8 =>
            hm_bind (hm_ild 16 a8 x1) fun a9 =>
            hm_ret a9)
          else (
            if x2 = 4 then (
              hm_bind (hm_getr 9 14 o) fun a10 =>
              hm_bind (hm_ild 17 a10 x1) fun a11 =>
              hm_ret a11)
            else (
              if x2 = 5 then (
                hm_bind (hm_getr 9 15 o) fun a12 =>
                hm_bind (hm_ild 18 a12 x1) fun a13 =>
                hm_ret a13)
              else (
                if x2 = 6 ∨ x2 = 7 then (
                  hm_jn (fun (z14 : Int32) =>
                    hm_bind (hm_on 9 o (p_Mo_known o x1 z14)) fun a15 =>
                    hm_ret a15) fun k119 =>
                  if x2 = 7 then (
                    k119 1)
                  else (
                    k119 0))
                else (
                  hm_ret (-1)))))))))
def p_Mo_handler (o : Option Nat) (x1 : Int32) (x2 : Int32) (x3 : Int32) : hM Int32 :=
  hm_bind (hm_puti 9 0 o 0) fun _ =>
  hm_bind (hm_on 9 o (p_Mo_isFunction o x1)) fun a1 =>
  if a1 = 0 then (
    hm_ret 0)
  else (
    if x2 < 0 then (
      hm_ret 0)
    else (
      hm_bind (hm_getr 9 15 o) fun a2 =>
      hm_bind (hm_on 9 o (p_Mo_isFunction o x1)) fun a3 =>
      hm_jn (fun (z4 : Int32) =>
        hm_bind (hm_ild 18 a2 z4) fun a5 =>
        if x2 < a5 then (
          if x3 = 0 then (
            hm_bind (hm_getr 9 18 o) fun a14 =>
            hm_bind (hm_ild 21 a14 ((6 * x1) + x2)) fun a15 =>
            hm_ret a15)
          else (
            if x3 = 1 then (
              hm_bind (hm_getr 9 19 o) fun a12 =>
              hm_bind (hm_ild 22 a12 ((6 * x1) + x2)) fun a13 =>
              hm_ret a13)
            else (
              if x3 = 2 then (
                hm_bind (hm_getr 9 20 o) fun a10 =>
                hm_bind (hm_ild 23 a10 ((6 * x1) + x2)) fun a11 =>
                hm_ret a11)
              else (
                if x3 = 3 then (
                  hm_bind (hm_getr 9 21 o) fun a8 =>
                  hm_bind (hm_ild 24 a8 ((6 * x1) + x2)) fun a9 =>
                  if a9 = 0 then (
                    hm_ret 0)
                  else (
                    hm_ret 1))
                else (
                  if x3 = 4 then (
                    hm_bind (hm_getr 9 22 o) fun a6 =>
                    hm_bind (hm_ild 25 a6 ((6 * x1) + x2)) fun a7 =>
                    hm_ret a7)
                  else (
                    hm_ret 0))))))
        else (
          hm_ret 0)) fun k35 =>
      if a3 = 0 then (
        k35 0)
      else (
        k35 x1)))
def p_Mo_codes_4 (x0 : Option Nat) (kx : Int32 → hM Int32) : Nat → Int32 → Int32 → hM Int32
  | 0, _, _ => hm_fail
  | fu + 1, v1, v2 =>
    hm_bind (hm_getr 9 9 x0) fun a1 =>
    hm_bind (hm_ild 12 a1 0) fun a2 =>
    if a2 ≤ v2 then (
      kx v1)
    else (
      hm_bind (hm_getr 9 14 x0) fun a3 =>
      hm_bind (hm_ild 17 a3 v2) fun a4 =>
      p_Mo_codes_4 x0 kx fu (v1 + a4) (v2 + 1))
def p_Mo_codes (o : Option Nat) : hM Int32 :=
  p_Mo_codes_4 o (fun (v1_5 : Int32) =>
    hm_ret v1_5) hm_fuel 0 0
def p_Mo_look (o : Option Nat) (x1 : Int32) : hM Int32 :=
  hm_bind (hm_puti 9 0 o 0) fun _ =>
  if x1 = 0 then (
    hm_bind (hm_getr 9 9 o) fun a1 =>
    hm_bind (hm_ild 12 a1 0) fun a2 =>
    hm_ret a2)
  else (
    if x1 = 1 then (
      hm_bind (hm_on 9 o (p_Mo_codes o )) fun a3 =>
      hm_ret a3)
    else (
      if x1 = 2 then (
        hm_bind (hm_geti 9 2 o) fun a4 =>
        hm_ret a4)
      else (
        if x1 = 3 then (
          hm_bind (hm_geti 9 4 o) fun a5 =>
          hm_ret a5)
        else (
          if x1 = 4 then (
            hm_bind (hm_geti 9 5 o) fun a6 =>
            hm_ret a6)
          else (
            if x1 = 5 then (
              hm_bind (hm_geti 9 6 o) fun a7 =>
              hm_ret a7)
            else (
              hm_ret (-1)))))))
end
section
theorem d_ByteRow_init_0 : decode b_ByteRow_init 0 = .ok (.aload_n 0, 1) := by decide +kernel
theorem d_ByteRow_init_1 : decode b_ByteRow_init 1 = .ok (.invokespecial 3, 3) := by decide +kernel
theorem d_ByteRow_init_4 : decode b_ByteRow_init 4 = .ok (.aload_n 0, 1) := by decide +kernel
theorem d_ByteRow_init_5 : decode b_ByteRow_init 5 = .ok (.iload_n 1, 1) := by decide +kernel
theorem d_ByteRow_init_6 : decode b_ByteRow_init 6 = .ok (.putfield 9, 3) := by decide +kernel
theorem d_ByteRow_init_9 : decode b_ByteRow_init 9 = .ok (.aload_n 0, 1) := by decide +kernel
theorem d_ByteRow_init_10 : decode b_ByteRow_init 10 = .ok (.bipush 64, 2) := by decide +kernel
theorem d_ByteRow_init_12 : decode b_ByteRow_init 12 = .ok (.newarray .byte, 2) := by decide +kernel
theorem d_ByteRow_init_14 : decode b_ByteRow_init 14 = .ok (.putfield 15, 3) := by decide +kernel
theorem d_ByteRow_init_17 : decode b_ByteRow_init 17 = .ok (.aload_n 0, 1) := by decide +kernel
theorem d_ByteRow_init_18 : decode b_ByteRow_init 18 = .ok (.iconst 0, 1) := by decide +kernel
theorem d_ByteRow_init_19 : decode b_ByteRow_init 19 = .ok (.putfield 19, 3) := by decide +kernel
theorem d_ByteRow_init_22 : decode b_ByteRow_init 22 = .ok (.return_, 1) := by decide +kernel
theorem d_Fault_init_0 : decode b_Fault_init 0 = .ok (.aload_n 0, 1) := by decide +kernel
theorem d_Fault_init_1 : decode b_Fault_init 1 = .ok (.invokespecial 3, 3) := by decide +kernel
theorem d_Fault_init_4 : decode b_Fault_init 4 = .ok (.aload_n 0, 1) := by decide +kernel
theorem d_Fault_init_5 : decode b_Fault_init 5 = .ok (.iconst 0, 1) := by decide +kernel
theorem d_Fault_init_6 : decode b_Fault_init 6 = .ok (.putfield 9, 3) := by decide +kernel
theorem d_Fault_init_9 : decode b_Fault_init 9 = .ok (.aload_n 0, 1) := by decide +kernel
theorem d_Fault_init_10 : decode b_Fault_init 10 = .ok (.iconst (-1), 1) := by decide +kernel
theorem d_Fault_init_11 : decode b_Fault_init 11 = .ok (.putfield 15, 3) := by decide +kernel
theorem d_Fault_init_14 : decode b_Fault_init 14 = .ok (.return_, 1) := by decide +kernel
theorem d_Reader_init_0 : decode b_Reader_init 0 = .ok (.aload_n 0, 1) := by decide +kernel
theorem d_Reader_init_1 : decode b_Reader_init 1 = .ok (.invokespecial 3, 3) := by decide +kernel
theorem d_Reader_init_4 : decode b_Reader_init 4 = .ok (.aload_n 0, 1) := by decide +kernel
theorem d_Reader_init_5 : decode b_Reader_init 5 = .ok (.aload_n 1, 1) := by decide +kernel
theorem d_Reader_init_6 : decode b_Reader_init 6 = .ok (.putfield 9, 3) := by decide +kernel
theorem d_Reader_init_9 : decode b_Reader_init 9 = .ok (.aload_n 0, 1) := by decide +kernel
theorem d_Reader_init_10 : decode b_Reader_init 10 = .ok (.aload_n 2, 1) := by decide +kernel
theorem d_Reader_init_11 : decode b_Reader_init 11 = .ok (.putfield 15, 3) := by decide +kernel
theorem d_Reader_init_14 : decode b_Reader_init 14 = .ok (.aload_n 0, 1) := by decide +kernel
theorem d_Reader_init_15 : decode b_Reader_init 15 = .ok (.iconst 0, 1) := by decide +kernel
theorem d_Reader_init_16 : decode b_Reader_init 16 = .ok (.putfield 19, 3) := by decide +kernel
theorem d_Reader_init_19 : decode b_Reader_init 19 = .ok (.return_, 1) := by decide +kernel
theorem d_Verifier_init_0 : decode b_Verifier_init 0 = .ok (.aload_n 0, 1) := by decide +kernel
theorem d_Verifier_init_1 : decode b_Verifier_init 1 = .ok (.invokespecial 3, 3) := by decide +kernel
theorem d_Verifier_init_4 : decode b_Verifier_init 4 = .ok (.aload_n 0, 1) := by decide +kernel
theorem d_Verifier_init_5 : decode b_Verifier_init 5 = .ok (.sipush 400, 3) := by decide +kernel
theorem d_Verifier_init_8 : decode b_Verifier_init 8 = .ok (.newarray .int, 2) := by decide +kernel
theorem d_Verifier_init_10 : decode b_Verifier_init 10 = .ok (.putfield 9, 3) := by decide +kernel
theorem d_Verifier_init_13 : decode b_Verifier_init 13 = .ok (.aload_n 0, 1) := by decide +kernel
theorem d_Verifier_init_14 : decode b_Verifier_init 14 = .ok (.sipush 400, 3) := by decide +kernel
theorem d_Verifier_init_17 : decode b_Verifier_init 17 = .ok (.newarray .int, 2) := by decide +kernel
theorem d_Verifier_init_19 : decode b_Verifier_init 19 = .ok (.putfield 15, 3) := by decide +kernel
theorem d_Verifier_init_22 : decode b_Verifier_init 22 = .ok (.aload_n 0, 1) := by decide +kernel
theorem d_Verifier_init_23 : decode b_Verifier_init 23 = .ok (.sipush 400, 3) := by decide +kernel
theorem d_Verifier_init_26 : decode b_Verifier_init 26 = .ok (.newarray .boolean, 2) := by decide +kernel
theorem d_Verifier_init_28 : decode b_Verifier_init 28 = .ok (.putfield 18, 3) := by decide +kernel
theorem d_Verifier_init_31 : decode b_Verifier_init 31 = .ok (.aload_n 0, 1) := by decide +kernel
theorem d_Verifier_init_32 : decode b_Verifier_init 32 = .ok (.aload_n 1, 1) := by decide +kernel
theorem d_Verifier_init_33 : decode b_Verifier_init 33 = .ok (.putfield 22, 3) := by decide +kernel
theorem d_Verifier_init_36 : decode b_Verifier_init 36 = .ok (.return_, 1) := by decide +kernel
theorem d_Handler_init_0 : decode b_Handler_init 0 = .ok (.aload_n 0, 1) := by decide +kernel
theorem d_Handler_init_1 : decode b_Handler_init 1 = .ok (.invokespecial 1, 3) := by decide +kernel
theorem d_Handler_init_4 : decode b_Handler_init 4 = .ok (.return_, 1) := by decide +kernel
theorem d_Function_init_0 : decode b_Function_init 0 = .ok (.aload_n 0, 1) := by decide +kernel
theorem d_Function_init_1 : decode b_Function_init 1 = .ok (.invokespecial 3, 3) := by decide +kernel
theorem d_Function_init_4 : decode b_Function_init 4 = .ok (.aload_n 0, 1) := by decide +kernel
theorem d_Function_init_5 : decode b_Function_init 5 = .ok (.sipush 400, 3) := by decide +kernel
theorem d_Function_init_8 : decode b_Function_init 8 = .ok (.newarray .int, 2) := by decide +kernel
theorem d_Function_init_10 : decode b_Function_init 10 = .ok (.putfield 9, 3) := by decide +kernel
theorem d_Function_init_13 : decode b_Function_init 13 = .ok (.aload_n 0, 1) := by decide +kernel
theorem d_Function_init_14 : decode b_Function_init 14 = .ok (.sipush 400, 3) := by decide +kernel
theorem d_Function_init_17 : decode b_Function_init 17 = .ok (.newarray .int, 2) := by decide +kernel
theorem d_Function_init_19 : decode b_Function_init 19 = .ok (.putfield 15, 3) := by decide +kernel
theorem d_Function_init_22 : decode b_Function_init 22 = .ok (.aload_n 0, 1) := by decide +kernel
theorem d_Function_init_23 : decode b_Function_init 23 = .ok (.sipush 400, 3) := by decide +kernel
theorem d_Function_init_26 : decode b_Function_init 26 = .ok (.newarray .int, 2) := by decide +kernel
theorem d_Function_init_28 : decode b_Function_init 28 = .ok (.putfield 18, 3) := by decide +kernel
theorem d_Function_init_31 : decode b_Function_init 31 = .ok (.aload_n 0, 1) := by decide +kernel
theorem d_Function_init_32 : decode b_Function_init 32 = .ok (.sipush 400, 3) := by decide +kernel
theorem d_Function_init_35 : decode b_Function_init 35 = .ok (.newarray .int, 2) := by decide +kernel
theorem d_Function_init_37 : decode b_Function_init 37 = .ok (.putfield 21, 3) := by decide +kernel
theorem d_Function_init_40 : decode b_Function_init 40 = .ok (.aload_n 0, 1) := by decide +kernel
theorem d_Function_init_41 : decode b_Function_init 41 = .ok (.bipush 6, 2) := by decide +kernel
theorem d_Function_init_43 : decode b_Function_init 43 = .ok (.anewarray 24, 3) := by decide +kernel
theorem d_Function_init_46 : decode b_Function_init 46 = .ok (.putfield 26, 3) := by decide +kernel
theorem d_Function_init_49 : decode b_Function_init 49 = .ok (.aload_n 0, 1) := by decide +kernel
theorem d_Function_init_50 : decode b_Function_init 50 = .ok (.iconst 1, 1) := by decide +kernel
theorem d_Function_init_51 : decode b_Function_init 51 = .ok (.putfield 30, 3) := by decide +kernel
theorem d_Function_init_54 : decode b_Function_init 54 = .ok (.aload_n 0, 1) := by decide +kernel
theorem d_Function_init_55 : decode b_Function_init 55 = .ok (.getfield 9, 3) := by decide +kernel
theorem d_Function_init_58 : decode b_Function_init 58 = .ok (.iconst 0, 1) := by decide +kernel
theorem d_Function_init_59 : decode b_Function_init 59 = .ok (.bipush 27, 2) := by decide +kernel
theorem d_Function_init_61 : decode b_Function_init 61 = .ok (.iastore, 1) := by decide +kernel
theorem d_Function_init_62 : decode b_Function_init 62 = .ok (.iconst 0, 1) := by decide +kernel
theorem d_Function_init_63 : decode b_Function_init 63 = .ok (.istore_n 1, 1) := by decide +kernel
theorem d_Function_init_64 : decode b_Function_init 64 = .ok (.iload_n 1, 1) := by decide +kernel
theorem d_Function_init_65 : decode b_Function_init 65 = .ok (.bipush 6, 2) := by decide +kernel
theorem d_Function_init_67 : decode b_Function_init 67 = .ok (.if_icmp .ge 22, 3) := by decide +kernel
theorem d_Function_init_70 : decode b_Function_init 70 = .ok (.aload_n 0, 1) := by decide +kernel
theorem d_Function_init_71 : decode b_Function_init 71 = .ok (.getfield 26, 3) := by decide +kernel
theorem d_Function_init_74 : decode b_Function_init 74 = .ok (.iload_n 1, 1) := by decide +kernel
theorem d_Function_init_75 : decode b_Function_init 75 = .ok (.new 24, 3) := by decide +kernel
theorem d_Function_init_78 : decode b_Function_init 78 = .ok (.dup, 1) := by decide +kernel
theorem d_Function_init_79 : decode b_Function_init 79 = .ok (.invokespecial 34, 3) := by decide +kernel
theorem d_Function_init_82 : decode b_Function_init 82 = .ok (.aastore, 1) := by decide +kernel
theorem d_Function_init_83 : decode b_Function_init 83 = .ok (.iinc 1 1, 3) := by decide +kernel
theorem d_Function_init_86 : decode b_Function_init 86 = .ok (.goto (-22), 3) := by decide +kernel
theorem d_Function_init_89 : decode b_Function_init 89 = .ok (.return_, 1) := by decide +kernel
theorem d_Program_init_0 : decode b_Program_init 0 = .ok (.aload_n 0, 1) := by decide +kernel
theorem d_Program_init_1 : decode b_Program_init 1 = .ok (.invokespecial 3, 3) := by decide +kernel
theorem d_Program_init_4 : decode b_Program_init 4 = .ok (.aload_n 0, 1) := by decide +kernel
theorem d_Program_init_5 : decode b_Program_init 5 = .ok (.bipush 12, 2) := by decide +kernel
theorem d_Program_init_7 : decode b_Program_init 7 = .ok (.anewarray 9, 3) := by decide +kernel
theorem d_Program_init_10 : decode b_Program_init 10 = .ok (.putfield 11, 3) := by decide +kernel
theorem d_Program_init_13 : decode b_Program_init 13 = .ok (.aload_n 0, 1) := by decide +kernel
theorem d_Program_init_14 : decode b_Program_init 14 = .ok (.getfield 11, 3) := by decide +kernel
theorem d_Program_init_17 : decode b_Program_init 17 = .ok (.iconst 0, 1) := by decide +kernel
theorem d_Program_init_18 : decode b_Program_init 18 = .ok (.new 9, 3) := by decide +kernel
theorem d_Program_init_21 : decode b_Program_init 21 = .ok (.dup, 1) := by decide +kernel
theorem d_Program_init_22 : decode b_Program_init 22 = .ok (.invokespecial 17, 3) := by decide +kernel
theorem d_Program_init_25 : decode b_Program_init 25 = .ok (.aastore, 1) := by decide +kernel
theorem d_Program_init_26 : decode b_Program_init 26 = .ok (.aload_n 0, 1) := by decide +kernel
theorem d_Program_init_27 : decode b_Program_init 27 = .ok (.iconst 1, 1) := by decide +kernel
theorem d_Program_init_28 : decode b_Program_init 28 = .ok (.putfield 18, 3) := by decide +kernel
theorem d_Program_init_31 : decode b_Program_init 31 = .ok (.return_, 1) := by decide +kernel
theorem d_SB_init_0 : decode b_SB_init 0 = .ok (.aload_n 0, 1) := by decide +kernel
theorem d_SB_init_1 : decode b_SB_init 1 = .ok (.invokespecial 3, 3) := by decide +kernel
theorem d_SB_init_4 : decode b_SB_init 4 = .ok (.aload_n 0, 1) := by decide +kernel
theorem d_SB_init_5 : decode b_SB_init 5 = .ok (.new 9, 3) := by decide +kernel
theorem d_SB_init_8 : decode b_SB_init 8 = .ok (.dup, 1) := by decide +kernel
theorem d_SB_init_9 : decode b_SB_init 9 = .ok (.sipush 4096, 3) := by decide +kernel
theorem d_SB_init_12 : decode b_SB_init 12 = .ok (.invokespecial 11, 3) := by decide +kernel
theorem d_SB_init_15 : decode b_SB_init 15 = .ok (.putfield 14, 3) := by decide +kernel
theorem d_SB_init_18 : decode b_SB_init 18 = .ok (.aload_n 0, 1) := by decide +kernel
theorem d_SB_init_19 : decode b_SB_init 19 = .ok (.new 9, 3) := by decide +kernel
theorem d_SB_init_22 : decode b_SB_init 22 = .ok (.dup, 1) := by decide +kernel
theorem d_SB_init_23 : decode b_SB_init 23 = .ok (.sipush 24892, 3) := by decide +kernel
theorem d_SB_init_26 : decode b_SB_init 26 = .ok (.invokespecial 11, 3) := by decide +kernel
theorem d_SB_init_29 : decode b_SB_init 29 = .ok (.putfield 18, 3) := by decide +kernel
theorem d_SB_init_32 : decode b_SB_init 32 = .ok (.aload_n 0, 1) := by decide +kernel
theorem d_SB_init_33 : decode b_SB_init 33 = .ok (.new 21, 3) := by decide +kernel
theorem d_SB_init_36 : decode b_SB_init 36 = .ok (.dup, 1) := by decide +kernel
theorem d_SB_init_37 : decode b_SB_init 37 = .ok (.invokespecial 23, 3) := by decide +kernel
theorem d_SB_init_40 : decode b_SB_init 40 = .ok (.putfield 24, 3) := by decide +kernel
theorem d_SB_init_43 : decode b_SB_init 43 = .ok (.aload_n 0, 1) := by decide +kernel
theorem d_SB_init_44 : decode b_SB_init 44 = .ok (.new 28, 3) := by decide +kernel
theorem d_SB_init_47 : decode b_SB_init 47 = .ok (.dup, 1) := by decide +kernel
theorem d_SB_init_48 : decode b_SB_init 48 = .ok (.aload_n 0, 1) := by decide +kernel
theorem d_SB_init_49 : decode b_SB_init 49 = .ok (.getfield 14, 3) := by decide +kernel
theorem d_SB_init_52 : decode b_SB_init 52 = .ok (.aload_n 0, 1) := by decide +kernel
theorem d_SB_init_53 : decode b_SB_init 53 = .ok (.getfield 24, 3) := by decide +kernel
theorem d_SB_init_56 : decode b_SB_init 56 = .ok (.invokespecial 30, 3) := by decide +kernel
theorem d_SB_init_59 : decode b_SB_init 59 = .ok (.putfield 33, 3) := by decide +kernel
theorem d_SB_init_62 : decode b_SB_init 62 = .ok (.aload_n 0, 1) := by decide +kernel
theorem d_SB_init_63 : decode b_SB_init 63 = .ok (.new 37, 3) := by decide +kernel
theorem d_SB_init_66 : decode b_SB_init 66 = .ok (.dup, 1) := by decide +kernel
theorem d_SB_init_67 : decode b_SB_init 67 = .ok (.aload_n 0, 1) := by decide +kernel
theorem d_SB_init_68 : decode b_SB_init 68 = .ok (.getfield 24, 3) := by decide +kernel
theorem d_SB_init_71 : decode b_SB_init 71 = .ok (.invokespecial 39, 3) := by decide +kernel
theorem d_SB_init_74 : decode b_SB_init 74 = .ok (.putfield 42, 3) := by decide +kernel
theorem d_SB_init_77 : decode b_SB_init 77 = .ok (.aload_n 0, 1) := by decide +kernel
theorem d_SB_init_78 : decode b_SB_init 78 = .ok (.new 46, 3) := by decide +kernel
theorem d_SB_init_81 : decode b_SB_init 81 = .ok (.dup, 1) := by decide +kernel
theorem d_SB_init_82 : decode b_SB_init 82 = .ok (.invokespecial 48, 3) := by decide +kernel
theorem d_SB_init_85 : decode b_SB_init 85 = .ok (.putfield 49, 3) := by decide +kernel
theorem d_SB_init_88 : decode b_SB_init 88 = .ok (.aload_n 0, 1) := by decide +kernel
theorem d_SB_init_89 : decode b_SB_init 89 = .ok (.new 46, 3) := by decide +kernel
theorem d_SB_init_92 : decode b_SB_init 92 = .ok (.dup, 1) := by decide +kernel
theorem d_SB_init_93 : decode b_SB_init 93 = .ok (.invokespecial 48, 3) := by decide +kernel
theorem d_SB_init_96 : decode b_SB_init 96 = .ok (.putfield 53, 3) := by decide +kernel
theorem d_SB_init_99 : decode b_SB_init 99 = .ok (.return_, 1) := by decide +kernel
theorem d_Ar_copyOf_0 : decode b_Ar_copyOf 0 = .ok (.iload_n 1, 1) := by decide +kernel
theorem d_Ar_copyOf_1 : decode b_Ar_copyOf 1 = .ok (.aload_n 0, 1) := by decide +kernel
theorem d_Ar_copyOf_2 : decode b_Ar_copyOf 2 = .ok (.arraylength, 1) := by decide +kernel
theorem d_Ar_copyOf_3 : decode b_Ar_copyOf 3 = .ok (.if_icmp .ne 11, 3) := by decide +kernel
theorem d_Ar_copyOf_14 : decode b_Ar_copyOf 14 = .ok (.iload_n 1, 1) := by decide +kernel
theorem d_Ar_copyOf_15 : decode b_Ar_copyOf 15 = .ok (.newarray .byte, 2) := by decide +kernel
theorem d_Ar_copyOf_17 : decode b_Ar_copyOf 17 = .ok (.astore_n 2, 1) := by decide +kernel
theorem d_Ar_copyOf_18 : decode b_Ar_copyOf 18 = .ok (.aload_n 0, 1) := by decide +kernel
theorem d_Ar_copyOf_19 : decode b_Ar_copyOf 19 = .ok (.iconst 0, 1) := by decide +kernel
theorem d_Ar_copyOf_20 : decode b_Ar_copyOf 20 = .ok (.aload_n 2, 1) := by decide +kernel
theorem d_Ar_copyOf_21 : decode b_Ar_copyOf 21 = .ok (.iconst 0, 1) := by decide +kernel
theorem d_Ar_copyOf_22 : decode b_Ar_copyOf 22 = .ok (.aload_n 0, 1) := by decide +kernel
theorem d_Ar_copyOf_23 : decode b_Ar_copyOf 23 = .ok (.arraylength, 1) := by decide +kernel
theorem d_Ar_copyOf_24 : decode b_Ar_copyOf 24 = .ok (.iload_n 1, 1) := by decide +kernel
theorem d_Ar_copyOf_25 : decode b_Ar_copyOf 25 = .ok (.invokestatic 304, 3) := by decide +kernel
theorem d_Ar_copyOf_28 : decode b_Ar_copyOf 28 = .ok (.invokestatic 150, 3) := by decide +kernel
theorem d_Ar_copyOf_31 : decode b_Ar_copyOf 31 = .ok (.aload_n 2, 1) := by decide +kernel
theorem d_Ar_copyOf_32 : decode b_Ar_copyOf 32 = .ok (.areturn, 1) := by decide +kernel
theorem d_ByteRow_makeRoom_0 : decode b_ByteRow_makeRoom 0 = .ok (.iload_n 1, 1) := by decide +kernel
theorem d_ByteRow_makeRoom_1 : decode b_ByteRow_makeRoom 1 = .ok (.aload_n 0, 1) := by decide +kernel
theorem d_ByteRow_makeRoom_2 : decode b_ByteRow_makeRoom 2 = .ok (.getfield 15, 3) := by decide +kernel
theorem d_ByteRow_makeRoom_5 : decode b_ByteRow_makeRoom 5 = .ok (.arraylength, 1) := by decide +kernel
theorem d_ByteRow_makeRoom_6 : decode b_ByteRow_makeRoom 6 = .ok (.if_icmp .le 32, 3) := by decide +kernel
theorem d_ByteRow_makeRoom_9 : decode b_ByteRow_makeRoom 9 = .ok (.aload_n 0, 1) := by decide +kernel
theorem d_ByteRow_makeRoom_10 : decode b_ByteRow_makeRoom 10 = .ok (.aload_n 0, 1) := by decide +kernel
theorem d_ByteRow_makeRoom_11 : decode b_ByteRow_makeRoom 11 = .ok (.getfield 15, 3) := by decide +kernel
theorem d_ByteRow_makeRoom_14 : decode b_ByteRow_makeRoom 14 = .ok (.iload_n 1, 1) := by decide +kernel
theorem d_ByteRow_makeRoom_15 : decode b_ByteRow_makeRoom 15 = .ok (.aload_n 0, 1) := by decide +kernel
theorem d_ByteRow_makeRoom_16 : decode b_ByteRow_makeRoom 16 = .ok (.getfield 9, 3) := by decide +kernel
theorem d_ByteRow_makeRoom_19 : decode b_ByteRow_makeRoom 19 = .ok (.iconst 2, 1) := by decide +kernel
theorem d_ByteRow_makeRoom_20 : decode b_ByteRow_makeRoom 20 = .ok (.aload_n 0, 1) := by decide +kernel
theorem d_ByteRow_makeRoom_21 : decode b_ByteRow_makeRoom 21 = .ok (.getfield 15, 3) := by decide +kernel
theorem d_ByteRow_makeRoom_24 : decode b_ByteRow_makeRoom 24 = .ok (.arraylength, 1) := by decide +kernel
theorem d_ByteRow_makeRoom_25 : decode b_ByteRow_makeRoom 25 = .ok (.imul, 1) := by decide +kernel
theorem d_ByteRow_makeRoom_26 : decode b_ByteRow_makeRoom 26 = .ok (.invokestatic 32, 3) := by decide +kernel
theorem d_ByteRow_makeRoom_29 : decode b_ByteRow_makeRoom 29 = .ok (.invokestatic 38, 3) := by decide +kernel
theorem d_ByteRow_makeRoom_32 : decode b_ByteRow_makeRoom 32 = .ok (.invokestatic 41, 3) := by decide +kernel
theorem d_ByteRow_makeRoom_35 : decode b_ByteRow_makeRoom 35 = .ok (.putfield 15, 3) := by decide +kernel
theorem d_ByteRow_makeRoom_38 : decode b_ByteRow_makeRoom 38 = .ok (.return_, 1) := by decide +kernel
theorem d_ByteRow_add_0 : decode b_ByteRow_add 0 = .ok (.iload_n 3, 1) := by decide +kernel
theorem d_ByteRow_add_1 : decode b_ByteRow_add 1 = .ok (.aload_n 0, 1) := by decide +kernel
theorem d_ByteRow_add_2 : decode b_ByteRow_add 2 = .ok (.getfield 9, 3) := by decide +kernel
theorem d_ByteRow_add_5 : decode b_ByteRow_add 5 = .ok (.aload_n 0, 1) := by decide +kernel
theorem d_ByteRow_add_6 : decode b_ByteRow_add 6 = .ok (.getfield 19, 3) := by decide +kernel
theorem d_ByteRow_add_9 : decode b_ByteRow_add 9 = .ok (.isub, 1) := by decide +kernel
theorem d_ByteRow_add_10 : decode b_ByteRow_add 10 = .ok (.if_icmp .le 5, 3) := by decide +kernel
theorem d_ByteRow_add_13 : decode b_ByteRow_add 13 = .ok (.iconst 0, 1) := by decide +kernel
theorem d_ByteRow_add_14 : decode b_ByteRow_add 14 = .ok (.ireturn, 1) := by decide +kernel
theorem d_ByteRow_add_15 : decode b_ByteRow_add 15 = .ok (.aload_n 0, 1) := by decide +kernel
theorem d_ByteRow_add_16 : decode b_ByteRow_add 16 = .ok (.aload_n 0, 1) := by decide +kernel
theorem d_ByteRow_add_17 : decode b_ByteRow_add 17 = .ok (.getfield 19, 3) := by decide +kernel
theorem d_ByteRow_add_20 : decode b_ByteRow_add 20 = .ok (.iload_n 3, 1) := by decide +kernel
theorem d_ByteRow_add_21 : decode b_ByteRow_add 21 = .ok (.iadd, 1) := by decide +kernel
theorem d_ByteRow_add_22 : decode b_ByteRow_add 22 = .ok (.invokevirtual 22, 3) := by decide +kernel
theorem d_ByteRow_add_25 : decode b_ByteRow_add 25 = .ok (.iload_n 3, 1) := by decide +kernel
theorem d_ByteRow_add_26 : decode b_ByteRow_add 26 = .ok (.iconst 1, 1) := by decide +kernel
theorem d_ByteRow_add_27 : decode b_ByteRow_add 27 = .ok (.isub, 1) := by decide +kernel
theorem d_ByteRow_add_28 : decode b_ByteRow_add 28 = .ok (.istore 4, 2) := by decide +kernel
theorem d_ByteRow_add_30 : decode b_ByteRow_add 30 = .ok (.iload 4, 2) := by decide +kernel
theorem d_ByteRow_add_32 : decode b_ByteRow_add 32 = .ok (.ifCond .lt 37, 3) := by decide +kernel
theorem d_ByteRow_add_35 : decode b_ByteRow_add 35 = .ok (.aload_n 0, 1) := by decide +kernel
theorem d_ByteRow_add_36 : decode b_ByteRow_add 36 = .ok (.getfield 15, 3) := by decide +kernel
theorem d_ByteRow_add_39 : decode b_ByteRow_add 39 = .ok (.aload_n 0, 1) := by decide +kernel
theorem d_ByteRow_add_40 : decode b_ByteRow_add 40 = .ok (.getfield 19, 3) := by decide +kernel
theorem d_ByteRow_add_43 : decode b_ByteRow_add 43 = .ok (.lload_n 1, 1) := by decide +kernel
theorem d_ByteRow_add_44 : decode b_ByteRow_add 44 = .ok (.bipush 8, 2) := by decide +kernel
theorem d_ByteRow_add_46 : decode b_ByteRow_add 46 = .ok (.iload 4, 2) := by decide +kernel
theorem d_ByteRow_add_48 : decode b_ByteRow_add 48 = .ok (.imul, 1) := by decide +kernel
theorem d_ByteRow_add_49 : decode b_ByteRow_add 49 = .ok (.lshr, 1) := by decide +kernel
theorem d_ByteRow_add_50 : decode b_ByteRow_add 50 = .ok (.l2i, 1) := by decide +kernel
theorem d_ByteRow_add_51 : decode b_ByteRow_add 51 = .ok (.i2b, 1) := by decide +kernel
theorem d_ByteRow_add_52 : decode b_ByteRow_add 52 = .ok (.bastore, 1) := by decide +kernel
theorem d_ByteRow_add_53 : decode b_ByteRow_add 53 = .ok (.aload_n 0, 1) := by decide +kernel
theorem d_ByteRow_add_54 : decode b_ByteRow_add 54 = .ok (.dup, 1) := by decide +kernel
theorem d_ByteRow_add_55 : decode b_ByteRow_add 55 = .ok (.getfield 19, 3) := by decide +kernel
theorem d_ByteRow_add_58 : decode b_ByteRow_add 58 = .ok (.iconst 1, 1) := by decide +kernel
theorem d_ByteRow_add_59 : decode b_ByteRow_add 59 = .ok (.iadd, 1) := by decide +kernel
theorem d_ByteRow_add_60 : decode b_ByteRow_add 60 = .ok (.putfield 19, 3) := by decide +kernel
theorem d_ByteRow_add_63 : decode b_ByteRow_add 63 = .ok (.iinc 4 (-1), 3) := by decide +kernel
theorem d_ByteRow_add_66 : decode b_ByteRow_add 66 = .ok (.goto (-36), 3) := by decide +kernel
theorem d_ByteRow_add_69 : decode b_ByteRow_add 69 = .ok (.iconst 1, 1) := by decide +kernel
theorem d_ByteRow_add_70 : decode b_ByteRow_add 70 = .ok (.ireturn, 1) := by decide +kernel
theorem d_SB_give_0 : decode b_SB_give 0 = .ok (.iload_n 3, 1) := by decide +kernel
theorem d_SB_give_1 : decode b_SB_give 1 = .ok (.iconst 1, 1) := by decide +kernel
theorem d_SB_give_2 : decode b_SB_give 2 = .ok (.if_icmp .lt 25, 3) := by decide +kernel
theorem d_SB_give_5 : decode b_SB_give 5 = .ok (.iload_n 3, 1) := by decide +kernel
theorem d_SB_give_6 : decode b_SB_give 6 = .ok (.bipush 8, 2) := by decide +kernel
theorem d_SB_give_8 : decode b_SB_give 8 = .ok (.if_icmp .gt 19, 3) := by decide +kernel
theorem d_SB_give_11 : decode b_SB_give 11 = .ok (.aload_n 0, 1) := by decide +kernel
theorem d_SB_give_12 : decode b_SB_give 12 = .ok (.getfield 14, 3) := by decide +kernel
theorem d_SB_give_15 : decode b_SB_give 15 = .ok (.lload_n 1, 1) := by decide +kernel
theorem d_SB_give_16 : decode b_SB_give 16 = .ok (.iload_n 3, 1) := by decide +kernel
theorem d_SB_give_17 : decode b_SB_give 17 = .ok (.invokevirtual 56, 3) := by decide +kernel
theorem d_SB_give_20 : decode b_SB_give 20 = .ok (.ifCond .eq 7, 3) := by decide +kernel
theorem d_SB_give_23 : decode b_SB_give 23 = .ok (.iconst 1, 1) := by decide +kernel
theorem d_SB_give_24 : decode b_SB_give 24 = .ok (.goto 4, 3) := by decide +kernel
theorem d_SB_give_27 : decode b_SB_give 27 = .ok (.iconst 0, 1) := by decide +kernel
theorem d_SB_give_28 : decode b_SB_give 28 = .ok (.ireturn, 1) := by decide +kernel
theorem d_ByteRow_keepFirst_0 : decode b_ByteRow_keepFirst 0 = .ok (.iload_n 1, 1) := by decide +kernel
theorem d_ByteRow_keepFirst_1 : decode b_ByteRow_keepFirst 1 = .ok (.ifCond .lt 11, 3) := by decide +kernel
theorem d_ByteRow_keepFirst_4 : decode b_ByteRow_keepFirst 4 = .ok (.iload_n 1, 1) := by decide +kernel
theorem d_ByteRow_keepFirst_5 : decode b_ByteRow_keepFirst 5 = .ok (.aload_n 0, 1) := by decide +kernel
theorem d_ByteRow_keepFirst_6 : decode b_ByteRow_keepFirst 6 = .ok (.getfield 19, 3) := by decide +kernel
theorem d_ByteRow_keepFirst_9 : decode b_ByteRow_keepFirst 9 = .ok (.if_icmp .le 5, 3) := by decide +kernel
theorem d_ByteRow_keepFirst_12 : decode b_ByteRow_keepFirst 12 = .ok (.iconst 0, 1) := by decide +kernel
theorem d_ByteRow_keepFirst_13 : decode b_ByteRow_keepFirst 13 = .ok (.ireturn, 1) := by decide +kernel
theorem d_ByteRow_keepFirst_14 : decode b_ByteRow_keepFirst 14 = .ok (.aload_n 0, 1) := by decide +kernel
theorem d_ByteRow_keepFirst_15 : decode b_ByteRow_keepFirst 15 = .ok (.iload_n 1, 1) := by decide +kernel
theorem d_ByteRow_keepFirst_16 : decode b_ByteRow_keepFirst 16 = .ok (.putfield 19, 3) := by decide +kernel
theorem d_ByteRow_keepFirst_19 : decode b_ByteRow_keepFirst 19 = .ok (.iconst 1, 1) := by decide +kernel
theorem d_ByteRow_keepFirst_20 : decode b_ByteRow_keepFirst 20 = .ok (.ireturn, 1) := by decide +kernel
theorem d_SB_cut_0 : decode b_SB_cut 0 = .ok (.aload_n 0, 1) := by decide +kernel
theorem d_SB_cut_1 : decode b_SB_cut 1 = .ok (.getfield 14, 3) := by decide +kernel
theorem d_SB_cut_4 : decode b_SB_cut 4 = .ok (.iload_n 1, 1) := by decide +kernel
theorem d_SB_cut_5 : decode b_SB_cut 5 = .ok (.invokevirtual 60, 3) := by decide +kernel
theorem d_SB_cut_8 : decode b_SB_cut 8 = .ok (.ireturn, 1) := by decide +kernel
theorem d_ByteRow_set_0 : decode b_ByteRow_set 0 = .ok (.iload_n 1, 1) := by decide +kernel
theorem d_ByteRow_set_1 : decode b_ByteRow_set 1 = .ok (.ifCond .lt 11, 3) := by decide +kernel
theorem d_ByteRow_set_4 : decode b_ByteRow_set 4 = .ok (.iload_n 1, 1) := by decide +kernel
theorem d_ByteRow_set_5 : decode b_ByteRow_set 5 = .ok (.aload_n 0, 1) := by decide +kernel
theorem d_ByteRow_set_6 : decode b_ByteRow_set 6 = .ok (.getfield 19, 3) := by decide +kernel
theorem d_ByteRow_set_9 : decode b_ByteRow_set 9 = .ok (.if_icmp .lt 5, 3) := by decide +kernel
theorem d_ByteRow_set_12 : decode b_ByteRow_set 12 = .ok (.iconst 0, 1) := by decide +kernel
theorem d_ByteRow_set_13 : decode b_ByteRow_set 13 = .ok (.ireturn, 1) := by decide +kernel
theorem d_ByteRow_set_14 : decode b_ByteRow_set 14 = .ok (.aload_n 0, 1) := by decide +kernel
theorem d_ByteRow_set_15 : decode b_ByteRow_set 15 = .ok (.getfield 15, 3) := by decide +kernel
theorem d_ByteRow_set_18 : decode b_ByteRow_set 18 = .ok (.iload_n 1, 1) := by decide +kernel
theorem d_ByteRow_set_19 : decode b_ByteRow_set 19 = .ok (.iload_n 2, 1) := by decide +kernel
theorem d_ByteRow_set_20 : decode b_ByteRow_set 20 = .ok (.i2b, 1) := by decide +kernel
theorem d_ByteRow_set_21 : decode b_ByteRow_set 21 = .ok (.bastore, 1) := by decide +kernel
theorem d_ByteRow_set_22 : decode b_ByteRow_set 22 = .ok (.iconst 1, 1) := by decide +kernel
theorem d_ByteRow_set_23 : decode b_ByteRow_set 23 = .ok (.ireturn, 1) := by decide +kernel
theorem d_SB_poke_0 : decode b_SB_poke 0 = .ok (.aload_n 0, 1) := by decide +kernel
theorem d_SB_poke_1 : decode b_SB_poke 1 = .ok (.getfield 14, 3) := by decide +kernel
theorem d_SB_poke_4 : decode b_SB_poke 4 = .ok (.iload_n 1, 1) := by decide +kernel
theorem d_SB_poke_5 : decode b_SB_poke 5 = .ok (.iload_n 2, 1) := by decide +kernel
theorem d_SB_poke_6 : decode b_SB_poke 6 = .ok (.invokevirtual 64, 3) := by decide +kernel
theorem d_SB_poke_9 : decode b_SB_poke 9 = .ok (.ireturn, 1) := by decide +kernel
theorem d_Fault_clear_0 : decode b_Fault_clear 0 = .ok (.aload_n 0, 1) := by decide +kernel
theorem d_Fault_clear_1 : decode b_Fault_clear 1 = .ok (.iconst 0, 1) := by decide +kernel
theorem d_Fault_clear_2 : decode b_Fault_clear 2 = .ok (.putfield 9, 3) := by decide +kernel
theorem d_Fault_clear_5 : decode b_Fault_clear 5 = .ok (.aload_n 0, 1) := by decide +kernel
theorem d_Fault_clear_6 : decode b_Fault_clear 6 = .ok (.iconst (-1), 1) := by decide +kernel
theorem d_Fault_clear_7 : decode b_Fault_clear 7 = .ok (.putfield 15, 3) := by decide +kernel
theorem d_Fault_clear_10 : decode b_Fault_clear 10 = .ok (.return_, 1) := by decide +kernel
theorem d_Fault_tell_0 : decode b_Fault_tell 0 = .ok (.aload_n 0, 1) := by decide +kernel
theorem d_Fault_tell_1 : decode b_Fault_tell 1 = .ok (.getfield 9, 3) := by decide +kernel
theorem d_Fault_tell_4 : decode b_Fault_tell 4 = .ok (.ifCond .ne 13, 3) := by decide +kernel
theorem d_Fault_tell_7 : decode b_Fault_tell 7 = .ok (.aload_n 0, 1) := by decide +kernel
theorem d_Fault_tell_8 : decode b_Fault_tell 8 = .ok (.iload_n 1, 1) := by decide +kernel
theorem d_Fault_tell_9 : decode b_Fault_tell 9 = .ok (.putfield 9, 3) := by decide +kernel
theorem d_Fault_tell_12 : decode b_Fault_tell 12 = .ok (.aload_n 0, 1) := by decide +kernel
theorem d_Fault_tell_13 : decode b_Fault_tell 13 = .ok (.iload_n 2, 1) := by decide +kernel
theorem d_Fault_tell_14 : decode b_Fault_tell 14 = .ok (.putfield 15, 3) := by decide +kernel
theorem d_Fault_tell_17 : decode b_Fault_tell 17 = .ok (.return_, 1) := by decide +kernel
set_option maxHeartbeats 4000000 in
set_option maxRecDepth 100000 in
theorem m_ByteRow_init {l : Launch} {D : va_G} {dA : Nat → ClassId} (q0 : Nat) (x1 : Int32) (h0 : hc_H) (b : Unit) (C0 S0 : Nat) (h2 : hc_H) (hr : p_ByteRow_init (some q0) x1 h0 = some (b, C0, S0, h2)) : hc_Met l (gg D dA) y_ByteRow_init b_ByteRow_init 2 none tb 1 20 [vr_ (some q0), vi_ x1] h0 C0 S0 none h2 := by
  refine hc_Met.of (by decide) (Nat.le_of_ble_eq_true rfl) ?_
  intro p e s m args below meth c hC
  unfold p_ByteRow_init at hr
  refine hj_sub (lv' := [(0, vr_ (some q0)), (1, vi_ x1)]) [0, 1] rfl ?_
  refine hj_aload_n hC 0 d_ByteRow_init_0 rfl rfl ?_
  refine hj_objInit hC wq_0 wq_1 wq_2 (Nat.le_of_ble_eq_true rfl) (Nat.le_of_ble_eq_true rfl) d_ByteRow_init_1 ?_
  refine hj_aload_n hC 0 d_ByteRow_init_4 rfl rfl ?_
  refine hj_iload_n hC 1 d_ByteRow_init_5 rfl rfl ?_
  refine hj_puti hC cf_ByteRow (k := 0) (by decide) wq_3 rfl (Or.inr ⟨rfl, rfl, rfl⟩) rfl d_ByteRow_init_6 hr (fun h hr => ?_)
  refine hj_aload_n hC 0 d_ByteRow_init_9 rfl rfl ?_
  refine hj_bipush hC (v := 64) d_ByteRow_init_10 (by decide) ?_
  refine hj_newa hC (kd := 7) (atype := .byte) rfl rfl (by decide) wq_4 d_ByteRow_init_12 hr (fun q1 h C S hr => ?_)
  refine hj_putr hC cf_ByteRow (k := 1) (by decide) wq_5 rfl (Or.inl rfl) rfl d_ByteRow_init_14 hr (fun h hr => ?_)
  refine hj_aload_n hC 0 d_ByteRow_init_17 rfl rfl ?_
  refine hj_iconst hC (v := 0) d_ByteRow_init_18 (by decide) ?_
  refine hj_puti hC cf_ByteRow (k := 2) (by decide) wq_6 rfl (Or.inl rfl) rfl d_ByteRow_init_19 hr (fun h hr => ?_)
  exact hj_vret hC d_ByteRow_init_22 hr
set_option maxHeartbeats 4000000 in
set_option maxRecDepth 100000 in
theorem m_Fault_init {l : Launch} {D : va_G} {dA : Nat → ClassId} (q0 : Nat) (h0 : hc_H) (b : Unit) (C0 S0 : Nat) (h2 : hc_H) (hr : p_Fault_init (some q0) h0 = some (b, C0, S0, h2)) : hc_Met l (gg D dA) y_Fault_init b_Fault_init 1 none tb 1 20 [vr_ (some q0)] h0 C0 S0 none h2 := by
  refine hc_Met.of (by decide) (Nat.le_of_ble_eq_true rfl) ?_
  intro p e s m args below meth c hC
  unfold p_Fault_init at hr
  refine hj_sub (lv' := [(0, vr_ (some q0))]) [0] rfl ?_
  refine hj_aload_n hC 0 d_Fault_init_0 rfl rfl ?_
  refine hj_objInit hC wq_7 wq_1 wq_2 (Nat.le_of_ble_eq_true rfl) (Nat.le_of_ble_eq_true rfl) d_Fault_init_1 ?_
  refine hj_aload_n hC 0 d_Fault_init_4 rfl rfl ?_
  refine hj_iconst hC (v := 0) d_Fault_init_5 (by decide) ?_
  refine hj_puti hC cf_Fault (k := 0) (by decide) wq_8 rfl (Or.inl rfl) rfl d_Fault_init_6 hr (fun h hr => ?_)
  refine hj_aload_n hC 0 d_Fault_init_9 rfl rfl ?_
  refine hj_iconst hC (v := (-1)) d_Fault_init_10 (by decide) ?_
  refine hj_puti hC cf_Fault (k := 1) (by decide) wq_9 rfl (Or.inl rfl) rfl d_Fault_init_11 hr (fun h hr => ?_)
  exact hj_vret hC d_Fault_init_14 hr
set_option maxHeartbeats 4000000 in
set_option maxRecDepth 100000 in
theorem m_Reader_init {l : Launch} {D : va_G} {dA : Nat → ClassId} (q0 : Nat) (x1 : Option Nat) (x2 : Option Nat) (h0 : hc_H) (b : Unit) (C0 S0 : Nat) (h2 : hc_H) (hr : p_Reader_init (some q0) x1 x2 h0 = some (b, C0, S0, h2)) : hc_Met l (gg D dA) y_Reader_init b_Reader_init 3 none tb 1 20 [vr_ (some q0), vr_ x1, vr_ x2] h0 C0 S0 none h2 := by
  refine hc_Met.of (by decide) (Nat.le_of_ble_eq_true rfl) ?_
  intro p e s m args below meth c hC
  unfold p_Reader_init at hr
  refine hj_sub (lv' := [(0, vr_ (some q0)), (1, vr_ x1), (2, vr_ x2)]) [0, 1, 2] rfl ?_
  refine hj_aload_n hC 0 d_Reader_init_0 rfl rfl ?_
  refine hj_objInit hC wq_10 wq_1 wq_2 (Nat.le_of_ble_eq_true rfl) (Nat.le_of_ble_eq_true rfl) d_Reader_init_1 ?_
  refine hj_aload_n hC 0 d_Reader_init_4 rfl rfl ?_
  refine hj_aload_n hC 1 d_Reader_init_5 rfl rfl ?_
  refine hj_putr hC cf_Reader (k := 0) (by decide) wq_11 rfl (Or.inr ⟨rfl, rfl, rfl⟩) rfl d_Reader_init_6 hr (fun h hr => ?_)
  refine hj_aload_n hC 0 d_Reader_init_9 rfl rfl ?_
  refine hj_aload_n hC 2 d_Reader_init_10 rfl rfl ?_
  refine hj_putr hC cf_Reader (k := 1) (by decide) wq_12 rfl (Or.inr ⟨rfl, rfl, rfl⟩) rfl d_Reader_init_11 hr (fun h hr => ?_)
  refine hj_aload_n hC 0 d_Reader_init_14 rfl rfl ?_
  refine hj_iconst hC (v := 0) d_Reader_init_15 (by decide) ?_
  refine hj_puti hC cf_Reader (k := 2) (by decide) wq_13 rfl (Or.inl rfl) rfl d_Reader_init_16 hr (fun h hr => ?_)
  exact hj_vret hC d_Reader_init_19 hr
set_option maxHeartbeats 4000000 in
set_option maxRecDepth 100000 in
theorem m_Verifier_init {l : Launch} {D : va_G} {dA : Nat → ClassId} (q0 : Nat) (x1 : Option Nat) (h0 : hc_H) (b : Unit) (C0 S0 : Nat) (h2 : hc_H) (hr : p_Verifier_init (some q0) x1 h0 = some (b, C0, S0, h2)) : hc_Met l (gg D dA) y_Verifier_init b_Verifier_init 2 none tb 1 20 [vr_ (some q0), vr_ x1] h0 C0 S0 none h2 := by
  refine hc_Met.of (by decide) (Nat.le_of_ble_eq_true rfl) ?_
  intro p e s m args below meth c hC
  unfold p_Verifier_init at hr
  refine hj_sub (lv' := [(0, vr_ (some q0)), (1, vr_ x1)]) [0, 1] rfl ?_
  refine hj_aload_n hC 0 d_Verifier_init_0 rfl rfl ?_
  refine hj_objInit hC wq_14 wq_1 wq_2 (Nat.le_of_ble_eq_true rfl) (Nat.le_of_ble_eq_true rfl) d_Verifier_init_1 ?_
  refine hj_aload_n hC 0 d_Verifier_init_4 rfl rfl ?_
  refine hj_sipush hC (v := 400) d_Verifier_init_5 (by decide) ?_
  refine hj_newa hC (kd := 4) (atype := .int) rfl rfl (by decide) wq_15 d_Verifier_init_8 hr (fun q1 h C S hr => ?_)
  refine hj_putr hC cf_Verifier (k := 1) (by decide) wq_16 rfl (Or.inr ⟨rfl, rfl, rfl⟩) rfl d_Verifier_init_10 hr (fun h hr => ?_)
  refine hj_aload_n hC 0 d_Verifier_init_13 rfl rfl ?_
  refine hj_sipush hC (v := 400) d_Verifier_init_14 (by decide) ?_
  refine hj_newa hC (kd := 5) (atype := .int) rfl rfl (by decide) wq_15 d_Verifier_init_17 hr (fun q2 h C S hr => ?_)
  refine hj_putr hC cf_Verifier (k := 2) (by decide) wq_17 rfl (Or.inr ⟨rfl, rfl, rfl⟩) rfl d_Verifier_init_19 hr (fun h hr => ?_)
  refine hj_aload_n hC 0 d_Verifier_init_22 rfl rfl ?_
  refine hj_sipush hC (v := 400) d_Verifier_init_23 (by decide) ?_
  refine hj_newa hC (kd := 6) (atype := .boolean) rfl rfl (by decide) wq_18 d_Verifier_init_26 hr (fun q3 h C S hr => ?_)
  refine hj_putr hC cf_Verifier (k := 3) (by decide) wq_19 rfl (Or.inr ⟨rfl, rfl, rfl⟩) rfl d_Verifier_init_28 hr (fun h hr => ?_)
  refine hj_aload_n hC 0 d_Verifier_init_31 rfl rfl ?_
  refine hj_aload_n hC 1 d_Verifier_init_32 rfl rfl ?_
  refine hj_putr hC cf_Verifier (k := 0) (by decide) wq_20 rfl (Or.inr ⟨rfl, rfl, rfl⟩) rfl d_Verifier_init_33 hr (fun h hr => ?_)
  exact hj_vret hC d_Verifier_init_36 hr
set_option maxHeartbeats 4000000 in
set_option maxRecDepth 100000 in
theorem m_Handler_init {l : Launch} {D : va_G} {dA : Nat → ClassId} (q0 : Nat) (h0 : hc_H) (b : Unit) (C0 S0 : Nat) (h2 : hc_H) (hr : p_Handler_init (some q0) h0 = some (b, C0, S0, h2)) : hc_Met l (gg D dA) y_Handler_init b_Handler_init 1 none tb 1 20 [vr_ (some q0)] h0 C0 S0 none h2 := by
  refine hc_Met.of (by decide) (Nat.le_of_ble_eq_true rfl) ?_
  intro p e s m args below meth c hC
  unfold p_Handler_init at hr
  refine hj_sub (lv' := [(0, vr_ (some q0))]) [0] rfl ?_
  refine hj_aload_n hC 0 d_Handler_init_0 rfl rfl ?_
  refine hj_objInit hC wq_21 wq_1 wq_2 (Nat.le_of_ble_eq_true rfl) (Nat.le_of_ble_eq_true rfl) d_Handler_init_1 ?_
  exact hj_vret hC d_Handler_init_4 hr
set_option maxHeartbeats 4000000 in
set_option maxRecDepth 100000 in
theorem ml_Function_init_64 {p : Program} {l : Launch} {e : Env} {s : State} {m : MethodId} {args : Array Value} {below : List Frame} {meth : Method} {c : Code} {D : va_G} {dA : Nat → ClassId} {h0 h2 : hc_H} {Q : State → Prop} {C0 S0 : Nat} {b : Unit} (hC : hj_C p s m args meth c (gg D dA) b_Function_init 2 none R_Function "<init>" tb) (x0 : Option Nat) (kx : hM Unit) (hk : ∀  (h : hc_H) (C S : Nat), kx  h = some (b, C, S, h2) → hj_J p l e { frames := 2, cells := C0, slots := S0, locals := 40 } s m args below meth c (gg D dA) h0 2 Q C S h 89 [] []) : ∀ (fu : Nat) (v1 : Int32) (h : hc_H) (C S : Nat), p_Function_init_64 x0 kx fu v1 h = some (b, C, S, h2) → hj_J p l e { frames := 2, cells := C0, slots := S0, locals := 40 } s m args below meth c (gg D dA) h0 2 Q C S h 64 [(0, vr_ x0), (1, vi_ v1)] [] := by
  intro fu
  induction fu with
  | zero =>
    intro v1 h C S hr
    cases hr
  | succ fu ih =>
    intro v1 h C S hr
    rw [p_Function_init_64] at hr
    refine hj_iload_n hC 1 d_Function_init_64 rfl rfl ?_
    refine hj_bipush hC (v := 6) d_Function_init_65 (by decide) ?_
    refine hj_icmp_ge hC 89 d_Function_init_67 (by decide) hr (fun q67 hr => ?_) (fun q67 hr => ?_)
    · refine hj_sub (lv' := []) [] rfl ?_
      exact hk _ _ _ hr
    · refine hj_aload_n hC 0 d_Function_init_70 rfl rfl ?_
      refine hj_getr hC cf_Function (k := 10) (by decide) wq_28 rfl d_Function_init_71 hr (fun a7 hr => ?_)
      refine hj_iload_n hC 1 d_Function_init_74 rfl rfl ?_
      refine hj_new hC cf_Handler wq_27 wq_30 wq_31 (fs := [vi_ 0, vi_ 0, vi_ 0, vi_ 0, vi_ 0]) (fun j hj => by rcases (show j = 0 ∨ j = 1 ∨ j = 2 ∨ j = 3 ∨ j = 4 by omega) with rfl | rfl | rfl | rfl | rfl <;> rfl) d_Function_init_75 hr (fun q8 h C S hr => ?_)
      refine hj_dup hC d_Function_init_78 rfl ?_
      refine hj_callI hC hG (As := []) (st := [vr_ (some q8), vi_ v1, vr_ a7]) (fun h a C S h1 hr => m_Handler_init _  h a C S h1 hr) (Or.inr ⟨_, nq_Function_34⟩) wq_33 wq_31 wq_32 rfl yk_Handler_init rfl ⟨Nat.le_of_ble_eq_true rfl, Nat.le_of_ble_eq_true rfl⟩ rfl (Nat.le_of_ble_eq_true rfl) d_Function_init_79 hr (fun _ h C S hr => ?_)
      refine hj_aast hC (kd := 9) rfl cf_Handler d_Function_init_82 hr (fun h hr => ?_)
      refine hj_iinc hC (lv' := [(1, vi_ (v1 + 1)), (0, vr_ x0)]) 1 d_Function_init_83 rfl rfl (by decide) rfl ?_
      refine hj_goto hC 64 d_Function_init_86 (by decide) ?_
      refine hj_sub (lv' := [(0, vr_ x0), (1, vi_ (v1 + 1))]) [1, 0] rfl ?_
      exact ih _ _ _ _ hr
set_option maxHeartbeats 4000000 in
set_option maxRecDepth 100000 in
theorem m_Function_init {l : Launch} {D : va_G} {dA : Nat → ClassId} (q0 : Nat) (h0 : hc_H) (b : Unit) (C0 S0 : Nat) (h2 : hc_H) (hr : p_Function_init (some q0) h0 = some (b, C0, S0, h2)) : hc_Met l (gg D dA) y_Function_init b_Function_init 2 none tb 2 40 [vr_ (some q0)] h0 C0 S0 none h2 := by
  refine hc_Met.of (by decide) (Nat.le_of_ble_eq_true rfl) ?_
  intro p e s m args below meth c hC
  unfold p_Function_init at hr
  refine hj_sub (lv' := [(0, vr_ (some q0))]) [0] rfl ?_
  refine hj_aload_n hC 0 d_Function_init_0 rfl rfl ?_
  refine hj_objInit hC wq_22 wq_1 wq_2 (Nat.le_of_ble_eq_true rfl) (Nat.le_of_ble_eq_true rfl) d_Function_init_1 ?_
  refine hj_aload_n hC 0 d_Function_init_4 rfl rfl ?_
  refine hj_sipush hC (v := 400) d_Function_init_5 (by decide) ?_
  refine hj_newa hC (kd := 0) (atype := .int) rfl rfl (by decide) wq_15 d_Function_init_8 hr (fun q1 h C S hr => ?_)
  refine hj_putr hC cf_Function (k := 6) (by decide) wq_23 rfl (Or.inr ⟨rfl, rfl, rfl⟩) rfl d_Function_init_10 hr (fun h hr => ?_)
  refine hj_aload_n hC 0 d_Function_init_13 rfl rfl ?_
  refine hj_sipush hC (v := 400) d_Function_init_14 (by decide) ?_
  refine hj_newa hC (kd := 1) (atype := .int) rfl rfl (by decide) wq_15 d_Function_init_17 hr (fun q2 h C S hr => ?_)
  refine hj_putr hC cf_Function (k := 7) (by decide) wq_24 rfl (Or.inr ⟨rfl, rfl, rfl⟩) rfl d_Function_init_19 hr (fun h hr => ?_)
  refine hj_aload_n hC 0 d_Function_init_22 rfl rfl ?_
  refine hj_sipush hC (v := 400) d_Function_init_23 (by decide) ?_
  refine hj_newa hC (kd := 2) (atype := .int) rfl rfl (by decide) wq_15 d_Function_init_26 hr (fun q3 h C S hr => ?_)
  refine hj_putr hC cf_Function (k := 8) (by decide) wq_25 rfl (Or.inr ⟨rfl, rfl, rfl⟩) rfl d_Function_init_28 hr (fun h hr => ?_)
  refine hj_aload_n hC 0 d_Function_init_31 rfl rfl ?_
  refine hj_sipush hC (v := 400) d_Function_init_32 (by decide) ?_
  refine hj_newa hC (kd := 3) (atype := .int) rfl rfl (by decide) wq_15 d_Function_init_35 hr (fun q4 h C S hr => ?_)
  refine hj_putr hC cf_Function (k := 9) (by decide) wq_26 rfl (Or.inr ⟨rfl, rfl, rfl⟩) rfl d_Function_init_37 hr (fun h hr => ?_)
  refine hj_aload_n hC 0 d_Function_init_40 rfl rfl ?_
  refine hj_bipush hC (v := 6) d_Function_init_41 (by decide) ?_
  refine hj_anew hC (kd := 9) rfl wq_27 (List.mem_of_getElem? (i := 1) rfl) d_Function_init_43 hr (fun q5 h C S hr => ?_)
  refine hj_putr hC cf_Function (k := 10) (by decide) wq_28 rfl (Or.inr ⟨rfl, rfl, rfl⟩) rfl d_Function_init_46 hr (fun h hr => ?_)
  refine hj_aload_n hC 0 d_Function_init_49 rfl rfl ?_
  refine hj_iconst hC (v := 1) d_Function_init_50 (by decide) ?_
  refine hj_puti hC cf_Function (k := 4) (by decide) wq_29 rfl (Or.inl rfl) rfl d_Function_init_51 hr (fun h hr => ?_)
  refine hj_aload_n hC 0 d_Function_init_54 rfl rfl ?_
  refine hj_getr hC cf_Function (k := 6) (by decide) wq_23 rfl d_Function_init_55 hr (fun a6 hr => ?_)
  refine hj_iconst hC (v := 0) d_Function_init_58 (by decide) ?_
  refine hj_bipush hC (v := 27) d_Function_init_59 (by decide) ?_
  refine hj_iast hC (kd := 0) rfl d_Function_init_61 hr (fun h hr => ?_)
  refine hj_iconst hC (v := 0) d_Function_init_62 (by decide) ?_
  refine hj_istore_n hC (lv' := [(1, vi_ 0), (0, vr_ (some q0))]) d_Function_init_63 rfl (by decide) rfl ?_
  refine hj_sub (lv' := [(0, vr_ (some q0)), (1, vi_ 0)]) [1, 0] rfl ?_
  refine ml_Function_init_64 hC _ _ (fun  h C S hr => ?_) _ _ _ _ _ hr
  exact hj_vret hC d_Function_init_89 hr
set_option maxHeartbeats 4000000 in
set_option maxRecDepth 100000 in
theorem m_Program_init {l : Launch} {D : va_G} {dA : Nat → ClassId} (q0 : Nat) (h0 : hc_H) (b : Unit) (C0 S0 : Nat) (h2 : hc_H) (hr : p_Program_init (some q0) h0 = some (b, C0, S0, h2)) : hc_Met l (gg D dA) y_Program_init b_Program_init 1 none tb 3 61 [vr_ (some q0)] h0 C0 S0 none h2 := by
  refine hc_Met.of (by decide) (Nat.le_of_ble_eq_true rfl) ?_
  intro p e s m args below meth c hC
  unfold p_Program_init at hr
  refine hj_sub (lv' := [(0, vr_ (some q0))]) [0] rfl ?_
  refine hj_aload_n hC 0 d_Program_init_0 rfl rfl ?_
  refine hj_objInit hC wq_34 wq_1 wq_2 (Nat.le_of_ble_eq_true rfl) (Nat.le_of_ble_eq_true rfl) d_Program_init_1 ?_
  refine hj_aload_n hC 0 d_Program_init_4 rfl rfl ?_
  refine hj_bipush hC (v := 12) d_Program_init_5 (by decide) ?_
  refine hj_anew hC (kd := 8) rfl wq_35 (List.mem_of_getElem? (i := 0) rfl) d_Program_init_7 hr (fun q1 h C S hr => ?_)
  refine hj_putr hC cf_Program (k := 0) (by decide) wq_36 rfl (Or.inr ⟨rfl, rfl, rfl⟩) rfl d_Program_init_10 hr (fun h hr => ?_)
  refine hj_aload_n hC 0 d_Program_init_13 rfl rfl ?_
  refine hj_getr hC cf_Program (k := 0) (by decide) wq_36 rfl d_Program_init_14 hr (fun a2 hr => ?_)
  refine hj_iconst hC (v := 0) d_Program_init_17 (by decide) ?_
  refine hj_new hC cf_Function wq_35 wq_37 wq_38 (fs := [vi_ 0, vi_ 0, vi_ 0, vi_ 0, vi_ 0, vi_ 0, vr_ none, vr_ none, vr_ none, vr_ none, vr_ none]) (fun j hj => by rcases (show j = 0 ∨ j = 1 ∨ j = 2 ∨ j = 3 ∨ j = 4 ∨ j = 5 ∨ j = 6 ∨ j = 7 ∨ j = 8 ∨ j = 9 ∨ j = 10 by omega) with rfl | rfl | rfl | rfl | rfl | rfl | rfl | rfl | rfl | rfl | rfl <;> rfl) d_Program_init_18 hr (fun q3 h C S hr => ?_)
  refine hj_dup hC d_Program_init_21 rfl ?_
  refine hj_callI hC hG (As := []) (st := [vr_ (some q3), vi_ 0, vr_ a2]) (fun h a C S h1 hr => m_Function_init _  h a C S h1 hr) (Or.inl wq_41) wq_42 wq_38 wq_39 rfl yk_Function_init rfl ⟨Nat.le_of_ble_eq_true rfl, Nat.le_of_ble_eq_true rfl⟩ rfl (Nat.le_of_ble_eq_true rfl) d_Program_init_22 hr (fun _ h C S hr => ?_)
  refine hj_aast hC (kd := 8) rfl cf_Function d_Program_init_25 hr (fun h hr => ?_)
  refine hj_aload_n hC 0 d_Program_init_26 rfl rfl ?_
  refine hj_iconst hC (v := 1) d_Program_init_27 (by decide) ?_
  refine hj_puti hC cf_Program (k := 1) (by decide) wq_40 rfl (Or.inl rfl) rfl d_Program_init_28 hr (fun h hr => ?_)
  exact hj_vret hC d_Program_init_31 hr
set_option maxHeartbeats 4000000 in
set_option maxRecDepth 100000 in
theorem m_SB_init {l : Launch} {D : va_G} {dA : Nat → ClassId} (q0 : Nat) (h0 : hc_H) (b : Unit) (C0 S0 : Nat) (h2 : hc_H) (hr : p_SB_init (some q0) h0 = some (b, C0, S0, h2)) : hc_Met l (gg D dA) y_SB_init b_SB_init 1 none tb 4 81 [vr_ (some q0)] h0 C0 S0 none h2 := by
  refine hc_Met.of (by decide) (Nat.le_of_ble_eq_true rfl) ?_
  intro p e s m args below meth c hC
  unfold p_SB_init at hr
  refine hj_sub (lv' := [(0, vr_ (some q0))]) [0] rfl ?_
  refine hj_aload_n hC 0 d_SB_init_0 rfl rfl ?_
  refine hj_objInit hC wq_43 wq_1 wq_2 (Nat.le_of_ble_eq_true rfl) (Nat.le_of_ble_eq_true rfl) d_SB_init_1 ?_
  refine hj_aload_n hC 0 d_SB_init_4 rfl rfl ?_
  refine hj_new hC cf_ByteRow wq_44 wq_45 wq_46 (fs := [vi_ 0, vr_ none, vi_ 0]) (fun j hj => by rcases (show j = 0 ∨ j = 1 ∨ j = 2 by omega) with rfl | rfl | rfl <;> rfl) d_SB_init_5 hr (fun q1 h C S hr => ?_)
  refine hj_dup hC d_SB_init_8 rfl ?_
  refine hj_sipush hC (v := 4096) d_SB_init_9 (by decide) ?_
  refine hj_callI hC hG (As := [vi_ 4096]) (st := [vr_ (some q1), vr_ (some q0)]) (fun h a C S h1 hr => m_ByteRow_init _ _ h a C S h1 hr) (Or.inl wq_79) wq_80 wq_46 wq_47 rfl yk_ByteRow_init rfl ⟨Nat.le_of_ble_eq_true rfl, Nat.le_of_ble_eq_true rfl⟩ rfl (Nat.le_of_ble_eq_true rfl) d_SB_init_12 hr (fun _ h C S hr => ?_)
  refine hj_putr hC cf_SB (k := 0) (by decide) wq_48 rfl (Or.inr ⟨rfl, rfl, rfl⟩) rfl d_SB_init_15 hr (fun h hr => ?_)
  refine hj_aload_n hC 0 d_SB_init_18 rfl rfl ?_
  refine hj_new hC cf_ByteRow wq_44 wq_45 wq_46 (fs := [vi_ 0, vr_ none, vi_ 0]) (fun j hj => by rcases (show j = 0 ∨ j = 1 ∨ j = 2 by omega) with rfl | rfl | rfl <;> rfl) d_SB_init_19 hr (fun q2 h C S hr => ?_)
  refine hj_dup hC d_SB_init_22 rfl ?_
  refine hj_sipush hC (v := 24892) d_SB_init_23 (by decide) ?_
  refine hj_callI hC hG (As := [vi_ 24892]) (st := [vr_ (some q2), vr_ (some q0)]) (fun h a C S h1 hr => m_ByteRow_init _ _ h a C S h1 hr) (Or.inl wq_79) wq_80 wq_46 wq_47 rfl yk_ByteRow_init rfl ⟨Nat.le_of_ble_eq_true rfl, Nat.le_of_ble_eq_true rfl⟩ rfl (Nat.le_of_ble_eq_true rfl) d_SB_init_26 hr (fun _ h C S hr => ?_)
  refine hj_putr hC cf_SB (k := 1) (by decide) wq_49 rfl (Or.inr ⟨rfl, rfl, rfl⟩) rfl d_SB_init_29 hr (fun h hr => ?_)
  refine hj_aload_n hC 0 d_SB_init_32 rfl rfl ?_
  refine hj_new hC cf_Fault wq_50 wq_51 wq_52 (fs := [vi_ 0, vi_ 0]) (fun j hj => by rcases (show j = 0 ∨ j = 1 by omega) with rfl | rfl <;> rfl) d_SB_init_33 hr (fun q3 h C S hr => ?_)
  refine hj_dup hC d_SB_init_36 rfl ?_
  refine hj_callI hC hG (As := []) (st := [vr_ (some q3), vr_ (some q0)]) (fun h a C S h1 hr => m_Fault_init _  h a C S h1 hr) (Or.inl wq_77) wq_78 wq_52 wq_53 rfl yk_Fault_init rfl ⟨Nat.le_of_ble_eq_true rfl, Nat.le_of_ble_eq_true rfl⟩ rfl (Nat.le_of_ble_eq_true rfl) d_SB_init_37 hr (fun _ h C S hr => ?_)
  refine hj_putr hC cf_SB (k := 2) (by decide) wq_54 rfl (Or.inr ⟨rfl, rfl, rfl⟩) rfl d_SB_init_40 hr (fun h hr => ?_)
  refine hj_aload_n hC 0 d_SB_init_43 rfl rfl ?_
  refine hj_new hC cf_Reader wq_55 wq_56 wq_57 (fs := [vr_ none, vr_ none, vi_ 0]) (fun j hj => by rcases (show j = 0 ∨ j = 1 ∨ j = 2 by omega) with rfl | rfl | rfl <;> rfl) d_SB_init_44 hr (fun q4 h C S hr => ?_)
  refine hj_dup hC d_SB_init_47 rfl ?_
  refine hj_aload_n hC 0 d_SB_init_48 rfl rfl ?_
  refine hj_getr hC cf_SB (k := 0) (by decide) wq_48 rfl d_SB_init_49 hr (fun a5 hr => ?_)
  refine hj_aload_n hC 0 d_SB_init_52 rfl rfl ?_
  refine hj_getr hC cf_SB (k := 2) (by decide) wq_54 rfl d_SB_init_53 hr (fun a6 hr => ?_)
  refine hj_callI hC hG (As := [vr_ a5, vr_ a6]) (st := [vr_ (some q4), vr_ (some q0)]) (fun h a C S h1 hr => m_Reader_init _ _ _ h a C S h1 hr) (Or.inl wq_75) wq_76 wq_57 wq_58 rfl yk_Reader_init rfl ⟨Nat.le_of_ble_eq_true rfl, Nat.le_of_ble_eq_true rfl⟩ rfl (Nat.le_of_ble_eq_true rfl) d_SB_init_56 hr (fun _ h C S hr => ?_)
  refine hj_putr hC cf_SB (k := 3) (by decide) wq_59 rfl (Or.inr ⟨rfl, rfl, rfl⟩) rfl d_SB_init_59 hr (fun h hr => ?_)
  refine hj_aload_n hC 0 d_SB_init_62 rfl rfl ?_
  refine hj_new hC cf_Verifier wq_60 wq_61 wq_62 (fs := [vr_ none, vr_ none, vr_ none, vr_ none, vi_ 0, vr_ none, vr_ none, vi_ 0, vi_ 0, vi_ 0, vi_ 0]) (fun j hj => by rcases (show j = 0 ∨ j = 1 ∨ j = 2 ∨ j = 3 ∨ j = 4 ∨ j = 5 ∨ j = 6 ∨ j = 7 ∨ j = 8 ∨ j = 9 ∨ j = 10 by omega) with rfl | rfl | rfl | rfl | rfl | rfl | rfl | rfl | rfl | rfl | rfl <;> rfl) d_SB_init_63 hr (fun q7 h C S hr => ?_)
  refine hj_dup hC d_SB_init_66 rfl ?_
  refine hj_aload_n hC 0 d_SB_init_67 rfl rfl ?_
  refine hj_getr hC cf_SB (k := 2) (by decide) wq_54 rfl d_SB_init_68 hr (fun a8 hr => ?_)
  refine hj_callI hC hG (As := [vr_ a8]) (st := [vr_ (some q7), vr_ (some q0)]) (fun h a C S h1 hr => m_Verifier_init _ _ h a C S h1 hr) (Or.inl wq_73) wq_74 wq_62 wq_63 rfl yk_Verifier_init rfl ⟨Nat.le_of_ble_eq_true rfl, Nat.le_of_ble_eq_true rfl⟩ rfl (Nat.le_of_ble_eq_true rfl) d_SB_init_71 hr (fun _ h C S hr => ?_)
  refine hj_putr hC cf_SB (k := 4) (by decide) wq_64 rfl (Or.inr ⟨rfl, rfl, rfl⟩) rfl d_SB_init_74 hr (fun h hr => ?_)
  refine hj_aload_n hC 0 d_SB_init_77 rfl rfl ?_
  refine hj_new hC cf_Program wq_65 wq_66 wq_67 (fs := [vr_ none, vi_ 0]) (fun j hj => by rcases (show j = 0 ∨ j = 1 by omega) with rfl | rfl <;> rfl) d_SB_init_78 hr (fun q9 h C S hr => ?_)
  refine hj_dup hC d_SB_init_81 rfl ?_
  refine hj_callI hC hG (As := []) (st := [vr_ (some q9), vr_ (some q0)]) (fun h a C S h1 hr => m_Program_init _  h a C S h1 hr) (Or.inl wq_71) wq_72 wq_67 wq_68 rfl yk_Program_init rfl ⟨Nat.le_of_ble_eq_true rfl, Nat.le_of_ble_eq_true rfl⟩ rfl (Nat.le_of_ble_eq_true rfl) d_SB_init_82 hr (fun _ h C S hr => ?_)
  refine hj_putr hC cf_SB (k := 5) (by decide) wq_69 rfl (Or.inl rfl) rfl d_SB_init_85 hr (fun h hr => ?_)
  refine hj_aload_n hC 0 d_SB_init_88 rfl rfl ?_
  refine hj_new hC cf_Program wq_65 wq_66 wq_67 (fs := [vr_ none, vi_ 0]) (fun j hj => by rcases (show j = 0 ∨ j = 1 by omega) with rfl | rfl <;> rfl) d_SB_init_89 hr (fun q10 h C S hr => ?_)
  refine hj_dup hC d_SB_init_92 rfl ?_
  refine hj_callI hC hG (As := []) (st := [vr_ (some q10), vr_ (some q0)]) (fun h a C S h1 hr => m_Program_init _  h a C S h1 hr) (Or.inl wq_71) wq_72 wq_67 wq_68 rfl yk_Program_init rfl ⟨Nat.le_of_ble_eq_true rfl, Nat.le_of_ble_eq_true rfl⟩ rfl (Nat.le_of_ble_eq_true rfl) d_SB_init_93 hr (fun _ h C S hr => ?_)
  refine hj_putr hC cf_SB (k := 6) (by decide) wq_70 rfl (Or.inl rfl) rfl d_SB_init_96 hr (fun h hr => ?_)
  exact hj_vret hC d_SB_init_99 hr
set_option maxHeartbeats 4000000 in
set_option maxRecDepth 100000 in
theorem m_Ar_copyOf {l : Launch} {D : va_G} {dA : Nat → ClassId} (x0 : Option Nat) (x1 : Int32) (h0 : hc_H) (b : Option Nat) (C0 S0 : Nat) (h2 : hc_H) (hr : p_Ar_copyOf x0 x1 h0 = some (b, C0, S0, h2)) : hc_Met l (gg D dA) y_Ar_copyOf b_Ar_copyOf 3 (some (.array .byte)) tb 1 26 [vr_ x0, vi_ x1] h0 C0 S0 (some (vr_ b)) h2 := by
  refine hc_Met.of (by decide) (Nat.le_of_ble_eq_true rfl) ?_
  intro p e s m args below meth c hC
  unfold p_Ar_copyOf at hr
  refine hj_sub (lv' := [(0, vr_ x0), (1, vi_ x1)]) [0, 1] rfl ?_
  refine hj_iload_n hC 1 d_Ar_copyOf_0 rfl rfl ?_
  refine hj_aload_n hC 0 d_Ar_copyOf_1 rfl rfl ?_
  refine hj_leni hC (kd := 7) rfl d_Ar_copyOf_2 hr (fun a1 hr => ?_)
  refine hj_icmp_ne hC 14 d_Ar_copyOf_3 (by decide) hr (fun q3 hr => ?_) (fun q3 hr => ?_)
  · refine hj_iload_n hC 1 d_Ar_copyOf_14 rfl rfl ?_
    refine hj_newa hC (kd := 7) (atype := .byte) rfl rfl (by decide) wq_4 d_Ar_copyOf_15 hr (fun q2 h C S hr => ?_)
    refine hj_astore_n hC (lv' := [(2, vr_ (some q2)), (0, vr_ x0), (1, vi_ x1)]) d_Ar_copyOf_17 rfl (by decide) rfl ?_
    refine hj_aload_n hC 1 d_Ar_copyOf_18 rfl rfl ?_
    refine hj_iconst hC (v := 0) d_Ar_copyOf_19 (by decide) ?_
    refine hj_aload_n hC 0 d_Ar_copyOf_20 rfl rfl ?_
    refine hj_iconst hC (v := 0) d_Ar_copyOf_21 (by decide) ?_
    refine hj_aload_n hC 1 d_Ar_copyOf_22 rfl rfl ?_
    refine hj_leni hC (kd := 7) rfl d_Ar_copyOf_23 hr (fun a3 hr => ?_)
    refine hj_iload_n hC 2 d_Ar_copyOf_24 rfl rfl ?_
    refine hj_mmin hC wq_81 wq_82 wq_83 wq_84 (Nat.le_of_ble_eq_true rfl) (Nat.le_of_ble_eq_true rfl) d_Ar_copyOf_25 ?_
    refine hj_copy hC (k1 := 7) (k2 := 7) rfl rfl rfl wq_85 wq_86 wq_87 wq_88 (Nat.le_of_ble_eq_true rfl) (Nat.le_of_ble_eq_true rfl) d_Ar_copyOf_28 hr (fun h hr => ?_)
    refine hj_aload_n hC 0 d_Ar_copyOf_31 rfl rfl ?_
    exact hj_aret hC (by first | exact Or.inl ⟨_, rfl⟩ | exact Or.inr ⟨_, rfl⟩) d_Ar_copyOf_32 hr
  · cases hr
set_option maxHeartbeats 4000000 in
set_option maxRecDepth 100000 in
theorem m_ByteRow_makeRoom {l : Launch} {D : va_G} {dA : Nat → ClassId} (o : Option Nat) (x1 : Int32) (h0 : hc_H) (b : Unit) (C0 S0 : Nat) (h2 : hc_H) (hr : p_ByteRow_makeRoom o x1 h0 = some (b, C0, S0, h2)) : hc_Met l (gg D dA) y_ByteRow_makeRoom b_ByteRow_makeRoom 2 none tb 2 48 [vr_ o, vi_ x1] h0 C0 S0 none h2 := by
  refine hc_Met.of (by decide) (Nat.le_of_ble_eq_true rfl) ?_
  intro p e s m args below meth c hC
  unfold p_ByteRow_makeRoom at hr
  refine hj_sub (lv' := [(0, vr_ o), (1, vi_ x1)]) [0, 1] rfl ?_
  refine hj_iload_n hC 1 d_ByteRow_makeRoom_0 rfl rfl ?_
  refine hj_aload_n hC 0 d_ByteRow_makeRoom_1 rfl rfl ?_
  refine hj_getr hC cf_ByteRow (k := 1) (by decide) wq_5 rfl d_ByteRow_makeRoom_2 hr (fun a1 hr => ?_)
  refine hj_leni hC (kd := 7) rfl d_ByteRow_makeRoom_5 hr (fun a2 hr => ?_)
  refine hj_icmp_le hC 38 d_ByteRow_makeRoom_6 (by decide) hr (fun q6 hr => ?_) (fun q6 hr => ?_)
  · exact hj_vret hC d_ByteRow_makeRoom_38 hr
  · refine hj_aload_n hC 0 d_ByteRow_makeRoom_9 rfl rfl ?_
    refine hj_aload_n hC 0 d_ByteRow_makeRoom_10 rfl rfl ?_
    refine hj_getr hC cf_ByteRow (k := 1) (by decide) wq_5 rfl d_ByteRow_makeRoom_11 hr (fun a3 hr => ?_)
    refine hj_iload_n hC 1 d_ByteRow_makeRoom_14 rfl rfl ?_
    refine hj_aload_n hC 0 d_ByteRow_makeRoom_15 rfl rfl ?_
    refine hj_geti hC cf_ByteRow (k := 0) (by decide) wq_3 rfl d_ByteRow_makeRoom_16 hr (fun a4 hr => ?_)
    refine hj_iconst hC (v := 2) d_ByteRow_makeRoom_19 (by decide) ?_
    refine hj_aload_n hC 0 d_ByteRow_makeRoom_20 rfl rfl ?_
    refine hj_getr hC cf_ByteRow (k := 1) (by decide) wq_5 rfl d_ByteRow_makeRoom_21 hr (fun a5 hr => ?_)
    refine hj_leni hC (kd := 7) rfl d_ByteRow_makeRoom_24 hr (fun a6 hr => ?_)
    refine hj_imul hC d_ByteRow_makeRoom_25 ?_
    refine hj_mmin hC wq_89 wq_82 wq_83 wq_84 (Nat.le_of_ble_eq_true rfl) (Nat.le_of_ble_eq_true rfl) d_ByteRow_makeRoom_26 ?_
    refine hj_mmax hC wq_90 wq_91 wq_83 wq_92 (Nat.le_of_ble_eq_true rfl) (Nat.le_of_ble_eq_true rfl) d_ByteRow_makeRoom_29 ?_
    refine hj_callS hC hG (enc := (fun a : Option Nat => some (vr_ a))) (As := [vr_ a3, vi_ (if x1 < (if (2 * a6) < a4 then (2 * a6) else a4) then (if (2 * a6) < a4 then (2 * a6) else a4) else x1)]) (st := [vr_ o]) (fun h a C S h1 hr => m_Ar_copyOf _ _ h a C S h1 hr) wq_94 wq_95 wq_96 wq_93 yk_Ar_copyOf rfl ⟨Nat.le_of_ble_eq_true rfl, Nat.le_of_ble_eq_true rfl⟩ rfl (Nat.le_of_ble_eq_true rfl) d_ByteRow_makeRoom_32 hr (fun a7 h C S hr => ?_)
    refine hj_putr hC cf_ByteRow (k := 1) (by decide) wq_5 rfl (Or.inl rfl) rfl d_ByteRow_makeRoom_35 hr (fun h hr => ?_)
    exact hj_vret hC d_ByteRow_makeRoom_38 hr
set_option maxHeartbeats 4000000 in
set_option maxRecDepth 100000 in
theorem ml_ByteRow_add_30 {p : Program} {l : Launch} {e : Env} {s : State} {m : MethodId} {args : Array Value} {below : List Frame} {meth : Method} {c : Code} {D : va_G} {dA : Nat → ClassId} {h0 h2 : hc_H} {Q : State → Prop} {C0 S0 : Nat} {b : Int32} (hC : hj_C p s m args meth c (gg D dA) b_ByteRow_add 5 (some .boolean) R_ByteRow "add" tb) (x0 : Option Nat) (x1 : Int64) (kx : hM Int32) (hk : ∀  (h : hc_H) (C S : Nat), kx  h = some (b, C, S, h2) → hj_J p l e { frames := 3, cells := C0, slots := S0, locals := 69 } s m args below meth c (gg D dA) h0 5 Q C S h 69 [] []) : ∀ (fu : Nat) (v4 : Int32) (h : hc_H) (C S : Nat), p_ByteRow_add_30 x0 x1 kx fu v4 h = some (b, C, S, h2) → hj_J p l e { frames := 3, cells := C0, slots := S0, locals := 69 } s m args below meth c (gg D dA) h0 5 Q C S h 30 [(0, vr_ x0), (1, vl_ x1), (4, vi_ v4)] [] := by
  intro fu
  induction fu with
  | zero =>
    intro v4 h C S hr
    cases hr
  | succ fu ih =>
    intro v4 h C S hr
    rw [p_ByteRow_add_30] at hr
    refine hj_iload hC 2 d_ByteRow_add_30 rfl ?_
    refine hj_if_lt hC 69 d_ByteRow_add_32 (by decide) hr (fun q32 hr => ?_) (fun q32 hr => ?_)
    · refine hj_sub (lv' := []) [] rfl ?_
      exact hk _ _ _ hr
    · refine hj_aload_n hC 0 d_ByteRow_add_35 rfl rfl ?_
      refine hj_getr hC cf_ByteRow (k := 1) (by decide) wq_5 rfl d_ByteRow_add_36 hr (fun a4 hr => ?_)
      refine hj_aload_n hC 0 d_ByteRow_add_39 rfl rfl ?_
      refine hj_geti hC cf_ByteRow (k := 2) (by decide) wq_6 rfl d_ByteRow_add_40 hr (fun a5 hr => ?_)
      refine hj_lload_n hC 1 d_ByteRow_add_43 rfl rfl ?_
      refine hj_bipush hC (v := 8) d_ByteRow_add_44 (by decide) ?_
      refine hj_iload hC 2 d_ByteRow_add_46 rfl ?_
      refine hj_imul hC d_ByteRow_add_48 ?_
      refine hj_lshr hC d_ByteRow_add_49 ?_
      refine hj_l2i hC d_ByteRow_add_50 ?_
      refine hj_i2b hC d_ByteRow_add_51 ?_
      refine hj_bast hC (kd := 7) rfl d_ByteRow_add_52 hr (fun h hr => ?_)
      refine hj_aload_n hC 0 d_ByteRow_add_53 rfl rfl ?_
      refine hj_dup hC d_ByteRow_add_54 rfl ?_
      refine hj_geti hC cf_ByteRow (k := 2) (by decide) wq_6 rfl d_ByteRow_add_55 hr (fun a6 hr => ?_)
      refine hj_iconst hC (v := 1) d_ByteRow_add_58 (by decide) ?_
      refine hj_iadd hC d_ByteRow_add_59 ?_
      refine hj_puti hC cf_ByteRow (k := 2) (by decide) wq_6 rfl (Or.inl rfl) rfl d_ByteRow_add_60 hr (fun h hr => ?_)
      refine hj_iinc hC (lv' := [(4, vi_ (v4 + (-1))), (0, vr_ x0), (1, vl_ x1)]) 2 d_ByteRow_add_63 rfl rfl (by decide) rfl ?_
      refine hj_goto hC 30 d_ByteRow_add_66 (by decide) ?_
      refine hj_sub (lv' := [(0, vr_ x0), (1, vl_ x1), (4, vi_ (v4 + (-1)))]) [1, 2, 0] rfl ?_
      exact ih _ _ _ _ hr
set_option maxHeartbeats 4000000 in
set_option maxRecDepth 100000 in
theorem m_ByteRow_add {l : Launch} {D : va_G} {dA : Nat → ClassId} (o : Option Nat) (x1 : Int64) (x3 : Int32) (h0 : hc_H) (b : Int32) (C0 S0 : Nat) (h2 : hc_H) (hr : p_ByteRow_add o x1 x3 h0 = some (b, C0, S0, h2)) : hc_Met l (gg D dA) y_ByteRow_add b_ByteRow_add 5 (some .boolean) tb 3 69 [vr_ o, vl_ x1, vi_ x3] h0 C0 S0 (some (vi_ b)) h2 := by
  refine hc_Met.of (by decide) (Nat.le_of_ble_eq_true rfl) ?_
  intro p e s m args below meth c hC
  unfold p_ByteRow_add at hr
  refine hj_sub (lv' := [(0, vr_ o), (1, vl_ x1), (3, vi_ x3)]) [0, 1, 2] rfl ?_
  refine hj_iload_n hC 2 d_ByteRow_add_0 rfl rfl ?_
  refine hj_aload_n hC 0 d_ByteRow_add_1 rfl rfl ?_
  refine hj_geti hC cf_ByteRow (k := 0) (by decide) wq_3 rfl d_ByteRow_add_2 hr (fun a1 hr => ?_)
  refine hj_aload_n hC 0 d_ByteRow_add_5 rfl rfl ?_
  refine hj_geti hC cf_ByteRow (k := 2) (by decide) wq_6 rfl d_ByteRow_add_6 hr (fun a2 hr => ?_)
  refine hj_isub hC d_ByteRow_add_9 ?_
  refine hj_icmp_le hC 15 d_ByteRow_add_10 (by decide) hr (fun q10 hr => ?_) (fun q10 hr => ?_)
  · refine hj_aload_n hC 0 d_ByteRow_add_15 rfl rfl ?_
    refine hj_aload_n hC 0 d_ByteRow_add_16 rfl rfl ?_
    refine hj_geti hC cf_ByteRow (k := 2) (by decide) wq_6 rfl d_ByteRow_add_17 hr (fun a3 hr => ?_)
    refine hj_iload_n hC 2 d_ByteRow_add_20 rfl rfl ?_
    refine hj_iadd hC d_ByteRow_add_21 ?_
    refine hj_callV hC hG (enc := (fun _ : Unit => none)) (As := [vi_ (a3 + x3)]) (st := []) (fun h a C S h1 hr => m_ByteRow_makeRoom _ _ h a C S h1 hr) cf_ByteRow wq_98 wq_99 wq_100 wq_46 wq_97 yk_ByteRow_makeRoom rfl ⟨Nat.le_of_ble_eq_true rfl, Nat.le_of_ble_eq_true rfl⟩ rfl (Nat.le_of_ble_eq_true rfl) d_ByteRow_add_22 hr (fun _ h C S hr => ?_)
    refine hj_iload_n hC 2 d_ByteRow_add_25 rfl rfl ?_
    refine hj_iconst hC (v := 1) d_ByteRow_add_26 (by decide) ?_
    refine hj_isub hC d_ByteRow_add_27 ?_
    refine hj_istore hC (lv' := [(4, vi_ (x3 - 1)), (0, vr_ o), (1, vl_ x1), (3, vi_ x3)]) d_ByteRow_add_28 (by decide) rfl ?_
    refine hj_sub (lv' := [(0, vr_ o), (1, vl_ x1), (4, vi_ (x3 - 1))]) [1, 2, 0] rfl ?_
    refine ml_ByteRow_add_30 hC _ _ _ (fun  h C S hr => ?_) _ _ _ _ _ hr
    refine hj_iconst hC (v := 1) d_ByteRow_add_69 (by decide) ?_
    exact hj_zret hC d_ByteRow_add_70 hr
  · refine hj_iconst hC (v := 0) d_ByteRow_add_13 (by decide) ?_
    exact hj_zret hC d_ByteRow_add_14 hr
set_option maxHeartbeats 4000000 in
set_option maxRecDepth 100000 in
theorem m_SB_give {l : Launch} {D : va_G} {dA : Nat → ClassId} (o : Option Nat) (x1 : Int64) (x3 : Int32) (h0 : hc_H) (b : Int32) (C0 S0 : Nat) (h2 : hc_H) (hr : p_SB_give o x1 x3 h0 = some (b, C0, S0, h2)) : hc_Met l (gg D dA) y_SB_give b_SB_give 4 (some .boolean) tb 4 93 [vr_ o, vl_ x1, vi_ x3] h0 C0 S0 (some (vi_ b)) h2 := by
  refine hc_Met.of (by decide) (Nat.le_of_ble_eq_true rfl) ?_
  intro p e s m args below meth c hC
  unfold p_SB_give at hr
  refine hj_sub (lv' := [(0, vr_ o), (1, vl_ x1), (3, vi_ x3)]) [0, 1, 2] rfl ?_
  refine hj_iload_n hC 2 d_SB_give_0 rfl rfl ?_
  refine hj_iconst hC (v := 1) d_SB_give_1 (by decide) ?_
  refine hj_icmp_lt hC 27 d_SB_give_2 (by decide) hr (fun q2 hr => ?_) (fun q2 hr => ?_)
  · refine hj_iconst hC (v := 0) d_SB_give_27 (by decide) ?_
    exact hj_zret hC d_SB_give_28 hr
  · refine hj_iload_n hC 2 d_SB_give_5 rfl rfl ?_
    refine hj_bipush hC (v := 8) d_SB_give_6 (by decide) ?_
    refine hj_icmp_gt hC 27 d_SB_give_8 (by decide) hr (fun q8 hr => ?_) (fun q8 hr => ?_)
    · refine hj_iconst hC (v := 0) d_SB_give_27 (by decide) ?_
      exact hj_zret hC d_SB_give_28 hr
    · refine hj_aload_n hC 0 d_SB_give_11 rfl rfl ?_
      refine hj_getr hC cf_SB (k := 0) (by decide) wq_48 rfl d_SB_give_12 hr (fun a1 hr => ?_)
      refine hj_lload_n hC 1 d_SB_give_15 rfl rfl ?_
      refine hj_iload_n hC 2 d_SB_give_16 rfl rfl ?_
      refine hj_callV hC hG (enc := (fun a : Int32 => some (vi_ a))) (As := [vl_ x1, vi_ x3]) (st := []) (fun h a C S h1 hr => m_ByteRow_add _ _ _ h a C S h1 hr) cf_ByteRow wq_102 wq_103 wq_104 wq_46 wq_101 yk_ByteRow_add rfl ⟨Nat.le_of_ble_eq_true rfl, Nat.le_of_ble_eq_true rfl⟩ rfl (Nat.le_of_ble_eq_true rfl) d_SB_give_17 hr (fun a2 h C S hr => ?_)
      refine hj_if_eq hC 27 d_SB_give_20 (by decide) hr (fun q20 hr => ?_) (fun q20 hr => ?_)
      · refine hj_iconst hC (v := 0) d_SB_give_27 (by decide) ?_
        exact hj_zret hC d_SB_give_28 hr
      · refine hj_iconst hC (v := 1) d_SB_give_23 (by decide) ?_
        refine hj_goto hC 28 d_SB_give_24 (by decide) ?_
        exact hj_zret hC d_SB_give_28 hr
set_option maxHeartbeats 4000000 in
set_option maxRecDepth 100000 in
theorem m_ByteRow_keepFirst {l : Launch} {D : va_G} {dA : Nat → ClassId} (o : Option Nat) (x1 : Int32) (h0 : hc_H) (b : Int32) (C0 S0 : Nat) (h2 : hc_H) (hr : p_ByteRow_keepFirst o x1 h0 = some (b, C0, S0, h2)) : hc_Met l (gg D dA) y_ByteRow_keepFirst b_ByteRow_keepFirst 2 (some .boolean) tb 0 0 [vr_ o, vi_ x1] h0 C0 S0 (some (vi_ b)) h2 := by
  refine hc_Met.of (by decide) (Nat.le_of_ble_eq_true rfl) ?_
  intro p e s m args below meth c hC
  unfold p_ByteRow_keepFirst at hr
  refine hj_sub (lv' := [(0, vr_ o), (1, vi_ x1)]) [0, 1] rfl ?_
  refine hj_iload_n hC 1 d_ByteRow_keepFirst_0 rfl rfl ?_
  refine hj_if_lt hC 12 d_ByteRow_keepFirst_1 (by decide) hr (fun q1 hr => ?_) (fun q1 hr => ?_)
  · refine hj_iconst hC (v := 0) d_ByteRow_keepFirst_12 (by decide) ?_
    exact hj_zret hC d_ByteRow_keepFirst_13 hr
  · refine hj_iload_n hC 1 d_ByteRow_keepFirst_4 rfl rfl ?_
    refine hj_aload_n hC 0 d_ByteRow_keepFirst_5 rfl rfl ?_
    refine hj_geti hC cf_ByteRow (k := 2) (by decide) wq_6 rfl d_ByteRow_keepFirst_6 hr (fun a1 hr => ?_)
    refine hj_icmp_le hC 14 d_ByteRow_keepFirst_9 (by decide) hr (fun q9 hr => ?_) (fun q9 hr => ?_)
    · refine hj_aload_n hC 0 d_ByteRow_keepFirst_14 rfl rfl ?_
      refine hj_iload_n hC 1 d_ByteRow_keepFirst_15 rfl rfl ?_
      refine hj_puti hC cf_ByteRow (k := 2) (by decide) wq_6 rfl (Or.inl rfl) rfl d_ByteRow_keepFirst_16 hr (fun h hr => ?_)
      refine hj_iconst hC (v := 1) d_ByteRow_keepFirst_19 (by decide) ?_
      exact hj_zret hC d_ByteRow_keepFirst_20 hr
    · refine hj_iconst hC (v := 0) d_ByteRow_keepFirst_12 (by decide) ?_
      exact hj_zret hC d_ByteRow_keepFirst_13 hr
set_option maxHeartbeats 4000000 in
set_option maxRecDepth 100000 in
theorem m_SB_cut {l : Launch} {D : va_G} {dA : Nat → ClassId} (o : Option Nat) (x1 : Int32) (h0 : hc_H) (b : Int32) (C0 S0 : Nat) (h2 : hc_H) (hr : p_SB_cut o x1 h0 = some (b, C0, S0, h2)) : hc_Met l (gg D dA) y_SB_cut b_SB_cut 2 (some .boolean) tb 1 21 [vr_ o, vi_ x1] h0 C0 S0 (some (vi_ b)) h2 := by
  refine hc_Met.of (by decide) (Nat.le_of_ble_eq_true rfl) ?_
  intro p e s m args below meth c hC
  unfold p_SB_cut at hr
  refine hj_sub (lv' := [(0, vr_ o), (1, vi_ x1)]) [0, 1] rfl ?_
  refine hj_aload_n hC 0 d_SB_cut_0 rfl rfl ?_
  refine hj_getr hC cf_SB (k := 0) (by decide) wq_48 rfl d_SB_cut_1 hr (fun a1 hr => ?_)
  refine hj_iload_n hC 1 d_SB_cut_4 rfl rfl ?_
  refine hj_callV hC hG (enc := (fun a : Int32 => some (vi_ a))) (As := [vi_ x1]) (st := []) (fun h a C S h1 hr => m_ByteRow_keepFirst _ _ h a C S h1 hr) cf_ByteRow wq_106 wq_107 wq_108 wq_46 wq_105 yk_ByteRow_keepFirst rfl ⟨Nat.le_of_ble_eq_true rfl, Nat.le_of_ble_eq_true rfl⟩ rfl (Nat.le_of_ble_eq_true rfl) d_SB_cut_5 hr (fun a2 h C S hr => ?_)
  exact hj_zret hC d_SB_cut_8 hr
set_option maxHeartbeats 4000000 in
set_option maxRecDepth 100000 in
theorem m_ByteRow_set {l : Launch} {D : va_G} {dA : Nat → ClassId} (o : Option Nat) (x1 : Int32) (x2 : Int32) (h0 : hc_H) (b : Int32) (C0 S0 : Nat) (h2 : hc_H) (hr : p_ByteRow_set o x1 x2 h0 = some (b, C0, S0, h2)) : hc_Met l (gg D dA) y_ByteRow_set b_ByteRow_set 3 (some .boolean) tb 0 0 [vr_ o, vi_ x1, vi_ x2] h0 C0 S0 (some (vi_ b)) h2 := by
  refine hc_Met.of (by decide) (Nat.le_of_ble_eq_true rfl) ?_
  intro p e s m args below meth c hC
  unfold p_ByteRow_set at hr
  refine hj_sub (lv' := [(0, vr_ o), (1, vi_ x1), (2, vi_ x2)]) [0, 1, 2] rfl ?_
  refine hj_iload_n hC 1 d_ByteRow_set_0 rfl rfl ?_
  refine hj_if_lt hC 12 d_ByteRow_set_1 (by decide) hr (fun q1 hr => ?_) (fun q1 hr => ?_)
  · refine hj_iconst hC (v := 0) d_ByteRow_set_12 (by decide) ?_
    exact hj_zret hC d_ByteRow_set_13 hr
  · refine hj_iload_n hC 1 d_ByteRow_set_4 rfl rfl ?_
    refine hj_aload_n hC 0 d_ByteRow_set_5 rfl rfl ?_
    refine hj_geti hC cf_ByteRow (k := 2) (by decide) wq_6 rfl d_ByteRow_set_6 hr (fun a1 hr => ?_)
    refine hj_icmp_lt hC 14 d_ByteRow_set_9 (by decide) hr (fun q9 hr => ?_) (fun q9 hr => ?_)
    · refine hj_aload_n hC 0 d_ByteRow_set_14 rfl rfl ?_
      refine hj_getr hC cf_ByteRow (k := 1) (by decide) wq_5 rfl d_ByteRow_set_15 hr (fun a2 hr => ?_)
      refine hj_iload_n hC 1 d_ByteRow_set_18 rfl rfl ?_
      refine hj_iload_n hC 2 d_ByteRow_set_19 rfl rfl ?_
      refine hj_i2b hC d_ByteRow_set_20 ?_
      refine hj_bast hC (kd := 7) rfl d_ByteRow_set_21 hr (fun h hr => ?_)
      refine hj_iconst hC (v := 1) d_ByteRow_set_22 (by decide) ?_
      exact hj_zret hC d_ByteRow_set_23 hr
    · refine hj_iconst hC (v := 0) d_ByteRow_set_12 (by decide) ?_
      exact hj_zret hC d_ByteRow_set_13 hr
set_option maxHeartbeats 4000000 in
set_option maxRecDepth 100000 in
theorem m_SB_poke {l : Launch} {D : va_G} {dA : Nat → ClassId} (o : Option Nat) (x1 : Int32) (x2 : Int32) (h0 : hc_H) (b : Int32) (C0 S0 : Nat) (h2 : hc_H) (hr : p_SB_poke o x1 x2 h0 = some (b, C0, S0, h2)) : hc_Met l (gg D dA) y_SB_poke b_SB_poke 3 (some .boolean) tb 1 22 [vr_ o, vi_ x1, vi_ x2] h0 C0 S0 (some (vi_ b)) h2 := by
  refine hc_Met.of (by decide) (Nat.le_of_ble_eq_true rfl) ?_
  intro p e s m args below meth c hC
  unfold p_SB_poke at hr
  refine hj_sub (lv' := [(0, vr_ o), (1, vi_ x1), (2, vi_ x2)]) [0, 1, 2] rfl ?_
  refine hj_aload_n hC 0 d_SB_poke_0 rfl rfl ?_
  refine hj_getr hC cf_SB (k := 0) (by decide) wq_48 rfl d_SB_poke_1 hr (fun a1 hr => ?_)
  refine hj_iload_n hC 1 d_SB_poke_4 rfl rfl ?_
  refine hj_iload_n hC 2 d_SB_poke_5 rfl rfl ?_
  refine hj_callV hC hG (enc := (fun a : Int32 => some (vi_ a))) (As := [vi_ x1, vi_ x2]) (st := []) (fun h a C S h1 hr => m_ByteRow_set _ _ _ h a C S h1 hr) cf_ByteRow wq_110 wq_111 wq_112 wq_46 wq_109 yk_ByteRow_set rfl ⟨Nat.le_of_ble_eq_true rfl, Nat.le_of_ble_eq_true rfl⟩ rfl (Nat.le_of_ble_eq_true rfl) d_SB_poke_6 hr (fun a2 h C S hr => ?_)
  exact hj_zret hC d_SB_poke_9 hr
set_option maxHeartbeats 4000000 in
set_option maxRecDepth 100000 in
theorem m_Fault_clear {l : Launch} {D : va_G} {dA : Nat → ClassId} (o : Option Nat) (h0 : hc_H) (b : Unit) (C0 S0 : Nat) (h2 : hc_H) (hr : p_Fault_clear o h0 = some (b, C0, S0, h2)) : hc_Met l (gg D dA) y_Fault_clear b_Fault_clear 1 none tb 0 0 [vr_ o] h0 C0 S0 none h2 := by
  refine hc_Met.of (by decide) (Nat.le_of_ble_eq_true rfl) ?_
  intro p e s m args below meth c hC
  unfold p_Fault_clear at hr
  refine hj_sub (lv' := [(0, vr_ o)]) [0] rfl ?_
  refine hj_aload_n hC 0 d_Fault_clear_0 rfl rfl ?_
  refine hj_iconst hC (v := 0) d_Fault_clear_1 (by decide) ?_
  refine hj_puti hC cf_Fault (k := 0) (by decide) wq_8 rfl (Or.inl rfl) rfl d_Fault_clear_2 hr (fun h hr => ?_)
  refine hj_aload_n hC 0 d_Fault_clear_5 rfl rfl ?_
  refine hj_iconst hC (v := (-1)) d_Fault_clear_6 (by decide) ?_
  refine hj_puti hC cf_Fault (k := 1) (by decide) wq_9 rfl (Or.inl rfl) rfl d_Fault_clear_7 hr (fun h hr => ?_)
  exact hj_vret hC d_Fault_clear_10 hr
set_option maxHeartbeats 4000000 in
set_option maxRecDepth 100000 in
theorem m_Fault_tell {l : Launch} {D : va_G} {dA : Nat → ClassId} (o : Option Nat) (x1 : Int32) (x2 : Int32) (h0 : hc_H) (b : Unit) (C0 S0 : Nat) (h2 : hc_H) (hr : p_Fault_tell o x1 x2 h0 = some (b, C0, S0, h2)) : hc_Met l (gg D dA) y_Fault_tell b_Fault_tell 3 none tb 0 0 [vr_ o, vi_ x1, vi_ x2] h0 C0 S0 none h2 := by
  refine hc_Met.of (by decide) (Nat.le_of_ble_eq_true rfl) ?_
  intro p e s m args below meth c hC
  unfold p_Fault_tell at hr
  refine hj_sub (lv' := [(0, vr_ o), (1, vi_ x1), (2, vi_ x2)]) [0, 1, 2] rfl ?_
  refine hj_aload_n hC 0 d_Fault_tell_0 rfl rfl ?_
  refine hj_geti hC cf_Fault (k := 0) (by decide) wq_8 rfl d_Fault_tell_1 hr (fun a1 hr => ?_)
  refine hj_if_ne hC 17 d_Fault_tell_4 (by decide) hr (fun q4 hr => ?_) (fun q4 hr => ?_)
  · exact hj_vret hC d_Fault_tell_17 hr
  · refine hj_aload_n hC 0 d_Fault_tell_7 rfl rfl ?_
    refine hj_iload_n hC 1 d_Fault_tell_8 rfl rfl ?_
    refine hj_puti hC cf_Fault (k := 0) (by decide) wq_8 rfl (Or.inl rfl) rfl d_Fault_tell_9 hr (fun h hr => ?_)
    refine hj_aload_n hC 0 d_Fault_tell_12 rfl rfl ?_
    refine hj_iload_n hC 2 d_Fault_tell_13 rfl rfl ?_
    refine hj_puti hC cf_Fault (k := 1) (by decide) wq_9 rfl (Or.inl rfl) rfl d_Fault_tell_14 hr (fun h hr => ?_)
    exact hj_vret hC d_Fault_tell_17 hr
end
