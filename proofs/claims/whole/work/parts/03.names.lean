theorem goodIn_rr {big : List Cond} (ws : List Cond) (ps : List Nat) (hp : ws = ps.filterMap (fun i => big[i]?)) (h : ws.all goodWord = true) : GoodIn big ws := by
  intro w hw
  have h1 := List.all_eq_true.mp h w hw
  rw [hp] at hw
  obtain ⟨i, -, hi⟩ := List.mem_filterMap.mp hw
  exact ⟨List.mem_of_getElem? hi, good_of_word h1⟩
theorem mem_rr {big ws : List Cond} (ps : List Nat) (hp : ws = ps.filterMap (fun i => big[i]?)) : ∀ w ∈ ws, w ∈ big := by
  intro w hw
  rw [hp] at hw
  obtain ⟨i, -, hi⟩ := List.mem_filterMap.mp hw
  exact List.mem_of_getElem? hi
def R_SB : String := "StackBytes"
def F_SB : u_T := fun k => match k with
  | 0 => ("StackBytes", "bytes", "LStackBytes$ByteRow;", true)
  | 1 => ("StackBytes", "written", "LStackBytes$ByteRow;", true)
  | 2 => ("StackBytes", "latest", "LStackBytes$Fault;", true)
  | 3 => ("StackBytes", "verifier", "LStackBytes$Verifier;", true)
  | 4 => ("StackBytes", "program", "LStackBytes$Program;", false)
  | _ => ("StackBytes", "spare", "LStackBytes$Program;", false)
def t_SB : Nat → FieldType := fun k => match k with
  | 0 => .object "StackBytes$ByteRow"
  | 1 => .object "StackBytes$ByteRow"
  | 2 => .object "StackBytes$Fault"
  | 3 => .object "StackBytes$Verifier"
  | 4 => .object "StackBytes$Program"
  | _ => .object "StackBytes$Program"
def R_ByteRow : String := "StackBytes$ByteRow"
def F_ByteRow : u_T := fun k => match k with
  | 0 => ("StackBytes$ByteRow", "most", "I", true)
  | 1 => ("StackBytes$ByteRow", "row", "[B", false)
  | _ => ("StackBytes$ByteRow", "count", "I", false)
def t_ByteRow : Nat → FieldType := fun k => match k with
  | 0 => .int
  | 1 => .array .byte
  | _ => .int
def R_Fault : String := "StackBytes$Fault"
def F_Fault : u_T := fun k => match k with
  | 0 => ("StackBytes$Fault", "kind", "I", false)
  | _ => ("StackBytes$Fault", "place", "I", false)
def t_Fault : Nat → FieldType := fun k => match k with
  | 0 => .int
  | _ => .int
def R_Function : String := "StackBytes$Function"
def F_Function : u_T := fun k => match k with
  | 0 => ("StackBytes$Function", "params", "I", false)
  | 1 => ("StackBytes$Function", "locals", "I", false)
  | 2 => ("StackBytes$Function", "rowLocals", "I", false)
  | 3 => ("StackBytes$Function", "result", "I", false)
  | 4 => ("StackBytes$Function", "count", "I", false)
  | 5 => ("StackBytes$Function", "handlerCount", "I", false)
  | 6 => ("StackBytes$Function", "ops", "[I", true)
  | 7 => ("StackBytes$Function", "behinds", "[I", true)
  | 8 => ("StackBytes$Function", "depths", "[I", true)
  | 9 => ("StackBytes$Function", "rowsOnStack", "[I", true)
  | _ => ("StackBytes$Function", "handlers", "[LStackBytes$Handler;", true)
def t_Function : Nat → FieldType := fun k => match k with
  | 0 => .int
  | 1 => .int
  | 2 => .int
  | 3 => .int
  | 4 => .int
  | 5 => .int
  | 6 => .array .int
  | 7 => .array .int
  | 8 => .array .int
  | 9 => .array .int
  | _ => .array (.object "StackBytes$Handler")
def R_Handler : String := "StackBytes$Handler"
def F_Handler : u_T := fun k => match k with
  | 0 => ("StackBytes$Handler", "from", "I", false)
  | 1 => ("StackBytes$Handler", "to", "I", false)
  | 2 => ("StackBytes$Handler", "target", "I", false)
  | 3 => ("StackBytes$Handler", "forAny", "Z", false)
  | _ => ("StackBytes$Handler", "code", "I", false)
def t_Handler : Nat → FieldType := fun k => match k with
  | 0 => .int
  | 1 => .int
  | 2 => .int
  | 3 => .boolean
  | _ => .int
def R_Kinds : String := "StackBytes$Kinds"
def F_Kinds : u_T := fun k => match k with
  | _ => ("", "", "", false)
def t_Kinds : Nat → FieldType := fun k => match k with
  | _ => .int
def R_Program : String := "StackBytes$Program"
def F_Program : u_T := fun k => match k with
  | 0 => ("StackBytes$Program", "functions", "[LStackBytes$Function;", true)
  | _ => ("StackBytes$Program", "count", "I", false)
def t_Program : Nat → FieldType := fun k => match k with
  | 0 => .array (.object "StackBytes$Function")
  | _ => .int
def R_Reader : String := "StackBytes$Reader"
def F_Reader : u_T := fun k => match k with
  | 0 => ("StackBytes$Reader", "in", "LStackBytes$ByteRow;", true)
  | 1 => ("StackBytes$Reader", "fault", "LStackBytes$Fault;", true)
  | _ => ("StackBytes$Reader", "at", "I", false)
def t_Reader : Nat → FieldType := fun k => match k with
  | 0 => .object "StackBytes$ByteRow"
  | 1 => .object "StackBytes$Fault"
  | _ => .int
def R_Verifier : String := "StackBytes$Verifier"
def F_Verifier : u_T := fun k => match k with
  | 0 => ("StackBytes$Verifier", "depths", "[I", true)
  | 1 => ("StackBytes$Verifier", "rowsOnStack", "[I", true)
  | 2 => ("StackBytes$Verifier", "waits", "[Z", true)
  | 3 => ("StackBytes$Verifier", "leastWaiting", "I", false)
  | 4 => ("StackBytes$Verifier", "program", "LStackBytes$Program;", false)
  | 5 => ("StackBytes$Verifier", "function", "LStackBytes$Function;", false)
  | 6 => ("StackBytes$Verifier", "fault", "LStackBytes$Fault;", false)
  | 7 => ("StackBytes$Verifier", "firstPlace", "I", false)
  | 8 => ("StackBytes$Verifier", "current", "I", false)
  | 9 => ("StackBytes$Verifier", "depth", "I", false)
  | _ => ("StackBytes$Verifier", "rows", "I", false)
def t_Verifier : Nat → FieldType := fun k => match k with
  | 0 => .array .int
  | 1 => .array .int
  | 2 => .array .boolean
  | 3 => .int
  | 4 => .object "StackBytes$Program"
  | 5 => .object "StackBytes$Function"
  | 6 => .object "StackBytes$Fault"
  | 7 => .int
  | 8 => .int
  | 9 => .int
  | _ => .int
def R_Mo : String := "StackBytesModel"
def F_Mo : u_T := fun k => match k with
  | 0 => ("StackBytesModel", "thrown", "I", false)
  | 1 => ("StackBytesModel", "bytes", "[I", true)
  | 2 => ("StackBytesModel", "many", "I", false)
  | 3 => ("StackBytesModel", "written", "[I", true)
  | 4 => ("StackBytesModel", "writtenMany", "I", false)
  | 5 => ("StackBytesModel", "fault", "I", false)
  | 6 => ("StackBytesModel", "place", "I", false)
  | 7 => ("StackBytesModel", "bad", "I", false)
  | 8 => ("StackBytesModel", "where", "I", false)
  | 9 => ("StackBytesModel", "functions", "[I", true)
  | 10 => ("StackBytesModel", "params", "[I", true)
  | 11 => ("StackBytesModel", "locals", "[I", true)
  | 12 => ("StackBytesModel", "rowBits", "[I", true)
  | 13 => ("StackBytesModel", "results", "[I", true)
  | 14 => ("StackBytesModel", "sizes", "[I", true)
  | 15 => ("StackBytesModel", "handlerMany", "[I", true)
  | 16 => ("StackBytesModel", "ops", "[I", true)
  | 17 => ("StackBytesModel", "operands", "[I", true)
  | 18 => ("StackBytesModel", "froms", "[I", true)
  | 19 => ("StackBytesModel", "tos", "[I", true)
  | 20 => ("StackBytesModel", "targets", "[I", true)
  | 21 => ("StackBytesModel", "anyCode", "[Z", true)
  | 22 => ("StackBytesModel", "handlerCodes", "[I", true)
  | 23 => ("StackBytesModel", "heights", "[I", true)
  | 24 => ("StackBytesModel", "kinds", "[I", true)
  | 25 => ("StackBytesModel", "waits", "[Z", true)
  | 26 => ("StackBytesModel", "p", "I", false)
  | 27 => ("StackBytesModel", "height", "I", false)
  | _ => ("StackBytesModel", "kind", "I", false)
def t_Mo : Nat → FieldType := fun k => match k with
  | 0 => .int
  | 1 => .array .int
  | 2 => .int
  | 3 => .array .int
  | 4 => .int
  | 5 => .int
  | 6 => .int
  | 7 => .int
  | 8 => .int
  | 9 => .array .int
  | 10 => .array .int
  | 11 => .array .int
  | 12 => .array .int
  | 13 => .array .int
  | 14 => .array .int
  | 15 => .array .int
  | 16 => .array .int
  | 17 => .array .int
  | 18 => .array .int
  | 19 => .array .int
  | 20 => .array .int
  | 21 => .array .boolean
  | 22 => .array .int
  | 23 => .array .int
  | 24 => .array .int
  | 25 => .array .boolean
  | 26 => .int
  | 27 => .int
  | _ => .int
def R_Ar : String := "java/util/Arrays"
def R_La : String := "StackBytesLaw"
abbrev b_ByteRow_init : ByteArray := prog_2_method_1_code
def y_ByteRow_init : MethodName := ⟨R_ByteRow, "<init>", "(I)V"⟩
theorem yk_ByteRow_init : y_ByteRow_init.cls ≠ "java/lang/invoke/MethodHandle" ∧ y_ByteRow_init.cls ≠ "java/lang/invoke/VarHandle" ∧ (parseMethodDescriptor y_ByteRow_init.desc).map (fun d => d.parameters.length) = some 1 := by decide +kernel
abbrev b_Fault_init : ByteArray := prog_3_method_1_code
def y_Fault_init : MethodName := ⟨R_Fault, "<init>", "()V"⟩
theorem yk_Fault_init : y_Fault_init.cls ≠ "java/lang/invoke/MethodHandle" ∧ y_Fault_init.cls ≠ "java/lang/invoke/VarHandle" ∧ (parseMethodDescriptor y_Fault_init.desc).map (fun d => d.parameters.length) = some 0 := by decide +kernel
abbrev b_Verifier_init : ByteArray := prog_9_method_1_code
def y_Verifier_init : MethodName := ⟨R_Verifier, "<init>", "()V"⟩
theorem yk_Verifier_init : y_Verifier_init.cls ≠ "java/lang/invoke/MethodHandle" ∧ y_Verifier_init.cls ≠ "java/lang/invoke/VarHandle" ∧ (parseMethodDescriptor y_Verifier_init.desc).map (fun d => d.parameters.length) = some 0 := by decide +kernel
abbrev b_Handler_init : ByteArray := prog_5_method_1_code
def y_Handler_init : MethodName := ⟨R_Handler, "<init>", "()V"⟩
theorem yk_Handler_init : y_Handler_init.cls ≠ "java/lang/invoke/MethodHandle" ∧ y_Handler_init.cls ≠ "java/lang/invoke/VarHandle" ∧ (parseMethodDescriptor y_Handler_init.desc).map (fun d => d.parameters.length) = some 0 := by decide +kernel
abbrev b_Function_init : ByteArray := prog_4_method_1_code
def y_Function_init : MethodName := ⟨R_Function, "<init>", "()V"⟩
theorem yk_Function_init : y_Function_init.cls ≠ "java/lang/invoke/MethodHandle" ∧ y_Function_init.cls ≠ "java/lang/invoke/VarHandle" ∧ (parseMethodDescriptor y_Function_init.desc).map (fun d => d.parameters.length) = some 0 := by decide +kernel
abbrev b_Program_init : ByteArray := prog_7_method_1_code
def y_Program_init : MethodName := ⟨R_Program, "<init>", "()V"⟩
theorem yk_Program_init : y_Program_init.cls ≠ "java/lang/invoke/MethodHandle" ∧ y_Program_init.cls ≠ "java/lang/invoke/VarHandle" ∧ (parseMethodDescriptor y_Program_init.desc).map (fun d => d.parameters.length) = some 0 := by decide +kernel
abbrev b_SB_init : ByteArray := prog_1_method_1_code
def y_SB_init : MethodName := ⟨R_SB, "<init>", "()V"⟩
theorem yk_SB_init : y_SB_init.cls ≠ "java/lang/invoke/MethodHandle" ∧ y_SB_init.cls ≠ "java/lang/invoke/VarHandle" ∧ (parseMethodDescriptor y_SB_init.desc).map (fun d => d.parameters.length) = some 0 := by decide +kernel
abbrev b_Ar_copyOf : ByteArray := prog_15_method_121_code
def y_Ar_copyOf : MethodName := ⟨R_Ar, "copyOf", "([BI)[B"⟩
theorem yk_Ar_copyOf : y_Ar_copyOf.cls ≠ "java/lang/invoke/MethodHandle" ∧ y_Ar_copyOf.cls ≠ "java/lang/invoke/VarHandle" ∧ (parseMethodDescriptor y_Ar_copyOf.desc).map (fun d => d.parameters.length) = some 2 := by decide +kernel
abbrev b_ByteRow_makeRoom : ByteArray := prog_2_method_7_code
def y_ByteRow_makeRoom : MethodName := ⟨R_ByteRow, "makeRoom", "(I)V"⟩
theorem yk_ByteRow_makeRoom : y_ByteRow_makeRoom.cls ≠ "java/lang/invoke/MethodHandle" ∧ y_ByteRow_makeRoom.cls ≠ "java/lang/invoke/VarHandle" ∧ (parseMethodDescriptor y_ByteRow_makeRoom.desc).map (fun d => d.parameters.length) = some 1 := by decide +kernel
abbrev b_ByteRow_add : ByteArray := prog_2_method_2_code
def y_ByteRow_add : MethodName := ⟨R_ByteRow, "add", "(JI)Z"⟩
theorem yk_ByteRow_add : y_ByteRow_add.cls ≠ "java/lang/invoke/MethodHandle" ∧ y_ByteRow_add.cls ≠ "java/lang/invoke/VarHandle" ∧ (parseMethodDescriptor y_ByteRow_add.desc).map (fun d => d.parameters.length) = some 2 := by decide +kernel
abbrev b_SB_give : ByteArray := prog_1_method_2_code
def y_SB_give : MethodName := ⟨R_SB, "give", "(JI)Z"⟩
theorem yk_SB_give : y_SB_give.cls ≠ "java/lang/invoke/MethodHandle" ∧ y_SB_give.cls ≠ "java/lang/invoke/VarHandle" ∧ (parseMethodDescriptor y_SB_give.desc).map (fun d => d.parameters.length) = some 2 := by decide +kernel
abbrev b_ByteRow_keepFirst : ByteArray := prog_2_method_3_code
def y_ByteRow_keepFirst : MethodName := ⟨R_ByteRow, "keepFirst", "(I)Z"⟩
theorem yk_ByteRow_keepFirst : y_ByteRow_keepFirst.cls ≠ "java/lang/invoke/MethodHandle" ∧ y_ByteRow_keepFirst.cls ≠ "java/lang/invoke/VarHandle" ∧ (parseMethodDescriptor y_ByteRow_keepFirst.desc).map (fun d => d.parameters.length) = some 1 := by decide +kernel
abbrev b_SB_cut : ByteArray := prog_1_method_3_code
def y_SB_cut : MethodName := ⟨R_SB, "cut", "(I)Z"⟩
theorem yk_SB_cut : y_SB_cut.cls ≠ "java/lang/invoke/MethodHandle" ∧ y_SB_cut.cls ≠ "java/lang/invoke/VarHandle" ∧ (parseMethodDescriptor y_SB_cut.desc).map (fun d => d.parameters.length) = some 1 := by decide +kernel
abbrev b_ByteRow_set : ByteArray := prog_2_method_4_code
def y_ByteRow_set : MethodName := ⟨R_ByteRow, "set", "(II)Z"⟩
theorem yk_ByteRow_set : y_ByteRow_set.cls ≠ "java/lang/invoke/MethodHandle" ∧ y_ByteRow_set.cls ≠ "java/lang/invoke/VarHandle" ∧ (parseMethodDescriptor y_ByteRow_set.desc).map (fun d => d.parameters.length) = some 2 := by decide +kernel
abbrev b_SB_poke : ByteArray := prog_1_method_4_code
def y_SB_poke : MethodName := ⟨R_SB, "poke", "(II)Z"⟩
theorem yk_SB_poke : y_SB_poke.cls ≠ "java/lang/invoke/MethodHandle" ∧ y_SB_poke.cls ≠ "java/lang/invoke/VarHandle" ∧ (parseMethodDescriptor y_SB_poke.desc).map (fun d => d.parameters.length) = some 2 := by decide +kernel
abbrev b_Fault_clear : ByteArray := prog_3_method_2_code
def y_Fault_clear : MethodName := ⟨R_Fault, "clear", "()V"⟩
theorem yk_Fault_clear : y_Fault_clear.cls ≠ "java/lang/invoke/MethodHandle" ∧ y_Fault_clear.cls ≠ "java/lang/invoke/VarHandle" ∧ (parseMethodDescriptor y_Fault_clear.desc).map (fun d => d.parameters.length) = some 0 := by decide +kernel
abbrev b_Reader_init : ByteArray := prog_8_method_1_code
def y_Reader_init : MethodName := ⟨R_Reader, "<init>", "(LStackBytes$ByteRow;LStackBytes$Fault;)V"⟩
theorem yk_Reader_init : y_Reader_init.cls ≠ "java/lang/invoke/MethodHandle" ∧ y_Reader_init.cls ≠ "java/lang/invoke/VarHandle" ∧ (parseMethodDescriptor y_Reader_init.desc).map (fun d => d.parameters.length) = some 2 := by decide +kernel
abbrev b_Fault_tell : ByteArray := prog_3_method_3_code
def y_Fault_tell : MethodName := ⟨R_Fault, "tell", "(II)V"⟩
theorem yk_Fault_tell : y_Fault_tell.cls ≠ "java/lang/invoke/MethodHandle" ∧ y_Fault_tell.cls ≠ "java/lang/invoke/VarHandle" ∧ (parseMethodDescriptor y_Fault_tell.desc).map (fun d => d.parameters.length) = some 2 := by decide +kernel
abbrev b_ByteRow_at : ByteArray := prog_2_method_5_code
def y_ByteRow_at : MethodName := ⟨R_ByteRow, "at", "(I)I"⟩
theorem yk_ByteRow_at : y_ByteRow_at.cls ≠ "java/lang/invoke/MethodHandle" ∧ y_ByteRow_at.cls ≠ "java/lang/invoke/VarHandle" ∧ (parseMethodDescriptor y_ByteRow_at.desc).map (fun d => d.parameters.length) = some 1 := by decide +kernel
abbrev b_Reader_nextByte : ByteArray := prog_8_method_8_code
def y_Reader_nextByte : MethodName := ⟨R_Reader, "nextByte", "()I"⟩
theorem yk_Reader_nextByte : y_Reader_nextByte.cls ≠ "java/lang/invoke/MethodHandle" ∧ y_Reader_nextByte.cls ≠ "java/lang/invoke/VarHandle" ∧ (parseMethodDescriptor y_Reader_nextByte.desc).map (fun d => d.parameters.length) = some 0 := by decide +kernel
abbrev b_Reader_start : ByteArray := prog_8_method_3_code
def y_Reader_start : MethodName := ⟨R_Reader, "start", "(I)V"⟩
theorem yk_Reader_start : y_Reader_start.cls ≠ "java/lang/invoke/MethodHandle" ∧ y_Reader_start.cls ≠ "java/lang/invoke/VarHandle" ∧ (parseMethodDescriptor y_Reader_start.desc).map (fun d => d.parameters.length) = some 1 := by decide +kernel
abbrev b_Reader_number : ByteArray := prog_8_method_7_code
def y_Reader_number : MethodName := ⟨R_Reader, "number", "(III)I"⟩
theorem yk_Reader_number : y_Reader_number.cls ≠ "java/lang/invoke/MethodHandle" ∧ y_Reader_number.cls ≠ "java/lang/invoke/VarHandle" ∧ (parseMethodDescriptor y_Reader_number.desc).map (fun d => d.parameters.length) = some 3 := by decide +kernel
abbrev b_Program_setCount : ByteArray := prog_7_method_3_code
def y_Program_setCount : MethodName := ⟨R_Program, "setCount", "(I)V"⟩
theorem yk_Program_setCount : y_Program_setCount.cls ≠ "java/lang/invoke/MethodHandle" ∧ y_Program_setCount.cls ≠ "java/lang/invoke/VarHandle" ∧ (parseMethodDescriptor y_Program_setCount.desc).map (fun d => d.parameters.length) = some 1 := by decide +kernel
abbrev b_Reader_head : ByteArray := prog_8_method_4_code
def y_Reader_head : MethodName := ⟨R_Reader, "head", "(LStackBytes$Function;Z)V"⟩
theorem yk_Reader_head : y_Reader_head.cls ≠ "java/lang/invoke/MethodHandle" ∧ y_Reader_head.cls ≠ "java/lang/invoke/VarHandle" ∧ (parseMethodDescriptor y_Reader_head.desc).map (fun d => d.parameters.length) = some 2 := by decide +kernel
abbrev b_Kinds_bytesBehind : ByteArray := prog_6_method_4_code
def y_Kinds_bytesBehind : MethodName := ⟨R_Kinds, "bytesBehind", "(I)I"⟩
theorem yk_Kinds_bytesBehind : y_Kinds_bytesBehind.cls ≠ "java/lang/invoke/MethodHandle" ∧ y_Kinds_bytesBehind.cls ≠ "java/lang/invoke/VarHandle" ∧ (parseMethodDescriptor y_Kinds_bytesBehind.desc).map (fun d => d.parameters.length) = some 1 := by decide +kernel
abbrev b_Kinds_leastBehind : ByteArray := prog_6_method_5_code
def y_Kinds_leastBehind : MethodName := ⟨R_Kinds, "leastBehind", "(I)I"⟩
theorem yk_Kinds_leastBehind : y_Kinds_leastBehind.cls ≠ "java/lang/invoke/MethodHandle" ∧ y_Kinds_leastBehind.cls ≠ "java/lang/invoke/VarHandle" ∧ (parseMethodDescriptor y_Kinds_leastBehind.desc).map (fun d => d.parameters.length) = some 1 := by decide +kernel
abbrev b_Kinds_mostBehind : ByteArray := prog_6_method_6_code
def y_Kinds_mostBehind : MethodName := ⟨R_Kinds, "mostBehind", "(ILStackBytes$Function;I)I"⟩
theorem yk_Kinds_mostBehind : y_Kinds_mostBehind.cls ≠ "java/lang/invoke/MethodHandle" ∧ y_Kinds_mostBehind.cls ≠ "java/lang/invoke/VarHandle" ∧ (parseMethodDescriptor y_Kinds_mostBehind.desc).map (fun d => d.parameters.length) = some 3 := by decide +kernel
abbrev b_Reader_instructions : ByteArray := prog_8_method_5_code
def y_Reader_instructions : MethodName := ⟨R_Reader, "instructions", "(LStackBytes$Function;I)V"⟩
theorem yk_Reader_instructions : y_Reader_instructions.cls ≠ "java/lang/invoke/MethodHandle" ∧ y_Reader_instructions.cls ≠ "java/lang/invoke/VarHandle" ∧ (parseMethodDescriptor y_Reader_instructions.desc).map (fun d => d.parameters.length) = some 2 := by decide +kernel
abbrev b_Reader_handlers : ByteArray := prog_8_method_6_code
def y_Reader_handlers : MethodName := ⟨R_Reader, "handlers", "(LStackBytes$Function;)V"⟩
theorem yk_Reader_handlers : y_Reader_handlers.cls ≠ "java/lang/invoke/MethodHandle" ∧ y_Reader_handlers.cls ≠ "java/lang/invoke/VarHandle" ∧ (parseMethodDescriptor y_Reader_handlers.desc).map (fun d => d.parameters.length) = some 1 := by decide +kernel
abbrev b_Reader_readInto : ByteArray := prog_8_method_2_code
def y_Reader_readInto : MethodName := ⟨R_Reader, "readInto", "(LStackBytes$Program;)V"⟩
theorem yk_Reader_readInto : y_Reader_readInto.cls ≠ "java/lang/invoke/MethodHandle" ∧ y_Reader_readInto.cls ≠ "java/lang/invoke/VarHandle" ∧ (parseMethodDescriptor y_Reader_readInto.desc).map (fun d => d.parameters.length) = some 1 := by decide +kernel
abbrev b_Program_at : ByteArray := prog_7_method_2_code
def y_Program_at : MethodName := ⟨R_Program, "at", "(I)LStackBytes$Function;"⟩
theorem yk_Program_at : y_Program_at.cls ≠ "java/lang/invoke/MethodHandle" ∧ y_Program_at.cls ≠ "java/lang/invoke/VarHandle" ∧ (parseMethodDescriptor y_Program_at.desc).map (fun d => d.parameters.length) = some 1 := by decide +kernel
abbrev b_Function_has : ByteArray := prog_4_method_2_code
def y_Function_has : MethodName := ⟨R_Function, "has", "(I)Z"⟩
theorem yk_Function_has : y_Function_has.cls ≠ "java/lang/invoke/MethodHandle" ∧ y_Function_has.cls ≠ "java/lang/invoke/VarHandle" ∧ (parseMethodDescriptor y_Function_has.desc).map (fun d => d.parameters.length) = some 1 := by decide +kernel
abbrev b_Verifier_comeTo : ByteArray := prog_9_method_8_code
def y_Verifier_comeTo : MethodName := ⟨R_Verifier, "comeTo", "(III)V"⟩
theorem yk_Verifier_comeTo : y_Verifier_comeTo.cls ≠ "java/lang/invoke/MethodHandle" ∧ y_Verifier_comeTo.cls ≠ "java/lang/invoke/VarHandle" ∧ (parseMethodDescriptor y_Verifier_comeTo.desc).map (fun d => d.parameters.length) = some 3 := by decide +kernel
abbrev b_Verifier_begin : ByteArray := prog_9_method_3_code
def y_Verifier_begin : MethodName := ⟨R_Verifier, "begin", "()V"⟩
theorem yk_Verifier_begin : y_Verifier_begin.cls ≠ "java/lang/invoke/MethodHandle" ∧ y_Verifier_begin.cls ≠ "java/lang/invoke/VarHandle" ∧ (parseMethodDescriptor y_Verifier_begin.desc).map (fun d => d.parameters.length) = some 0 := by decide +kernel
abbrev b_Verifier_findLeastWaiting : ByteArray := prog_9_method_4_code
def y_Verifier_findLeastWaiting : MethodName := ⟨R_Verifier, "findLeastWaiting", "()Z"⟩
theorem yk_Verifier_findLeastWaiting : y_Verifier_findLeastWaiting.cls ≠ "java/lang/invoke/MethodHandle" ∧ y_Verifier_findLeastWaiting.cls ≠ "java/lang/invoke/VarHandle" ∧ (parseMethodDescriptor y_Verifier_findLeastWaiting.desc).map (fun d => d.parameters.length) = some 0 := by decide +kernel
abbrev b_Verifier_put : ByteArray := prog_9_method_18_code
def y_Verifier_put : MethodName := ⟨R_Verifier, "put", "(I)V"⟩
theorem yk_Verifier_put : y_Verifier_put.cls ≠ "java/lang/invoke/MethodHandle" ∧ y_Verifier_put.cls ≠ "java/lang/invoke/VarHandle" ∧ (parseMethodDescriptor y_Verifier_put.desc).map (fun d => d.parameters.length) = some 1 := by decide +kernel
abbrev b_Verifier_take : ByteArray := prog_9_method_17_code
def y_Verifier_take : MethodName := ⟨R_Verifier, "take", "(I)I"⟩
theorem yk_Verifier_take : y_Verifier_take.cls ≠ "java/lang/invoke/MethodHandle" ∧ y_Verifier_take.cls ≠ "java/lang/invoke/VarHandle" ∧ (parseMethodDescriptor y_Verifier_take.desc).map (fun d => d.parameters.length) = some 1 := by decide +kernel
abbrev b_Verifier_repeatTop : ByteArray := prog_9_method_10_code
def y_Verifier_repeatTop : MethodName := ⟨R_Verifier, "repeatTop", "()V"⟩
theorem yk_Verifier_repeatTop : y_Verifier_repeatTop.cls ≠ "java/lang/invoke/MethodHandle" ∧ y_Verifier_repeatTop.cls ≠ "java/lang/invoke/VarHandle" ∧ (parseMethodDescriptor y_Verifier_repeatTop.desc).map (fun d => d.parameters.length) = some 0 := by decide +kernel
abbrev b_Verifier_swapUpperTwo : ByteArray := prog_9_method_11_code
def y_Verifier_swapUpperTwo : MethodName := ⟨R_Verifier, "swapUpperTwo", "()V"⟩
theorem yk_Verifier_swapUpperTwo : y_Verifier_swapUpperTwo.cls ≠ "java/lang/invoke/MethodHandle" ∧ y_Verifier_swapUpperTwo.cls ≠ "java/lang/invoke/VarHandle" ∧ (parseMethodDescriptor y_Verifier_swapUpperTwo.desc).map (fun d => d.parameters.length) = some 0 := by decide +kernel
abbrev b_Function_typeOfLocal : ByteArray := prog_4_method_3_code
def y_Function_typeOfLocal : MethodName := ⟨R_Function, "typeOfLocal", "(I)I"⟩
theorem yk_Function_typeOfLocal : y_Function_typeOfLocal.cls ≠ "java/lang/invoke/MethodHandle" ∧ y_Function_typeOfLocal.cls ≠ "java/lang/invoke/VarHandle" ∧ (parseMethodDescriptor y_Function_typeOfLocal.desc).map (fun d => d.parameters.length) = some 1 := by decide +kernel
abbrev b_Verifier_useRow : ByteArray := prog_9_method_12_code
def y_Verifier_useRow : MethodName := ⟨R_Verifier, "useRow", "(I)V"⟩
theorem yk_Verifier_useRow : y_Verifier_useRow.cls ≠ "java/lang/invoke/MethodHandle" ∧ y_Verifier_useRow.cls ≠ "java/lang/invoke/VarHandle" ∧ (parseMethodDescriptor y_Verifier_useRow.desc).map (fun d => d.parameters.length) = some 1 := by decide +kernel
abbrev b_Verifier_callFunction : ByteArray := prog_9_method_13_code
def y_Verifier_callFunction : MethodName := ⟨R_Verifier, "callFunction", "(LStackBytes$Function;)V"⟩
theorem yk_Verifier_callFunction : y_Verifier_callFunction.cls ≠ "java/lang/invoke/MethodHandle" ∧ y_Verifier_callFunction.cls ≠ "java/lang/invoke/VarHandle" ∧ (parseMethodDescriptor y_Verifier_callFunction.desc).map (fun d => d.parameters.length) = some 1 := by decide +kernel
abbrev b_Verifier_takeInts : ByteArray := prog_9_method_15_code
def y_Verifier_takeInts : MethodName := ⟨R_Verifier, "takeInts", "(I)V"⟩
theorem yk_Verifier_takeInts : y_Verifier_takeInts.cls ≠ "java/lang/invoke/MethodHandle" ∧ y_Verifier_takeInts.cls ≠ "java/lang/invoke/VarHandle" ∧ (parseMethodDescriptor y_Verifier_takeInts.desc).map (fun d => d.parameters.length) = some 1 := by decide +kernel
abbrev b_Verifier_takeResult : ByteArray := prog_9_method_14_code
def y_Verifier_takeResult : MethodName := ⟨R_Verifier, "takeResult", "()V"⟩
theorem yk_Verifier_takeResult : y_Verifier_takeResult.cls ≠ "java/lang/invoke/MethodHandle" ∧ y_Verifier_takeResult.cls ≠ "java/lang/invoke/VarHandle" ∧ (parseMethodDescriptor y_Verifier_takeResult.desc).map (fun d => d.parameters.length) = some 0 := by decide +kernel
abbrev b_Verifier_putInts : ByteArray := prog_9_method_16_code
def y_Verifier_putInts : MethodName := ⟨R_Verifier, "putInts", "(I)V"⟩
theorem yk_Verifier_putInts : y_Verifier_putInts.cls ≠ "java/lang/invoke/MethodHandle" ∧ y_Verifier_putInts.cls ≠ "java/lang/invoke/VarHandle" ∧ (parseMethodDescriptor y_Verifier_putInts.desc).map (fun d => d.parameters.length) = some 1 := by decide +kernel
abbrev b_Verifier_takeAndPut : ByteArray := prog_9_method_9_code
def y_Verifier_takeAndPut : MethodName := ⟨R_Verifier, "takeAndPut", "(II)V"⟩
theorem yk_Verifier_takeAndPut : y_Verifier_takeAndPut.cls ≠ "java/lang/invoke/MethodHandle" ∧ y_Verifier_takeAndPut.cls ≠ "java/lang/invoke/VarHandle" ∧ (parseMethodDescriptor y_Verifier_takeAndPut.desc).map (fun d => d.parameters.length) = some 2 := by decide +kernel
abbrev b_Handler_covers : ByteArray := prog_5_method_2_code
def y_Handler_covers : MethodName := ⟨R_Handler, "covers", "(I)Z"⟩
theorem yk_Handler_covers : y_Handler_covers.cls ≠ "java/lang/invoke/MethodHandle" ∧ y_Handler_covers.cls ≠ "java/lang/invoke/VarHandle" ∧ (parseMethodDescriptor y_Handler_covers.desc).map (fun d => d.parameters.length) = some 1 := by decide +kernel
abbrev b_Verifier_comeToHandlers : ByteArray := prog_9_method_6_code
def y_Verifier_comeToHandlers : MethodName := ⟨R_Verifier, "comeToHandlers", "()V"⟩
theorem yk_Verifier_comeToHandlers : y_Verifier_comeToHandlers.cls ≠ "java/lang/invoke/MethodHandle" ∧ y_Verifier_comeToHandlers.cls ≠ "java/lang/invoke/VarHandle" ∧ (parseMethodDescriptor y_Verifier_comeToHandlers.desc).map (fun d => d.parameters.length) = some 0 := by decide +kernel
abbrev b_Kinds_goesToPlace : ByteArray := prog_6_method_2_code
def y_Kinds_goesToPlace : MethodName := ⟨R_Kinds, "goesToPlace", "(I)Z"⟩
theorem yk_Kinds_goesToPlace : y_Kinds_goesToPlace.cls ≠ "java/lang/invoke/MethodHandle" ∧ y_Kinds_goesToPlace.cls ≠ "java/lang/invoke/VarHandle" ∧ (parseMethodDescriptor y_Kinds_goesToPlace.desc).map (fun d => d.parameters.length) = some 1 := by decide +kernel
abbrev b_Kinds_goesOnBehind : ByteArray := prog_6_method_3_code
def y_Kinds_goesOnBehind : MethodName := ⟨R_Kinds, "goesOnBehind", "(I)Z"⟩
theorem yk_Kinds_goesOnBehind : y_Kinds_goesOnBehind.cls ≠ "java/lang/invoke/MethodHandle" ∧ y_Kinds_goesOnBehind.cls ≠ "java/lang/invoke/VarHandle" ∧ (parseMethodDescriptor y_Kinds_goesOnBehind.desc).map (fun d => d.parameters.length) = some 1 := by decide +kernel
abbrev b_Verifier_comeToNext : ByteArray := prog_9_method_7_code
def y_Verifier_comeToNext : MethodName := ⟨R_Verifier, "comeToNext", "()V"⟩
theorem yk_Verifier_comeToNext : y_Verifier_comeToNext.cls ≠ "java/lang/invoke/MethodHandle" ∧ y_Verifier_comeToNext.cls ≠ "java/lang/invoke/VarHandle" ∧ (parseMethodDescriptor y_Verifier_comeToNext.desc).map (fun d => d.parameters.length) = some 0 := by decide +kernel
abbrev b_Verifier_lookAt : ByteArray := prog_9_method_5_code
def y_Verifier_lookAt : MethodName := ⟨R_Verifier, "lookAt", "(I)V"⟩
theorem yk_Verifier_lookAt : y_Verifier_lookAt.cls ≠ "java/lang/invoke/MethodHandle" ∧ y_Verifier_lookAt.cls ≠ "java/lang/invoke/VarHandle" ∧ (parseMethodDescriptor y_Verifier_lookAt.desc).map (fun d => d.parameters.length) = some 1 := by decide +kernel
abbrev b_Verifier_verify : ByteArray := prog_9_method_2_code
def y_Verifier_verify : MethodName := ⟨R_Verifier, "verify", "(LStackBytes$Program;ILStackBytes$Fault;)V"⟩
theorem yk_Verifier_verify : y_Verifier_verify.cls ≠ "java/lang/invoke/MethodHandle" ∧ y_Verifier_verify.cls ≠ "java/lang/invoke/VarHandle" ∧ (parseMethodDescriptor y_Verifier_verify.desc).map (fun d => d.parameters.length) = some 3 := by decide +kernel
abbrev b_SB_read : ByteArray := prog_1_method_5_code
def y_SB_read : MethodName := ⟨R_SB, "read", "()I"⟩
theorem yk_SB_read : y_SB_read.cls ≠ "java/lang/invoke/MethodHandle" ∧ y_SB_read.cls ≠ "java/lang/invoke/VarHandle" ∧ (parseMethodDescriptor y_SB_read.desc).map (fun d => d.parameters.length) = some 0 := by decide +kernel
abbrev b_Handler_appendTo : ByteArray := prog_5_method_3_code
def y_Handler_appendTo : MethodName := ⟨R_Handler, "appendTo", "(LStackBytes$ByteRow;)V"⟩
theorem yk_Handler_appendTo : y_Handler_appendTo.cls ≠ "java/lang/invoke/MethodHandle" ∧ y_Handler_appendTo.cls ≠ "java/lang/invoke/VarHandle" ∧ (parseMethodDescriptor y_Handler_appendTo.desc).map (fun d => d.parameters.length) = some 1 := by decide +kernel
abbrev b_Function_appendTo : ByteArray := prog_4_method_7_code
def y_Function_appendTo : MethodName := ⟨R_Function, "appendTo", "(LStackBytes$ByteRow;)V"⟩
theorem yk_Function_appendTo : y_Function_appendTo.cls ≠ "java/lang/invoke/MethodHandle" ∧ y_Function_appendTo.cls ≠ "java/lang/invoke/VarHandle" ∧ (parseMethodDescriptor y_Function_appendTo.desc).map (fun d => d.parameters.length) = some 1 := by decide +kernel
abbrev b_Program_appendTo : ByteArray := prog_7_method_5_code
def y_Program_appendTo : MethodName := ⟨R_Program, "appendTo", "(LStackBytes$ByteRow;)V"⟩
theorem yk_Program_appendTo : y_Program_appendTo.cls ≠ "java/lang/invoke/MethodHandle" ∧ y_Program_appendTo.cls ≠ "java/lang/invoke/VarHandle" ∧ (parseMethodDescriptor y_Program_appendTo.desc).map (fun d => d.parameters.length) = some 1 := by decide +kernel
abbrev b_SB_write : ByteArray := prog_1_method_6_code
def y_SB_write : MethodName := ⟨R_SB, "write", "()I"⟩
theorem yk_SB_write : y_SB_write.cls ≠ "java/lang/invoke/MethodHandle" ∧ y_SB_write.cls ≠ "java/lang/invoke/VarHandle" ∧ (parseMethodDescriptor y_SB_write.desc).map (fun d => d.parameters.length) = some 0 := by decide +kernel
abbrev b_ByteRow_become : ByteArray := prog_2_method_6_code
def y_ByteRow_become : MethodName := ⟨R_ByteRow, "become", "(LStackBytes$ByteRow;)Z"⟩
theorem yk_ByteRow_become : y_ByteRow_become.cls ≠ "java/lang/invoke/MethodHandle" ∧ y_ByteRow_become.cls ≠ "java/lang/invoke/VarHandle" ∧ (parseMethodDescriptor y_ByteRow_become.desc).map (fun d => d.parameters.length) = some 1 := by decide +kernel
abbrev b_SB_turnOver : ByteArray := prog_1_method_7_code
def y_SB_turnOver : MethodName := ⟨R_SB, "turnOver", "()Z"⟩
theorem yk_SB_turnOver : y_SB_turnOver.cls ≠ "java/lang/invoke/MethodHandle" ∧ y_SB_turnOver.cls ≠ "java/lang/invoke/VarHandle" ∧ (parseMethodDescriptor y_SB_turnOver.desc).map (fun d => d.parameters.length) = some 0 := by decide +kernel
abbrev b_Kinds_canStand : ByteArray := prog_6_method_7_code
def y_Kinds_canStand : MethodName := ⟨R_Kinds, "canStand", "(IILStackBytes$Function;I)Z"⟩
theorem yk_Kinds_canStand : y_Kinds_canStand.cls ≠ "java/lang/invoke/MethodHandle" ∧ y_Kinds_canStand.cls ≠ "java/lang/invoke/VarHandle" ∧ (parseMethodDescriptor y_Kinds_canStand.desc).map (fun d => d.parameters.length) = some 4 := by decide +kernel
abbrev b_SB_change : ByteArray := prog_1_method_8_code
def y_SB_change : MethodName := ⟨R_SB, "change", "(IIII)I"⟩
theorem yk_SB_change : y_SB_change.cls ≠ "java/lang/invoke/MethodHandle" ∧ y_SB_change.cls ≠ "java/lang/invoke/VarHandle" ∧ (parseMethodDescriptor y_SB_change.desc).map (fun d => d.parameters.length) = some 4 := by decide +kernel
abbrev b_Function_isGoneTo : ByteArray := prog_4_method_4_code
def y_Function_isGoneTo : MethodName := ⟨R_Function, "isGoneTo", "(I)Z"⟩
theorem yk_Function_isGoneTo : y_Function_isGoneTo.cls ≠ "java/lang/invoke/MethodHandle" ∧ y_Function_isGoneTo.cls ≠ "java/lang/invoke/VarHandle" ∧ (parseMethodDescriptor y_Function_isGoneTo.desc).map (fun d => d.parameters.length) = some 1 := by decide +kernel
abbrev b_SB_code : ByteArray := prog_1_method_9_code
def y_SB_code : MethodName := ⟨R_SB, "code", "(III)I"⟩
theorem yk_SB_code : y_SB_code.cls ≠ "java/lang/invoke/MethodHandle" ∧ y_SB_code.cls ≠ "java/lang/invoke/VarHandle" ∧ (parseMethodDescriptor y_SB_code.desc).map (fun d => d.parameters.length) = some 3 := by decide +kernel
abbrev b_Function_comeTo : ByteArray := prog_4_method_5_code
def y_Function_comeTo : MethodName := ⟨R_Function, "comeTo", "()I"⟩
theorem yk_Function_comeTo : y_Function_comeTo.cls ≠ "java/lang/invoke/MethodHandle" ∧ y_Function_comeTo.cls ≠ "java/lang/invoke/VarHandle" ∧ (parseMethodDescriptor y_Function_comeTo.desc).map (fun d => d.parameters.length) = some 0 := by decide +kernel
abbrev b_Function_deepest : ByteArray := prog_4_method_6_code
def y_Function_deepest : MethodName := ⟨R_Function, "deepest", "()I"⟩
theorem yk_Function_deepest : y_Function_deepest.cls ≠ "java/lang/invoke/MethodHandle" ∧ y_Function_deepest.cls ≠ "java/lang/invoke/VarHandle" ∧ (parseMethodDescriptor y_Function_deepest.desc).map (fun d => d.parameters.length) = some 0 := by decide +kernel
abbrev b_SB_function : ByteArray := prog_1_method_10_code
def y_SB_function : MethodName := ⟨R_SB, "function", "(II)I"⟩
theorem yk_SB_function : y_SB_function.cls ≠ "java/lang/invoke/MethodHandle" ∧ y_SB_function.cls ≠ "java/lang/invoke/VarHandle" ∧ (parseMethodDescriptor y_SB_function.desc).map (fun d => d.parameters.length) = some 2 := by decide +kernel
abbrev b_SB_handler : ByteArray := prog_1_method_11_code
def y_SB_handler : MethodName := ⟨R_SB, "handler", "(III)I"⟩
theorem yk_SB_handler : y_SB_handler.cls ≠ "java/lang/invoke/MethodHandle" ∧ y_SB_handler.cls ≠ "java/lang/invoke/VarHandle" ∧ (parseMethodDescriptor y_SB_handler.desc).map (fun d => d.parameters.length) = some 3 := by decide +kernel
abbrev b_SB_byteAt : ByteArray := prog_1_method_12_code
def y_SB_byteAt : MethodName := ⟨R_SB, "byteAt", "(IZ)I"⟩
theorem yk_SB_byteAt : y_SB_byteAt.cls ≠ "java/lang/invoke/MethodHandle" ∧ y_SB_byteAt.cls ≠ "java/lang/invoke/VarHandle" ∧ (parseMethodDescriptor y_SB_byteAt.desc).map (fun d => d.parameters.length) = some 2 := by decide +kernel
abbrev b_Program_instructions : ByteArray := prog_7_method_4_code
def y_Program_instructions : MethodName := ⟨R_Program, "instructions", "()I"⟩
theorem yk_Program_instructions : y_Program_instructions.cls ≠ "java/lang/invoke/MethodHandle" ∧ y_Program_instructions.cls ≠ "java/lang/invoke/VarHandle" ∧ (parseMethodDescriptor y_Program_instructions.desc).map (fun d => d.parameters.length) = some 0 := by decide +kernel
abbrev b_SB_look : ByteArray := prog_1_method_13_code
def y_SB_look : MethodName := ⟨R_SB, "look", "(I)I"⟩
theorem yk_SB_look : y_SB_look.cls ≠ "java/lang/invoke/MethodHandle" ∧ y_SB_look.cls ≠ "java/lang/invoke/VarHandle" ∧ (parseMethodDescriptor y_SB_look.desc).map (fun d => d.parameters.length) = some 1 := by decide +kernel
abbrev b_Mo_wrong : ByteArray := prog_11_method_3_code
def y_Mo_wrong : MethodName := ⟨R_Mo, "wrong", "(II)V"⟩
theorem yk_Mo_wrong : y_Mo_wrong.cls ≠ "java/lang/invoke/MethodHandle" ∧ y_Mo_wrong.cls ≠ "java/lang/invoke/VarHandle" ∧ (parseMethodDescriptor y_Mo_wrong.desc).map (fun d => d.parameters.length) = some 2 := by decide +kernel
abbrev b_Mo_comeTo : ByteArray := prog_11_method_24_code
def y_Mo_comeTo : MethodName := ⟨R_Mo, "comeTo", "(IIIII)V"⟩
theorem yk_Mo_comeTo : y_Mo_comeTo.cls ≠ "java/lang/invoke/MethodHandle" ∧ y_Mo_comeTo.cls ≠ "java/lang/invoke/VarHandle" ∧ (parseMethodDescriptor y_Mo_comeTo.desc).map (fun d => d.parameters.length) = some 5 := by decide +kernel
abbrev b_Mo_puts : ByteArray := prog_11_method_20_code
def y_Mo_puts : MethodName := ⟨R_Mo, "puts", "(I)V"⟩
theorem yk_Mo_puts : y_Mo_puts.cls ≠ "java/lang/invoke/MethodHandle" ∧ y_Mo_puts.cls ≠ "java/lang/invoke/VarHandle" ∧ (parseMethodDescriptor y_Mo_puts.desc).map (fun d => d.parameters.length) = some 1 := by decide +kernel
abbrev b_Mo_takes : ByteArray := prog_11_method_19_code
def y_Mo_takes : MethodName := ⟨R_Mo, "takes", "(I)Z"⟩
theorem yk_Mo_takes : y_Mo_takes.cls ≠ "java/lang/invoke/MethodHandle" ∧ y_Mo_takes.cls ≠ "java/lang/invoke/VarHandle" ∧ (parseMethodDescriptor y_Mo_takes.desc).map (fun d => d.parameters.length) = some 1 := by decide +kernel
abbrev b_Mo_isRow : ByteArray := prog_11_method_22_code
def y_Mo_isRow : MethodName := ⟨R_Mo, "isRow", "(II)I"⟩
theorem yk_Mo_isRow : y_Mo_isRow.cls ≠ "java/lang/invoke/MethodHandle" ∧ y_Mo_isRow.cls ≠ "java/lang/invoke/VarHandle" ∧ (parseMethodDescriptor y_Mo_isRow.desc).map (fun d => d.parameters.length) = some 2 := by decide +kernel
abbrev b_Mo_takesInts : ByteArray := prog_11_method_21_code
def y_Mo_takesInts : MethodName := ⟨R_Mo, "takesInts", "(I)Z"⟩
theorem yk_Mo_takesInts : y_Mo_takesInts.cls ≠ "java/lang/invoke/MethodHandle" ∧ y_Mo_takesInts.cls ≠ "java/lang/invoke/VarHandle" ∧ (parseMethodDescriptor y_Mo_takesInts.desc).map (fun d => d.parameters.length) = some 1 := by decide +kernel
abbrev b_Mo_moves : ByteArray := prog_11_method_23_code
def y_Mo_moves : MethodName := ⟨R_Mo, "moves", "(IIII)Z"⟩
theorem yk_Mo_moves : y_Mo_moves.cls ≠ "java/lang/invoke/MethodHandle" ∧ y_Mo_moves.cls ≠ "java/lang/invoke/VarHandle" ∧ (parseMethodDescriptor y_Mo_moves.desc).map (fun d => d.parameters.length) = some 4 := by decide +kernel
abbrev b_Mo_lookAtOne : ByteArray := prog_11_method_26_code
def y_Mo_lookAtOne : MethodName := ⟨R_Mo, "lookAtOne", "(III)V"⟩
theorem yk_Mo_lookAtOne : y_Mo_lookAtOne.cls ≠ "java/lang/invoke/MethodHandle" ∧ y_Mo_lookAtOne.cls ≠ "java/lang/invoke/VarHandle" ∧ (parseMethodDescriptor y_Mo_lookAtOne.desc).map (fun d => d.parameters.length) = some 3 := by decide +kernel
abbrev b_Mo_verify : ByteArray := prog_11_method_25_code
def y_Mo_verify : MethodName := ⟨R_Mo, "verify", "(II)V"⟩
theorem yk_Mo_verify : y_Mo_verify.cls ≠ "java/lang/invoke/MethodHandle" ∧ y_Mo_verify.cls ≠ "java/lang/invoke/VarHandle" ∧ (parseMethodDescriptor y_Mo_verify.desc).map (fun d => d.parameters.length) = some 2 := by decide +kernel
abbrev b_Mo_init : ByteArray := prog_11_method_1_code
def y_Mo_init : MethodName := ⟨R_Mo, "<init>", "()V"⟩
theorem yk_Mo_init : y_Mo_init.cls ≠ "java/lang/invoke/MethodHandle" ∧ y_Mo_init.cls ≠ "java/lang/invoke/VarHandle" ∧ (parseMethodDescriptor y_Mo_init.desc).map (fun d => d.parameters.length) = some 0 := by decide +kernel
abbrev b_Mo_give : ByteArray := prog_11_method_4_code
def y_Mo_give : MethodName := ⟨R_Mo, "give", "(JI)Z"⟩
theorem yk_Mo_give : y_Mo_give.cls ≠ "java/lang/invoke/MethodHandle" ∧ y_Mo_give.cls ≠ "java/lang/invoke/VarHandle" ∧ (parseMethodDescriptor y_Mo_give.desc).map (fun d => d.parameters.length) = some 2 := by decide +kernel
abbrev b_Mo_cut : ByteArray := prog_11_method_5_code
def y_Mo_cut : MethodName := ⟨R_Mo, "cut", "(I)Z"⟩
theorem yk_Mo_cut : y_Mo_cut.cls ≠ "java/lang/invoke/MethodHandle" ∧ y_Mo_cut.cls ≠ "java/lang/invoke/VarHandle" ∧ (parseMethodDescriptor y_Mo_cut.desc).map (fun d => d.parameters.length) = some 1 := by decide +kernel
abbrev b_Mo_poke : ByteArray := prog_11_method_6_code
def y_Mo_poke : MethodName := ⟨R_Mo, "poke", "(II)Z"⟩
theorem yk_Mo_poke : y_Mo_poke.cls ≠ "java/lang/invoke/MethodHandle" ∧ y_Mo_poke.cls ≠ "java/lang/invoke/VarHandle" ∧ (parseMethodDescriptor y_Mo_poke.desc).map (fun d => d.parameters.length) = some 2 := by decide +kernel
abbrev b_Mo_turnOver : ByteArray := prog_11_method_7_code
def y_Mo_turnOver : MethodName := ⟨R_Mo, "turnOver", "()Z"⟩
theorem yk_Mo_turnOver : y_Mo_turnOver.cls ≠ "java/lang/invoke/MethodHandle" ∧ y_Mo_turnOver.cls ≠ "java/lang/invoke/VarHandle" ∧ (parseMethodDescriptor y_Mo_turnOver.desc).map (fun d => d.parameters.length) = some 0 := by decide +kernel
abbrev b_Mo_byteAt : ByteArray := prog_11_method_8_code
def y_Mo_byteAt : MethodName := ⟨R_Mo, "byteAt", "(IZ)I"⟩
theorem yk_Mo_byteAt : y_Mo_byteAt.cls ≠ "java/lang/invoke/MethodHandle" ∧ y_Mo_byteAt.cls ≠ "java/lang/invoke/VarHandle" ∧ (parseMethodDescriptor y_Mo_byteAt.desc).map (fun d => d.parameters.length) = some 2 := by decide +kernel
abbrev b_Mo_byteNext : ByteArray := prog_11_method_9_code
def y_Mo_byteNext : MethodName := ⟨R_Mo, "byteNext", "()I"⟩
theorem yk_Mo_byteNext : y_Mo_byteNext.cls ≠ "java/lang/invoke/MethodHandle" ∧ y_Mo_byteNext.cls ≠ "java/lang/invoke/VarHandle" ∧ (parseMethodDescriptor y_Mo_byteNext.desc).map (fun d => d.parameters.length) = some 0 := by decide +kernel
abbrev b_Mo_numberNext : ByteArray := prog_11_method_10_code
def y_Mo_numberNext : MethodName := ⟨R_Mo, "numberNext", "(III)I"⟩
theorem yk_Mo_numberNext : y_Mo_numberNext.cls ≠ "java/lang/invoke/MethodHandle" ∧ y_Mo_numberNext.cls ≠ "java/lang/invoke/VarHandle" ∧ (parseMethodDescriptor y_Mo_numberNext.desc).map (fun d => d.parameters.length) = some 3 := by decide +kernel
abbrev b_Mo_readInstruction : ByteArray := prog_11_method_11_code
def y_Mo_readInstruction : MethodName := ⟨R_Mo, "readInstruction", "(IIII)V"⟩
theorem yk_Mo_readInstruction : y_Mo_readInstruction.cls ≠ "java/lang/invoke/MethodHandle" ∧ y_Mo_readInstruction.cls ≠ "java/lang/invoke/VarHandle" ∧ (parseMethodDescriptor y_Mo_readInstruction.desc).map (fun d => d.parameters.length) = some 4 := by decide +kernel
abbrev b_Mo_readFunction : ByteArray := prog_11_method_12_code
def y_Mo_readFunction : MethodName := ⟨R_Mo, "readFunction", "(II)V"⟩
theorem yk_Mo_readFunction : y_Mo_readFunction.cls ≠ "java/lang/invoke/MethodHandle" ∧ y_Mo_readFunction.cls ≠ "java/lang/invoke/VarHandle" ∧ (parseMethodDescriptor y_Mo_readFunction.desc).map (fun d => d.parameters.length) = some 2 := by decide +kernel
abbrev b_Mo_readProgram : ByteArray := prog_11_method_13_code
def y_Mo_readProgram : MethodName := ⟨R_Mo, "readProgram", "()V"⟩
theorem yk_Mo_readProgram : y_Mo_readProgram.cls ≠ "java/lang/invoke/MethodHandle" ∧ y_Mo_readProgram.cls ≠ "java/lang/invoke/VarHandle" ∧ (parseMethodDescriptor y_Mo_readProgram.desc).map (fun d => d.parameters.length) = some 0 := by decide +kernel
abbrev b_Mo_copyProgram : ByteArray := prog_11_method_14_code
def y_Mo_copyProgram : MethodName := ⟨R_Mo, "copyProgram", "(II)V"⟩
theorem yk_Mo_copyProgram : y_Mo_copyProgram.cls ≠ "java/lang/invoke/MethodHandle" ∧ y_Mo_copyProgram.cls ≠ "java/lang/invoke/VarHandle" ∧ (parseMethodDescriptor y_Mo_copyProgram.desc).map (fun d => d.parameters.length) = some 2 := by decide +kernel
abbrev b_Mo_told : ByteArray := prog_11_method_15_code
def y_Mo_told : MethodName := ⟨R_Mo, "told", "()I"⟩
theorem yk_Mo_told : y_Mo_told.cls ≠ "java/lang/invoke/MethodHandle" ∧ y_Mo_told.cls ≠ "java/lang/invoke/VarHandle" ∧ (parseMethodDescriptor y_Mo_told.desc).map (fun d => d.parameters.length) = some 0 := by decide +kernel
abbrev b_Mo_read : ByteArray := prog_11_method_16_code
def y_Mo_read : MethodName := ⟨R_Mo, "read", "()I"⟩
theorem yk_Mo_read : y_Mo_read.cls ≠ "java/lang/invoke/MethodHandle" ∧ y_Mo_read.cls ≠ "java/lang/invoke/VarHandle" ∧ (parseMethodDescriptor y_Mo_read.desc).map (fun d => d.parameters.length) = some 0 := by decide +kernel
abbrev b_Mo_canStand : ByteArray := prog_11_method_17_code
def y_Mo_canStand : MethodName := ⟨R_Mo, "canStand", "(III)Z"⟩
theorem yk_Mo_canStand : y_Mo_canStand.cls ≠ "java/lang/invoke/MethodHandle" ∧ y_Mo_canStand.cls ≠ "java/lang/invoke/VarHandle" ∧ (parseMethodDescriptor y_Mo_canStand.desc).map (fun d => d.parameters.length) = some 3 := by decide +kernel
abbrev b_Mo_change : ByteArray := prog_11_method_18_code
def y_Mo_change : MethodName := ⟨R_Mo, "change", "(IIII)I"⟩
theorem yk_Mo_change : y_Mo_change.cls ≠ "java/lang/invoke/MethodHandle" ∧ y_Mo_change.cls ≠ "java/lang/invoke/VarHandle" ∧ (parseMethodDescriptor y_Mo_change.desc).map (fun d => d.parameters.length) = some 4 := by decide +kernel
abbrev b_Mo_behind : ByteArray := prog_11_method_27_code
def y_Mo_behind : MethodName := ⟨R_Mo, "behind", "(I)I"⟩
theorem yk_Mo_behind : y_Mo_behind.cls ≠ "java/lang/invoke/MethodHandle" ∧ y_Mo_behind.cls ≠ "java/lang/invoke/VarHandle" ∧ (parseMethodDescriptor y_Mo_behind.desc).map (fun d => d.parameters.length) = some 1 := by decide +kernel
abbrev b_Mo_put : ByteArray := prog_11_method_28_code
def y_Mo_put : MethodName := ⟨R_Mo, "put", "(II)V"⟩
theorem yk_Mo_put : y_Mo_put.cls ≠ "java/lang/invoke/MethodHandle" ∧ y_Mo_put.cls ≠ "java/lang/invoke/VarHandle" ∧ (parseMethodDescriptor y_Mo_put.desc).map (fun d => d.parameters.length) = some 2 := by decide +kernel
abbrev b_Mo_write : ByteArray := prog_11_method_29_code
def y_Mo_write : MethodName := ⟨R_Mo, "write", "()I"⟩
theorem yk_Mo_write : y_Mo_write.cls ≠ "java/lang/invoke/MethodHandle" ∧ y_Mo_write.cls ≠ "java/lang/invoke/VarHandle" ∧ (parseMethodDescriptor y_Mo_write.desc).map (fun d => d.parameters.length) = some 0 := by decide +kernel
abbrev b_Mo_isFunction : ByteArray := prog_11_method_30_code
def y_Mo_isFunction : MethodName := ⟨R_Mo, "isFunction", "(I)Z"⟩
theorem yk_Mo_isFunction : y_Mo_isFunction.cls ≠ "java/lang/invoke/MethodHandle" ∧ y_Mo_isFunction.cls ≠ "java/lang/invoke/VarHandle" ∧ (parseMethodDescriptor y_Mo_isFunction.desc).map (fun d => d.parameters.length) = some 1 := by decide +kernel
abbrev b_Mo_isGoal : ByteArray := prog_11_method_31_code
def y_Mo_isGoal : MethodName := ⟨R_Mo, "isGoal", "(II)I"⟩
theorem yk_Mo_isGoal : y_Mo_isGoal.cls ≠ "java/lang/invoke/MethodHandle" ∧ y_Mo_isGoal.cls ≠ "java/lang/invoke/VarHandle" ∧ (parseMethodDescriptor y_Mo_isGoal.desc).map (fun d => d.parameters.length) = some 2 := by decide +kernel
abbrev b_Mo_code : ByteArray := prog_11_method_32_code
def y_Mo_code : MethodName := ⟨R_Mo, "code", "(III)I"⟩
theorem yk_Mo_code : y_Mo_code.cls ≠ "java/lang/invoke/MethodHandle" ∧ y_Mo_code.cls ≠ "java/lang/invoke/VarHandle" ∧ (parseMethodDescriptor y_Mo_code.desc).map (fun d => d.parameters.length) = some 3 := by decide +kernel
abbrev b_Mo_known : ByteArray := prog_11_method_33_code
def y_Mo_known : MethodName := ⟨R_Mo, "known", "(IZ)I"⟩
theorem yk_Mo_known : y_Mo_known.cls ≠ "java/lang/invoke/MethodHandle" ∧ y_Mo_known.cls ≠ "java/lang/invoke/VarHandle" ∧ (parseMethodDescriptor y_Mo_known.desc).map (fun d => d.parameters.length) = some 2 := by decide +kernel
abbrev b_Mo_function : ByteArray := prog_11_method_34_code
def y_Mo_function : MethodName := ⟨R_Mo, "function", "(II)I"⟩
theorem yk_Mo_function : y_Mo_function.cls ≠ "java/lang/invoke/MethodHandle" ∧ y_Mo_function.cls ≠ "java/lang/invoke/VarHandle" ∧ (parseMethodDescriptor y_Mo_function.desc).map (fun d => d.parameters.length) = some 2 := by decide +kernel
abbrev b_Mo_handler : ByteArray := prog_11_method_35_code
def y_Mo_handler : MethodName := ⟨R_Mo, "handler", "(III)I"⟩
theorem yk_Mo_handler : y_Mo_handler.cls ≠ "java/lang/invoke/MethodHandle" ∧ y_Mo_handler.cls ≠ "java/lang/invoke/VarHandle" ∧ (parseMethodDescriptor y_Mo_handler.desc).map (fun d => d.parameters.length) = some 3 := by decide +kernel
abbrev b_Mo_codes : ByteArray := prog_11_method_36_code
def y_Mo_codes : MethodName := ⟨R_Mo, "codes", "()I"⟩
theorem yk_Mo_codes : y_Mo_codes.cls ≠ "java/lang/invoke/MethodHandle" ∧ y_Mo_codes.cls ≠ "java/lang/invoke/VarHandle" ∧ (parseMethodDescriptor y_Mo_codes.desc).map (fun d => d.parameters.length) = some 0 := by decide +kernel
abbrev b_Mo_look : ByteArray := prog_11_method_37_code
def y_Mo_look : MethodName := ⟨R_Mo, "look", "(I)I"⟩
theorem yk_Mo_look : y_Mo_look.cls ≠ "java/lang/invoke/MethodHandle" ∧ y_Mo_look.cls ≠ "java/lang/invoke/VarHandle" ∧ (parseMethodDescriptor y_Mo_look.desc).map (fun d => d.parameters.length) = some 1 := by decide +kernel
def tb_0 : List Cond := [.methodLink R_ByteRow 3 objectInit, .instanceMethod objectInit, .code objectInit ⟨#[0xb1]⟩ 1 none, .fieldLink R_ByteRow 9 "StackBytes$ByteRow" "most" "I", .arrayClass .byte, .fieldLink R_ByteRow 15 "StackBytes$ByteRow" "row" "[B", .fieldLink R_ByteRow 19 "StackBytes$ByteRow" "count" "I", .methodLink R_Fault 3 objectInit, .fieldLink R_Fault 9 "StackBytes$Fault" "kind" "I", .fieldLink R_Fault 15 "StackBytes$Fault" "place" "I", .methodLink R_Verifier 3 objectInit, .arrayClass .int, .fieldLink R_Verifier 9 "StackBytes$Verifier" "depths" "[I", .fieldLink R_Verifier 15 "StackBytes$Verifier" "rowsOnStack" "[I", .arrayClass .boolean, .fieldLink R_Verifier 18 "StackBytes$Verifier" "waits" "[Z", .methodLink R_Handler 1 objectInit, .methodLink R_Function 3 objectInit, .fieldLink R_Function 9 "StackBytes$Function" "ops" "[I", .fieldLink R_Function 15 "StackBytes$Function" "behinds" "[I", .fieldLink R_Function 18 "StackBytes$Function" "depths" "[I", .fieldLink R_Function 21 "StackBytes$Function" "rowsOnStack" "[I", .classLink R_Function 24 R_Handler, .fieldLink R_Function 26 "StackBytes$Function" "handlers" "[LStackBytes$Handler;", .fieldLink R_Function 30 "StackBytes$Function" "count" "I", .instantiable R_Handler 5, .initialized R_Handler, .code y_Handler_init b_Handler_init 1 none, .instanceMethod y_Handler_init, .methodLink R_Program 3 objectInit, .classLink R_Program 9 R_Function, .fieldLink R_Program 11 "StackBytes$Program" "functions" "[LStackBytes$Function;", .instantiable R_Function 11, .initialized R_Function, .code y_Function_init b_Function_init 2 none, .fieldLink R_Program 18 "StackBytes$Program" "count" "I", .methodLink R_Program 17 y_Function_init, .instanceMethod y_Function_init, .methodLink R_SB 3 objectInit, .classLink R_SB 9 R_ByteRow]
def tb_1 : List Cond := [.instantiable R_ByteRow 3, .initialized R_ByteRow, .code y_ByteRow_init b_ByteRow_init 2 none, .fieldLink R_SB 14 "StackBytes" "bytes" "LStackBytes$ByteRow;", .fieldLink R_SB 18 "StackBytes" "written" "LStackBytes$ByteRow;", .classLink R_SB 21 R_Fault, .instantiable R_Fault 2, .initialized R_Fault, .code y_Fault_init b_Fault_init 1 none, .fieldLink R_SB 24 "StackBytes" "latest" "LStackBytes$Fault;", .classLink R_SB 28 R_Verifier, .instantiable R_Verifier 11, .initialized R_Verifier, .code y_Verifier_init b_Verifier_init 1 none, .fieldLink R_SB 31 "StackBytes" "verifier" "LStackBytes$Verifier;", .classLink R_SB 35 R_Program, .instantiable R_Program 2, .initialized R_Program, .code y_Program_init b_Program_init 1 none, .fieldLink R_SB 38 "StackBytes" "program" "LStackBytes$Program;", .fieldLink R_SB 42 "StackBytes" "spare" "LStackBytes$Program;", .methodLink R_SB 37 y_Program_init, .instanceMethod y_Program_init, .instanceMethod y_Verifier_init, .methodLink R_SB 23 y_Fault_init, .instanceMethod y_Fault_init, .methodLink R_SB 11 y_ByteRow_init, .instanceMethod y_ByteRow_init, .methodLink R_Ar 304 Lib.Math.min.name, .static Lib.Math.min.name, .initialized "java/lang/Math", .code Lib.Math.min.name Lib.Math.min.code 2 (some .int), .methodLink R_Ar 150 arraycopyName, .native arraycopyName, .static arraycopyName, .initialized "java/lang/System", .methodLink R_ByteRow 32 Lib.Math.min.name, .methodLink R_ByteRow 38 Lib.Math.max.name, .static Lib.Math.max.name, .code Lib.Math.max.name Lib.Math.max.code 2 (some .int)]
def tb_2 : List Cond := [.code y_Ar_copyOf b_Ar_copyOf 3 (some (.array .byte)), .methodLink R_ByteRow 41 y_Ar_copyOf, .static y_Ar_copyOf, .initialized R_Ar, .code y_ByteRow_makeRoom b_ByteRow_makeRoom 2 none, .methodLink R_ByteRow 22 y_ByteRow_makeRoom, .instanceMethod y_ByteRow_makeRoom, .selects R_ByteRow y_ByteRow_makeRoom y_ByteRow_makeRoom, .code y_ByteRow_add b_ByteRow_add 5 (some .boolean), .methodLink R_SB 45 y_ByteRow_add, .instanceMethod y_ByteRow_add, .selects R_ByteRow y_ByteRow_add y_ByteRow_add, .code y_ByteRow_keepFirst b_ByteRow_keepFirst 2 (some .boolean), .methodLink R_SB 49 y_ByteRow_keepFirst, .instanceMethod y_ByteRow_keepFirst, .selects R_ByteRow y_ByteRow_keepFirst y_ByteRow_keepFirst, .code y_ByteRow_set b_ByteRow_set 3 (some .boolean), .methodLink R_SB 53 y_ByteRow_set, .instanceMethod y_ByteRow_set, .selects R_ByteRow y_ByteRow_set y_ByteRow_set, .methodLink R_Reader 3 objectInit, .fieldLink R_Reader 9 "StackBytes$Reader" "in" "LStackBytes$ByteRow;", .fieldLink R_Reader 15 "StackBytes$Reader" "fault" "LStackBytes$Fault;", .fieldLink R_Reader 19 "StackBytes$Reader" "at" "I", .fieldLink R_Reader 60 "StackBytes$ByteRow" "count" "I", .code y_ByteRow_at b_ByteRow_at 2 (some .int), .methodLink R_Reader 132 y_ByteRow_at, .instanceMethod y_ByteRow_at, .selects R_ByteRow y_ByteRow_at y_ByteRow_at, .code y_Fault_tell b_Fault_tell 3 none, .methodLink R_Reader 63 y_Fault_tell, .instanceMethod y_Fault_tell, .selects R_Fault y_Fault_tell y_Fault_tell, .code y_Reader_nextByte b_Reader_nextByte 2 (some .int), .methodLink R_Reader 67 y_Reader_nextByte, .instanceMethod y_Reader_nextByte, .selects R_Reader y_Reader_nextByte y_Reader_nextByte, .initialized R_Reader, .fieldLink R_Reader 39 "StackBytes$Fault" "kind" "I", .code y_Reader_number b_Reader_number 7 (some .int)]
def tb_3 : List Cond := [.fieldLink R_Reader 71 "StackBytes$Function" "params" "I", .fieldLink R_Reader 76 "StackBytes$Function" "locals" "I", .fieldLink R_Reader 79 "StackBytes$Function" "rowLocals" "I", .fieldLink R_Reader 82 "StackBytes$Function" "result" "I", .fieldLink R_Reader 85 "StackBytes$Function" "count" "I", .methodLink R_Reader 27 y_Reader_number, .instanceMethod y_Reader_number, .selects R_Reader y_Reader_number y_Reader_number, .constant R_Kinds 9 (-2147483648), .constant R_Kinds 10 2147483647, .fieldLink R_Kinds 11 "StackBytes$Function" "locals" "I", .fieldLink R_Kinds 17 "StackBytes$Function" "count" "I", .fieldLink R_Reader 86 "StackBytes$Function" "ops" "[I", .fieldLink R_Reader 90 "StackBytes$Function" "behinds" "[I", .code y_Kinds_bytesBehind b_Kinds_bytesBehind 1 (some .int), .code y_Kinds_leastBehind b_Kinds_leastBehind 1 (some .int), .code y_Kinds_mostBehind b_Kinds_mostBehind 3 (some .int), .methodLink R_Reader 102 y_Kinds_mostBehind, .static y_Kinds_mostBehind, .initialized R_Kinds, .methodLink R_Reader 99 y_Kinds_leastBehind, .static y_Kinds_leastBehind, .methodLink R_Reader 93 y_Kinds_bytesBehind, .static y_Kinds_bytesBehind, .fieldLink R_Reader 106 "StackBytes$Function" "handlerCount" "I", .fieldLink R_Reader 109 "StackBytes$Function" "handlers" "[LStackBytes$Handler;", .fieldLink R_Reader 112 "StackBytes$Handler" "from" "I", .fieldLink R_Reader 117 "StackBytes$Handler" "to" "I", .fieldLink R_Reader 120 "StackBytes$Handler" "target" "I", .fieldLink R_Reader 123 "StackBytes$Handler" "forAny" "Z", .constant R_Reader 127 (-2147483648), .constant R_Reader 128 2147483647, .fieldLink R_Reader 129 "StackBytes$Handler" "code" "I", .code y_Reader_start b_Reader_start 3 none, .code y_Program_setCount b_Program_setCount 3 none, .fieldLink R_Reader 36 "StackBytes$Program" "count" "I", .fieldLink R_Reader 44 "StackBytes$Program" "functions" "[LStackBytes$Function;", .code y_Reader_head b_Reader_head 3 none, .code y_Reader_instructions b_Reader_instructions 5 none, .code y_Reader_handlers b_Reader_handlers 4 none]
def tb_4 : List Cond := [.methodLink R_Reader 56 y_Reader_handlers, .instanceMethod y_Reader_handlers, .selects R_Reader y_Reader_handlers y_Reader_handlers, .methodLink R_Reader 52 y_Reader_instructions, .instanceMethod y_Reader_instructions, .selects R_Reader y_Reader_instructions y_Reader_instructions, .methodLink R_Reader 48 y_Reader_head, .instanceMethod y_Reader_head, .selects R_Reader y_Reader_head y_Reader_head, .methodLink R_Reader 31 y_Program_setCount, .instanceMethod y_Program_setCount, .selects R_Program y_Program_setCount y_Program_setCount, .methodLink R_Reader 23 y_Reader_start, .instanceMethod y_Reader_start, .selects R_Reader y_Reader_start y_Reader_start, .fieldLink R_Verifier 36 "StackBytes$Verifier" "fault" "LStackBytes$Fault;", .fieldLink R_Verifier 63 "StackBytes$Fault" "kind" "I", .fieldLink R_Verifier 32 "StackBytes$Verifier" "function" "LStackBytes$Function;", .code y_Function_has b_Function_has 2 (some .boolean), .fieldLink R_Verifier 40 "StackBytes$Verifier" "firstPlace" "I", .methodLink R_Verifier 129 y_Fault_tell, .fieldLink R_Verifier 56 "StackBytes$Verifier" "leastWaiting" "I", .methodLink R_Verifier 135 Lib.Math.min.name, .methodLink R_Verifier 132 y_Function_has, .instanceMethod y_Function_has, .selects R_Function y_Function_has y_Function_has, .fieldLink R_Verifier 47 "StackBytes$Function" "count" "I", .code y_Verifier_comeTo b_Verifier_comeTo 4 none, .methodLink R_Verifier 76 y_Verifier_comeTo, .instanceMethod y_Verifier_comeTo, .selects R_Verifier y_Verifier_comeTo y_Verifier_comeTo, .fieldLink R_Verifier 83 "StackBytes$Verifier" "depth" "I", .fieldLink R_Verifier 86 "StackBytes$Verifier" "rows" "I", .fieldLink R_Verifier 80 "StackBytes$Verifier" "current" "I", .code y_Verifier_take b_Verifier_take 3 (some .int), .code y_Verifier_put b_Verifier_put 2 none, .methodLink R_Verifier 141 y_Verifier_put, .instanceMethod y_Verifier_put, .selects R_Verifier y_Verifier_put y_Verifier_put, .methodLink R_Verifier 144 y_Verifier_take]
def tb_5 : List Cond := [.instanceMethod y_Verifier_take, .selects R_Verifier y_Verifier_take y_Verifier_take, .fieldLink R_Function 35 "StackBytes$Function" "rowLocals" "I", .fieldLink R_Verifier 173 "StackBytes$Function" "params" "I", .code y_Function_typeOfLocal b_Function_typeOfLocal 2 (some .int), .methodLink R_Verifier 154 y_Function_typeOfLocal, .instanceMethod y_Function_typeOfLocal, .selects R_Function y_Function_typeOfLocal y_Function_typeOfLocal, .fieldLink R_Verifier 176 "StackBytes$Function" "result" "I", .code y_Verifier_repeatTop b_Verifier_repeatTop 2 none, .methodLink R_Verifier 148 y_Verifier_repeatTop, .instanceMethod y_Verifier_repeatTop, .selects R_Verifier y_Verifier_repeatTop y_Verifier_repeatTop, .code y_Verifier_swapUpperTwo b_Verifier_swapUpperTwo 3 none, .methodLink R_Verifier 151 y_Verifier_swapUpperTwo, .instanceMethod y_Verifier_swapUpperTwo, .selects R_Verifier y_Verifier_swapUpperTwo y_Verifier_swapUpperTwo, .code y_Verifier_useRow b_Verifier_useRow 2 none, .methodLink R_Verifier 157 y_Verifier_useRow, .instanceMethod y_Verifier_useRow, .selects R_Verifier y_Verifier_useRow y_Verifier_useRow, .fieldLink R_Verifier 28 "StackBytes$Verifier" "program" "LStackBytes$Program;", .code y_Program_at b_Program_at 2 (some (.object "StackBytes$Function")), .code y_Verifier_callFunction b_Verifier_callFunction 3 none, .methodLink R_Verifier 160 y_Verifier_callFunction, .instanceMethod y_Verifier_callFunction, .selects R_Verifier y_Verifier_callFunction y_Verifier_callFunction, .methodLink R_Verifier 22 y_Program_at, .instanceMethod y_Program_at, .selects R_Program y_Program_at y_Program_at, .code y_Verifier_takeInts b_Verifier_takeInts 3 none, .methodLink R_Verifier 164 y_Verifier_takeInts, .instanceMethod y_Verifier_takeInts, .selects R_Verifier y_Verifier_takeInts y_Verifier_takeInts, .code y_Verifier_takeResult b_Verifier_takeResult 1 none, .methodLink R_Verifier 167 y_Verifier_takeResult, .instanceMethod y_Verifier_takeResult, .selects R_Verifier y_Verifier_takeResult y_Verifier_takeResult, .code y_Verifier_putInts b_Verifier_putInts 3 none, .methodLink R_Verifier 170 y_Verifier_putInts]
def tb_6 : List Cond := [.instanceMethod y_Verifier_putInts, .selects R_Verifier y_Verifier_putInts y_Verifier_putInts, .fieldLink R_Handler 7 "StackBytes$Handler" "from" "I", .fieldLink R_Handler 13 "StackBytes$Handler" "to" "I", .fieldLink R_Verifier 114 "StackBytes$Function" "handlerCount" "I", .fieldLink R_Verifier 117 "StackBytes$Function" "handlers" "[LStackBytes$Handler;", .code y_Handler_covers b_Handler_covers 2 (some .boolean), .fieldLink R_Verifier 126 "StackBytes$Handler" "target" "I", .methodLink R_Verifier 121 y_Handler_covers, .instanceMethod y_Handler_covers, .selects R_Handler y_Handler_covers y_Handler_covers, .fieldLink R_Verifier 89 "StackBytes$Function" "ops" "[I", .fieldLink R_Verifier 92 "StackBytes$Function" "behinds" "[I", .code y_Verifier_takeAndPut b_Verifier_takeAndPut 3 none, .code y_Verifier_comeToHandlers b_Verifier_comeToHandlers 3 none, .code y_Kinds_goesToPlace b_Kinds_goesToPlace 1 (some .boolean), .code y_Kinds_goesOnBehind b_Kinds_goesOnBehind 1 (some .boolean), .code y_Verifier_comeToNext b_Verifier_comeToNext 1 none, .methodLink R_Verifier 111 y_Verifier_comeToNext, .instanceMethod y_Verifier_comeToNext, .selects R_Verifier y_Verifier_comeToNext y_Verifier_comeToNext, .methodLink R_Verifier 108 y_Kinds_goesOnBehind, .static y_Kinds_goesOnBehind, .methodLink R_Verifier 102 y_Kinds_goesToPlace, .static y_Kinds_goesToPlace, .methodLink R_Verifier 99 y_Verifier_comeToHandlers, .instanceMethod y_Verifier_comeToHandlers, .selects R_Verifier y_Verifier_comeToHandlers y_Verifier_comeToHandlers, .methodLink R_Verifier 95 y_Verifier_takeAndPut, .instanceMethod y_Verifier_takeAndPut, .selects R_Verifier y_Verifier_takeAndPut y_Verifier_takeAndPut, .code y_Verifier_begin b_Verifier_begin 2 none, .code y_Verifier_findLeastWaiting b_Verifier_findLeastWaiting 1 (some .boolean), .code y_Verifier_lookAt b_Verifier_lookAt 4 none, .methodLink R_Verifier 59 y_Verifier_lookAt, .instanceMethod y_Verifier_lookAt, .selects R_Verifier y_Verifier_lookAt y_Verifier_lookAt, .methodLink R_Verifier 52 y_Verifier_findLeastWaiting, .instanceMethod y_Verifier_findLeastWaiting, .selects R_Verifier y_Verifier_findLeastWaiting y_Verifier_findLeastWaiting]
def tb_7 : List Cond := [.fieldLink R_Verifier 68 "StackBytes$Function" "depths" "[I", .methodLink R_Verifier 69 arraycopyName, .fieldLink R_Verifier 75 "StackBytes$Function" "rowsOnStack" "[I", .methodLink R_Verifier 44 y_Verifier_begin, .instanceMethod y_Verifier_begin, .selects R_Verifier y_Verifier_begin y_Verifier_begin, .code y_Fault_clear b_Fault_clear 1 none, .classLink R_SB 60 R_Reader, .instantiable R_Reader 3, .code y_Reader_init b_Reader_init 3 none, .code y_Reader_readInto b_Reader_readInto 3 none, .fieldLink R_SB 69 "StackBytes$Program" "count" "I", .fieldLink R_SB 73 "StackBytes$Fault" "kind" "I", .code y_Verifier_verify b_Verifier_verify 6 none, .methodLink R_SB 76 y_Verifier_verify, .instanceMethod y_Verifier_verify, .selects R_Verifier y_Verifier_verify y_Verifier_verify, .methodLink R_SB 65 y_Reader_readInto, .instanceMethod y_Reader_readInto, .selects R_Reader y_Reader_readInto y_Reader_readInto, .methodLink R_SB 62 y_Reader_init, .instanceMethod y_Reader_init, .methodLink R_SB 57 y_Fault_clear, .instanceMethod y_Fault_clear, .selects R_Fault y_Fault_clear y_Fault_clear, .fieldLink R_Handler 22 "StackBytes$Handler" "target" "I", .fieldLink R_Handler 25 "StackBytes$Handler" "forAny" "Z", .fieldLink R_Handler 29 "StackBytes$Handler" "code" "I", .methodLink R_Handler 16 y_ByteRow_add, .fieldLink R_Function 56 "StackBytes$Function" "params" "I", .fieldLink R_Function 65 "StackBytes$Function" "locals" "I", .fieldLink R_Function 68 "StackBytes$Function" "result" "I", .methodLink R_Function 59 y_ByteRow_add, .methodLink R_Function 71 y_Kinds_bytesBehind, .fieldLink R_Function 44 "StackBytes$Function" "handlerCount" "I", .code y_Handler_appendTo b_Handler_appendTo 2 none, .methodLink R_Function 75 y_Handler_appendTo, .instanceMethod y_Handler_appendTo, .selects R_Handler y_Handler_appendTo y_Handler_appendTo, .constantLong R_Program 23 71]
def tb_8 : List Cond := [.constantLong R_Program 31 70, .code y_Function_appendTo b_Function_appendTo 3 none, .methodLink R_Program 33 y_Function_appendTo, .instanceMethod y_Function_appendTo, .selects R_Function y_Function_appendTo y_Function_appendTo, .methodLink R_Program 25 y_ByteRow_add, .code y_Program_appendTo b_Program_appendTo 3 none, .fieldLink R_SB 84 "StackBytes$ByteRow" "count" "I", .methodLink R_SB 80 y_Program_appendTo, .instanceMethod y_Program_appendTo, .selects R_Program y_Program_appendTo y_Program_appendTo, .methodLink R_ByteRow 26 arraycopyName, .code y_ByteRow_become b_ByteRow_become 2 (some .boolean), .methodLink R_SB 85 y_ByteRow_become, .instanceMethod y_ByteRow_become, .selects R_ByteRow y_ByteRow_become y_ByteRow_become, .methodLink R_Kinds 26 y_Kinds_mostBehind, .methodLink R_Kinds 20 y_Kinds_leastBehind, .methodLink R_SB 104 y_Fault_tell, .code y_Kinds_canStand b_Kinds_canStand 4 (some .boolean), .fieldLink R_SB 108 "StackBytes$Function" "ops" "[I", .fieldLink R_SB 112 "StackBytes$Function" "behinds" "[I", .methodLink R_SB 98 y_Kinds_canStand, .static y_Kinds_canStand, .methodLink R_SB 93 y_Function_has, .methodLink R_SB 89 y_Program_at, .methodLink R_Function 38 y_Kinds_goesToPlace, .fieldLink R_Function 47 "StackBytes$Handler" "target" "I", .fieldLink R_SB 115 "StackBytes$Function" "depths" "[I", .fieldLink R_SB 118 "StackBytes$Function" "rowsOnStack" "[I", .code y_Function_isGoneTo b_Function_isGoneTo 3 (some .boolean), .methodLink R_SB 121 y_Function_isGoneTo, .instanceMethod y_Function_isGoneTo, .selects R_Function y_Function_isGoneTo y_Function_isGoneTo, .methodLink R_Function 50 Lib.Math.max.name, .fieldLink R_SB 124 "StackBytes$Function" "params" "I", .fieldLink R_SB 127 "StackBytes$Function" "locals" "I", .fieldLink R_SB 130 "StackBytes$Function" "rowLocals" "I", .fieldLink R_SB 133 "StackBytes$Function" "result" "I", .fieldLink R_SB 136 "StackBytes$Function" "count" "I"]
def tb_9 : List Cond := [.fieldLink R_SB 137 "StackBytes$Function" "handlerCount" "I", .code y_Function_comeTo b_Function_comeTo 3 (some .int), .methodLink R_SB 140 y_Function_comeTo, .instanceMethod y_Function_comeTo, .selects R_Function y_Function_comeTo y_Function_comeTo, .code y_Function_deepest b_Function_deepest 3 (some .int), .methodLink R_SB 144 y_Function_deepest, .instanceMethod y_Function_deepest, .selects R_Function y_Function_deepest y_Function_deepest, .fieldLink R_SB 147 "StackBytes$Function" "handlers" "[LStackBytes$Handler;", .fieldLink R_SB 151 "StackBytes$Handler" "from" "I", .fieldLink R_SB 156 "StackBytes$Handler" "to" "I", .fieldLink R_SB 159 "StackBytes$Handler" "target" "I", .fieldLink R_SB 162 "StackBytes$Handler" "forAny" "Z", .fieldLink R_SB 166 "StackBytes$Handler" "code" "I", .methodLink R_SB 169 y_ByteRow_at, .fieldLink R_Program 22 "StackBytes$Function" "count" "I", .code y_Program_instructions b_Program_instructions 3 (some .int), .methodLink R_SB 172 y_Program_instructions, .instanceMethod y_Program_instructions, .selects R_Program y_Program_instructions y_Program_instructions, .fieldLink R_SB 175 "StackBytes$Fault" "place" "I", .fieldLink R_Mo 79 "StackBytesModel" "bad" "I", .fieldLink R_Mo 82 "StackBytesModel" "where" "I", .fieldLink R_Mo 63 "StackBytesModel" "heights" "[I", .code y_Mo_wrong b_Mo_wrong 3 none, .methodLink R_Mo 96 y_Mo_wrong, .instanceMethod y_Mo_wrong, .selects R_Mo y_Mo_wrong y_Mo_wrong, .initialized R_Mo, .fieldLink R_Mo 66 "StackBytesModel" "kinds" "[I", .fieldLink R_Mo 69 "StackBytesModel" "waits" "[Z", .fieldLink R_Mo 135 "StackBytesModel" "kind" "I", .fieldLink R_Mo 132 "StackBytesModel" "height" "I", .fieldLink R_Mo 29 "StackBytesModel" "rowBits" "[I", .code y_Mo_takes b_Mo_takes 3 (some .boolean), .methodLink R_Mo 138 y_Mo_takes, .instanceMethod y_Mo_takes, .selects R_Mo y_Mo_takes y_Mo_takes, .code y_Mo_takesInts b_Mo_takesInts 4 (some .boolean)]
def tb_10 : List Cond := [.code y_Mo_puts b_Mo_puts 2 none, .methodLink R_Mo 142 y_Mo_puts, .instanceMethod y_Mo_puts, .selects R_Mo y_Mo_puts y_Mo_puts, .methodLink R_Mo 150 y_Mo_takesInts, .instanceMethod y_Mo_takesInts, .selects R_Mo y_Mo_takesInts y_Mo_takesInts, .fieldLink R_Mo 32 "StackBytesModel" "results" "[I", .fieldLink R_Mo 23 "StackBytesModel" "params" "[I", .code y_Mo_isRow b_Mo_isRow 3 (some .int), .methodLink R_Mo 146 y_Mo_isRow, .instanceMethod y_Mo_isRow, .selects R_Mo y_Mo_isRow y_Mo_isRow, .fieldLink R_Mo 41 "StackBytesModel" "ops" "[I", .fieldLink R_Mo 44 "StackBytesModel" "operands" "[I", .code y_Mo_moves b_Mo_moves 9 (some .boolean), .fieldLink R_Mo 38 "StackBytesModel" "handlerMany" "[I", .fieldLink R_Mo 47 "StackBytesModel" "froms" "[I", .fieldLink R_Mo 50 "StackBytesModel" "tos" "[I", .fieldLink R_Mo 53 "StackBytesModel" "targets" "[I", .code y_Mo_comeTo b_Mo_comeTo 7 none, .methodLink R_Mo 153 y_Mo_comeTo, .instanceMethod y_Mo_comeTo, .selects R_Mo y_Mo_comeTo y_Mo_comeTo, .fieldLink R_Mo 35 "StackBytesModel" "sizes" "[I", .methodLink R_Mo 161 y_Mo_moves, .instanceMethod y_Mo_moves, .selects R_Mo y_Mo_moves y_Mo_moves, .code y_Mo_lookAtOne b_Mo_lookAtOne 10 none, .methodLink R_Mo 157 y_Mo_lookAtOne, .instanceMethod y_Mo_lookAtOne, .selects R_Mo y_Mo_lookAtOne y_Mo_lookAtOne, .methodLink R_Mo 1 objectInit, .fieldLink R_Mo 7 "StackBytesModel" "bytes" "[I", .fieldLink R_Mo 13 "StackBytesModel" "written" "[I", .fieldLink R_Mo 16 "StackBytesModel" "place" "I", .fieldLink R_Mo 20 "StackBytesModel" "functions" "[I", .fieldLink R_Mo 26 "StackBytesModel" "locals" "[I", .fieldLink R_Mo 56 "StackBytesModel" "anyCode" "[Z", .fieldLink R_Mo 60 "StackBytesModel" "handlerCodes" "[I"]
def tb_11 : List Cond := [.code y_Mo_verify b_Mo_verify 5 none, .methodLink R_Mo 72 y_Mo_verify, .instanceMethod y_Mo_verify, .selects R_Mo y_Mo_verify y_Mo_verify, .fieldLink R_Mo 76 "StackBytesModel" "thrown" "I", .fieldLink R_Mo 85 "StackBytesModel" "many" "I", .constantLong R_Mo 88 255, .fieldLink R_Mo 90 "StackBytesModel" "writtenMany" "I", .fieldLink R_Mo 93 "StackBytesModel" "p" "I", .code y_Mo_byteNext b_Mo_byteNext 1 (some .int), .methodLink R_Mo 99 y_Mo_byteNext, .instanceMethod y_Mo_byteNext, .selects R_Mo y_Mo_byteNext y_Mo_byteNext, .code y_Mo_numberNext b_Mo_numberNext 7 (some .int), .methodLink R_Mo 103 y_Mo_numberNext, .instanceMethod y_Mo_numberNext, .selects R_Mo y_Mo_numberNext y_Mo_numberNext, .constant R_Mo 107 (-2147483648), .constant R_Mo 108 2147483647, .code y_Mo_readInstruction b_Mo_readInstruction 7 none, .methodLink R_Mo 109 y_Mo_readInstruction, .instanceMethod y_Mo_readInstruction, .selects R_Mo y_Mo_readInstruction y_Mo_readInstruction, .code y_Mo_readFunction b_Mo_readFunction 6 none, .methodLink R_Mo 113 y_Mo_readFunction, .instanceMethod y_Mo_readFunction, .selects R_Mo y_Mo_readFunction y_Mo_readFunction, .fieldLink R_Mo 116 "StackBytesModel" "fault" "I", .code y_Mo_readProgram b_Mo_readProgram 3 none, .code y_Mo_told b_Mo_told 1 (some .int), .methodLink R_Mo 125 y_Mo_told, .instanceMethod y_Mo_told, .selects R_Mo y_Mo_told y_Mo_told, .code y_Mo_copyProgram b_Mo_copyProgram 4 none, .methodLink R_Mo 122 y_Mo_copyProgram, .instanceMethod y_Mo_copyProgram, .selects R_Mo y_Mo_copyProgram y_Mo_copyProgram, .methodLink R_Mo 119 y_Mo_readProgram, .instanceMethod y_Mo_readProgram, .selects R_Mo y_Mo_readProgram y_Mo_readProgram]
def tb_12 : List Cond := [.code y_Mo_canStand b_Mo_canStand 4 (some .boolean), .methodLink R_Mo 128 y_Mo_canStand, .instanceMethod y_Mo_canStand, .selects R_Mo y_Mo_canStand y_Mo_canStand, .code y_Mo_put b_Mo_put 4 none, .code y_Mo_behind b_Mo_behind 1 (some .int), .methodLink R_Mo 165 y_Mo_put, .instanceMethod y_Mo_put, .selects R_Mo y_Mo_put y_Mo_put, .methodLink R_Mo 168 y_Mo_behind, .static y_Mo_behind, .code y_Mo_isFunction b_Mo_isFunction 2 (some .boolean), .code y_Mo_isGoal b_Mo_isGoal 6 (some .int), .methodLink R_Mo 175 y_Mo_isGoal, .instanceMethod y_Mo_isGoal, .selects R_Mo y_Mo_isGoal y_Mo_isGoal, .methodLink R_Mo 172 y_Mo_isFunction, .instanceMethod y_Mo_isFunction, .selects R_Mo y_Mo_isFunction y_Mo_isFunction, .code y_Mo_known b_Mo_known 7 (some .int), .methodLink R_Mo 178 y_Mo_known, .instanceMethod y_Mo_known, .selects R_Mo y_Mo_known y_Mo_known, .code y_Mo_codes b_Mo_codes 3 (some .int), .methodLink R_Mo 182 y_Mo_codes, .instanceMethod y_Mo_codes, .selects R_Mo y_Mo_codes y_Mo_codes, .classLink R_La 7 R_SB, .instantiable R_SB 6, .initialized R_SB, .code y_SB_init b_SB_init 1 none, .classLink R_La 10 R_Mo, .instantiable R_Mo 29, .code y_Mo_init b_Mo_init 1 none, .constantLong R_La 13 4294967295, .code y_SB_give b_SB_give 4 (some .boolean), .code y_Mo_give b_Mo_give 5 (some .boolean), .methodLink R_La 19 y_Mo_give, .instanceMethod y_Mo_give, .selects R_Mo y_Mo_give y_Mo_give]
def tb_13 : List Cond := [.methodLink R_La 15 y_SB_give, .instanceMethod y_SB_give, .selects R_SB y_SB_give y_SB_give, .code y_SB_cut b_SB_cut 2 (some .boolean), .code y_Mo_cut b_Mo_cut 2 (some .boolean), .methodLink R_La 24 y_Mo_cut, .instanceMethod y_Mo_cut, .selects R_Mo y_Mo_cut y_Mo_cut, .methodLink R_La 20 y_SB_cut, .instanceMethod y_SB_cut, .selects R_SB y_SB_cut y_SB_cut, .code y_SB_poke b_SB_poke 3 (some .boolean), .code y_Mo_poke b_Mo_poke 3 (some .boolean), .methodLink R_La 29 y_Mo_poke, .instanceMethod y_Mo_poke, .selects R_Mo y_Mo_poke y_Mo_poke, .methodLink R_La 25 y_SB_poke, .instanceMethod y_SB_poke, .selects R_SB y_SB_poke y_SB_poke, .code y_SB_read b_SB_read 2 (some .int), .code y_Mo_read b_Mo_read 2 (some .int), .methodLink R_La 34 y_Mo_read, .instanceMethod y_Mo_read, .selects R_Mo y_Mo_read y_Mo_read, .methodLink R_La 30 y_SB_read, .instanceMethod y_SB_read, .selects R_SB y_SB_read y_SB_read, .code y_SB_write b_SB_write 1 (some .int), .code y_Mo_write b_Mo_write 3 (some .int), .methodLink R_La 38 y_Mo_write, .instanceMethod y_Mo_write, .selects R_Mo y_Mo_write y_Mo_write, .methodLink R_La 35 y_SB_write, .instanceMethod y_SB_write, .selects R_SB y_SB_write y_SB_write, .code y_SB_turnOver b_SB_turnOver 1 (some .boolean), .code y_Mo_turnOver b_Mo_turnOver 2 (some .boolean), .methodLink R_La 43 y_Mo_turnOver, .instanceMethod y_Mo_turnOver, .selects R_Mo y_Mo_turnOver y_Mo_turnOver]
def tb_14 : List Cond := [.methodLink R_La 39 y_SB_turnOver, .instanceMethod y_SB_turnOver, .selects R_SB y_SB_turnOver y_SB_turnOver, .code y_SB_change b_SB_change 8 (some .int), .code y_Mo_change b_Mo_change 5 (some .int), .methodLink R_La 48 y_Mo_change, .instanceMethod y_Mo_change, .selects R_Mo y_Mo_change y_Mo_change, .methodLink R_La 44 y_SB_change, .instanceMethod y_SB_change, .selects R_SB y_SB_change y_SB_change, .code y_SB_code b_SB_code 5 (some .int), .code y_Mo_code b_Mo_code 4 (some .int), .methodLink R_La 53 y_Mo_code, .instanceMethod y_Mo_code, .selects R_Mo y_Mo_code y_Mo_code, .methodLink R_La 49 y_SB_code, .instanceMethod y_SB_code, .selects R_SB y_SB_code y_SB_code, .code y_SB_function b_SB_function 4 (some .int), .code y_Mo_function b_Mo_function 3 (some .int), .methodLink R_La 58 y_Mo_function, .instanceMethod y_Mo_function, .selects R_Mo y_Mo_function y_Mo_function, .methodLink R_La 54 y_SB_function, .instanceMethod y_SB_function, .selects R_SB y_SB_function y_SB_function, .code y_SB_handler b_SB_handler 6 (some .int), .code y_Mo_handler b_Mo_handler 5 (some .int), .methodLink R_La 62 y_Mo_handler, .instanceMethod y_Mo_handler, .selects R_Mo y_Mo_handler y_Mo_handler, .methodLink R_La 59 y_SB_handler, .instanceMethod y_SB_handler, .selects R_SB y_SB_handler y_SB_handler, .code y_SB_byteAt b_SB_byteAt 3 (some .int), .code y_Mo_byteAt b_Mo_byteAt 3 (some .int), .methodLink R_La 67 y_Mo_byteAt, .instanceMethod y_Mo_byteAt, .selects R_Mo y_Mo_byteAt y_Mo_byteAt]
def tb_15 : List Cond := [.methodLink R_La 63 y_SB_byteAt, .instanceMethod y_SB_byteAt, .selects R_SB y_SB_byteAt y_SB_byteAt, .code y_SB_look b_SB_look 2 (some .int), .code y_Mo_look b_Mo_look 2 (some .int), .methodLink R_La 72 y_Mo_look, .instanceMethod y_Mo_look, .selects R_Mo y_Mo_look y_Mo_look, .methodLink R_La 68 y_SB_look, .instanceMethod y_SB_look, .selects R_SB y_SB_look y_SB_look, .methodLink R_La 12 y_Mo_init, .instanceMethod y_Mo_init, .methodLink R_La 9 y_SB_init, .instanceMethod y_SB_init, .laysFinal R_SB "StackBytes" "bytes" "LStackBytes$ByteRow;", .laysFinal R_SB "StackBytes" "written" "LStackBytes$ByteRow;", .laysFinal R_SB "StackBytes" "latest" "LStackBytes$Fault;", .laysFinal R_SB "StackBytes" "verifier" "LStackBytes$Verifier;", .lays R_SB "StackBytes" "program" "LStackBytes$Program;", .lays R_SB "StackBytes" "spare" "LStackBytes$Program;", .laysFinal R_ByteRow "StackBytes$ByteRow" "most" "I", .lays R_ByteRow "StackBytes$ByteRow" "row" "[B", .lays R_ByteRow "StackBytes$ByteRow" "count" "I", .lays R_Fault "StackBytes$Fault" "kind" "I", .lays R_Fault "StackBytes$Fault" "place" "I", .lays R_Function "StackBytes$Function" "params" "I", .lays R_Function "StackBytes$Function" "locals" "I", .lays R_Function "StackBytes$Function" "rowLocals" "I", .lays R_Function "StackBytes$Function" "result" "I", .lays R_Function "StackBytes$Function" "count" "I", .lays R_Function "StackBytes$Function" "handlerCount" "I", .laysFinal R_Function "StackBytes$Function" "ops" "[I", .laysFinal R_Function "StackBytes$Function" "behinds" "[I", .laysFinal R_Function "StackBytes$Function" "depths" "[I", .laysFinal R_Function "StackBytes$Function" "rowsOnStack" "[I", .laysFinal R_Function "StackBytes$Function" "handlers" "[LStackBytes$Handler;", .lays R_Handler "StackBytes$Handler" "from" "I", .lays R_Handler "StackBytes$Handler" "to" "I", .lays R_Handler "StackBytes$Handler" "target" "I"]
def tb_16 : List Cond := [.lays R_Handler "StackBytes$Handler" "forAny" "Z", .lays R_Handler "StackBytes$Handler" "code" "I", .laysFinal R_Program "StackBytes$Program" "functions" "[LStackBytes$Function;", .lays R_Program "StackBytes$Program" "count" "I", .laysFinal R_Reader "StackBytes$Reader" "in" "LStackBytes$ByteRow;", .laysFinal R_Reader "StackBytes$Reader" "fault" "LStackBytes$Fault;", .lays R_Reader "StackBytes$Reader" "at" "I", .laysFinal R_Verifier "StackBytes$Verifier" "depths" "[I", .laysFinal R_Verifier "StackBytes$Verifier" "rowsOnStack" "[I", .laysFinal R_Verifier "StackBytes$Verifier" "waits" "[Z", .lays R_Verifier "StackBytes$Verifier" "leastWaiting" "I", .lays R_Verifier "StackBytes$Verifier" "program" "LStackBytes$Program;", .lays R_Verifier "StackBytes$Verifier" "function" "LStackBytes$Function;", .lays R_Verifier "StackBytes$Verifier" "fault" "LStackBytes$Fault;", .lays R_Verifier "StackBytes$Verifier" "firstPlace" "I", .lays R_Verifier "StackBytes$Verifier" "current" "I", .lays R_Verifier "StackBytes$Verifier" "depth" "I", .lays R_Verifier "StackBytes$Verifier" "rows" "I", .lays R_Mo "StackBytesModel" "thrown" "I", .laysFinal R_Mo "StackBytesModel" "bytes" "[I", .lays R_Mo "StackBytesModel" "many" "I", .laysFinal R_Mo "StackBytesModel" "written" "[I", .lays R_Mo "StackBytesModel" "writtenMany" "I", .lays R_Mo "StackBytesModel" "fault" "I", .lays R_Mo "StackBytesModel" "place" "I", .lays R_Mo "StackBytesModel" "bad" "I", .lays R_Mo "StackBytesModel" "where" "I", .laysFinal R_Mo "StackBytesModel" "functions" "[I", .laysFinal R_Mo "StackBytesModel" "params" "[I", .laysFinal R_Mo "StackBytesModel" "locals" "[I", .laysFinal R_Mo "StackBytesModel" "rowBits" "[I", .laysFinal R_Mo "StackBytesModel" "results" "[I", .laysFinal R_Mo "StackBytesModel" "sizes" "[I", .laysFinal R_Mo "StackBytesModel" "handlerMany" "[I", .laysFinal R_Mo "StackBytesModel" "ops" "[I", .laysFinal R_Mo "StackBytesModel" "operands" "[I", .laysFinal R_Mo "StackBytesModel" "froms" "[I", .laysFinal R_Mo "StackBytesModel" "tos" "[I", .laysFinal R_Mo "StackBytesModel" "targets" "[I", .laysFinal R_Mo "StackBytesModel" "anyCode" "[Z"]
def tb_17 : List Cond := [.laysFinal R_Mo "StackBytesModel" "handlerCodes" "[I", .laysFinal R_Mo "StackBytesModel" "heights" "[I", .laysFinal R_Mo "StackBytesModel" "kinds" "[I", .laysFinal R_Mo "StackBytesModel" "waits" "[Z", .lays R_Mo "StackBytesModel" "p" "I", .lays R_Mo "StackBytesModel" "height" "I", .lays R_Mo "StackBytesModel" "kind" "I"]
def tb : List Cond := tb_0 ++ (tb_1 ++ (tb_2 ++ (tb_3 ++ (tb_4 ++ (tb_5 ++ (tb_6 ++ (tb_7 ++ (tb_8 ++ (tb_9 ++ (tb_10 ++ (tb_11 ++ (tb_12 ++ (tb_13 ++ (tb_14 ++ (tb_15 ++ (tb_16 ++ (tb_17)))))))))))))))))
theorem tb_i0 {w : Cond} (h : w ∈ tb_0) : w ∈ tb := List.mem_append_left _ (h)
theorem tb_i1 {w : Cond} (h : w ∈ tb_1) : w ∈ tb := List.mem_append_right _ (List.mem_append_left _ (h))
theorem tb_i2 {w : Cond} (h : w ∈ tb_2) : w ∈ tb := List.mem_append_right _ (List.mem_append_right _ (List.mem_append_left _ (h)))
theorem tb_i3 {w : Cond} (h : w ∈ tb_3) : w ∈ tb := List.mem_append_right _ (List.mem_append_right _ (List.mem_append_right _ (List.mem_append_left _ (h))))
theorem tb_i4 {w : Cond} (h : w ∈ tb_4) : w ∈ tb := List.mem_append_right _ (List.mem_append_right _ (List.mem_append_right _ (List.mem_append_right _ (List.mem_append_left _ (h)))))
theorem tb_i5 {w : Cond} (h : w ∈ tb_5) : w ∈ tb := List.mem_append_right _ (List.mem_append_right _ (List.mem_append_right _ (List.mem_append_right _ (List.mem_append_right _ (List.mem_append_left _ (h))))))
theorem tb_i6 {w : Cond} (h : w ∈ tb_6) : w ∈ tb := List.mem_append_right _ (List.mem_append_right _ (List.mem_append_right _ (List.mem_append_right _ (List.mem_append_right _ (List.mem_append_right _ (List.mem_append_left _ (h)))))))
theorem tb_i7 {w : Cond} (h : w ∈ tb_7) : w ∈ tb := List.mem_append_right _ (List.mem_append_right _ (List.mem_append_right _ (List.mem_append_right _ (List.mem_append_right _ (List.mem_append_right _ (List.mem_append_right _ (List.mem_append_left _ (h))))))))
theorem tb_i8 {w : Cond} (h : w ∈ tb_8) : w ∈ tb := List.mem_append_right _ (List.mem_append_right _ (List.mem_append_right _ (List.mem_append_right _ (List.mem_append_right _ (List.mem_append_right _ (List.mem_append_right _ (List.mem_append_right _ (List.mem_append_left _ (h)))))))))
theorem tb_i9 {w : Cond} (h : w ∈ tb_9) : w ∈ tb := List.mem_append_right _ (List.mem_append_right _ (List.mem_append_right _ (List.mem_append_right _ (List.mem_append_right _ (List.mem_append_right _ (List.mem_append_right _ (List.mem_append_right _ (List.mem_append_right _ (List.mem_append_left _ (h))))))))))
theorem tb_i10 {w : Cond} (h : w ∈ tb_10) : w ∈ tb := List.mem_append_right _ (List.mem_append_right _ (List.mem_append_right _ (List.mem_append_right _ (List.mem_append_right _ (List.mem_append_right _ (List.mem_append_right _ (List.mem_append_right _ (List.mem_append_right _ (List.mem_append_right _ (List.mem_append_left _ (h)))))))))))
theorem tb_i11 {w : Cond} (h : w ∈ tb_11) : w ∈ tb := List.mem_append_right _ (List.mem_append_right _ (List.mem_append_right _ (List.mem_append_right _ (List.mem_append_right _ (List.mem_append_right _ (List.mem_append_right _ (List.mem_append_right _ (List.mem_append_right _ (List.mem_append_right _ (List.mem_append_right _ (List.mem_append_left _ (h))))))))))))
theorem tb_i12 {w : Cond} (h : w ∈ tb_12) : w ∈ tb := List.mem_append_right _ (List.mem_append_right _ (List.mem_append_right _ (List.mem_append_right _ (List.mem_append_right _ (List.mem_append_right _ (List.mem_append_right _ (List.mem_append_right _ (List.mem_append_right _ (List.mem_append_right _ (List.mem_append_right _ (List.mem_append_right _ (List.mem_append_left _ (h)))))))))))))
theorem tb_i13 {w : Cond} (h : w ∈ tb_13) : w ∈ tb := List.mem_append_right _ (List.mem_append_right _ (List.mem_append_right _ (List.mem_append_right _ (List.mem_append_right _ (List.mem_append_right _ (List.mem_append_right _ (List.mem_append_right _ (List.mem_append_right _ (List.mem_append_right _ (List.mem_append_right _ (List.mem_append_right _ (List.mem_append_right _ (List.mem_append_left _ (h))))))))))))))
theorem tb_i14 {w : Cond} (h : w ∈ tb_14) : w ∈ tb := List.mem_append_right _ (List.mem_append_right _ (List.mem_append_right _ (List.mem_append_right _ (List.mem_append_right _ (List.mem_append_right _ (List.mem_append_right _ (List.mem_append_right _ (List.mem_append_right _ (List.mem_append_right _ (List.mem_append_right _ (List.mem_append_right _ (List.mem_append_right _ (List.mem_append_right _ (List.mem_append_left _ (h)))))))))))))))
theorem tb_i15 {w : Cond} (h : w ∈ tb_15) : w ∈ tb := List.mem_append_right _ (List.mem_append_right _ (List.mem_append_right _ (List.mem_append_right _ (List.mem_append_right _ (List.mem_append_right _ (List.mem_append_right _ (List.mem_append_right _ (List.mem_append_right _ (List.mem_append_right _ (List.mem_append_right _ (List.mem_append_right _ (List.mem_append_right _ (List.mem_append_right _ (List.mem_append_right _ (List.mem_append_left _ (h))))))))))))))))
theorem tb_i16 {w : Cond} (h : w ∈ tb_16) : w ∈ tb := List.mem_append_right _ (List.mem_append_right _ (List.mem_append_right _ (List.mem_append_right _ (List.mem_append_right _ (List.mem_append_right _ (List.mem_append_right _ (List.mem_append_right _ (List.mem_append_right _ (List.mem_append_right _ (List.mem_append_right _ (List.mem_append_right _ (List.mem_append_right _ (List.mem_append_right _ (List.mem_append_right _ (List.mem_append_right _ (List.mem_append_left _ (h)))))))))))))))))
theorem tb_i17 {w : Cond} (h : w ∈ tb_17) : w ∈ tb := List.mem_append_right _ (List.mem_append_right _ (List.mem_append_right _ (List.mem_append_right _ (List.mem_append_right _ (List.mem_append_right _ (List.mem_append_right _ (List.mem_append_right _ (List.mem_append_right _ (List.mem_append_right _ (List.mem_append_right _ (List.mem_append_right _ (List.mem_append_right _ (List.mem_append_right _ (List.mem_append_right _ (List.mem_append_right _ (List.mem_append_right _ (h)))))))))))))))))
set_option maxRecDepth 100000 in
theorem wl_0 : (.methodLink R_ByteRow 3 objectInit : Cond) ∈ lw_tbl := List.mem_append_right _ (List.mem_append_left _ (List.mem_of_getElem? (i := 27) rfl))
theorem wq_0 : (.methodLink R_ByteRow 3 objectInit : Cond) ∈ tb := tb_i0 (List.mem_of_getElem? (i := 0) rfl)
set_option maxRecDepth 100000 in
theorem wl_1 : (.instanceMethod objectInit : Cond) ∈ lw_tbl := List.mem_append_right _ (List.mem_append_left _ (List.mem_of_getElem? (i := 20) rfl))
theorem wq_1 : (.instanceMethod objectInit : Cond) ∈ tb := tb_i0 (List.mem_of_getElem? (i := 1) rfl)
set_option maxRecDepth 100000 in
theorem wl_2 : (.code objectInit ⟨#[0xb1]⟩ 1 none : Cond) ∈ lw_tbl := List.mem_append_right _ (List.mem_append_left _ (List.mem_of_getElem? (i := 21) rfl))
theorem wq_2 : (.code objectInit ⟨#[0xb1]⟩ 1 none : Cond) ∈ tb := tb_i0 (List.mem_of_getElem? (i := 2) rfl)
set_option maxRecDepth 100000 in
theorem wl_3 : (.fieldLink R_ByteRow 9 "StackBytes$ByteRow" "most" "I" : Cond) ∈ lw_tbl := List.mem_append_right _ (List.mem_append_left _ (List.mem_of_getElem? (i := 28) rfl))
theorem wq_3 : (.fieldLink R_ByteRow 9 "StackBytes$ByteRow" "most" "I" : Cond) ∈ tb := tb_i0 (List.mem_of_getElem? (i := 3) rfl)
set_option maxRecDepth 100000 in
theorem wl_4 : (.arrayClass .byte : Cond) ∈ lw_tbl := List.mem_append_right _ (List.mem_append_left _ (List.mem_of_getElem? (i := 40) rfl))
theorem wq_4 : (.arrayClass .byte : Cond) ∈ tb := tb_i0 (List.mem_of_getElem? (i := 4) rfl)
set_option maxRecDepth 100000 in
theorem wl_5 : (.fieldLink R_ByteRow 15 "StackBytes$ByteRow" "row" "[B" : Cond) ∈ lw_tbl := List.mem_append_right _ (List.mem_append_left _ (List.mem_of_getElem? (i := 29) rfl))
theorem wq_5 : (.fieldLink R_ByteRow 15 "StackBytes$ByteRow" "row" "[B" : Cond) ∈ tb := tb_i0 (List.mem_of_getElem? (i := 5) rfl)
set_option maxRecDepth 100000 in
theorem wl_6 : (.fieldLink R_ByteRow 19 "StackBytes$ByteRow" "count" "I" : Cond) ∈ lw_tbl := List.mem_append_right _ (List.mem_append_left _ (List.mem_of_getElem? (i := 30) rfl))
theorem wq_6 : (.fieldLink R_ByteRow 19 "StackBytes$ByteRow" "count" "I" : Cond) ∈ tb := tb_i0 (List.mem_of_getElem? (i := 6) rfl)
set_option maxRecDepth 100000 in
theorem wl_7 : (.methodLink R_Fault 3 objectInit : Cond) ∈ lw_tbl := List.mem_append_right _ (List.mem_append_left _ (List.mem_of_getElem? (i := 46) rfl))
theorem wq_7 : (.methodLink R_Fault 3 objectInit : Cond) ∈ tb := tb_i0 (List.mem_of_getElem? (i := 7) rfl)
set_option maxRecDepth 100000 in
theorem wl_8 : (.fieldLink R_Fault 9 "StackBytes$Fault" "kind" "I" : Cond) ∈ lw_tbl := List.mem_append_right _ (List.mem_append_left _ (List.mem_of_getElem? (i := 47) rfl))
theorem wq_8 : (.fieldLink R_Fault 9 "StackBytes$Fault" "kind" "I" : Cond) ∈ tb := tb_i0 (List.mem_of_getElem? (i := 8) rfl)
set_option maxRecDepth 100000 in
theorem wl_9 : (.fieldLink R_Fault 15 "StackBytes$Fault" "place" "I" : Cond) ∈ lw_tbl := List.mem_append_right _ (List.mem_append_left _ (List.mem_of_getElem? (i := 51) rfl))
theorem wq_9 : (.fieldLink R_Fault 15 "StackBytes$Fault" "place" "I" : Cond) ∈ tb := tb_i0 (List.mem_of_getElem? (i := 9) rfl)
set_option maxRecDepth 100000 in
theorem wl_10 : (.methodLink R_Verifier 3 objectInit : Cond) ∈ lw_tbl := List.mem_append_right _ (List.mem_append_left _ (List.mem_of_getElem? (i := 63) rfl))
theorem wq_10 : (.methodLink R_Verifier 3 objectInit : Cond) ∈ tb := tb_i0 (List.mem_of_getElem? (i := 10) rfl)
set_option maxRecDepth 100000 in
theorem wl_11 : (.arrayClass .int : Cond) ∈ lw_tbl := List.mem_append_right _ (List.mem_append_left _ (List.mem_of_getElem? (i := 98) rfl))
theorem wq_11 : (.arrayClass .int : Cond) ∈ tb := tb_i0 (List.mem_of_getElem? (i := 11) rfl)
set_option maxRecDepth 100000 in
theorem wl_12 : (.fieldLink R_Verifier 9 "StackBytes$Verifier" "depths" "[I" : Cond) ∈ lw_tbl := List.mem_append_right _ (List.mem_append_left _ (List.mem_of_getElem? (i := 64) rfl))
theorem wq_12 : (.fieldLink R_Verifier 9 "StackBytes$Verifier" "depths" "[I" : Cond) ∈ tb := tb_i0 (List.mem_of_getElem? (i := 12) rfl)
set_option maxRecDepth 100000 in
theorem wl_13 : (.fieldLink R_Verifier 15 "StackBytes$Verifier" "rowsOnStack" "[I" : Cond) ∈ lw_tbl := List.mem_append_right _ (List.mem_append_left _ (List.mem_of_getElem? (i := 65) rfl))
theorem wq_13 : (.fieldLink R_Verifier 15 "StackBytes$Verifier" "rowsOnStack" "[I" : Cond) ∈ tb := tb_i0 (List.mem_of_getElem? (i := 13) rfl)
set_option maxRecDepth 100000 in
theorem wl_14 : (.arrayClass .boolean : Cond) ∈ lw_tbl := List.mem_append_right _ (List.mem_append_left _ (List.mem_of_getElem? (i := 99) rfl))
theorem wq_14 : (.arrayClass .boolean : Cond) ∈ tb := tb_i0 (List.mem_of_getElem? (i := 14) rfl)
set_option maxRecDepth 100000 in
theorem wl_15 : (.fieldLink R_Verifier 18 "StackBytes$Verifier" "waits" "[Z" : Cond) ∈ lw_tbl := List.mem_append_right _ (List.mem_append_left _ (List.mem_of_getElem? (i := 66) rfl))
theorem wq_15 : (.fieldLink R_Verifier 18 "StackBytes$Verifier" "waits" "[Z" : Cond) ∈ tb := tb_i0 (List.mem_of_getElem? (i := 15) rfl)
set_option maxRecDepth 100000 in
theorem wl_16 : (.methodLink R_Handler 1 objectInit : Cond) ∈ lw_tbl := List.mem_append_right _ (List.mem_append_left _ (List.mem_of_getElem? (i := 119) rfl))
theorem wq_16 : (.methodLink R_Handler 1 objectInit : Cond) ∈ tb := tb_i0 (List.mem_of_getElem? (i := 16) rfl)
set_option maxRecDepth 100000 in
theorem wl_17 : (.methodLink R_Function 3 objectInit : Cond) ∈ lw_tbl := List.mem_append_right _ (List.mem_append_left _ (List.mem_of_getElem? (i := 112) rfl))
theorem wq_17 : (.methodLink R_Function 3 objectInit : Cond) ∈ tb := tb_i0 (List.mem_of_getElem? (i := 17) rfl)
set_option maxRecDepth 100000 in
theorem wl_18 : (.fieldLink R_Function 9 "StackBytes$Function" "ops" "[I" : Cond) ∈ lw_tbl := List.mem_append_right _ (List.mem_append_left _ (List.mem_of_getElem? (i := 173) rfl))
theorem wq_18 : (.fieldLink R_Function 9 "StackBytes$Function" "ops" "[I" : Cond) ∈ tb := tb_i0 (List.mem_of_getElem? (i := 18) rfl)
set_option maxRecDepth 100000 in
theorem wl_19 : (.fieldLink R_Function 15 "StackBytes$Function" "behinds" "[I" : Cond) ∈ lw_tbl := List.mem_append_right _ (List.mem_append_left _ (List.mem_of_getElem? (i := 177) rfl))
theorem wq_19 : (.fieldLink R_Function 15 "StackBytes$Function" "behinds" "[I" : Cond) ∈ tb := tb_i0 (List.mem_of_getElem? (i := 19) rfl)
set_option maxRecDepth 100000 in
theorem wl_20 : (.fieldLink R_Function 18 "StackBytes$Function" "depths" "[I" : Cond) ∈ lw_tbl := List.mem_append_right _ (List.mem_append_left _ (List.mem_of_getElem? (i := 181) rfl))
theorem wq_20 : (.fieldLink R_Function 18 "StackBytes$Function" "depths" "[I" : Cond) ∈ tb := tb_i0 (List.mem_of_getElem? (i := 20) rfl)
set_option maxRecDepth 100000 in
theorem wl_21 : (.fieldLink R_Function 21 "StackBytes$Function" "rowsOnStack" "[I" : Cond) ∈ lw_tbl := List.mem_append_right _ (List.mem_append_left _ (List.mem_of_getElem? (i := 184) rfl))
theorem wq_21 : (.fieldLink R_Function 21 "StackBytes$Function" "rowsOnStack" "[I" : Cond) ∈ tb := tb_i0 (List.mem_of_getElem? (i := 21) rfl)
set_option maxRecDepth 100000 in
theorem wl_22 : (.classLink R_Function 24 R_Handler : Cond) ∈ lw_tbl := List.mem_append_right _ (List.mem_append_left _ (List.mem_of_getElem? (i := 113) rfl))
theorem wq_22 : (.classLink R_Function 24 R_Handler : Cond) ∈ tb := tb_i0 (List.mem_of_getElem? (i := 22) rfl)
set_option maxRecDepth 100000 in
theorem wl_23 : (.fieldLink R_Function 26 "StackBytes$Function" "handlers" "[LStackBytes$Handler;" : Cond) ∈ lw_tbl := List.mem_append_right _ (List.mem_append_left _ (List.mem_of_getElem? (i := 187) rfl))
theorem wq_23 : (.fieldLink R_Function 26 "StackBytes$Function" "handlers" "[LStackBytes$Handler;" : Cond) ∈ tb := tb_i0 (List.mem_of_getElem? (i := 23) rfl)
set_option maxRecDepth 100000 in
theorem wl_24 : (.fieldLink R_Function 30 "StackBytes$Function" "count" "I" : Cond) ∈ lw_tbl := List.mem_append_right _ (List.mem_append_left _ (List.mem_of_getElem? (i := 163) rfl))
theorem wq_24 : (.fieldLink R_Function 30 "StackBytes$Function" "count" "I" : Cond) ∈ tb := tb_i0 (List.mem_of_getElem? (i := 24) rfl)
set_option maxRecDepth 100000 in
theorem wl_25 : (.instantiable R_Handler 5 : Cond) ∈ lw_tbl := List.mem_append_right _ (List.mem_append_left _ (List.mem_of_getElem? (i := 115) rfl))
theorem wq_25 : (.instantiable R_Handler 5 : Cond) ∈ tb := tb_i0 (List.mem_of_getElem? (i := 25) rfl)
set_option maxRecDepth 100000 in
theorem wl_26 : (.initialized R_Handler : Cond) ∈ lw_tbl := List.mem_append_right _ (List.mem_append_left _ (List.mem_of_getElem? (i := 7) rfl))
theorem wq_26 : (.initialized R_Handler : Cond) ∈ tb := tb_i0 (List.mem_of_getElem? (i := 26) rfl)
set_option maxRecDepth 100000 in
theorem wl_27 : (.code y_Handler_init b_Handler_init 1 none : Cond) ∈ lw_tbl := List.mem_append_right _ (List.mem_append_left _ (List.mem_of_getElem? (i := 118) rfl))
theorem wq_27 : (.code y_Handler_init b_Handler_init 1 none : Cond) ∈ tb := tb_i0 (List.mem_of_getElem? (i := 27) rfl)
set_option maxRecDepth 100000 in
theorem wl_28 : (.instanceMethod y_Handler_init : Cond) ∈ lw_tbl := List.mem_append_right _ (List.mem_append_left _ (List.mem_of_getElem? (i := 117) rfl))
theorem wq_28 : (.instanceMethod y_Handler_init : Cond) ∈ tb := tb_i0 (List.mem_of_getElem? (i := 28) rfl)
set_option maxRecDepth 100000 in
theorem wl_29 : (.methodLink R_Program 3 objectInit : Cond) ∈ lw_tbl := List.mem_append_right _ (List.mem_append_left _ (List.mem_of_getElem? (i := 105) rfl))
theorem wq_29 : (.methodLink R_Program 3 objectInit : Cond) ∈ tb := tb_i0 (List.mem_of_getElem? (i := 29) rfl)
set_option maxRecDepth 100000 in
theorem wl_30 : (.classLink R_Program 9 R_Function : Cond) ∈ lw_tbl := List.mem_append_right _ (List.mem_append_left _ (List.mem_of_getElem? (i := 106) rfl))
theorem wq_30 : (.classLink R_Program 9 R_Function : Cond) ∈ tb := tb_i0 (List.mem_of_getElem? (i := 30) rfl)
set_option maxRecDepth 100000 in
theorem wl_31 : (.fieldLink R_Program 11 "StackBytes$Program" "functions" "[LStackBytes$Function;" : Cond) ∈ lw_tbl := List.mem_append_right _ (List.mem_append_left _ (List.mem_of_getElem? (i := 214) rfl))
theorem wq_31 : (.fieldLink R_Program 11 "StackBytes$Program" "functions" "[LStackBytes$Function;" : Cond) ∈ tb := tb_i0 (List.mem_of_getElem? (i := 31) rfl)
set_option maxRecDepth 100000 in
theorem wl_32 : (.instantiable R_Function 11 : Cond) ∈ lw_tbl := List.mem_append_right _ (List.mem_append_left _ (List.mem_of_getElem? (i := 108) rfl))
theorem wq_32 : (.instantiable R_Function 11 : Cond) ∈ tb := tb_i0 (List.mem_of_getElem? (i := 32) rfl)
set_option maxRecDepth 100000 in
theorem wl_33 : (.initialized R_Function : Cond) ∈ lw_tbl := List.mem_append_right _ (List.mem_append_left _ (List.mem_of_getElem? (i := 6) rfl))
theorem wq_33 : (.initialized R_Function : Cond) ∈ tb := tb_i0 (List.mem_of_getElem? (i := 33) rfl)
set_option maxRecDepth 100000 in
theorem wl_34 : (.code y_Function_init b_Function_init 2 none : Cond) ∈ lw_tbl := List.mem_append_right _ (List.mem_append_left _ (List.mem_of_getElem? (i := 111) rfl))
theorem wq_34 : (.code y_Function_init b_Function_init 2 none : Cond) ∈ tb := tb_i0 (List.mem_of_getElem? (i := 34) rfl)
set_option maxRecDepth 100000 in
theorem wl_35 : (.fieldLink R_Program 18 "StackBytes$Program" "count" "I" : Cond) ∈ lw_tbl := List.mem_append_right _ (List.mem_append_left _ (List.mem_of_getElem? (i := 216) rfl))
theorem wq_35 : (.fieldLink R_Program 18 "StackBytes$Program" "count" "I" : Cond) ∈ tb := tb_i0 (List.mem_of_getElem? (i := 35) rfl)
set_option maxRecDepth 100000 in
theorem wl_36 : (.methodLink R_Program 17 y_Function_init : Cond) ∈ lw_tbl := List.mem_append_right _ (List.mem_append_left _ (List.mem_of_getElem? (i := 109) rfl))
theorem wq_36 : (.methodLink R_Program 17 y_Function_init : Cond) ∈ tb := tb_i0 (List.mem_of_getElem? (i := 36) rfl)
set_option maxRecDepth 100000 in
theorem wl_37 : (.instanceMethod y_Function_init : Cond) ∈ lw_tbl := List.mem_append_right _ (List.mem_append_left _ (List.mem_of_getElem? (i := 110) rfl))
theorem wq_37 : (.instanceMethod y_Function_init : Cond) ∈ tb := tb_i0 (List.mem_of_getElem? (i := 37) rfl)
set_option maxRecDepth 100000 in
theorem wl_38 : (.methodLink R_SB 3 objectInit : Cond) ∈ lw_tbl := List.mem_append_right _ (List.mem_append_left _ (List.mem_of_getElem? (i := 19) rfl))
theorem wq_38 : (.methodLink R_SB 3 objectInit : Cond) ∈ tb := tb_i0 (List.mem_of_getElem? (i := 38) rfl)
set_option maxRecDepth 100000 in
theorem wl_39 : (.classLink R_SB 9 R_ByteRow : Cond) ∈ lw_tbl := List.mem_append_right _ (List.mem_append_left _ (List.mem_of_getElem? (i := 22) rfl))
theorem wq_39 : (.classLink R_SB 9 R_ByteRow : Cond) ∈ tb := tb_i0 (List.mem_of_getElem? (i := 39) rfl)
set_option maxRecDepth 100000 in
theorem wl_40 : (.instantiable R_ByteRow 3 : Cond) ∈ lw_tbl := List.mem_append_right _ (List.mem_append_left _ (List.mem_of_getElem? (i := 23) rfl))
theorem wq_40 : (.instantiable R_ByteRow 3 : Cond) ∈ tb := tb_i1 (List.mem_of_getElem? (i := 0) rfl)
set_option maxRecDepth 100000 in
theorem wl_41 : (.initialized R_ByteRow : Cond) ∈ lw_tbl := List.mem_append_right _ (List.mem_append_left _ (List.mem_of_getElem? (i := 2) rfl))
theorem wq_41 : (.initialized R_ByteRow : Cond) ∈ tb := tb_i1 (List.mem_of_getElem? (i := 1) rfl)
set_option maxRecDepth 100000 in
theorem wl_42 : (.code y_ByteRow_init b_ByteRow_init 2 none : Cond) ∈ lw_tbl := List.mem_append_right _ (List.mem_append_left _ (List.mem_of_getElem? (i := 26) rfl))
theorem wq_42 : (.code y_ByteRow_init b_ByteRow_init 2 none : Cond) ∈ tb := tb_i1 (List.mem_of_getElem? (i := 2) rfl)
set_option maxRecDepth 100000 in
theorem wl_43 : (.fieldLink R_SB 14 "StackBytes" "bytes" "LStackBytes$ByteRow;" : Cond) ∈ lw_tbl := List.mem_append_right _ (List.mem_append_left _ (List.mem_of_getElem? (i := 224) rfl))
theorem wq_43 : (.fieldLink R_SB 14 "StackBytes" "bytes" "LStackBytes$ByteRow;" : Cond) ∈ tb := tb_i1 (List.mem_of_getElem? (i := 3) rfl)
set_option maxRecDepth 100000 in
theorem wl_44 : (.fieldLink R_SB 18 "StackBytes" "written" "LStackBytes$ByteRow;" : Cond) ∈ lw_tbl := List.mem_append_right _ (List.mem_append_left _ (List.mem_of_getElem? (i := 225) rfl))
theorem wq_44 : (.fieldLink R_SB 18 "StackBytes" "written" "LStackBytes$ByteRow;" : Cond) ∈ tb := tb_i1 (List.mem_of_getElem? (i := 4) rfl)
set_option maxRecDepth 100000 in
theorem wl_45 : (.classLink R_SB 21 R_Fault : Cond) ∈ lw_tbl := List.mem_append_right _ (List.mem_append_left _ (List.mem_of_getElem? (i := 41) rfl))
theorem wq_45 : (.classLink R_SB 21 R_Fault : Cond) ∈ tb := tb_i1 (List.mem_of_getElem? (i := 5) rfl)
set_option maxRecDepth 100000 in
theorem wl_46 : (.instantiable R_Fault 2 : Cond) ∈ lw_tbl := List.mem_append_right _ (List.mem_append_left _ (List.mem_of_getElem? (i := 42) rfl))
theorem wq_46 : (.instantiable R_Fault 2 : Cond) ∈ tb := tb_i1 (List.mem_of_getElem? (i := 6) rfl)
set_option maxRecDepth 100000 in
theorem wl_47 : (.initialized R_Fault : Cond) ∈ lw_tbl := List.mem_append_right _ (List.mem_append_left _ (List.mem_of_getElem? (i := 3) rfl))
theorem wq_47 : (.initialized R_Fault : Cond) ∈ tb := tb_i1 (List.mem_of_getElem? (i := 7) rfl)
set_option maxRecDepth 100000 in
theorem wl_48 : (.code y_Fault_init b_Fault_init 1 none : Cond) ∈ lw_tbl := List.mem_append_right _ (List.mem_append_left _ (List.mem_of_getElem? (i := 45) rfl))
theorem wq_48 : (.code y_Fault_init b_Fault_init 1 none : Cond) ∈ tb := tb_i1 (List.mem_of_getElem? (i := 8) rfl)
set_option maxRecDepth 100000 in
theorem wl_49 : (.fieldLink R_SB 24 "StackBytes" "latest" "LStackBytes$Fault;" : Cond) ∈ lw_tbl := List.mem_append_right _ (List.mem_append_left _ (List.mem_of_getElem? (i := 226) rfl))
theorem wq_49 : (.fieldLink R_SB 24 "StackBytes" "latest" "LStackBytes$Fault;" : Cond) ∈ tb := tb_i1 (List.mem_of_getElem? (i := 9) rfl)
set_option maxRecDepth 100000 in
theorem wl_50 : (.classLink R_SB 28 R_Verifier : Cond) ∈ lw_tbl := List.mem_append_right _ (List.mem_append_left _ (List.mem_of_getElem? (i := 58) rfl))
theorem wq_50 : (.classLink R_SB 28 R_Verifier : Cond) ∈ tb := tb_i1 (List.mem_of_getElem? (i := 10) rfl)
set_option maxRecDepth 100000 in
theorem wl_51 : (.instantiable R_Verifier 11 : Cond) ∈ lw_tbl := List.mem_append_right _ (List.mem_append_left _ (List.mem_of_getElem? (i := 59) rfl))
theorem wq_51 : (.instantiable R_Verifier 11 : Cond) ∈ tb := tb_i1 (List.mem_of_getElem? (i := 11) rfl)
set_option maxRecDepth 100000 in
theorem wl_52 : (.initialized R_Verifier : Cond) ∈ lw_tbl := List.mem_append_right _ (List.mem_append_left _ (List.mem_of_getElem? (i := 4) rfl))
theorem wq_52 : (.initialized R_Verifier : Cond) ∈ tb := tb_i1 (List.mem_of_getElem? (i := 12) rfl)
set_option maxRecDepth 100000 in
theorem wl_53 : (.code y_Verifier_init b_Verifier_init 1 none : Cond) ∈ lw_tbl := List.mem_append_right _ (List.mem_append_left _ (List.mem_of_getElem? (i := 62) rfl))
theorem wq_53 : (.code y_Verifier_init b_Verifier_init 1 none : Cond) ∈ tb := tb_i1 (List.mem_of_getElem? (i := 13) rfl)
set_option maxRecDepth 100000 in
theorem wl_54 : (.fieldLink R_SB 31 "StackBytes" "verifier" "LStackBytes$Verifier;" : Cond) ∈ lw_tbl := List.mem_append_right _ (List.mem_append_left _ (List.mem_of_getElem? (i := 227) rfl))
theorem wq_54 : (.fieldLink R_SB 31 "StackBytes" "verifier" "LStackBytes$Verifier;" : Cond) ∈ tb := tb_i1 (List.mem_of_getElem? (i := 14) rfl)
set_option maxRecDepth 100000 in
theorem wl_55 : (.classLink R_SB 35 R_Program : Cond) ∈ lw_tbl := List.mem_append_right _ (List.mem_append_left _ (List.mem_of_getElem? (i := 100) rfl))
theorem wq_55 : (.classLink R_SB 35 R_Program : Cond) ∈ tb := tb_i1 (List.mem_of_getElem? (i := 15) rfl)
set_option maxRecDepth 100000 in
theorem wl_56 : (.instantiable R_Program 2 : Cond) ∈ lw_tbl := List.mem_append_right _ (List.mem_append_left _ (List.mem_of_getElem? (i := 101) rfl))
theorem wq_56 : (.instantiable R_Program 2 : Cond) ∈ tb := tb_i1 (List.mem_of_getElem? (i := 16) rfl)
set_option maxRecDepth 100000 in
theorem wl_57 : (.initialized R_Program : Cond) ∈ lw_tbl := List.mem_append_right _ (List.mem_append_left _ (List.mem_of_getElem? (i := 5) rfl))
theorem wq_57 : (.initialized R_Program : Cond) ∈ tb := tb_i1 (List.mem_of_getElem? (i := 17) rfl)
set_option maxRecDepth 100000 in
theorem wl_58 : (.code y_Program_init b_Program_init 1 none : Cond) ∈ lw_tbl := List.mem_append_right _ (List.mem_append_left _ (List.mem_of_getElem? (i := 104) rfl))
theorem wq_58 : (.code y_Program_init b_Program_init 1 none : Cond) ∈ tb := tb_i1 (List.mem_of_getElem? (i := 18) rfl)
set_option maxRecDepth 100000 in
theorem wl_59 : (.fieldLink R_SB 38 "StackBytes" "program" "LStackBytes$Program;" : Cond) ∈ lw_tbl := List.mem_append_right _ (List.mem_append_left _ (List.mem_of_getElem? (i := 228) rfl))
theorem wq_59 : (.fieldLink R_SB 38 "StackBytes" "program" "LStackBytes$Program;" : Cond) ∈ tb := tb_i1 (List.mem_of_getElem? (i := 19) rfl)
set_option maxRecDepth 100000 in
theorem wl_60 : (.fieldLink R_SB 42 "StackBytes" "spare" "LStackBytes$Program;" : Cond) ∈ lw_tbl := List.mem_append_right _ (List.mem_append_left _ (List.mem_of_getElem? (i := 229) rfl))
theorem wq_60 : (.fieldLink R_SB 42 "StackBytes" "spare" "LStackBytes$Program;" : Cond) ∈ tb := tb_i1 (List.mem_of_getElem? (i := 20) rfl)
set_option maxRecDepth 100000 in
theorem wl_61 : (.methodLink R_SB 37 y_Program_init : Cond) ∈ lw_tbl := List.mem_append_right _ (List.mem_append_left _ (List.mem_of_getElem? (i := 102) rfl))
theorem wq_61 : (.methodLink R_SB 37 y_Program_init : Cond) ∈ tb := tb_i1 (List.mem_of_getElem? (i := 21) rfl)
set_option maxRecDepth 100000 in
theorem wl_62 : (.instanceMethod y_Program_init : Cond) ∈ lw_tbl := List.mem_append_right _ (List.mem_append_left _ (List.mem_of_getElem? (i := 103) rfl))
theorem wq_62 : (.instanceMethod y_Program_init : Cond) ∈ tb := tb_i1 (List.mem_of_getElem? (i := 22) rfl)
set_option maxRecDepth 100000 in
theorem wl_63 : (.instanceMethod y_Verifier_init : Cond) ∈ lw_tbl := List.mem_append_right _ (List.mem_append_left _ (List.mem_of_getElem? (i := 61) rfl))
theorem wq_63 : (.instanceMethod y_Verifier_init : Cond) ∈ tb := tb_i1 (List.mem_of_getElem? (i := 23) rfl)
set_option maxRecDepth 100000 in
theorem wl_64 : (.methodLink R_SB 23 y_Fault_init : Cond) ∈ lw_tbl := List.mem_append_right _ (List.mem_append_left _ (List.mem_of_getElem? (i := 43) rfl))
theorem wq_64 : (.methodLink R_SB 23 y_Fault_init : Cond) ∈ tb := tb_i1 (List.mem_of_getElem? (i := 24) rfl)
set_option maxRecDepth 100000 in
theorem wl_65 : (.instanceMethod y_Fault_init : Cond) ∈ lw_tbl := List.mem_append_right _ (List.mem_append_left _ (List.mem_of_getElem? (i := 44) rfl))
theorem wq_65 : (.instanceMethod y_Fault_init : Cond) ∈ tb := tb_i1 (List.mem_of_getElem? (i := 25) rfl)
set_option maxRecDepth 100000 in
theorem wl_66 : (.methodLink R_SB 11 y_ByteRow_init : Cond) ∈ lw_tbl := List.mem_append_right _ (List.mem_append_left _ (List.mem_of_getElem? (i := 24) rfl))
theorem wq_66 : (.methodLink R_SB 11 y_ByteRow_init : Cond) ∈ tb := tb_i1 (List.mem_of_getElem? (i := 26) rfl)
set_option maxRecDepth 100000 in
theorem wl_67 : (.instanceMethod y_ByteRow_init : Cond) ∈ lw_tbl := List.mem_append_right _ (List.mem_append_left _ (List.mem_of_getElem? (i := 25) rfl))
theorem wq_67 : (.instanceMethod y_ByteRow_init : Cond) ∈ tb := tb_i1 (List.mem_of_getElem? (i := 27) rfl)
set_option maxRecDepth 100000 in
theorem wl_68 : (.methodLink R_Ar 304 Lib.Math.min.name : Cond) ∈ lw_tbl := List.mem_append_right _ (List.mem_append_right _ (List.mem_append_left _ (List.mem_of_getElem? (i := 31) rfl)))
theorem wq_68 : (.methodLink R_Ar 304 Lib.Math.min.name : Cond) ∈ tb := tb_i1 (List.mem_of_getElem? (i := 28) rfl)
set_option maxRecDepth 100000 in
theorem wl_69 : (.static Lib.Math.min.name : Cond) ∈ lw_tbl := List.mem_append_right _ (List.mem_append_right _ (List.mem_append_left _ (List.mem_of_getElem? (i := 16) rfl)))
theorem wq_69 : (.static Lib.Math.min.name : Cond) ∈ tb := tb_i1 (List.mem_of_getElem? (i := 29) rfl)
set_option maxRecDepth 100000 in
theorem wl_70 : (.initialized "java/lang/Math" : Cond) ∈ lw_tbl := List.mem_append_right _ (List.mem_append_left _ (List.mem_of_getElem? (i := 9) rfl))
theorem wq_70 : (.initialized "java/lang/Math" : Cond) ∈ tb := tb_i1 (List.mem_of_getElem? (i := 30) rfl)
set_option maxRecDepth 100000 in
theorem wl_71 : (.code Lib.Math.min.name Lib.Math.min.code 2 (some .int) : Cond) ∈ lw_tbl := List.mem_append_right _ (List.mem_append_right _ (List.mem_append_left _ (List.mem_of_getElem? (i := 17) rfl)))
theorem wq_71 : (.code Lib.Math.min.name Lib.Math.min.code 2 (some .int) : Cond) ∈ tb := tb_i1 (List.mem_of_getElem? (i := 31) rfl)
set_option maxRecDepth 100000 in
theorem wl_72 : (.methodLink R_Ar 150 arraycopyName : Cond) ∈ lw_tbl := List.mem_append_right _ (List.mem_append_right _ (List.mem_append_left _ (List.mem_of_getElem? (i := 32) rfl)))
theorem wq_72 : (.methodLink R_Ar 150 arraycopyName : Cond) ∈ tb := tb_i1 (List.mem_of_getElem? (i := 32) rfl)
set_option maxRecDepth 100000 in
theorem wl_73 : (.native arraycopyName : Cond) ∈ lw_tbl := List.mem_append_right _ (List.mem_append_right _ (List.mem_append_left _ (List.mem_of_getElem? (i := 34) rfl)))
theorem wq_73 : (.native arraycopyName : Cond) ∈ tb := tb_i1 (List.mem_of_getElem? (i := 33) rfl)
set_option maxRecDepth 100000 in
theorem wl_74 : (.static arraycopyName : Cond) ∈ lw_tbl := List.mem_append_right _ (List.mem_append_right _ (List.mem_append_left _ (List.mem_of_getElem? (i := 33) rfl)))
theorem wq_74 : (.static arraycopyName : Cond) ∈ tb := tb_i1 (List.mem_of_getElem? (i := 34) rfl)
set_option maxRecDepth 100000 in
theorem wl_75 : (.initialized "java/lang/System" : Cond) ∈ lw_tbl := List.mem_append_right _ (List.mem_append_left _ (List.mem_of_getElem? (i := 11) rfl))
theorem wq_75 : (.initialized "java/lang/System" : Cond) ∈ tb := tb_i1 (List.mem_of_getElem? (i := 35) rfl)
set_option maxRecDepth 100000 in
theorem wl_76 : (.methodLink R_ByteRow 32 Lib.Math.min.name : Cond) ∈ lw_tbl := List.mem_append_right _ (List.mem_append_right _ (List.mem_append_left _ (List.mem_of_getElem? (i := 15) rfl)))
theorem wq_76 : (.methodLink R_ByteRow 32 Lib.Math.min.name : Cond) ∈ tb := tb_i1 (List.mem_of_getElem? (i := 36) rfl)
set_option maxRecDepth 100000 in
theorem wl_77 : (.methodLink R_ByteRow 38 Lib.Math.max.name : Cond) ∈ lw_tbl := List.mem_append_right _ (List.mem_append_right _ (List.mem_append_left _ (List.mem_of_getElem? (i := 18) rfl)))
theorem wq_77 : (.methodLink R_ByteRow 38 Lib.Math.max.name : Cond) ∈ tb := tb_i1 (List.mem_of_getElem? (i := 37) rfl)
set_option maxRecDepth 100000 in
theorem wl_78 : (.static Lib.Math.max.name : Cond) ∈ lw_tbl := List.mem_append_right _ (List.mem_append_right _ (List.mem_append_left _ (List.mem_of_getElem? (i := 19) rfl)))
theorem wq_78 : (.static Lib.Math.max.name : Cond) ∈ tb := tb_i1 (List.mem_of_getElem? (i := 38) rfl)
set_option maxRecDepth 100000 in
theorem wl_79 : (.code Lib.Math.max.name Lib.Math.max.code 2 (some .int) : Cond) ∈ lw_tbl := List.mem_append_right _ (List.mem_append_right _ (List.mem_append_left _ (List.mem_of_getElem? (i := 20) rfl)))
theorem wq_79 : (.code Lib.Math.max.name Lib.Math.max.code 2 (some .int) : Cond) ∈ tb := tb_i1 (List.mem_of_getElem? (i := 39) rfl)
set_option maxRecDepth 100000 in
theorem wl_80 : (.code y_Ar_copyOf b_Ar_copyOf 3 (some (.array .byte)) : Cond) ∈ lw_tbl := List.mem_append_right _ (List.mem_append_right _ (List.mem_append_left _ (List.mem_of_getElem? (i := 23) rfl)))
theorem wq_80 : (.code y_Ar_copyOf b_Ar_copyOf 3 (some (.array .byte)) : Cond) ∈ tb := tb_i2 (List.mem_of_getElem? (i := 0) rfl)
set_option maxRecDepth 100000 in
theorem wl_81 : (.methodLink R_ByteRow 41 y_Ar_copyOf : Cond) ∈ lw_tbl := List.mem_append_right _ (List.mem_append_right _ (List.mem_append_left _ (List.mem_of_getElem? (i := 21) rfl)))
theorem wq_81 : (.methodLink R_ByteRow 41 y_Ar_copyOf : Cond) ∈ tb := tb_i2 (List.mem_of_getElem? (i := 1) rfl)
set_option maxRecDepth 100000 in
theorem wl_82 : (.static y_Ar_copyOf : Cond) ∈ lw_tbl := List.mem_append_right _ (List.mem_append_right _ (List.mem_append_left _ (List.mem_of_getElem? (i := 22) rfl)))
theorem wq_82 : (.static y_Ar_copyOf : Cond) ∈ tb := tb_i2 (List.mem_of_getElem? (i := 2) rfl)
set_option maxRecDepth 100000 in
theorem wl_83 : (.initialized R_Ar : Cond) ∈ lw_tbl := List.mem_append_right _ (List.mem_append_left _ (List.mem_of_getElem? (i := 10) rfl))
theorem wq_83 : (.initialized R_Ar : Cond) ∈ tb := tb_i2 (List.mem_of_getElem? (i := 3) rfl)
set_option maxRecDepth 100000 in
theorem wl_84 : (.code y_ByteRow_makeRoom b_ByteRow_makeRoom 2 none : Cond) ∈ lw_tbl := List.mem_append_right _ (List.mem_append_right _ (List.mem_append_left _ (List.mem_of_getElem? (i := 14) rfl)))
theorem wq_84 : (.code y_ByteRow_makeRoom b_ByteRow_makeRoom 2 none : Cond) ∈ tb := tb_i2 (List.mem_of_getElem? (i := 4) rfl)
set_option maxRecDepth 100000 in
theorem wl_85 : (.methodLink R_ByteRow 22 y_ByteRow_makeRoom : Cond) ∈ lw_tbl := List.mem_append_right _ (List.mem_append_right _ (List.mem_append_left _ (List.mem_of_getElem? (i := 11) rfl)))
theorem wq_85 : (.methodLink R_ByteRow 22 y_ByteRow_makeRoom : Cond) ∈ tb := tb_i2 (List.mem_of_getElem? (i := 5) rfl)
set_option maxRecDepth 100000 in
theorem wl_86 : (.instanceMethod y_ByteRow_makeRoom : Cond) ∈ lw_tbl := List.mem_append_right _ (List.mem_append_right _ (List.mem_append_left _ (List.mem_of_getElem? (i := 13) rfl)))
theorem wq_86 : (.instanceMethod y_ByteRow_makeRoom : Cond) ∈ tb := tb_i2 (List.mem_of_getElem? (i := 6) rfl)
set_option maxRecDepth 100000 in
theorem wl_87 : (.selects R_ByteRow y_ByteRow_makeRoom y_ByteRow_makeRoom : Cond) ∈ lw_tbl := List.mem_append_left _ (List.mem_of_getElem? (i := 0) rfl)
theorem wq_87 : (.selects R_ByteRow y_ByteRow_makeRoom y_ByteRow_makeRoom : Cond) ∈ tb := tb_i2 (List.mem_of_getElem? (i := 7) rfl)
set_option maxRecDepth 100000 in
theorem wl_88 : (.code y_ByteRow_add b_ByteRow_add 5 (some .boolean) : Cond) ∈ lw_tbl := List.mem_append_right _ (List.mem_append_right _ (List.mem_append_left _ (List.mem_of_getElem? (i := 10) rfl)))
theorem wq_88 : (.code y_ByteRow_add b_ByteRow_add 5 (some .boolean) : Cond) ∈ tb := tb_i2 (List.mem_of_getElem? (i := 8) rfl)
set_option maxRecDepth 100000 in
theorem wl_89 : (.methodLink R_SB 45 y_ByteRow_add : Cond) ∈ lw_tbl := List.mem_append_right _ (List.mem_append_right _ (List.mem_append_left _ (List.mem_of_getElem? (i := 7) rfl)))
theorem wq_89 : (.methodLink R_SB 45 y_ByteRow_add : Cond) ∈ tb := tb_i2 (List.mem_of_getElem? (i := 9) rfl)
set_option maxRecDepth 100000 in
theorem wl_90 : (.instanceMethod y_ByteRow_add : Cond) ∈ lw_tbl := List.mem_append_right _ (List.mem_append_right _ (List.mem_append_left _ (List.mem_of_getElem? (i := 8) rfl)))
theorem wq_90 : (.instanceMethod y_ByteRow_add : Cond) ∈ tb := tb_i2 (List.mem_of_getElem? (i := 10) rfl)
set_option maxRecDepth 100000 in
theorem wl_91 : (.selects R_ByteRow y_ByteRow_add y_ByteRow_add : Cond) ∈ lw_tbl := List.mem_append_right _ (List.mem_append_right _ (List.mem_append_left _ (List.mem_of_getElem? (i := 9) rfl)))
theorem wq_91 : (.selects R_ByteRow y_ByteRow_add y_ByteRow_add : Cond) ∈ tb := tb_i2 (List.mem_of_getElem? (i := 11) rfl)
set_option maxRecDepth 100000 in
theorem wl_92 : (.code y_ByteRow_keepFirst b_ByteRow_keepFirst 2 (some .boolean) : Cond) ∈ lw_tbl := List.mem_append_right _ (List.mem_append_right _ (List.mem_append_left _ (List.mem_of_getElem? (i := 42) rfl)))
theorem wq_92 : (.code y_ByteRow_keepFirst b_ByteRow_keepFirst 2 (some .boolean) : Cond) ∈ tb := tb_i2 (List.mem_of_getElem? (i := 12) rfl)
set_option maxRecDepth 100000 in
theorem wl_93 : (.methodLink R_SB 49 y_ByteRow_keepFirst : Cond) ∈ lw_tbl := List.mem_append_right _ (List.mem_append_right _ (List.mem_append_left _ (List.mem_of_getElem? (i := 39) rfl)))
theorem wq_93 : (.methodLink R_SB 49 y_ByteRow_keepFirst : Cond) ∈ tb := tb_i2 (List.mem_of_getElem? (i := 13) rfl)
set_option maxRecDepth 100000 in
theorem wl_94 : (.instanceMethod y_ByteRow_keepFirst : Cond) ∈ lw_tbl := List.mem_append_right _ (List.mem_append_right _ (List.mem_append_left _ (List.mem_of_getElem? (i := 40) rfl)))
theorem wq_94 : (.instanceMethod y_ByteRow_keepFirst : Cond) ∈ tb := tb_i2 (List.mem_of_getElem? (i := 14) rfl)
set_option maxRecDepth 100000 in
theorem wl_95 : (.selects R_ByteRow y_ByteRow_keepFirst y_ByteRow_keepFirst : Cond) ∈ lw_tbl := List.mem_append_right _ (List.mem_append_right _ (List.mem_append_left _ (List.mem_of_getElem? (i := 41) rfl)))
theorem wq_95 : (.selects R_ByteRow y_ByteRow_keepFirst y_ByteRow_keepFirst : Cond) ∈ tb := tb_i2 (List.mem_of_getElem? (i := 15) rfl)
set_option maxRecDepth 100000 in
theorem wl_96 : (.code y_ByteRow_set b_ByteRow_set 3 (some .boolean) : Cond) ∈ lw_tbl := List.mem_append_right _ (List.mem_append_right _ (List.mem_append_left _ (List.mem_of_getElem? (i := 50) rfl)))
theorem wq_96 : (.code y_ByteRow_set b_ByteRow_set 3 (some .boolean) : Cond) ∈ tb := tb_i2 (List.mem_of_getElem? (i := 16) rfl)
set_option maxRecDepth 100000 in
theorem wl_97 : (.methodLink R_SB 53 y_ByteRow_set : Cond) ∈ lw_tbl := List.mem_append_right _ (List.mem_append_right _ (List.mem_append_left _ (List.mem_of_getElem? (i := 47) rfl)))
theorem wq_97 : (.methodLink R_SB 53 y_ByteRow_set : Cond) ∈ tb := tb_i2 (List.mem_of_getElem? (i := 17) rfl)
set_option maxRecDepth 100000 in
theorem wl_98 : (.instanceMethod y_ByteRow_set : Cond) ∈ lw_tbl := List.mem_append_right _ (List.mem_append_right _ (List.mem_append_left _ (List.mem_of_getElem? (i := 48) rfl)))
theorem wq_98 : (.instanceMethod y_ByteRow_set : Cond) ∈ tb := tb_i2 (List.mem_of_getElem? (i := 18) rfl)
set_option maxRecDepth 100000 in
theorem wl_99 : (.selects R_ByteRow y_ByteRow_set y_ByteRow_set : Cond) ∈ lw_tbl := List.mem_append_right _ (List.mem_append_right _ (List.mem_append_left _ (List.mem_of_getElem? (i := 49) rfl)))
theorem wq_99 : (.selects R_ByteRow y_ByteRow_set y_ByteRow_set : Cond) ∈ tb := tb_i2 (List.mem_of_getElem? (i := 19) rfl)
set_option maxRecDepth 100000 in
theorem wl_100 : (.methodLink R_Reader 3 objectInit : Cond) ∈ lw_tbl := List.mem_append_right _ (List.mem_append_right _ (List.mem_append_left _ (List.mem_of_getElem? (i := 64) rfl)))
theorem wq_100 : (.methodLink R_Reader 3 objectInit : Cond) ∈ tb := tb_i2 (List.mem_of_getElem? (i := 20) rfl)
set_option maxRecDepth 100000 in
theorem wl_101 : (.fieldLink R_Reader 9 "StackBytes$Reader" "in" "LStackBytes$ByteRow;" : Cond) ∈ lw_tbl := List.mem_append_right _ (List.mem_append_right _ (List.mem_append_left _ (List.mem_of_getElem? (i := 65) rfl)))
theorem wq_101 : (.fieldLink R_Reader 9 "StackBytes$Reader" "in" "LStackBytes$ByteRow;" : Cond) ∈ tb := tb_i2 (List.mem_of_getElem? (i := 21) rfl)
set_option maxRecDepth 100000 in
theorem wl_102 : (.fieldLink R_Reader 15 "StackBytes$Reader" "fault" "LStackBytes$Fault;" : Cond) ∈ lw_tbl := List.mem_append_right _ (List.mem_append_right _ (List.mem_append_left _ (List.mem_of_getElem? (i := 66) rfl)))
theorem wq_102 : (.fieldLink R_Reader 15 "StackBytes$Reader" "fault" "LStackBytes$Fault;" : Cond) ∈ tb := tb_i2 (List.mem_of_getElem? (i := 22) rfl)
set_option maxRecDepth 100000 in
theorem wl_103 : (.fieldLink R_Reader 19 "StackBytes$Reader" "at" "I" : Cond) ∈ lw_tbl := List.mem_append_right _ (List.mem_append_right _ (List.mem_append_left _ (List.mem_of_getElem? (i := 67) rfl)))
theorem wq_103 : (.fieldLink R_Reader 19 "StackBytes$Reader" "at" "I" : Cond) ∈ tb := tb_i2 (List.mem_of_getElem? (i := 23) rfl)
set_option maxRecDepth 100000 in
theorem wl_104 : (.fieldLink R_Reader 60 "StackBytes$ByteRow" "count" "I" : Cond) ∈ lw_tbl := List.mem_append_right _ (List.mem_append_left _ (List.mem_of_getElem? (i := 31) rfl))
theorem wq_104 : (.fieldLink R_Reader 60 "StackBytes$ByteRow" "count" "I" : Cond) ∈ tb := tb_i2 (List.mem_of_getElem? (i := 24) rfl)
set_option maxRecDepth 100000 in
theorem wl_105 : (.code y_ByteRow_at b_ByteRow_at 2 (some .int) : Cond) ∈ lw_tbl := List.mem_append_right _ (List.mem_append_right _ (List.mem_append_left _ (List.mem_of_getElem? (i := 94) rfl)))
theorem wq_105 : (.code y_ByteRow_at b_ByteRow_at 2 (some .int) : Cond) ∈ tb := tb_i2 (List.mem_of_getElem? (i := 25) rfl)
set_option maxRecDepth 100000 in
theorem wl_106 : (.methodLink R_Reader 132 y_ByteRow_at : Cond) ∈ lw_tbl := List.mem_append_right _ (List.mem_append_right _ (List.mem_append_left _ (List.mem_of_getElem? (i := 91) rfl)))
theorem wq_106 : (.methodLink R_Reader 132 y_ByteRow_at : Cond) ∈ tb := tb_i2 (List.mem_of_getElem? (i := 26) rfl)
set_option maxRecDepth 100000 in
theorem wl_107 : (.instanceMethod y_ByteRow_at : Cond) ∈ lw_tbl := List.mem_append_right _ (List.mem_append_right _ (List.mem_append_left _ (List.mem_of_getElem? (i := 92) rfl)))
theorem wq_107 : (.instanceMethod y_ByteRow_at : Cond) ∈ tb := tb_i2 (List.mem_of_getElem? (i := 27) rfl)
set_option maxRecDepth 100000 in
theorem wl_108 : (.selects R_ByteRow y_ByteRow_at y_ByteRow_at : Cond) ∈ lw_tbl := List.mem_append_right _ (List.mem_append_right _ (List.mem_append_left _ (List.mem_of_getElem? (i := 93) rfl)))
theorem wq_108 : (.selects R_ByteRow y_ByteRow_at y_ByteRow_at : Cond) ∈ tb := tb_i2 (List.mem_of_getElem? (i := 28) rfl)
set_option maxRecDepth 100000 in
theorem wl_109 : (.code y_Fault_tell b_Fault_tell 3 none : Cond) ∈ lw_tbl := List.mem_append_right _ (List.mem_append_right _ (List.mem_append_left _ (List.mem_of_getElem? (i := 90) rfl)))
theorem wq_109 : (.code y_Fault_tell b_Fault_tell 3 none : Cond) ∈ tb := tb_i2 (List.mem_of_getElem? (i := 29) rfl)
set_option maxRecDepth 100000 in
theorem wl_110 : (.methodLink R_Reader 63 y_Fault_tell : Cond) ∈ lw_tbl := List.mem_append_right _ (List.mem_append_right _ (List.mem_append_left _ (List.mem_of_getElem? (i := 87) rfl)))
theorem wq_110 : (.methodLink R_Reader 63 y_Fault_tell : Cond) ∈ tb := tb_i2 (List.mem_of_getElem? (i := 30) rfl)
set_option maxRecDepth 100000 in
theorem wl_111 : (.instanceMethod y_Fault_tell : Cond) ∈ lw_tbl := List.mem_append_right _ (List.mem_append_right _ (List.mem_append_left _ (List.mem_of_getElem? (i := 88) rfl)))
theorem wq_111 : (.instanceMethod y_Fault_tell : Cond) ∈ tb := tb_i2 (List.mem_of_getElem? (i := 31) rfl)
set_option maxRecDepth 100000 in
theorem wl_112 : (.selects R_Fault y_Fault_tell y_Fault_tell : Cond) ∈ lw_tbl := List.mem_append_right _ (List.mem_append_right _ (List.mem_append_left _ (List.mem_of_getElem? (i := 89) rfl)))
theorem wq_112 : (.selects R_Fault y_Fault_tell y_Fault_tell : Cond) ∈ tb := tb_i2 (List.mem_of_getElem? (i := 32) rfl)
set_option maxRecDepth 100000 in
theorem wl_113 : (.code y_Reader_nextByte b_Reader_nextByte 2 (some .int) : Cond) ∈ lw_tbl := List.mem_append_right _ (List.mem_append_right _ (List.mem_append_left _ (List.mem_of_getElem? (i := 86) rfl)))
theorem wq_113 : (.code y_Reader_nextByte b_Reader_nextByte 2 (some .int) : Cond) ∈ tb := tb_i2 (List.mem_of_getElem? (i := 33) rfl)
set_option maxRecDepth 100000 in
theorem wl_114 : (.methodLink R_Reader 67 y_Reader_nextByte : Cond) ∈ lw_tbl := List.mem_append_right _ (List.mem_append_right _ (List.mem_append_left _ (List.mem_of_getElem? (i := 83) rfl)))
theorem wq_114 : (.methodLink R_Reader 67 y_Reader_nextByte : Cond) ∈ tb := tb_i2 (List.mem_of_getElem? (i := 34) rfl)
set_option maxRecDepth 100000 in
theorem wl_115 : (.instanceMethod y_Reader_nextByte : Cond) ∈ lw_tbl := List.mem_append_right _ (List.mem_append_right _ (List.mem_append_left _ (List.mem_of_getElem? (i := 85) rfl)))
theorem wq_115 : (.instanceMethod y_Reader_nextByte : Cond) ∈ tb := tb_i2 (List.mem_of_getElem? (i := 35) rfl)
set_option maxRecDepth 100000 in
theorem wl_116 : (.selects R_Reader y_Reader_nextByte y_Reader_nextByte : Cond) ∈ lw_tbl := List.mem_append_left _ (List.mem_of_getElem? (i := 2) rfl)
theorem wq_116 : (.selects R_Reader y_Reader_nextByte y_Reader_nextByte : Cond) ∈ tb := tb_i2 (List.mem_of_getElem? (i := 36) rfl)
set_option maxRecDepth 100000 in
theorem wl_117 : (.initialized R_Reader : Cond) ∈ lw_tbl := List.mem_append_right _ (List.mem_append_left _ (List.mem_of_getElem? (i := 12) rfl))
theorem wq_117 : (.initialized R_Reader : Cond) ∈ tb := tb_i2 (List.mem_of_getElem? (i := 37) rfl)
set_option maxRecDepth 100000 in
theorem wl_118 : (.fieldLink R_Reader 39 "StackBytes$Fault" "kind" "I" : Cond) ∈ lw_tbl := List.mem_append_right _ (List.mem_append_left _ (List.mem_of_getElem? (i := 48) rfl))
theorem wq_118 : (.fieldLink R_Reader 39 "StackBytes$Fault" "kind" "I" : Cond) ∈ tb := tb_i2 (List.mem_of_getElem? (i := 38) rfl)
set_option maxRecDepth 100000 in
theorem wl_119 : (.code y_Reader_number b_Reader_number 7 (some .int) : Cond) ∈ lw_tbl := List.mem_append_right _ (List.mem_append_right _ (List.mem_append_left _ (List.mem_of_getElem? (i := 98) rfl)))
theorem wq_119 : (.code y_Reader_number b_Reader_number 7 (some .int) : Cond) ∈ tb := tb_i2 (List.mem_of_getElem? (i := 39) rfl)
set_option maxRecDepth 100000 in
theorem wl_120 : (.fieldLink R_Reader 71 "StackBytes$Function" "params" "I" : Cond) ∈ lw_tbl := List.mem_append_right _ (List.mem_append_left _ (List.mem_of_getElem? (i := 148) rfl))
theorem wq_120 : (.fieldLink R_Reader 71 "StackBytes$Function" "params" "I" : Cond) ∈ tb := tb_i3 (List.mem_of_getElem? (i := 0) rfl)
set_option maxRecDepth 100000 in
theorem wl_121 : (.fieldLink R_Reader 76 "StackBytes$Function" "locals" "I" : Cond) ∈ lw_tbl := List.mem_append_right _ (List.mem_append_left _ (List.mem_of_getElem? (i := 152) rfl))
theorem wq_121 : (.fieldLink R_Reader 76 "StackBytes$Function" "locals" "I" : Cond) ∈ tb := tb_i3 (List.mem_of_getElem? (i := 1) rfl)
set_option maxRecDepth 100000 in
theorem wl_122 : (.fieldLink R_Reader 79 "StackBytes$Function" "rowLocals" "I" : Cond) ∈ lw_tbl := List.mem_append_right _ (List.mem_append_left _ (List.mem_of_getElem? (i := 157) rfl))
theorem wq_122 : (.fieldLink R_Reader 79 "StackBytes$Function" "rowLocals" "I" : Cond) ∈ tb := tb_i3 (List.mem_of_getElem? (i := 2) rfl)
set_option maxRecDepth 100000 in
theorem wl_123 : (.fieldLink R_Reader 82 "StackBytes$Function" "result" "I" : Cond) ∈ lw_tbl := List.mem_append_right _ (List.mem_append_left _ (List.mem_of_getElem? (i := 159) rfl))
theorem wq_123 : (.fieldLink R_Reader 82 "StackBytes$Function" "result" "I" : Cond) ∈ tb := tb_i3 (List.mem_of_getElem? (i := 3) rfl)
set_option maxRecDepth 100000 in
theorem wl_124 : (.fieldLink R_Reader 85 "StackBytes$Function" "count" "I" : Cond) ∈ lw_tbl := List.mem_append_right _ (List.mem_append_left _ (List.mem_of_getElem? (i := 166) rfl))
theorem wq_124 : (.fieldLink R_Reader 85 "StackBytes$Function" "count" "I" : Cond) ∈ tb := tb_i3 (List.mem_of_getElem? (i := 4) rfl)
set_option maxRecDepth 100000 in
theorem wl_125 : (.methodLink R_Reader 27 y_Reader_number : Cond) ∈ lw_tbl := List.mem_append_right _ (List.mem_append_right _ (List.mem_append_left _ (List.mem_of_getElem? (i := 95) rfl)))
theorem wq_125 : (.methodLink R_Reader 27 y_Reader_number : Cond) ∈ tb := tb_i3 (List.mem_of_getElem? (i := 5) rfl)
set_option maxRecDepth 100000 in
theorem wl_126 : (.instanceMethod y_Reader_number : Cond) ∈ lw_tbl := List.mem_append_right _ (List.mem_append_right _ (List.mem_append_left _ (List.mem_of_getElem? (i := 97) rfl)))
theorem wq_126 : (.instanceMethod y_Reader_number : Cond) ∈ tb := tb_i3 (List.mem_of_getElem? (i := 6) rfl)
set_option maxRecDepth 100000 in
theorem wl_127 : (.selects R_Reader y_Reader_number y_Reader_number : Cond) ∈ lw_tbl := List.mem_append_left _ (List.mem_of_getElem? (i := 3) rfl)
theorem wq_127 : (.selects R_Reader y_Reader_number y_Reader_number : Cond) ∈ tb := tb_i3 (List.mem_of_getElem? (i := 7) rfl)
set_option maxRecDepth 100000 in
theorem wl_128 : (.constant R_Kinds 9 (-2147483648) : Cond) ∈ lw_tbl := List.mem_append_right _ (List.mem_append_right _ (List.mem_append_left _ (List.mem_of_getElem? (i := 117) rfl)))
theorem wq_128 : (.constant R_Kinds 9 (-2147483648) : Cond) ∈ tb := tb_i3 (List.mem_of_getElem? (i := 8) rfl)
set_option maxRecDepth 100000 in
theorem wl_129 : (.constant R_Kinds 10 2147483647 : Cond) ∈ lw_tbl := List.mem_append_right _ (List.mem_append_right _ (List.mem_append_left _ (List.mem_of_getElem? (i := 121) rfl)))
theorem wq_129 : (.constant R_Kinds 10 2147483647 : Cond) ∈ tb := tb_i3 (List.mem_of_getElem? (i := 9) rfl)
set_option maxRecDepth 100000 in
theorem wl_130 : (.fieldLink R_Kinds 11 "StackBytes$Function" "locals" "I" : Cond) ∈ lw_tbl := List.mem_append_right _ (List.mem_append_left _ (List.mem_of_getElem? (i := 153) rfl))
theorem wq_130 : (.fieldLink R_Kinds 11 "StackBytes$Function" "locals" "I" : Cond) ∈ tb := tb_i3 (List.mem_of_getElem? (i := 10) rfl)
set_option maxRecDepth 100000 in
theorem wl_131 : (.fieldLink R_Kinds 17 "StackBytes$Function" "count" "I" : Cond) ∈ lw_tbl := List.mem_append_right _ (List.mem_append_left _ (List.mem_of_getElem? (i := 167) rfl))
theorem wq_131 : (.fieldLink R_Kinds 17 "StackBytes$Function" "count" "I" : Cond) ∈ tb := tb_i3 (List.mem_of_getElem? (i := 11) rfl)
set_option maxRecDepth 100000 in
theorem wl_132 : (.fieldLink R_Reader 86 "StackBytes$Function" "ops" "[I" : Cond) ∈ lw_tbl := List.mem_append_right _ (List.mem_append_left _ (List.mem_of_getElem? (i := 174) rfl))
theorem wq_132 : (.fieldLink R_Reader 86 "StackBytes$Function" "ops" "[I" : Cond) ∈ tb := tb_i3 (List.mem_of_getElem? (i := 12) rfl)
set_option maxRecDepth 100000 in
theorem wl_133 : (.fieldLink R_Reader 90 "StackBytes$Function" "behinds" "[I" : Cond) ∈ lw_tbl := List.mem_append_right _ (List.mem_append_left _ (List.mem_of_getElem? (i := 178) rfl))
theorem wq_133 : (.fieldLink R_Reader 90 "StackBytes$Function" "behinds" "[I" : Cond) ∈ tb := tb_i3 (List.mem_of_getElem? (i := 13) rfl)
set_option maxRecDepth 100000 in
theorem wl_134 : (.code y_Kinds_bytesBehind b_Kinds_bytesBehind 1 (some .int) : Cond) ∈ lw_tbl := List.mem_append_right _ (List.mem_append_right _ (List.mem_append_left _ (List.mem_of_getElem? (i := 113) rfl)))
theorem wq_134 : (.code y_Kinds_bytesBehind b_Kinds_bytesBehind 1 (some .int) : Cond) ∈ tb := tb_i3 (List.mem_of_getElem? (i := 14) rfl)
set_option maxRecDepth 100000 in
theorem wl_135 : (.code y_Kinds_leastBehind b_Kinds_leastBehind 1 (some .int) : Cond) ∈ lw_tbl := List.mem_append_right _ (List.mem_append_right _ (List.mem_append_left _ (List.mem_of_getElem? (i := 116) rfl)))
theorem wq_135 : (.code y_Kinds_leastBehind b_Kinds_leastBehind 1 (some .int) : Cond) ∈ tb := tb_i3 (List.mem_of_getElem? (i := 15) rfl)
set_option maxRecDepth 100000 in
theorem wl_136 : (.code y_Kinds_mostBehind b_Kinds_mostBehind 3 (some .int) : Cond) ∈ lw_tbl := List.mem_append_right _ (List.mem_append_right _ (List.mem_append_left _ (List.mem_of_getElem? (i := 120) rfl)))
theorem wq_136 : (.code y_Kinds_mostBehind b_Kinds_mostBehind 3 (some .int) : Cond) ∈ tb := tb_i3 (List.mem_of_getElem? (i := 16) rfl)
set_option maxRecDepth 100000 in
theorem wl_137 : (.methodLink R_Reader 102 y_Kinds_mostBehind : Cond) ∈ lw_tbl := List.mem_append_right _ (List.mem_append_right _ (List.mem_append_left _ (List.mem_of_getElem? (i := 118) rfl)))
theorem wq_137 : (.methodLink R_Reader 102 y_Kinds_mostBehind : Cond) ∈ tb := tb_i3 (List.mem_of_getElem? (i := 17) rfl)
set_option maxRecDepth 100000 in
theorem wl_138 : (.static y_Kinds_mostBehind : Cond) ∈ lw_tbl := List.mem_append_right _ (List.mem_append_right _ (List.mem_append_left _ (List.mem_of_getElem? (i := 119) rfl)))
theorem wq_138 : (.static y_Kinds_mostBehind : Cond) ∈ tb := tb_i3 (List.mem_of_getElem? (i := 18) rfl)
set_option maxRecDepth 100000 in
theorem wl_139 : (.initialized R_Kinds : Cond) ∈ lw_tbl := List.mem_append_right _ (List.mem_append_left _ (List.mem_of_getElem? (i := 13) rfl))
theorem wq_139 : (.initialized R_Kinds : Cond) ∈ tb := tb_i3 (List.mem_of_getElem? (i := 19) rfl)
set_option maxRecDepth 100000 in
theorem wl_140 : (.methodLink R_Reader 99 y_Kinds_leastBehind : Cond) ∈ lw_tbl := List.mem_append_right _ (List.mem_append_right _ (List.mem_append_left _ (List.mem_of_getElem? (i := 114) rfl)))
theorem wq_140 : (.methodLink R_Reader 99 y_Kinds_leastBehind : Cond) ∈ tb := tb_i3 (List.mem_of_getElem? (i := 20) rfl)
set_option maxRecDepth 100000 in
theorem wl_141 : (.static y_Kinds_leastBehind : Cond) ∈ lw_tbl := List.mem_append_right _ (List.mem_append_right _ (List.mem_append_left _ (List.mem_of_getElem? (i := 115) rfl)))
theorem wq_141 : (.static y_Kinds_leastBehind : Cond) ∈ tb := tb_i3 (List.mem_of_getElem? (i := 21) rfl)
set_option maxRecDepth 100000 in
theorem wl_142 : (.methodLink R_Reader 93 y_Kinds_bytesBehind : Cond) ∈ lw_tbl := List.mem_append_right _ (List.mem_append_right _ (List.mem_append_left _ (List.mem_of_getElem? (i := 111) rfl)))
theorem wq_142 : (.methodLink R_Reader 93 y_Kinds_bytesBehind : Cond) ∈ tb := tb_i3 (List.mem_of_getElem? (i := 22) rfl)
set_option maxRecDepth 100000 in
theorem wl_143 : (.static y_Kinds_bytesBehind : Cond) ∈ lw_tbl := List.mem_append_right _ (List.mem_append_right _ (List.mem_append_left _ (List.mem_of_getElem? (i := 112) rfl)))
theorem wq_143 : (.static y_Kinds_bytesBehind : Cond) ∈ tb := tb_i3 (List.mem_of_getElem? (i := 23) rfl)
set_option maxRecDepth 100000 in
theorem wl_144 : (.fieldLink R_Reader 106 "StackBytes$Function" "handlerCount" "I" : Cond) ∈ lw_tbl := List.mem_append_right _ (List.mem_append_left _ (List.mem_of_getElem? (i := 171) rfl))
theorem wq_144 : (.fieldLink R_Reader 106 "StackBytes$Function" "handlerCount" "I" : Cond) ∈ tb := tb_i3 (List.mem_of_getElem? (i := 24) rfl)
set_option maxRecDepth 100000 in
theorem wl_145 : (.fieldLink R_Reader 109 "StackBytes$Function" "handlers" "[LStackBytes$Handler;" : Cond) ∈ lw_tbl := List.mem_append_right _ (List.mem_append_left _ (List.mem_of_getElem? (i := 189) rfl))
theorem wq_145 : (.fieldLink R_Reader 109 "StackBytes$Function" "handlers" "[LStackBytes$Handler;" : Cond) ∈ tb := tb_i3 (List.mem_of_getElem? (i := 25) rfl)
set_option maxRecDepth 100000 in
theorem wl_146 : (.fieldLink R_Reader 112 "StackBytes$Handler" "from" "I" : Cond) ∈ lw_tbl := List.mem_append_right _ (List.mem_append_left _ (List.mem_of_getElem? (i := 121) rfl))
theorem wq_146 : (.fieldLink R_Reader 112 "StackBytes$Handler" "from" "I" : Cond) ∈ tb := tb_i3 (List.mem_of_getElem? (i := 26) rfl)
set_option maxRecDepth 100000 in
theorem wl_147 : (.fieldLink R_Reader 117 "StackBytes$Handler" "to" "I" : Cond) ∈ lw_tbl := List.mem_append_right _ (List.mem_append_left _ (List.mem_of_getElem? (i := 124) rfl))
theorem wq_147 : (.fieldLink R_Reader 117 "StackBytes$Handler" "to" "I" : Cond) ∈ tb := tb_i3 (List.mem_of_getElem? (i := 27) rfl)
set_option maxRecDepth 100000 in
theorem wl_148 : (.fieldLink R_Reader 120 "StackBytes$Handler" "target" "I" : Cond) ∈ lw_tbl := List.mem_append_right _ (List.mem_append_left _ (List.mem_of_getElem? (i := 129) rfl))
theorem wq_148 : (.fieldLink R_Reader 120 "StackBytes$Handler" "target" "I" : Cond) ∈ tb := tb_i3 (List.mem_of_getElem? (i := 28) rfl)
set_option maxRecDepth 100000 in
theorem wl_149 : (.fieldLink R_Reader 123 "StackBytes$Handler" "forAny" "Z" : Cond) ∈ lw_tbl := List.mem_append_right _ (List.mem_append_left _ (List.mem_of_getElem? (i := 132) rfl))
theorem wq_149 : (.fieldLink R_Reader 123 "StackBytes$Handler" "forAny" "Z" : Cond) ∈ tb := tb_i3 (List.mem_of_getElem? (i := 29) rfl)
set_option maxRecDepth 100000 in
theorem wl_150 : (.constant R_Reader 127 (-2147483648) : Cond) ∈ lw_tbl := List.mem_append_right _ (List.mem_append_right _ (List.mem_append_left _ (List.mem_of_getElem? (i := 126) rfl)))
theorem wq_150 : (.constant R_Reader 127 (-2147483648) : Cond) ∈ tb := tb_i3 (List.mem_of_getElem? (i := 30) rfl)
set_option maxRecDepth 100000 in
theorem wl_151 : (.constant R_Reader 128 2147483647 : Cond) ∈ lw_tbl := List.mem_append_right _ (List.mem_append_right _ (List.mem_append_left _ (List.mem_of_getElem? (i := 127) rfl)))
theorem wq_151 : (.constant R_Reader 128 2147483647 : Cond) ∈ tb := tb_i3 (List.mem_of_getElem? (i := 31) rfl)
set_option maxRecDepth 100000 in
theorem wl_152 : (.fieldLink R_Reader 129 "StackBytes$Handler" "code" "I" : Cond) ∈ lw_tbl := List.mem_append_right _ (List.mem_append_left _ (List.mem_of_getElem? (i := 135) rfl))
theorem wq_152 : (.fieldLink R_Reader 129 "StackBytes$Handler" "code" "I" : Cond) ∈ tb := tb_i3 (List.mem_of_getElem? (i := 32) rfl)
set_option maxRecDepth 100000 in
theorem wl_153 : (.code y_Reader_start b_Reader_start 3 none : Cond) ∈ lw_tbl := List.mem_append_right _ (List.mem_append_right _ (List.mem_append_left _ (List.mem_of_getElem? (i := 82) rfl)))
theorem wq_153 : (.code y_Reader_start b_Reader_start 3 none : Cond) ∈ tb := tb_i3 (List.mem_of_getElem? (i := 33) rfl)
set_option maxRecDepth 100000 in
theorem wl_154 : (.code y_Program_setCount b_Program_setCount 3 none : Cond) ∈ lw_tbl := List.mem_append_right _ (List.mem_append_right _ (List.mem_append_left _ (List.mem_of_getElem? (i := 102) rfl)))
theorem wq_154 : (.code y_Program_setCount b_Program_setCount 3 none : Cond) ∈ tb := tb_i3 (List.mem_of_getElem? (i := 34) rfl)
set_option maxRecDepth 100000 in
theorem wl_155 : (.fieldLink R_Reader 36 "StackBytes$Program" "count" "I" : Cond) ∈ lw_tbl := List.mem_append_right _ (List.mem_append_left _ (List.mem_of_getElem? (i := 217) rfl))
theorem wq_155 : (.fieldLink R_Reader 36 "StackBytes$Program" "count" "I" : Cond) ∈ tb := tb_i3 (List.mem_of_getElem? (i := 35) rfl)
set_option maxRecDepth 100000 in
theorem wl_156 : (.fieldLink R_Reader 44 "StackBytes$Program" "functions" "[LStackBytes$Function;" : Cond) ∈ lw_tbl := List.mem_append_right _ (List.mem_append_left _ (List.mem_of_getElem? (i := 215) rfl))
theorem wq_156 : (.fieldLink R_Reader 44 "StackBytes$Program" "functions" "[LStackBytes$Function;" : Cond) ∈ tb := tb_i3 (List.mem_of_getElem? (i := 36) rfl)
set_option maxRecDepth 100000 in
theorem wl_157 : (.code y_Reader_head b_Reader_head 3 none : Cond) ∈ lw_tbl := List.mem_append_right _ (List.mem_append_right _ (List.mem_append_left _ (List.mem_of_getElem? (i := 106) rfl)))
theorem wq_157 : (.code y_Reader_head b_Reader_head 3 none : Cond) ∈ tb := tb_i3 (List.mem_of_getElem? (i := 37) rfl)
set_option maxRecDepth 100000 in
theorem wl_158 : (.code y_Reader_instructions b_Reader_instructions 5 none : Cond) ∈ lw_tbl := List.mem_append_right _ (List.mem_append_right _ (List.mem_append_left _ (List.mem_of_getElem? (i := 110) rfl)))
theorem wq_158 : (.code y_Reader_instructions b_Reader_instructions 5 none : Cond) ∈ tb := tb_i3 (List.mem_of_getElem? (i := 38) rfl)
set_option maxRecDepth 100000 in
theorem wl_159 : (.code y_Reader_handlers b_Reader_handlers 4 none : Cond) ∈ lw_tbl := List.mem_append_right _ (List.mem_append_right _ (List.mem_append_left _ (List.mem_of_getElem? (i := 125) rfl)))
theorem wq_159 : (.code y_Reader_handlers b_Reader_handlers 4 none : Cond) ∈ tb := tb_i3 (List.mem_of_getElem? (i := 39) rfl)
set_option maxRecDepth 100000 in
theorem wl_160 : (.methodLink R_Reader 56 y_Reader_handlers : Cond) ∈ lw_tbl := List.mem_append_right _ (List.mem_append_right _ (List.mem_append_left _ (List.mem_of_getElem? (i := 122) rfl)))
theorem wq_160 : (.methodLink R_Reader 56 y_Reader_handlers : Cond) ∈ tb := tb_i4 (List.mem_of_getElem? (i := 0) rfl)
set_option maxRecDepth 100000 in
theorem wl_161 : (.instanceMethod y_Reader_handlers : Cond) ∈ lw_tbl := List.mem_append_right _ (List.mem_append_right _ (List.mem_append_left _ (List.mem_of_getElem? (i := 124) rfl)))
theorem wq_161 : (.instanceMethod y_Reader_handlers : Cond) ∈ tb := tb_i4 (List.mem_of_getElem? (i := 1) rfl)
set_option maxRecDepth 100000 in
theorem wl_162 : (.selects R_Reader y_Reader_handlers y_Reader_handlers : Cond) ∈ lw_tbl := List.mem_append_left _ (List.mem_of_getElem? (i := 6) rfl)
theorem wq_162 : (.selects R_Reader y_Reader_handlers y_Reader_handlers : Cond) ∈ tb := tb_i4 (List.mem_of_getElem? (i := 2) rfl)
set_option maxRecDepth 100000 in
theorem wl_163 : (.methodLink R_Reader 52 y_Reader_instructions : Cond) ∈ lw_tbl := List.mem_append_right _ (List.mem_append_right _ (List.mem_append_left _ (List.mem_of_getElem? (i := 107) rfl)))
theorem wq_163 : (.methodLink R_Reader 52 y_Reader_instructions : Cond) ∈ tb := tb_i4 (List.mem_of_getElem? (i := 3) rfl)
set_option maxRecDepth 100000 in
theorem wl_164 : (.instanceMethod y_Reader_instructions : Cond) ∈ lw_tbl := List.mem_append_right _ (List.mem_append_right _ (List.mem_append_left _ (List.mem_of_getElem? (i := 109) rfl)))
theorem wq_164 : (.instanceMethod y_Reader_instructions : Cond) ∈ tb := tb_i4 (List.mem_of_getElem? (i := 4) rfl)
set_option maxRecDepth 100000 in
theorem wl_165 : (.selects R_Reader y_Reader_instructions y_Reader_instructions : Cond) ∈ lw_tbl := List.mem_append_left _ (List.mem_of_getElem? (i := 5) rfl)
theorem wq_165 : (.selects R_Reader y_Reader_instructions y_Reader_instructions : Cond) ∈ tb := tb_i4 (List.mem_of_getElem? (i := 5) rfl)
set_option maxRecDepth 100000 in
theorem wl_166 : (.methodLink R_Reader 48 y_Reader_head : Cond) ∈ lw_tbl := List.mem_append_right _ (List.mem_append_right _ (List.mem_append_left _ (List.mem_of_getElem? (i := 103) rfl)))
theorem wq_166 : (.methodLink R_Reader 48 y_Reader_head : Cond) ∈ tb := tb_i4 (List.mem_of_getElem? (i := 6) rfl)
set_option maxRecDepth 100000 in
theorem wl_167 : (.instanceMethod y_Reader_head : Cond) ∈ lw_tbl := List.mem_append_right _ (List.mem_append_right _ (List.mem_append_left _ (List.mem_of_getElem? (i := 105) rfl)))
theorem wq_167 : (.instanceMethod y_Reader_head : Cond) ∈ tb := tb_i4 (List.mem_of_getElem? (i := 7) rfl)
set_option maxRecDepth 100000 in
theorem wl_168 : (.selects R_Reader y_Reader_head y_Reader_head : Cond) ∈ lw_tbl := List.mem_append_left _ (List.mem_of_getElem? (i := 4) rfl)
theorem wq_168 : (.selects R_Reader y_Reader_head y_Reader_head : Cond) ∈ tb := tb_i4 (List.mem_of_getElem? (i := 8) rfl)
set_option maxRecDepth 100000 in
theorem wl_169 : (.methodLink R_Reader 31 y_Program_setCount : Cond) ∈ lw_tbl := List.mem_append_right _ (List.mem_append_right _ (List.mem_append_left _ (List.mem_of_getElem? (i := 99) rfl)))
theorem wq_169 : (.methodLink R_Reader 31 y_Program_setCount : Cond) ∈ tb := tb_i4 (List.mem_of_getElem? (i := 9) rfl)
set_option maxRecDepth 100000 in
theorem wl_170 : (.instanceMethod y_Program_setCount : Cond) ∈ lw_tbl := List.mem_append_right _ (List.mem_append_right _ (List.mem_append_left _ (List.mem_of_getElem? (i := 100) rfl)))
theorem wq_170 : (.instanceMethod y_Program_setCount : Cond) ∈ tb := tb_i4 (List.mem_of_getElem? (i := 10) rfl)
set_option maxRecDepth 100000 in
theorem wl_171 : (.selects R_Program y_Program_setCount y_Program_setCount : Cond) ∈ lw_tbl := List.mem_append_right _ (List.mem_append_right _ (List.mem_append_left _ (List.mem_of_getElem? (i := 101) rfl)))
theorem wq_171 : (.selects R_Program y_Program_setCount y_Program_setCount : Cond) ∈ tb := tb_i4 (List.mem_of_getElem? (i := 11) rfl)
set_option maxRecDepth 100000 in
theorem wl_172 : (.methodLink R_Reader 23 y_Reader_start : Cond) ∈ lw_tbl := List.mem_append_right _ (List.mem_append_right _ (List.mem_append_left _ (List.mem_of_getElem? (i := 79) rfl)))
theorem wq_172 : (.methodLink R_Reader 23 y_Reader_start : Cond) ∈ tb := tb_i4 (List.mem_of_getElem? (i := 12) rfl)
set_option maxRecDepth 100000 in
theorem wl_173 : (.instanceMethod y_Reader_start : Cond) ∈ lw_tbl := List.mem_append_right _ (List.mem_append_right _ (List.mem_append_left _ (List.mem_of_getElem? (i := 81) rfl)))
theorem wq_173 : (.instanceMethod y_Reader_start : Cond) ∈ tb := tb_i4 (List.mem_of_getElem? (i := 13) rfl)
set_option maxRecDepth 100000 in
theorem wl_174 : (.selects R_Reader y_Reader_start y_Reader_start : Cond) ∈ lw_tbl := List.mem_append_left _ (List.mem_of_getElem? (i := 1) rfl)
theorem wq_174 : (.selects R_Reader y_Reader_start y_Reader_start : Cond) ∈ tb := tb_i4 (List.mem_of_getElem? (i := 14) rfl)
set_option maxRecDepth 100000 in
theorem wl_175 : (.fieldLink R_Verifier 36 "StackBytes$Verifier" "fault" "LStackBytes$Fault;" : Cond) ∈ lw_tbl := List.mem_append_right _ (List.mem_append_left _ (List.mem_of_getElem? (i := 70) rfl))
theorem wq_175 : (.fieldLink R_Verifier 36 "StackBytes$Verifier" "fault" "LStackBytes$Fault;" : Cond) ∈ tb := tb_i4 (List.mem_of_getElem? (i := 15) rfl)
set_option maxRecDepth 100000 in
theorem wl_176 : (.fieldLink R_Verifier 63 "StackBytes$Fault" "kind" "I" : Cond) ∈ lw_tbl := List.mem_append_right _ (List.mem_append_left _ (List.mem_of_getElem? (i := 49) rfl))
theorem wq_176 : (.fieldLink R_Verifier 63 "StackBytes$Fault" "kind" "I" : Cond) ∈ tb := tb_i4 (List.mem_of_getElem? (i := 16) rfl)
set_option maxRecDepth 100000 in
theorem wl_177 : (.fieldLink R_Verifier 32 "StackBytes$Verifier" "function" "LStackBytes$Function;" : Cond) ∈ lw_tbl := List.mem_append_right _ (List.mem_append_left _ (List.mem_of_getElem? (i := 69) rfl))
theorem wq_177 : (.fieldLink R_Verifier 32 "StackBytes$Verifier" "function" "LStackBytes$Function;" : Cond) ∈ tb := tb_i4 (List.mem_of_getElem? (i := 17) rfl)
set_option maxRecDepth 100000 in
theorem wl_178 : (.code y_Function_has b_Function_has 2 (some .boolean) : Cond) ∈ lw_tbl := List.mem_append_right _ (List.mem_append_right _ (List.mem_append_left _ (List.mem_of_getElem? (i := 147) rfl)))
theorem wq_178 : (.code y_Function_has b_Function_has 2 (some .boolean) : Cond) ∈ tb := tb_i4 (List.mem_of_getElem? (i := 18) rfl)
set_option maxRecDepth 100000 in
theorem wl_179 : (.fieldLink R_Verifier 40 "StackBytes$Verifier" "firstPlace" "I" : Cond) ∈ lw_tbl := List.mem_append_right _ (List.mem_append_left _ (List.mem_of_getElem? (i := 71) rfl))
theorem wq_179 : (.fieldLink R_Verifier 40 "StackBytes$Verifier" "firstPlace" "I" : Cond) ∈ tb := tb_i4 (List.mem_of_getElem? (i := 19) rfl)
set_option maxRecDepth 100000 in
theorem wl_180 : (.methodLink R_Verifier 129 y_Fault_tell : Cond) ∈ lw_tbl := List.mem_append_right _ (List.mem_append_right _ (List.mem_append_left _ (List.mem_of_getElem? (i := 149) rfl)))
theorem wq_180 : (.methodLink R_Verifier 129 y_Fault_tell : Cond) ∈ tb := tb_i4 (List.mem_of_getElem? (i := 20) rfl)
set_option maxRecDepth 100000 in
theorem wl_181 : (.fieldLink R_Verifier 56 "StackBytes$Verifier" "leastWaiting" "I" : Cond) ∈ lw_tbl := List.mem_append_right _ (List.mem_append_left _ (List.mem_of_getElem? (i := 67) rfl))
theorem wq_181 : (.fieldLink R_Verifier 56 "StackBytes$Verifier" "leastWaiting" "I" : Cond) ∈ tb := tb_i4 (List.mem_of_getElem? (i := 21) rfl)
set_option maxRecDepth 100000 in
theorem wl_182 : (.methodLink R_Verifier 135 Lib.Math.min.name : Cond) ∈ lw_tbl := List.mem_append_right _ (List.mem_append_right _ (List.mem_append_left _ (List.mem_of_getElem? (i := 148) rfl)))
theorem wq_182 : (.methodLink R_Verifier 135 Lib.Math.min.name : Cond) ∈ tb := tb_i4 (List.mem_of_getElem? (i := 22) rfl)
set_option maxRecDepth 100000 in
theorem wl_183 : (.methodLink R_Verifier 132 y_Function_has : Cond) ∈ lw_tbl := List.mem_append_right _ (List.mem_append_right _ (List.mem_append_left _ (List.mem_of_getElem? (i := 144) rfl)))
theorem wq_183 : (.methodLink R_Verifier 132 y_Function_has : Cond) ∈ tb := tb_i4 (List.mem_of_getElem? (i := 23) rfl)
set_option maxRecDepth 100000 in
theorem wl_184 : (.instanceMethod y_Function_has : Cond) ∈ lw_tbl := List.mem_append_right _ (List.mem_append_right _ (List.mem_append_left _ (List.mem_of_getElem? (i := 145) rfl)))
theorem wq_184 : (.instanceMethod y_Function_has : Cond) ∈ tb := tb_i4 (List.mem_of_getElem? (i := 24) rfl)
set_option maxRecDepth 100000 in
theorem wl_185 : (.selects R_Function y_Function_has y_Function_has : Cond) ∈ lw_tbl := List.mem_append_right _ (List.mem_append_right _ (List.mem_append_left _ (List.mem_of_getElem? (i := 146) rfl)))
theorem wq_185 : (.selects R_Function y_Function_has y_Function_has : Cond) ∈ tb := tb_i4 (List.mem_of_getElem? (i := 25) rfl)
set_option maxRecDepth 100000 in
theorem wl_186 : (.fieldLink R_Verifier 47 "StackBytes$Function" "count" "I" : Cond) ∈ lw_tbl := List.mem_append_right _ (List.mem_append_left _ (List.mem_of_getElem? (i := 164) rfl))
theorem wq_186 : (.fieldLink R_Verifier 47 "StackBytes$Function" "count" "I" : Cond) ∈ tb := tb_i4 (List.mem_of_getElem? (i := 26) rfl)
set_option maxRecDepth 100000 in
theorem wl_187 : (.code y_Verifier_comeTo b_Verifier_comeTo 4 none : Cond) ∈ lw_tbl := List.mem_append_right _ (List.mem_append_right _ (List.mem_append_left _ (List.mem_of_getElem? (i := 143) rfl)))
theorem wq_187 : (.code y_Verifier_comeTo b_Verifier_comeTo 4 none : Cond) ∈ tb := tb_i4 (List.mem_of_getElem? (i := 27) rfl)
set_option maxRecDepth 100000 in
theorem wl_188 : (.methodLink R_Verifier 76 y_Verifier_comeTo : Cond) ∈ lw_tbl := List.mem_append_right _ (List.mem_append_right _ (List.mem_append_left _ (List.mem_of_getElem? (i := 140) rfl)))
theorem wq_188 : (.methodLink R_Verifier 76 y_Verifier_comeTo : Cond) ∈ tb := tb_i4 (List.mem_of_getElem? (i := 28) rfl)
set_option maxRecDepth 100000 in
theorem wl_189 : (.instanceMethod y_Verifier_comeTo : Cond) ∈ lw_tbl := List.mem_append_right _ (List.mem_append_right _ (List.mem_append_left _ (List.mem_of_getElem? (i := 142) rfl)))
theorem wq_189 : (.instanceMethod y_Verifier_comeTo : Cond) ∈ tb := tb_i4 (List.mem_of_getElem? (i := 29) rfl)
set_option maxRecDepth 100000 in
theorem wl_190 : (.selects R_Verifier y_Verifier_comeTo y_Verifier_comeTo : Cond) ∈ lw_tbl := List.mem_append_left _ (List.mem_of_getElem? (i := 8) rfl)
theorem wq_190 : (.selects R_Verifier y_Verifier_comeTo y_Verifier_comeTo : Cond) ∈ tb := tb_i4 (List.mem_of_getElem? (i := 30) rfl)
set_option maxRecDepth 100000 in
theorem wl_191 : (.fieldLink R_Verifier 83 "StackBytes$Verifier" "depth" "I" : Cond) ∈ lw_tbl := List.mem_append_right _ (List.mem_append_left _ (List.mem_of_getElem? (i := 73) rfl))
theorem wq_191 : (.fieldLink R_Verifier 83 "StackBytes$Verifier" "depth" "I" : Cond) ∈ tb := tb_i4 (List.mem_of_getElem? (i := 31) rfl)
set_option maxRecDepth 100000 in
theorem wl_192 : (.fieldLink R_Verifier 86 "StackBytes$Verifier" "rows" "I" : Cond) ∈ lw_tbl := List.mem_append_right _ (List.mem_append_left _ (List.mem_of_getElem? (i := 74) rfl))
theorem wq_192 : (.fieldLink R_Verifier 86 "StackBytes$Verifier" "rows" "I" : Cond) ∈ tb := tb_i4 (List.mem_of_getElem? (i := 32) rfl)
set_option maxRecDepth 100000 in
theorem wl_193 : (.fieldLink R_Verifier 80 "StackBytes$Verifier" "current" "I" : Cond) ∈ lw_tbl := List.mem_append_right _ (List.mem_append_left _ (List.mem_of_getElem? (i := 72) rfl))
theorem wq_193 : (.fieldLink R_Verifier 80 "StackBytes$Verifier" "current" "I" : Cond) ∈ tb := tb_i4 (List.mem_of_getElem? (i := 33) rfl)
set_option maxRecDepth 100000 in
theorem wl_194 : (.code y_Verifier_take b_Verifier_take 3 (some .int) : Cond) ∈ lw_tbl := List.mem_append_right _ (List.mem_append_right _ (List.mem_append_left _ (List.mem_of_getElem? (i := 169) rfl)))
theorem wq_194 : (.code y_Verifier_take b_Verifier_take 3 (some .int) : Cond) ∈ tb := tb_i4 (List.mem_of_getElem? (i := 34) rfl)
set_option maxRecDepth 100000 in
theorem wl_195 : (.code y_Verifier_put b_Verifier_put 2 none : Cond) ∈ lw_tbl := List.mem_append_right _ (List.mem_append_right _ (List.mem_append_left _ (List.mem_of_getElem? (i := 165) rfl)))
theorem wq_195 : (.code y_Verifier_put b_Verifier_put 2 none : Cond) ∈ tb := tb_i4 (List.mem_of_getElem? (i := 35) rfl)
set_option maxRecDepth 100000 in
theorem wl_196 : (.methodLink R_Verifier 141 y_Verifier_put : Cond) ∈ lw_tbl := List.mem_append_right _ (List.mem_append_right _ (List.mem_append_left _ (List.mem_of_getElem? (i := 162) rfl)))
theorem wq_196 : (.methodLink R_Verifier 141 y_Verifier_put : Cond) ∈ tb := tb_i4 (List.mem_of_getElem? (i := 36) rfl)
set_option maxRecDepth 100000 in
theorem wl_197 : (.instanceMethod y_Verifier_put : Cond) ∈ lw_tbl := List.mem_append_right _ (List.mem_append_right _ (List.mem_append_left _ (List.mem_of_getElem? (i := 164) rfl)))
theorem wq_197 : (.instanceMethod y_Verifier_put : Cond) ∈ tb := tb_i4 (List.mem_of_getElem? (i := 37) rfl)
set_option maxRecDepth 100000 in
theorem wl_198 : (.selects R_Verifier y_Verifier_put y_Verifier_put : Cond) ∈ lw_tbl := List.mem_append_left _ (List.mem_of_getElem? (i := 12) rfl)
theorem wq_198 : (.selects R_Verifier y_Verifier_put y_Verifier_put : Cond) ∈ tb := tb_i4 (List.mem_of_getElem? (i := 38) rfl)
set_option maxRecDepth 100000 in
theorem wl_199 : (.methodLink R_Verifier 144 y_Verifier_take : Cond) ∈ lw_tbl := List.mem_append_right _ (List.mem_append_right _ (List.mem_append_left _ (List.mem_of_getElem? (i := 166) rfl)))
theorem wq_199 : (.methodLink R_Verifier 144 y_Verifier_take : Cond) ∈ tb := tb_i4 (List.mem_of_getElem? (i := 39) rfl)
set_option maxRecDepth 100000 in
theorem wl_200 : (.instanceMethod y_Verifier_take : Cond) ∈ lw_tbl := List.mem_append_right _ (List.mem_append_right _ (List.mem_append_left _ (List.mem_of_getElem? (i := 168) rfl)))
theorem wq_200 : (.instanceMethod y_Verifier_take : Cond) ∈ tb := tb_i5 (List.mem_of_getElem? (i := 0) rfl)
set_option maxRecDepth 100000 in
theorem wl_201 : (.selects R_Verifier y_Verifier_take y_Verifier_take : Cond) ∈ lw_tbl := List.mem_append_left _ (List.mem_of_getElem? (i := 13) rfl)
theorem wq_201 : (.selects R_Verifier y_Verifier_take y_Verifier_take : Cond) ∈ tb := tb_i5 (List.mem_of_getElem? (i := 1) rfl)
set_option maxRecDepth 100000 in
theorem wl_202 : (.fieldLink R_Function 35 "StackBytes$Function" "rowLocals" "I" : Cond) ∈ lw_tbl := List.mem_append_right _ (List.mem_append_left _ (List.mem_of_getElem? (i := 156) rfl))
theorem wq_202 : (.fieldLink R_Function 35 "StackBytes$Function" "rowLocals" "I" : Cond) ∈ tb := tb_i5 (List.mem_of_getElem? (i := 2) rfl)
set_option maxRecDepth 100000 in
theorem wl_203 : (.fieldLink R_Verifier 173 "StackBytes$Function" "params" "I" : Cond) ∈ lw_tbl := List.mem_append_right _ (List.mem_append_left _ (List.mem_of_getElem? (i := 151) rfl))
theorem wq_203 : (.fieldLink R_Verifier 173 "StackBytes$Function" "params" "I" : Cond) ∈ tb := tb_i5 (List.mem_of_getElem? (i := 3) rfl)
set_option maxRecDepth 100000 in
theorem wl_204 : (.code y_Function_typeOfLocal b_Function_typeOfLocal 2 (some .int) : Cond) ∈ lw_tbl := List.mem_append_right _ (List.mem_append_right _ (List.mem_append_left _ (List.mem_of_getElem? (i := 181) rfl)))
theorem wq_204 : (.code y_Function_typeOfLocal b_Function_typeOfLocal 2 (some .int) : Cond) ∈ tb := tb_i5 (List.mem_of_getElem? (i := 4) rfl)
set_option maxRecDepth 100000 in
theorem wl_205 : (.methodLink R_Verifier 154 y_Function_typeOfLocal : Cond) ∈ lw_tbl := List.mem_append_right _ (List.mem_append_right _ (List.mem_append_left _ (List.mem_of_getElem? (i := 178) rfl)))
theorem wq_205 : (.methodLink R_Verifier 154 y_Function_typeOfLocal : Cond) ∈ tb := tb_i5 (List.mem_of_getElem? (i := 5) rfl)
set_option maxRecDepth 100000 in
theorem wl_206 : (.instanceMethod y_Function_typeOfLocal : Cond) ∈ lw_tbl := List.mem_append_right _ (List.mem_append_right _ (List.mem_append_left _ (List.mem_of_getElem? (i := 179) rfl)))
theorem wq_206 : (.instanceMethod y_Function_typeOfLocal : Cond) ∈ tb := tb_i5 (List.mem_of_getElem? (i := 6) rfl)
set_option maxRecDepth 100000 in
theorem wl_207 : (.selects R_Function y_Function_typeOfLocal y_Function_typeOfLocal : Cond) ∈ lw_tbl := List.mem_append_right _ (List.mem_append_right _ (List.mem_append_left _ (List.mem_of_getElem? (i := 180) rfl)))
theorem wq_207 : (.selects R_Function y_Function_typeOfLocal y_Function_typeOfLocal : Cond) ∈ tb := tb_i5 (List.mem_of_getElem? (i := 7) rfl)
set_option maxRecDepth 100000 in
theorem wl_208 : (.fieldLink R_Verifier 176 "StackBytes$Function" "result" "I" : Cond) ∈ lw_tbl := List.mem_append_right _ (List.mem_append_left _ (List.mem_of_getElem? (i := 162) rfl))
theorem wq_208 : (.fieldLink R_Verifier 176 "StackBytes$Function" "result" "I" : Cond) ∈ tb := tb_i5 (List.mem_of_getElem? (i := 8) rfl)
set_option maxRecDepth 100000 in
theorem wl_209 : (.code y_Verifier_repeatTop b_Verifier_repeatTop 2 none : Cond) ∈ lw_tbl := List.mem_append_right _ (List.mem_append_right _ (List.mem_append_left _ (List.mem_of_getElem? (i := 173) rfl)))
theorem wq_209 : (.code y_Verifier_repeatTop b_Verifier_repeatTop 2 none : Cond) ∈ tb := tb_i5 (List.mem_of_getElem? (i := 9) rfl)
set_option maxRecDepth 100000 in
theorem wl_210 : (.methodLink R_Verifier 148 y_Verifier_repeatTop : Cond) ∈ lw_tbl := List.mem_append_right _ (List.mem_append_right _ (List.mem_append_left _ (List.mem_of_getElem? (i := 170) rfl)))
theorem wq_210 : (.methodLink R_Verifier 148 y_Verifier_repeatTop : Cond) ∈ tb := tb_i5 (List.mem_of_getElem? (i := 10) rfl)
set_option maxRecDepth 100000 in
theorem wl_211 : (.instanceMethod y_Verifier_repeatTop : Cond) ∈ lw_tbl := List.mem_append_right _ (List.mem_append_right _ (List.mem_append_left _ (List.mem_of_getElem? (i := 172) rfl)))
theorem wq_211 : (.instanceMethod y_Verifier_repeatTop : Cond) ∈ tb := tb_i5 (List.mem_of_getElem? (i := 11) rfl)
set_option maxRecDepth 100000 in
theorem wl_212 : (.selects R_Verifier y_Verifier_repeatTop y_Verifier_repeatTop : Cond) ∈ lw_tbl := List.mem_append_left _ (List.mem_of_getElem? (i := 14) rfl)
theorem wq_212 : (.selects R_Verifier y_Verifier_repeatTop y_Verifier_repeatTop : Cond) ∈ tb := tb_i5 (List.mem_of_getElem? (i := 12) rfl)
set_option maxRecDepth 100000 in
theorem wl_213 : (.code y_Verifier_swapUpperTwo b_Verifier_swapUpperTwo 3 none : Cond) ∈ lw_tbl := List.mem_append_right _ (List.mem_append_right _ (List.mem_append_left _ (List.mem_of_getElem? (i := 177) rfl)))
theorem wq_213 : (.code y_Verifier_swapUpperTwo b_Verifier_swapUpperTwo 3 none : Cond) ∈ tb := tb_i5 (List.mem_of_getElem? (i := 13) rfl)
set_option maxRecDepth 100000 in
theorem wl_214 : (.methodLink R_Verifier 151 y_Verifier_swapUpperTwo : Cond) ∈ lw_tbl := List.mem_append_right _ (List.mem_append_right _ (List.mem_append_left _ (List.mem_of_getElem? (i := 174) rfl)))
theorem wq_214 : (.methodLink R_Verifier 151 y_Verifier_swapUpperTwo : Cond) ∈ tb := tb_i5 (List.mem_of_getElem? (i := 14) rfl)
set_option maxRecDepth 100000 in
theorem wl_215 : (.instanceMethod y_Verifier_swapUpperTwo : Cond) ∈ lw_tbl := List.mem_append_right _ (List.mem_append_right _ (List.mem_append_left _ (List.mem_of_getElem? (i := 176) rfl)))
theorem wq_215 : (.instanceMethod y_Verifier_swapUpperTwo : Cond) ∈ tb := tb_i5 (List.mem_of_getElem? (i := 15) rfl)
set_option maxRecDepth 100000 in
theorem wl_216 : (.selects R_Verifier y_Verifier_swapUpperTwo y_Verifier_swapUpperTwo : Cond) ∈ lw_tbl := List.mem_append_left _ (List.mem_of_getElem? (i := 15) rfl)
theorem wq_216 : (.selects R_Verifier y_Verifier_swapUpperTwo y_Verifier_swapUpperTwo : Cond) ∈ tb := tb_i5 (List.mem_of_getElem? (i := 16) rfl)
set_option maxRecDepth 100000 in
theorem wl_217 : (.code y_Verifier_useRow b_Verifier_useRow 2 none : Cond) ∈ lw_tbl := List.mem_append_right _ (List.mem_append_right _ (List.mem_append_left _ (List.mem_of_getElem? (i := 185) rfl)))
theorem wq_217 : (.code y_Verifier_useRow b_Verifier_useRow 2 none : Cond) ∈ tb := tb_i5 (List.mem_of_getElem? (i := 17) rfl)
set_option maxRecDepth 100000 in
theorem wl_218 : (.methodLink R_Verifier 157 y_Verifier_useRow : Cond) ∈ lw_tbl := List.mem_append_right _ (List.mem_append_right _ (List.mem_append_left _ (List.mem_of_getElem? (i := 182) rfl)))
theorem wq_218 : (.methodLink R_Verifier 157 y_Verifier_useRow : Cond) ∈ tb := tb_i5 (List.mem_of_getElem? (i := 18) rfl)
set_option maxRecDepth 100000 in
theorem wl_219 : (.instanceMethod y_Verifier_useRow : Cond) ∈ lw_tbl := List.mem_append_right _ (List.mem_append_right _ (List.mem_append_left _ (List.mem_of_getElem? (i := 184) rfl)))
theorem wq_219 : (.instanceMethod y_Verifier_useRow : Cond) ∈ tb := tb_i5 (List.mem_of_getElem? (i := 19) rfl)
set_option maxRecDepth 100000 in
theorem wl_220 : (.selects R_Verifier y_Verifier_useRow y_Verifier_useRow : Cond) ∈ lw_tbl := List.mem_append_left _ (List.mem_of_getElem? (i := 16) rfl)
theorem wq_220 : (.selects R_Verifier y_Verifier_useRow y_Verifier_useRow : Cond) ∈ tb := tb_i5 (List.mem_of_getElem? (i := 20) rfl)
set_option maxRecDepth 100000 in
theorem wl_221 : (.fieldLink R_Verifier 28 "StackBytes$Verifier" "program" "LStackBytes$Program;" : Cond) ∈ lw_tbl := List.mem_append_right _ (List.mem_append_left _ (List.mem_of_getElem? (i := 68) rfl))
theorem wq_221 : (.fieldLink R_Verifier 28 "StackBytes$Verifier" "program" "LStackBytes$Program;" : Cond) ∈ tb := tb_i5 (List.mem_of_getElem? (i := 21) rfl)
set_option maxRecDepth 100000 in
theorem wl_222 : (.code y_Program_at b_Program_at 2 (some (.object "StackBytes$Function")) : Cond) ∈ lw_tbl := List.mem_append_right _ (List.mem_append_right _ (List.mem_append_left _ (List.mem_of_getElem? (i := 135) rfl)))
theorem wq_222 : (.code y_Program_at b_Program_at 2 (some (.object "StackBytes$Function")) : Cond) ∈ tb := tb_i5 (List.mem_of_getElem? (i := 22) rfl)
set_option maxRecDepth 100000 in
theorem wl_223 : (.code y_Verifier_callFunction b_Verifier_callFunction 3 none : Cond) ∈ lw_tbl := List.mem_append_right _ (List.mem_append_right _ (List.mem_append_left _ (List.mem_of_getElem? (i := 189) rfl)))
theorem wq_223 : (.code y_Verifier_callFunction b_Verifier_callFunction 3 none : Cond) ∈ tb := tb_i5 (List.mem_of_getElem? (i := 23) rfl)
set_option maxRecDepth 100000 in
theorem wl_224 : (.methodLink R_Verifier 160 y_Verifier_callFunction : Cond) ∈ lw_tbl := List.mem_append_right _ (List.mem_append_right _ (List.mem_append_left _ (List.mem_of_getElem? (i := 186) rfl)))
theorem wq_224 : (.methodLink R_Verifier 160 y_Verifier_callFunction : Cond) ∈ tb := tb_i5 (List.mem_of_getElem? (i := 24) rfl)
set_option maxRecDepth 100000 in
theorem wl_225 : (.instanceMethod y_Verifier_callFunction : Cond) ∈ lw_tbl := List.mem_append_right _ (List.mem_append_right _ (List.mem_append_left _ (List.mem_of_getElem? (i := 188) rfl)))
theorem wq_225 : (.instanceMethod y_Verifier_callFunction : Cond) ∈ tb := tb_i5 (List.mem_of_getElem? (i := 25) rfl)
set_option maxRecDepth 100000 in
theorem wl_226 : (.selects R_Verifier y_Verifier_callFunction y_Verifier_callFunction : Cond) ∈ lw_tbl := List.mem_append_left _ (List.mem_of_getElem? (i := 17) rfl)
theorem wq_226 : (.selects R_Verifier y_Verifier_callFunction y_Verifier_callFunction : Cond) ∈ tb := tb_i5 (List.mem_of_getElem? (i := 26) rfl)
set_option maxRecDepth 100000 in
theorem wl_227 : (.methodLink R_Verifier 22 y_Program_at : Cond) ∈ lw_tbl := List.mem_append_right _ (List.mem_append_right _ (List.mem_append_left _ (List.mem_of_getElem? (i := 132) rfl)))
theorem wq_227 : (.methodLink R_Verifier 22 y_Program_at : Cond) ∈ tb := tb_i5 (List.mem_of_getElem? (i := 27) rfl)
set_option maxRecDepth 100000 in
theorem wl_228 : (.instanceMethod y_Program_at : Cond) ∈ lw_tbl := List.mem_append_right _ (List.mem_append_right _ (List.mem_append_left _ (List.mem_of_getElem? (i := 133) rfl)))
theorem wq_228 : (.instanceMethod y_Program_at : Cond) ∈ tb := tb_i5 (List.mem_of_getElem? (i := 28) rfl)
set_option maxRecDepth 100000 in
theorem wl_229 : (.selects R_Program y_Program_at y_Program_at : Cond) ∈ lw_tbl := List.mem_append_right _ (List.mem_append_right _ (List.mem_append_left _ (List.mem_of_getElem? (i := 134) rfl)))
theorem wq_229 : (.selects R_Program y_Program_at y_Program_at : Cond) ∈ tb := tb_i5 (List.mem_of_getElem? (i := 29) rfl)
set_option maxRecDepth 100000 in
theorem wl_230 : (.code y_Verifier_takeInts b_Verifier_takeInts 3 none : Cond) ∈ lw_tbl := List.mem_append_right _ (List.mem_append_right _ (List.mem_append_left _ (List.mem_of_getElem? (i := 193) rfl)))
theorem wq_230 : (.code y_Verifier_takeInts b_Verifier_takeInts 3 none : Cond) ∈ tb := tb_i5 (List.mem_of_getElem? (i := 30) rfl)
set_option maxRecDepth 100000 in
theorem wl_231 : (.methodLink R_Verifier 164 y_Verifier_takeInts : Cond) ∈ lw_tbl := List.mem_append_right _ (List.mem_append_right _ (List.mem_append_left _ (List.mem_of_getElem? (i := 190) rfl)))
theorem wq_231 : (.methodLink R_Verifier 164 y_Verifier_takeInts : Cond) ∈ tb := tb_i5 (List.mem_of_getElem? (i := 31) rfl)
set_option maxRecDepth 100000 in
theorem wl_232 : (.instanceMethod y_Verifier_takeInts : Cond) ∈ lw_tbl := List.mem_append_right _ (List.mem_append_right _ (List.mem_append_left _ (List.mem_of_getElem? (i := 192) rfl)))
theorem wq_232 : (.instanceMethod y_Verifier_takeInts : Cond) ∈ tb := tb_i5 (List.mem_of_getElem? (i := 32) rfl)
set_option maxRecDepth 100000 in
theorem wl_233 : (.selects R_Verifier y_Verifier_takeInts y_Verifier_takeInts : Cond) ∈ lw_tbl := List.mem_append_left _ (List.mem_of_getElem? (i := 18) rfl)
theorem wq_233 : (.selects R_Verifier y_Verifier_takeInts y_Verifier_takeInts : Cond) ∈ tb := tb_i5 (List.mem_of_getElem? (i := 33) rfl)
set_option maxRecDepth 100000 in
theorem wl_234 : (.code y_Verifier_takeResult b_Verifier_takeResult 1 none : Cond) ∈ lw_tbl := List.mem_append_right _ (List.mem_append_right _ (List.mem_append_left _ (List.mem_of_getElem? (i := 197) rfl)))
theorem wq_234 : (.code y_Verifier_takeResult b_Verifier_takeResult 1 none : Cond) ∈ tb := tb_i5 (List.mem_of_getElem? (i := 34) rfl)
set_option maxRecDepth 100000 in
theorem wl_235 : (.methodLink R_Verifier 167 y_Verifier_takeResult : Cond) ∈ lw_tbl := List.mem_append_right _ (List.mem_append_right _ (List.mem_append_left _ (List.mem_of_getElem? (i := 194) rfl)))
theorem wq_235 : (.methodLink R_Verifier 167 y_Verifier_takeResult : Cond) ∈ tb := tb_i5 (List.mem_of_getElem? (i := 35) rfl)
set_option maxRecDepth 100000 in
theorem wl_236 : (.instanceMethod y_Verifier_takeResult : Cond) ∈ lw_tbl := List.mem_append_right _ (List.mem_append_right _ (List.mem_append_left _ (List.mem_of_getElem? (i := 196) rfl)))
theorem wq_236 : (.instanceMethod y_Verifier_takeResult : Cond) ∈ tb := tb_i5 (List.mem_of_getElem? (i := 36) rfl)
set_option maxRecDepth 100000 in
theorem wl_237 : (.selects R_Verifier y_Verifier_takeResult y_Verifier_takeResult : Cond) ∈ lw_tbl := List.mem_append_left _ (List.mem_of_getElem? (i := 19) rfl)
theorem wq_237 : (.selects R_Verifier y_Verifier_takeResult y_Verifier_takeResult : Cond) ∈ tb := tb_i5 (List.mem_of_getElem? (i := 37) rfl)
set_option maxRecDepth 100000 in
theorem wl_238 : (.code y_Verifier_putInts b_Verifier_putInts 3 none : Cond) ∈ lw_tbl := List.mem_append_right _ (List.mem_append_right _ (List.mem_append_left _ (List.mem_of_getElem? (i := 201) rfl)))
theorem wq_238 : (.code y_Verifier_putInts b_Verifier_putInts 3 none : Cond) ∈ tb := tb_i5 (List.mem_of_getElem? (i := 38) rfl)
set_option maxRecDepth 100000 in
theorem wl_239 : (.methodLink R_Verifier 170 y_Verifier_putInts : Cond) ∈ lw_tbl := List.mem_append_right _ (List.mem_append_right _ (List.mem_append_left _ (List.mem_of_getElem? (i := 198) rfl)))
theorem wq_239 : (.methodLink R_Verifier 170 y_Verifier_putInts : Cond) ∈ tb := tb_i5 (List.mem_of_getElem? (i := 39) rfl)
set_option maxRecDepth 100000 in
theorem wl_240 : (.instanceMethod y_Verifier_putInts : Cond) ∈ lw_tbl := List.mem_append_right _ (List.mem_append_right _ (List.mem_append_left _ (List.mem_of_getElem? (i := 200) rfl)))
theorem wq_240 : (.instanceMethod y_Verifier_putInts : Cond) ∈ tb := tb_i6 (List.mem_of_getElem? (i := 0) rfl)
set_option maxRecDepth 100000 in
theorem wl_241 : (.selects R_Verifier y_Verifier_putInts y_Verifier_putInts : Cond) ∈ lw_tbl := List.mem_append_left _ (List.mem_of_getElem? (i := 20) rfl)
theorem wq_241 : (.selects R_Verifier y_Verifier_putInts y_Verifier_putInts : Cond) ∈ tb := tb_i6 (List.mem_of_getElem? (i := 1) rfl)
set_option maxRecDepth 100000 in
theorem wl_242 : (.fieldLink R_Handler 7 "StackBytes$Handler" "from" "I" : Cond) ∈ lw_tbl := List.mem_append_right _ (List.mem_append_left _ (List.mem_of_getElem? (i := 120) rfl))
theorem wq_242 : (.fieldLink R_Handler 7 "StackBytes$Handler" "from" "I" : Cond) ∈ tb := tb_i6 (List.mem_of_getElem? (i := 2) rfl)
set_option maxRecDepth 100000 in
theorem wl_243 : (.fieldLink R_Handler 13 "StackBytes$Handler" "to" "I" : Cond) ∈ lw_tbl := List.mem_append_right _ (List.mem_append_left _ (List.mem_of_getElem? (i := 123) rfl))
theorem wq_243 : (.fieldLink R_Handler 13 "StackBytes$Handler" "to" "I" : Cond) ∈ tb := tb_i6 (List.mem_of_getElem? (i := 3) rfl)
set_option maxRecDepth 100000 in
theorem wl_244 : (.fieldLink R_Verifier 114 "StackBytes$Function" "handlerCount" "I" : Cond) ∈ lw_tbl := List.mem_append_right _ (List.mem_append_left _ (List.mem_of_getElem? (i := 170) rfl))
theorem wq_244 : (.fieldLink R_Verifier 114 "StackBytes$Function" "handlerCount" "I" : Cond) ∈ tb := tb_i6 (List.mem_of_getElem? (i := 4) rfl)
set_option maxRecDepth 100000 in
theorem wl_245 : (.fieldLink R_Verifier 117 "StackBytes$Function" "handlers" "[LStackBytes$Handler;" : Cond) ∈ lw_tbl := List.mem_append_right _ (List.mem_append_left _ (List.mem_of_getElem? (i := 188) rfl))
theorem wq_245 : (.fieldLink R_Verifier 117 "StackBytes$Function" "handlers" "[LStackBytes$Handler;" : Cond) ∈ tb := tb_i6 (List.mem_of_getElem? (i := 5) rfl)
set_option maxRecDepth 100000 in
theorem wl_246 : (.code y_Handler_covers b_Handler_covers 2 (some .boolean) : Cond) ∈ lw_tbl := List.mem_append_right _ (List.mem_append_right _ (List.mem_append_left _ (List.mem_of_getElem? (i := 209) rfl)))
theorem wq_246 : (.code y_Handler_covers b_Handler_covers 2 (some .boolean) : Cond) ∈ tb := tb_i6 (List.mem_of_getElem? (i := 6) rfl)
set_option maxRecDepth 100000 in
theorem wl_247 : (.fieldLink R_Verifier 126 "StackBytes$Handler" "target" "I" : Cond) ∈ lw_tbl := List.mem_append_right _ (List.mem_append_left _ (List.mem_of_getElem? (i := 128) rfl))
theorem wq_247 : (.fieldLink R_Verifier 126 "StackBytes$Handler" "target" "I" : Cond) ∈ tb := tb_i6 (List.mem_of_getElem? (i := 7) rfl)
set_option maxRecDepth 100000 in
theorem wl_248 : (.methodLink R_Verifier 121 y_Handler_covers : Cond) ∈ lw_tbl := List.mem_append_right _ (List.mem_append_right _ (List.mem_append_left _ (List.mem_of_getElem? (i := 206) rfl)))
theorem wq_248 : (.methodLink R_Verifier 121 y_Handler_covers : Cond) ∈ tb := tb_i6 (List.mem_of_getElem? (i := 8) rfl)
set_option maxRecDepth 100000 in
theorem wl_249 : (.instanceMethod y_Handler_covers : Cond) ∈ lw_tbl := List.mem_append_right _ (List.mem_append_right _ (List.mem_append_left _ (List.mem_of_getElem? (i := 207) rfl)))
theorem wq_249 : (.instanceMethod y_Handler_covers : Cond) ∈ tb := tb_i6 (List.mem_of_getElem? (i := 9) rfl)
set_option maxRecDepth 100000 in
theorem wl_250 : (.selects R_Handler y_Handler_covers y_Handler_covers : Cond) ∈ lw_tbl := List.mem_append_right _ (List.mem_append_right _ (List.mem_append_left _ (List.mem_of_getElem? (i := 208) rfl)))
theorem wq_250 : (.selects R_Handler y_Handler_covers y_Handler_covers : Cond) ∈ tb := tb_i6 (List.mem_of_getElem? (i := 10) rfl)
set_option maxRecDepth 100000 in
theorem wl_251 : (.fieldLink R_Verifier 89 "StackBytes$Function" "ops" "[I" : Cond) ∈ lw_tbl := List.mem_append_right _ (List.mem_append_left _ (List.mem_of_getElem? (i := 175) rfl))
theorem wq_251 : (.fieldLink R_Verifier 89 "StackBytes$Function" "ops" "[I" : Cond) ∈ tb := tb_i6 (List.mem_of_getElem? (i := 11) rfl)
set_option maxRecDepth 100000 in
theorem wl_252 : (.fieldLink R_Verifier 92 "StackBytes$Function" "behinds" "[I" : Cond) ∈ lw_tbl := List.mem_append_right _ (List.mem_append_left _ (List.mem_of_getElem? (i := 179) rfl))
theorem wq_252 : (.fieldLink R_Verifier 92 "StackBytes$Function" "behinds" "[I" : Cond) ∈ tb := tb_i6 (List.mem_of_getElem? (i := 12) rfl)
set_option maxRecDepth 100000 in
theorem wl_253 : (.code y_Verifier_takeAndPut b_Verifier_takeAndPut 3 none : Cond) ∈ lw_tbl := List.mem_append_right _ (List.mem_append_right _ (List.mem_append_left _ (List.mem_of_getElem? (i := 161) rfl)))
theorem wq_253 : (.code y_Verifier_takeAndPut b_Verifier_takeAndPut 3 none : Cond) ∈ tb := tb_i6 (List.mem_of_getElem? (i := 13) rfl)
set_option maxRecDepth 100000 in
theorem wl_254 : (.code y_Verifier_comeToHandlers b_Verifier_comeToHandlers 3 none : Cond) ∈ lw_tbl := List.mem_append_right _ (List.mem_append_right _ (List.mem_append_left _ (List.mem_of_getElem? (i := 205) rfl)))
theorem wq_254 : (.code y_Verifier_comeToHandlers b_Verifier_comeToHandlers 3 none : Cond) ∈ tb := tb_i6 (List.mem_of_getElem? (i := 14) rfl)
set_option maxRecDepth 100000 in
theorem wl_255 : (.code y_Kinds_goesToPlace b_Kinds_goesToPlace 1 (some .boolean) : Cond) ∈ lw_tbl := List.mem_append_right _ (List.mem_append_right _ (List.mem_append_left _ (List.mem_of_getElem? (i := 212) rfl)))
theorem wq_255 : (.code y_Kinds_goesToPlace b_Kinds_goesToPlace 1 (some .boolean) : Cond) ∈ tb := tb_i6 (List.mem_of_getElem? (i := 15) rfl)
set_option maxRecDepth 100000 in
theorem wl_256 : (.code y_Kinds_goesOnBehind b_Kinds_goesOnBehind 1 (some .boolean) : Cond) ∈ lw_tbl := List.mem_append_right _ (List.mem_append_right _ (List.mem_append_left _ (List.mem_of_getElem? (i := 215) rfl)))
theorem wq_256 : (.code y_Kinds_goesOnBehind b_Kinds_goesOnBehind 1 (some .boolean) : Cond) ∈ tb := tb_i6 (List.mem_of_getElem? (i := 16) rfl)
set_option maxRecDepth 100000 in
theorem wl_257 : (.code y_Verifier_comeToNext b_Verifier_comeToNext 1 none : Cond) ∈ lw_tbl := List.mem_append_right _ (List.mem_append_right _ (List.mem_append_left _ (List.mem_of_getElem? (i := 219) rfl)))
theorem wq_257 : (.code y_Verifier_comeToNext b_Verifier_comeToNext 1 none : Cond) ∈ tb := tb_i6 (List.mem_of_getElem? (i := 17) rfl)
set_option maxRecDepth 100000 in
theorem wl_258 : (.methodLink R_Verifier 111 y_Verifier_comeToNext : Cond) ∈ lw_tbl := List.mem_append_right _ (List.mem_append_right _ (List.mem_append_left _ (List.mem_of_getElem? (i := 216) rfl)))
theorem wq_258 : (.methodLink R_Verifier 111 y_Verifier_comeToNext : Cond) ∈ tb := tb_i6 (List.mem_of_getElem? (i := 18) rfl)
set_option maxRecDepth 100000 in
theorem wl_259 : (.instanceMethod y_Verifier_comeToNext : Cond) ∈ lw_tbl := List.mem_append_right _ (List.mem_append_right _ (List.mem_append_left _ (List.mem_of_getElem? (i := 218) rfl)))
theorem wq_259 : (.instanceMethod y_Verifier_comeToNext : Cond) ∈ tb := tb_i6 (List.mem_of_getElem? (i := 19) rfl)
set_option maxRecDepth 100000 in
theorem wl_260 : (.selects R_Verifier y_Verifier_comeToNext y_Verifier_comeToNext : Cond) ∈ lw_tbl := List.mem_append_left _ (List.mem_of_getElem? (i := 22) rfl)
theorem wq_260 : (.selects R_Verifier y_Verifier_comeToNext y_Verifier_comeToNext : Cond) ∈ tb := tb_i6 (List.mem_of_getElem? (i := 20) rfl)
set_option maxRecDepth 100000 in
theorem wl_261 : (.methodLink R_Verifier 108 y_Kinds_goesOnBehind : Cond) ∈ lw_tbl := List.mem_append_right _ (List.mem_append_right _ (List.mem_append_left _ (List.mem_of_getElem? (i := 213) rfl)))
theorem wq_261 : (.methodLink R_Verifier 108 y_Kinds_goesOnBehind : Cond) ∈ tb := tb_i6 (List.mem_of_getElem? (i := 21) rfl)
set_option maxRecDepth 100000 in
theorem wl_262 : (.static y_Kinds_goesOnBehind : Cond) ∈ lw_tbl := List.mem_append_right _ (List.mem_append_right _ (List.mem_append_left _ (List.mem_of_getElem? (i := 214) rfl)))
theorem wq_262 : (.static y_Kinds_goesOnBehind : Cond) ∈ tb := tb_i6 (List.mem_of_getElem? (i := 22) rfl)
set_option maxRecDepth 100000 in
theorem wl_263 : (.methodLink R_Verifier 102 y_Kinds_goesToPlace : Cond) ∈ lw_tbl := List.mem_append_right _ (List.mem_append_right _ (List.mem_append_left _ (List.mem_of_getElem? (i := 210) rfl)))
theorem wq_263 : (.methodLink R_Verifier 102 y_Kinds_goesToPlace : Cond) ∈ tb := tb_i6 (List.mem_of_getElem? (i := 23) rfl)
set_option maxRecDepth 100000 in
theorem wl_264 : (.static y_Kinds_goesToPlace : Cond) ∈ lw_tbl := List.mem_append_right _ (List.mem_append_right _ (List.mem_append_left _ (List.mem_of_getElem? (i := 211) rfl)))
theorem wq_264 : (.static y_Kinds_goesToPlace : Cond) ∈ tb := tb_i6 (List.mem_of_getElem? (i := 24) rfl)
set_option maxRecDepth 100000 in
theorem wl_265 : (.methodLink R_Verifier 99 y_Verifier_comeToHandlers : Cond) ∈ lw_tbl := List.mem_append_right _ (List.mem_append_right _ (List.mem_append_left _ (List.mem_of_getElem? (i := 202) rfl)))
theorem wq_265 : (.methodLink R_Verifier 99 y_Verifier_comeToHandlers : Cond) ∈ tb := tb_i6 (List.mem_of_getElem? (i := 25) rfl)
set_option maxRecDepth 100000 in
theorem wl_266 : (.instanceMethod y_Verifier_comeToHandlers : Cond) ∈ lw_tbl := List.mem_append_right _ (List.mem_append_right _ (List.mem_append_left _ (List.mem_of_getElem? (i := 204) rfl)))
theorem wq_266 : (.instanceMethod y_Verifier_comeToHandlers : Cond) ∈ tb := tb_i6 (List.mem_of_getElem? (i := 26) rfl)
set_option maxRecDepth 100000 in
theorem wl_267 : (.selects R_Verifier y_Verifier_comeToHandlers y_Verifier_comeToHandlers : Cond) ∈ lw_tbl := List.mem_append_left _ (List.mem_of_getElem? (i := 21) rfl)
theorem wq_267 : (.selects R_Verifier y_Verifier_comeToHandlers y_Verifier_comeToHandlers : Cond) ∈ tb := tb_i6 (List.mem_of_getElem? (i := 27) rfl)
set_option maxRecDepth 100000 in
theorem wl_268 : (.methodLink R_Verifier 95 y_Verifier_takeAndPut : Cond) ∈ lw_tbl := List.mem_append_right _ (List.mem_append_right _ (List.mem_append_left _ (List.mem_of_getElem? (i := 158) rfl)))
theorem wq_268 : (.methodLink R_Verifier 95 y_Verifier_takeAndPut : Cond) ∈ tb := tb_i6 (List.mem_of_getElem? (i := 28) rfl)
set_option maxRecDepth 100000 in
theorem wl_269 : (.instanceMethod y_Verifier_takeAndPut : Cond) ∈ lw_tbl := List.mem_append_right _ (List.mem_append_right _ (List.mem_append_left _ (List.mem_of_getElem? (i := 160) rfl)))
theorem wq_269 : (.instanceMethod y_Verifier_takeAndPut : Cond) ∈ tb := tb_i6 (List.mem_of_getElem? (i := 29) rfl)
set_option maxRecDepth 100000 in
theorem wl_270 : (.selects R_Verifier y_Verifier_takeAndPut y_Verifier_takeAndPut : Cond) ∈ lw_tbl := List.mem_append_left _ (List.mem_of_getElem? (i := 11) rfl)
theorem wq_270 : (.selects R_Verifier y_Verifier_takeAndPut y_Verifier_takeAndPut : Cond) ∈ tb := tb_i6 (List.mem_of_getElem? (i := 30) rfl)
set_option maxRecDepth 100000 in
theorem wl_271 : (.code y_Verifier_begin b_Verifier_begin 2 none : Cond) ∈ lw_tbl := List.mem_append_right _ (List.mem_append_right _ (List.mem_append_left _ (List.mem_of_getElem? (i := 139) rfl)))
theorem wq_271 : (.code y_Verifier_begin b_Verifier_begin 2 none : Cond) ∈ tb := tb_i6 (List.mem_of_getElem? (i := 31) rfl)
set_option maxRecDepth 100000 in
theorem wl_272 : (.code y_Verifier_findLeastWaiting b_Verifier_findLeastWaiting 1 (some .boolean) : Cond) ∈ lw_tbl := List.mem_append_right _ (List.mem_append_right _ (List.mem_append_left _ (List.mem_of_getElem? (i := 153) rfl)))
theorem wq_272 : (.code y_Verifier_findLeastWaiting b_Verifier_findLeastWaiting 1 (some .boolean) : Cond) ∈ tb := tb_i6 (List.mem_of_getElem? (i := 32) rfl)
set_option maxRecDepth 100000 in
theorem wl_273 : (.code y_Verifier_lookAt b_Verifier_lookAt 4 none : Cond) ∈ lw_tbl := List.mem_append_right _ (List.mem_append_right _ (List.mem_append_left _ (List.mem_of_getElem? (i := 157) rfl)))
theorem wq_273 : (.code y_Verifier_lookAt b_Verifier_lookAt 4 none : Cond) ∈ tb := tb_i6 (List.mem_of_getElem? (i := 33) rfl)
set_option maxRecDepth 100000 in
theorem wl_274 : (.methodLink R_Verifier 59 y_Verifier_lookAt : Cond) ∈ lw_tbl := List.mem_append_right _ (List.mem_append_right _ (List.mem_append_left _ (List.mem_of_getElem? (i := 154) rfl)))
theorem wq_274 : (.methodLink R_Verifier 59 y_Verifier_lookAt : Cond) ∈ tb := tb_i6 (List.mem_of_getElem? (i := 34) rfl)
set_option maxRecDepth 100000 in
theorem wl_275 : (.instanceMethod y_Verifier_lookAt : Cond) ∈ lw_tbl := List.mem_append_right _ (List.mem_append_right _ (List.mem_append_left _ (List.mem_of_getElem? (i := 156) rfl)))
theorem wq_275 : (.instanceMethod y_Verifier_lookAt : Cond) ∈ tb := tb_i6 (List.mem_of_getElem? (i := 35) rfl)
set_option maxRecDepth 100000 in
theorem wl_276 : (.selects R_Verifier y_Verifier_lookAt y_Verifier_lookAt : Cond) ∈ lw_tbl := List.mem_append_left _ (List.mem_of_getElem? (i := 10) rfl)
theorem wq_276 : (.selects R_Verifier y_Verifier_lookAt y_Verifier_lookAt : Cond) ∈ tb := tb_i6 (List.mem_of_getElem? (i := 36) rfl)
set_option maxRecDepth 100000 in
theorem wl_277 : (.methodLink R_Verifier 52 y_Verifier_findLeastWaiting : Cond) ∈ lw_tbl := List.mem_append_right _ (List.mem_append_right _ (List.mem_append_left _ (List.mem_of_getElem? (i := 150) rfl)))
theorem wq_277 : (.methodLink R_Verifier 52 y_Verifier_findLeastWaiting : Cond) ∈ tb := tb_i6 (List.mem_of_getElem? (i := 37) rfl)
set_option maxRecDepth 100000 in
theorem wl_278 : (.instanceMethod y_Verifier_findLeastWaiting : Cond) ∈ lw_tbl := List.mem_append_right _ (List.mem_append_right _ (List.mem_append_left _ (List.mem_of_getElem? (i := 152) rfl)))
theorem wq_278 : (.instanceMethod y_Verifier_findLeastWaiting : Cond) ∈ tb := tb_i6 (List.mem_of_getElem? (i := 38) rfl)
set_option maxRecDepth 100000 in
theorem wl_279 : (.selects R_Verifier y_Verifier_findLeastWaiting y_Verifier_findLeastWaiting : Cond) ∈ lw_tbl := List.mem_append_left _ (List.mem_of_getElem? (i := 9) rfl)
theorem wq_279 : (.selects R_Verifier y_Verifier_findLeastWaiting y_Verifier_findLeastWaiting : Cond) ∈ tb := tb_i6 (List.mem_of_getElem? (i := 39) rfl)
set_option maxRecDepth 100000 in
theorem wl_280 : (.fieldLink R_Verifier 68 "StackBytes$Function" "depths" "[I" : Cond) ∈ lw_tbl := List.mem_append_right _ (List.mem_append_left _ (List.mem_of_getElem? (i := 182) rfl))
theorem wq_280 : (.fieldLink R_Verifier 68 "StackBytes$Function" "depths" "[I" : Cond) ∈ tb := tb_i7 (List.mem_of_getElem? (i := 0) rfl)
set_option maxRecDepth 100000 in
theorem wl_281 : (.methodLink R_Verifier 69 arraycopyName : Cond) ∈ lw_tbl := List.mem_append_right _ (List.mem_append_right _ (List.mem_append_left _ (List.mem_of_getElem? (i := 220) rfl)))
theorem wq_281 : (.methodLink R_Verifier 69 arraycopyName : Cond) ∈ tb := tb_i7 (List.mem_of_getElem? (i := 1) rfl)
set_option maxRecDepth 100000 in
theorem wl_282 : (.fieldLink R_Verifier 75 "StackBytes$Function" "rowsOnStack" "[I" : Cond) ∈ lw_tbl := List.mem_append_right _ (List.mem_append_left _ (List.mem_of_getElem? (i := 185) rfl))
theorem wq_282 : (.fieldLink R_Verifier 75 "StackBytes$Function" "rowsOnStack" "[I" : Cond) ∈ tb := tb_i7 (List.mem_of_getElem? (i := 2) rfl)
set_option maxRecDepth 100000 in
theorem wl_283 : (.methodLink R_Verifier 44 y_Verifier_begin : Cond) ∈ lw_tbl := List.mem_append_right _ (List.mem_append_right _ (List.mem_append_left _ (List.mem_of_getElem? (i := 136) rfl)))
theorem wq_283 : (.methodLink R_Verifier 44 y_Verifier_begin : Cond) ∈ tb := tb_i7 (List.mem_of_getElem? (i := 3) rfl)
set_option maxRecDepth 100000 in
theorem wl_284 : (.instanceMethod y_Verifier_begin : Cond) ∈ lw_tbl := List.mem_append_right _ (List.mem_append_right _ (List.mem_append_left _ (List.mem_of_getElem? (i := 138) rfl)))
theorem wq_284 : (.instanceMethod y_Verifier_begin : Cond) ∈ tb := tb_i7 (List.mem_of_getElem? (i := 4) rfl)
set_option maxRecDepth 100000 in
theorem wl_285 : (.selects R_Verifier y_Verifier_begin y_Verifier_begin : Cond) ∈ lw_tbl := List.mem_append_left _ (List.mem_of_getElem? (i := 7) rfl)
theorem wq_285 : (.selects R_Verifier y_Verifier_begin y_Verifier_begin : Cond) ∈ tb := tb_i7 (List.mem_of_getElem? (i := 5) rfl)
set_option maxRecDepth 100000 in
theorem wl_286 : (.code y_Fault_clear b_Fault_clear 1 none : Cond) ∈ lw_tbl := List.mem_append_right _ (List.mem_append_right _ (List.mem_append_left _ (List.mem_of_getElem? (i := 58) rfl)))
theorem wq_286 : (.code y_Fault_clear b_Fault_clear 1 none : Cond) ∈ tb := tb_i7 (List.mem_of_getElem? (i := 6) rfl)
set_option maxRecDepth 100000 in
theorem wl_287 : (.classLink R_SB 60 R_Reader : Cond) ∈ lw_tbl := List.mem_append_right _ (List.mem_append_right _ (List.mem_append_left _ (List.mem_of_getElem? (i := 59) rfl)))
theorem wq_287 : (.classLink R_SB 60 R_Reader : Cond) ∈ tb := tb_i7 (List.mem_of_getElem? (i := 7) rfl)
set_option maxRecDepth 100000 in
theorem wl_288 : (.instantiable R_Reader 3 : Cond) ∈ lw_tbl := List.mem_append_right _ (List.mem_append_right _ (List.mem_append_left _ (List.mem_of_getElem? (i := 60) rfl)))
theorem wq_288 : (.instantiable R_Reader 3 : Cond) ∈ tb := tb_i7 (List.mem_of_getElem? (i := 8) rfl)
set_option maxRecDepth 100000 in
theorem wl_289 : (.code y_Reader_init b_Reader_init 3 none : Cond) ∈ lw_tbl := List.mem_append_right _ (List.mem_append_right _ (List.mem_append_left _ (List.mem_of_getElem? (i := 63) rfl)))
theorem wq_289 : (.code y_Reader_init b_Reader_init 3 none : Cond) ∈ tb := tb_i7 (List.mem_of_getElem? (i := 9) rfl)
set_option maxRecDepth 100000 in
theorem wl_290 : (.code y_Reader_readInto b_Reader_readInto 3 none : Cond) ∈ lw_tbl := List.mem_append_right _ (List.mem_append_right _ (List.mem_append_left _ (List.mem_of_getElem? (i := 78) rfl)))
theorem wq_290 : (.code y_Reader_readInto b_Reader_readInto 3 none : Cond) ∈ tb := tb_i7 (List.mem_of_getElem? (i := 10) rfl)
set_option maxRecDepth 100000 in
theorem wl_291 : (.fieldLink R_SB 69 "StackBytes$Program" "count" "I" : Cond) ∈ lw_tbl := List.mem_append_right _ (List.mem_append_left _ (List.mem_of_getElem? (i := 218) rfl))
theorem wq_291 : (.fieldLink R_SB 69 "StackBytes$Program" "count" "I" : Cond) ∈ tb := tb_i7 (List.mem_of_getElem? (i := 11) rfl)
set_option maxRecDepth 100000 in
theorem wl_292 : (.fieldLink R_SB 73 "StackBytes$Fault" "kind" "I" : Cond) ∈ lw_tbl := List.mem_append_right _ (List.mem_append_left _ (List.mem_of_getElem? (i := 50) rfl))
theorem wq_292 : (.fieldLink R_SB 73 "StackBytes$Fault" "kind" "I" : Cond) ∈ tb := tb_i7 (List.mem_of_getElem? (i := 12) rfl)
set_option maxRecDepth 100000 in
theorem wl_293 : (.code y_Verifier_verify b_Verifier_verify 6 none : Cond) ∈ lw_tbl := List.mem_append_right _ (List.mem_append_right _ (List.mem_append_left _ (List.mem_of_getElem? (i := 131) rfl)))
theorem wq_293 : (.code y_Verifier_verify b_Verifier_verify 6 none : Cond) ∈ tb := tb_i7 (List.mem_of_getElem? (i := 13) rfl)
set_option maxRecDepth 100000 in
theorem wl_294 : (.methodLink R_SB 76 y_Verifier_verify : Cond) ∈ lw_tbl := List.mem_append_right _ (List.mem_append_right _ (List.mem_append_left _ (List.mem_of_getElem? (i := 128) rfl)))
theorem wq_294 : (.methodLink R_SB 76 y_Verifier_verify : Cond) ∈ tb := tb_i7 (List.mem_of_getElem? (i := 14) rfl)
set_option maxRecDepth 100000 in
theorem wl_295 : (.instanceMethod y_Verifier_verify : Cond) ∈ lw_tbl := List.mem_append_right _ (List.mem_append_right _ (List.mem_append_left _ (List.mem_of_getElem? (i := 129) rfl)))
theorem wq_295 : (.instanceMethod y_Verifier_verify : Cond) ∈ tb := tb_i7 (List.mem_of_getElem? (i := 15) rfl)
set_option maxRecDepth 100000 in
theorem wl_296 : (.selects R_Verifier y_Verifier_verify y_Verifier_verify : Cond) ∈ lw_tbl := List.mem_append_right _ (List.mem_append_right _ (List.mem_append_left _ (List.mem_of_getElem? (i := 130) rfl)))
theorem wq_296 : (.selects R_Verifier y_Verifier_verify y_Verifier_verify : Cond) ∈ tb := tb_i7 (List.mem_of_getElem? (i := 16) rfl)
set_option maxRecDepth 100000 in
theorem wl_297 : (.methodLink R_SB 65 y_Reader_readInto : Cond) ∈ lw_tbl := List.mem_append_right _ (List.mem_append_right _ (List.mem_append_left _ (List.mem_of_getElem? (i := 75) rfl)))
theorem wq_297 : (.methodLink R_SB 65 y_Reader_readInto : Cond) ∈ tb := tb_i7 (List.mem_of_getElem? (i := 17) rfl)
set_option maxRecDepth 100000 in
theorem wl_298 : (.instanceMethod y_Reader_readInto : Cond) ∈ lw_tbl := List.mem_append_right _ (List.mem_append_right _ (List.mem_append_left _ (List.mem_of_getElem? (i := 76) rfl)))
theorem wq_298 : (.instanceMethod y_Reader_readInto : Cond) ∈ tb := tb_i7 (List.mem_of_getElem? (i := 18) rfl)
set_option maxRecDepth 100000 in
theorem wl_299 : (.selects R_Reader y_Reader_readInto y_Reader_readInto : Cond) ∈ lw_tbl := List.mem_append_right _ (List.mem_append_right _ (List.mem_append_left _ (List.mem_of_getElem? (i := 77) rfl)))
theorem wq_299 : (.selects R_Reader y_Reader_readInto y_Reader_readInto : Cond) ∈ tb := tb_i7 (List.mem_of_getElem? (i := 19) rfl)
set_option maxRecDepth 100000 in
theorem wl_300 : (.methodLink R_SB 62 y_Reader_init : Cond) ∈ lw_tbl := List.mem_append_right _ (List.mem_append_right _ (List.mem_append_left _ (List.mem_of_getElem? (i := 61) rfl)))
theorem wq_300 : (.methodLink R_SB 62 y_Reader_init : Cond) ∈ tb := tb_i7 (List.mem_of_getElem? (i := 20) rfl)
set_option maxRecDepth 100000 in
theorem wl_301 : (.instanceMethod y_Reader_init : Cond) ∈ lw_tbl := List.mem_append_right _ (List.mem_append_right _ (List.mem_append_left _ (List.mem_of_getElem? (i := 62) rfl)))
theorem wq_301 : (.instanceMethod y_Reader_init : Cond) ∈ tb := tb_i7 (List.mem_of_getElem? (i := 21) rfl)
set_option maxRecDepth 100000 in
theorem wl_302 : (.methodLink R_SB 57 y_Fault_clear : Cond) ∈ lw_tbl := List.mem_append_right _ (List.mem_append_right _ (List.mem_append_left _ (List.mem_of_getElem? (i := 55) rfl)))
theorem wq_302 : (.methodLink R_SB 57 y_Fault_clear : Cond) ∈ tb := tb_i7 (List.mem_of_getElem? (i := 22) rfl)
set_option maxRecDepth 100000 in
theorem wl_303 : (.instanceMethod y_Fault_clear : Cond) ∈ lw_tbl := List.mem_append_right _ (List.mem_append_right _ (List.mem_append_left _ (List.mem_of_getElem? (i := 56) rfl)))
theorem wq_303 : (.instanceMethod y_Fault_clear : Cond) ∈ tb := tb_i7 (List.mem_of_getElem? (i := 23) rfl)
set_option maxRecDepth 100000 in
theorem wl_304 : (.selects R_Fault y_Fault_clear y_Fault_clear : Cond) ∈ lw_tbl := List.mem_append_right _ (List.mem_append_right _ (List.mem_append_left _ (List.mem_of_getElem? (i := 57) rfl)))
theorem wq_304 : (.selects R_Fault y_Fault_clear y_Fault_clear : Cond) ∈ tb := tb_i7 (List.mem_of_getElem? (i := 24) rfl)
set_option maxRecDepth 100000 in
theorem wl_305 : (.fieldLink R_Handler 22 "StackBytes$Handler" "target" "I" : Cond) ∈ lw_tbl := List.mem_append_right _ (List.mem_append_left _ (List.mem_of_getElem? (i := 126) rfl))
theorem wq_305 : (.fieldLink R_Handler 22 "StackBytes$Handler" "target" "I" : Cond) ∈ tb := tb_i7 (List.mem_of_getElem? (i := 25) rfl)
set_option maxRecDepth 100000 in
theorem wl_306 : (.fieldLink R_Handler 25 "StackBytes$Handler" "forAny" "Z" : Cond) ∈ lw_tbl := List.mem_append_right _ (List.mem_append_left _ (List.mem_of_getElem? (i := 131) rfl))
theorem wq_306 : (.fieldLink R_Handler 25 "StackBytes$Handler" "forAny" "Z" : Cond) ∈ tb := tb_i7 (List.mem_of_getElem? (i := 26) rfl)
set_option maxRecDepth 100000 in
theorem wl_307 : (.fieldLink R_Handler 29 "StackBytes$Handler" "code" "I" : Cond) ∈ lw_tbl := List.mem_append_right _ (List.mem_append_left _ (List.mem_of_getElem? (i := 134) rfl))
theorem wq_307 : (.fieldLink R_Handler 29 "StackBytes$Handler" "code" "I" : Cond) ∈ tb := tb_i7 (List.mem_of_getElem? (i := 27) rfl)
set_option maxRecDepth 100000 in
theorem wl_308 : (.methodLink R_Handler 16 y_ByteRow_add : Cond) ∈ lw_tbl := List.mem_append_right _ (List.mem_append_right _ (List.mem_append_right _ (List.mem_append_left _ (List.mem_of_getElem? (i := 2) rfl))))
theorem wq_308 : (.methodLink R_Handler 16 y_ByteRow_add : Cond) ∈ tb := tb_i7 (List.mem_of_getElem? (i := 28) rfl)
set_option maxRecDepth 100000 in
theorem wl_309 : (.fieldLink R_Function 56 "StackBytes$Function" "params" "I" : Cond) ∈ lw_tbl := List.mem_append_right _ (List.mem_append_left _ (List.mem_of_getElem? (i := 149) rfl))
theorem wq_309 : (.fieldLink R_Function 56 "StackBytes$Function" "params" "I" : Cond) ∈ tb := tb_i7 (List.mem_of_getElem? (i := 29) rfl)
set_option maxRecDepth 100000 in
theorem wl_310 : (.fieldLink R_Function 65 "StackBytes$Function" "locals" "I" : Cond) ∈ lw_tbl := List.mem_append_right _ (List.mem_append_left _ (List.mem_of_getElem? (i := 154) rfl))
theorem wq_310 : (.fieldLink R_Function 65 "StackBytes$Function" "locals" "I" : Cond) ∈ tb := tb_i7 (List.mem_of_getElem? (i := 30) rfl)
set_option maxRecDepth 100000 in
theorem wl_311 : (.fieldLink R_Function 68 "StackBytes$Function" "result" "I" : Cond) ∈ lw_tbl := List.mem_append_right _ (List.mem_append_left _ (List.mem_of_getElem? (i := 160) rfl))
theorem wq_311 : (.fieldLink R_Function 68 "StackBytes$Function" "result" "I" : Cond) ∈ tb := tb_i7 (List.mem_of_getElem? (i := 31) rfl)
set_option maxRecDepth 100000 in
theorem wl_312 : (.methodLink R_Function 59 y_ByteRow_add : Cond) ∈ lw_tbl := List.mem_append_right _ (List.mem_append_right _ (List.mem_append_left _ (List.mem_of_getElem? (i := 236) rfl)))
theorem wq_312 : (.methodLink R_Function 59 y_ByteRow_add : Cond) ∈ tb := tb_i7 (List.mem_of_getElem? (i := 32) rfl)
set_option maxRecDepth 100000 in
theorem wl_313 : (.methodLink R_Function 71 y_Kinds_bytesBehind : Cond) ∈ lw_tbl := List.mem_append_right _ (List.mem_append_right _ (List.mem_append_left _ (List.mem_of_getElem? (i := 237) rfl)))
theorem wq_313 : (.methodLink R_Function 71 y_Kinds_bytesBehind : Cond) ∈ tb := tb_i7 (List.mem_of_getElem? (i := 33) rfl)
set_option maxRecDepth 100000 in
theorem wl_314 : (.fieldLink R_Function 44 "StackBytes$Function" "handlerCount" "I" : Cond) ∈ lw_tbl := List.mem_append_right _ (List.mem_append_left _ (List.mem_of_getElem? (i := 169) rfl))
theorem wq_314 : (.fieldLink R_Function 44 "StackBytes$Function" "handlerCount" "I" : Cond) ∈ tb := tb_i7 (List.mem_of_getElem? (i := 34) rfl)
set_option maxRecDepth 100000 in
theorem wl_315 : (.code y_Handler_appendTo b_Handler_appendTo 2 none : Cond) ∈ lw_tbl := List.mem_append_right _ (List.mem_append_right _ (List.mem_append_right _ (List.mem_append_left _ (List.mem_of_getElem? (i := 1) rfl))))
theorem wq_315 : (.code y_Handler_appendTo b_Handler_appendTo 2 none : Cond) ∈ tb := tb_i7 (List.mem_of_getElem? (i := 35) rfl)
set_option maxRecDepth 100000 in
theorem wl_316 : (.methodLink R_Function 75 y_Handler_appendTo : Cond) ∈ lw_tbl := List.mem_append_right _ (List.mem_append_right _ (List.mem_append_left _ (List.mem_of_getElem? (i := 238) rfl)))
theorem wq_316 : (.methodLink R_Function 75 y_Handler_appendTo : Cond) ∈ tb := tb_i7 (List.mem_of_getElem? (i := 36) rfl)
set_option maxRecDepth 100000 in
theorem wl_317 : (.instanceMethod y_Handler_appendTo : Cond) ∈ lw_tbl := List.mem_append_right _ (List.mem_append_right _ (List.mem_append_left _ (List.mem_of_getElem? (i := 239) rfl)))
theorem wq_317 : (.instanceMethod y_Handler_appendTo : Cond) ∈ tb := tb_i7 (List.mem_of_getElem? (i := 37) rfl)
set_option maxRecDepth 100000 in
theorem wl_318 : (.selects R_Handler y_Handler_appendTo y_Handler_appendTo : Cond) ∈ lw_tbl := List.mem_append_right _ (List.mem_append_right _ (List.mem_append_right _ (List.mem_append_left _ (List.mem_of_getElem? (i := 0) rfl))))
theorem wq_318 : (.selects R_Handler y_Handler_appendTo y_Handler_appendTo : Cond) ∈ tb := tb_i7 (List.mem_of_getElem? (i := 38) rfl)
set_option maxRecDepth 100000 in
theorem wl_319 : (.constantLong R_Program 23 71 : Cond) ∈ lw_tbl := List.mem_append_right _ (List.mem_append_right _ (List.mem_append_left _ (List.mem_of_getElem? (i := 229) rfl)))
theorem wq_319 : (.constantLong R_Program 23 71 : Cond) ∈ tb := tb_i7 (List.mem_of_getElem? (i := 39) rfl)
set_option maxRecDepth 100000 in
theorem wl_320 : (.constantLong R_Program 31 70 : Cond) ∈ lw_tbl := List.mem_append_right _ (List.mem_append_right _ (List.mem_append_left _ (List.mem_of_getElem? (i := 231) rfl)))
theorem wq_320 : (.constantLong R_Program 31 70 : Cond) ∈ tb := tb_i8 (List.mem_of_getElem? (i := 0) rfl)
set_option maxRecDepth 100000 in
theorem wl_321 : (.code y_Function_appendTo b_Function_appendTo 3 none : Cond) ∈ lw_tbl := List.mem_append_right _ (List.mem_append_right _ (List.mem_append_left _ (List.mem_of_getElem? (i := 235) rfl)))
theorem wq_321 : (.code y_Function_appendTo b_Function_appendTo 3 none : Cond) ∈ tb := tb_i8 (List.mem_of_getElem? (i := 1) rfl)
set_option maxRecDepth 100000 in
theorem wl_322 : (.methodLink R_Program 33 y_Function_appendTo : Cond) ∈ lw_tbl := List.mem_append_right _ (List.mem_append_right _ (List.mem_append_left _ (List.mem_of_getElem? (i := 232) rfl)))
theorem wq_322 : (.methodLink R_Program 33 y_Function_appendTo : Cond) ∈ tb := tb_i8 (List.mem_of_getElem? (i := 2) rfl)
set_option maxRecDepth 100000 in
theorem wl_323 : (.instanceMethod y_Function_appendTo : Cond) ∈ lw_tbl := List.mem_append_right _ (List.mem_append_right _ (List.mem_append_left _ (List.mem_of_getElem? (i := 233) rfl)))
theorem wq_323 : (.instanceMethod y_Function_appendTo : Cond) ∈ tb := tb_i8 (List.mem_of_getElem? (i := 3) rfl)
set_option maxRecDepth 100000 in
theorem wl_324 : (.selects R_Function y_Function_appendTo y_Function_appendTo : Cond) ∈ lw_tbl := List.mem_append_right _ (List.mem_append_right _ (List.mem_append_left _ (List.mem_of_getElem? (i := 234) rfl)))
theorem wq_324 : (.selects R_Function y_Function_appendTo y_Function_appendTo : Cond) ∈ tb := tb_i8 (List.mem_of_getElem? (i := 4) rfl)
set_option maxRecDepth 100000 in
theorem wl_325 : (.methodLink R_Program 25 y_ByteRow_add : Cond) ∈ lw_tbl := List.mem_append_right _ (List.mem_append_right _ (List.mem_append_left _ (List.mem_of_getElem? (i := 230) rfl)))
theorem wq_325 : (.methodLink R_Program 25 y_ByteRow_add : Cond) ∈ tb := tb_i8 (List.mem_of_getElem? (i := 5) rfl)
set_option maxRecDepth 100000 in
theorem wl_326 : (.code y_Program_appendTo b_Program_appendTo 3 none : Cond) ∈ lw_tbl := List.mem_append_right _ (List.mem_append_right _ (List.mem_append_left _ (List.mem_of_getElem? (i := 228) rfl)))
theorem wq_326 : (.code y_Program_appendTo b_Program_appendTo 3 none : Cond) ∈ tb := tb_i8 (List.mem_of_getElem? (i := 6) rfl)
set_option maxRecDepth 100000 in
theorem wl_327 : (.fieldLink R_SB 84 "StackBytes$ByteRow" "count" "I" : Cond) ∈ lw_tbl := List.mem_append_right _ (List.mem_append_left _ (List.mem_of_getElem? (i := 32) rfl))
theorem wq_327 : (.fieldLink R_SB 84 "StackBytes$ByteRow" "count" "I" : Cond) ∈ tb := tb_i8 (List.mem_of_getElem? (i := 7) rfl)
set_option maxRecDepth 100000 in
theorem wl_328 : (.methodLink R_SB 80 y_Program_appendTo : Cond) ∈ lw_tbl := List.mem_append_right _ (List.mem_append_right _ (List.mem_append_left _ (List.mem_of_getElem? (i := 225) rfl)))
theorem wq_328 : (.methodLink R_SB 80 y_Program_appendTo : Cond) ∈ tb := tb_i8 (List.mem_of_getElem? (i := 8) rfl)
set_option maxRecDepth 100000 in
theorem wl_329 : (.instanceMethod y_Program_appendTo : Cond) ∈ lw_tbl := List.mem_append_right _ (List.mem_append_right _ (List.mem_append_left _ (List.mem_of_getElem? (i := 226) rfl)))
theorem wq_329 : (.instanceMethod y_Program_appendTo : Cond) ∈ tb := tb_i8 (List.mem_of_getElem? (i := 9) rfl)
set_option maxRecDepth 100000 in
theorem wl_330 : (.selects R_Program y_Program_appendTo y_Program_appendTo : Cond) ∈ lw_tbl := List.mem_append_right _ (List.mem_append_right _ (List.mem_append_left _ (List.mem_of_getElem? (i := 227) rfl)))
theorem wq_330 : (.selects R_Program y_Program_appendTo y_Program_appendTo : Cond) ∈ tb := tb_i8 (List.mem_of_getElem? (i := 10) rfl)
set_option maxRecDepth 100000 in
theorem wl_331 : (.methodLink R_ByteRow 26 arraycopyName : Cond) ∈ lw_tbl := List.mem_append_right _ (List.mem_append_right _ (List.mem_append_right _ (List.mem_append_left _ (List.mem_of_getElem? (i := 11) rfl))))
theorem wq_331 : (.methodLink R_ByteRow 26 arraycopyName : Cond) ∈ tb := tb_i8 (List.mem_of_getElem? (i := 11) rfl)
set_option maxRecDepth 100000 in
theorem wl_332 : (.code y_ByteRow_become b_ByteRow_become 2 (some .boolean) : Cond) ∈ lw_tbl := List.mem_append_right _ (List.mem_append_right _ (List.mem_append_right _ (List.mem_append_left _ (List.mem_of_getElem? (i := 10) rfl))))
theorem wq_332 : (.code y_ByteRow_become b_ByteRow_become 2 (some .boolean) : Cond) ∈ tb := tb_i8 (List.mem_of_getElem? (i := 12) rfl)
set_option maxRecDepth 100000 in
theorem wl_333 : (.methodLink R_SB 85 y_ByteRow_become : Cond) ∈ lw_tbl := List.mem_append_right _ (List.mem_append_right _ (List.mem_append_right _ (List.mem_append_left _ (List.mem_of_getElem? (i := 7) rfl))))
theorem wq_333 : (.methodLink R_SB 85 y_ByteRow_become : Cond) ∈ tb := tb_i8 (List.mem_of_getElem? (i := 13) rfl)
set_option maxRecDepth 100000 in
theorem wl_334 : (.instanceMethod y_ByteRow_become : Cond) ∈ lw_tbl := List.mem_append_right _ (List.mem_append_right _ (List.mem_append_right _ (List.mem_append_left _ (List.mem_of_getElem? (i := 8) rfl))))
theorem wq_334 : (.instanceMethod y_ByteRow_become : Cond) ∈ tb := tb_i8 (List.mem_of_getElem? (i := 14) rfl)
set_option maxRecDepth 100000 in
theorem wl_335 : (.selects R_ByteRow y_ByteRow_become y_ByteRow_become : Cond) ∈ lw_tbl := List.mem_append_right _ (List.mem_append_right _ (List.mem_append_right _ (List.mem_append_left _ (List.mem_of_getElem? (i := 9) rfl))))
theorem wq_335 : (.selects R_ByteRow y_ByteRow_become y_ByteRow_become : Cond) ∈ tb := tb_i8 (List.mem_of_getElem? (i := 15) rfl)
set_option maxRecDepth 100000 in
theorem wl_336 : (.methodLink R_Kinds 26 y_Kinds_mostBehind : Cond) ∈ lw_tbl := List.mem_append_right _ (List.mem_append_right _ (List.mem_append_right _ (List.mem_append_left _ (List.mem_of_getElem? (i := 22) rfl))))
theorem wq_336 : (.methodLink R_Kinds 26 y_Kinds_mostBehind : Cond) ∈ tb := tb_i8 (List.mem_of_getElem? (i := 16) rfl)
set_option maxRecDepth 100000 in
theorem wl_337 : (.methodLink R_Kinds 20 y_Kinds_leastBehind : Cond) ∈ lw_tbl := List.mem_append_right _ (List.mem_append_right _ (List.mem_append_right _ (List.mem_append_left _ (List.mem_of_getElem? (i := 21) rfl))))
theorem wq_337 : (.methodLink R_Kinds 20 y_Kinds_leastBehind : Cond) ∈ tb := tb_i8 (List.mem_of_getElem? (i := 17) rfl)
set_option maxRecDepth 100000 in
theorem wl_338 : (.methodLink R_SB 104 y_Fault_tell : Cond) ∈ lw_tbl := List.mem_append_right _ (List.mem_append_right _ (List.mem_append_right _ (List.mem_append_left _ (List.mem_of_getElem? (i := 23) rfl))))
theorem wq_338 : (.methodLink R_SB 104 y_Fault_tell : Cond) ∈ tb := tb_i8 (List.mem_of_getElem? (i := 18) rfl)
set_option maxRecDepth 100000 in
theorem wl_339 : (.code y_Kinds_canStand b_Kinds_canStand 4 (some .boolean) : Cond) ∈ lw_tbl := List.mem_append_right _ (List.mem_append_right _ (List.mem_append_right _ (List.mem_append_left _ (List.mem_of_getElem? (i := 20) rfl))))
theorem wq_339 : (.code y_Kinds_canStand b_Kinds_canStand 4 (some .boolean) : Cond) ∈ tb := tb_i8 (List.mem_of_getElem? (i := 19) rfl)
set_option maxRecDepth 100000 in
theorem wl_340 : (.fieldLink R_SB 108 "StackBytes$Function" "ops" "[I" : Cond) ∈ lw_tbl := List.mem_append_right _ (List.mem_append_left _ (List.mem_of_getElem? (i := 176) rfl))
theorem wq_340 : (.fieldLink R_SB 108 "StackBytes$Function" "ops" "[I" : Cond) ∈ tb := tb_i8 (List.mem_of_getElem? (i := 20) rfl)
set_option maxRecDepth 100000 in
theorem wl_341 : (.fieldLink R_SB 112 "StackBytes$Function" "behinds" "[I" : Cond) ∈ lw_tbl := List.mem_append_right _ (List.mem_append_left _ (List.mem_of_getElem? (i := 180) rfl))
theorem wq_341 : (.fieldLink R_SB 112 "StackBytes$Function" "behinds" "[I" : Cond) ∈ tb := tb_i8 (List.mem_of_getElem? (i := 21) rfl)
set_option maxRecDepth 100000 in
theorem wl_342 : (.methodLink R_SB 98 y_Kinds_canStand : Cond) ∈ lw_tbl := List.mem_append_right _ (List.mem_append_right _ (List.mem_append_right _ (List.mem_append_left _ (List.mem_of_getElem? (i := 18) rfl))))
theorem wq_342 : (.methodLink R_SB 98 y_Kinds_canStand : Cond) ∈ tb := tb_i8 (List.mem_of_getElem? (i := 22) rfl)
set_option maxRecDepth 100000 in
theorem wl_343 : (.static y_Kinds_canStand : Cond) ∈ lw_tbl := List.mem_append_right _ (List.mem_append_right _ (List.mem_append_right _ (List.mem_append_left _ (List.mem_of_getElem? (i := 19) rfl))))
theorem wq_343 : (.static y_Kinds_canStand : Cond) ∈ tb := tb_i8 (List.mem_of_getElem? (i := 23) rfl)
set_option maxRecDepth 100000 in
theorem wl_344 : (.methodLink R_SB 93 y_Function_has : Cond) ∈ lw_tbl := List.mem_append_right _ (List.mem_append_right _ (List.mem_append_right _ (List.mem_append_left _ (List.mem_of_getElem? (i := 17) rfl))))
theorem wq_344 : (.methodLink R_SB 93 y_Function_has : Cond) ∈ tb := tb_i8 (List.mem_of_getElem? (i := 24) rfl)
set_option maxRecDepth 100000 in
theorem wl_345 : (.methodLink R_SB 89 y_Program_at : Cond) ∈ lw_tbl := List.mem_append_right _ (List.mem_append_right _ (List.mem_append_right _ (List.mem_append_left _ (List.mem_of_getElem? (i := 16) rfl))))
theorem wq_345 : (.methodLink R_SB 89 y_Program_at : Cond) ∈ tb := tb_i8 (List.mem_of_getElem? (i := 25) rfl)
set_option maxRecDepth 100000 in
theorem wl_346 : (.methodLink R_Function 38 y_Kinds_goesToPlace : Cond) ∈ lw_tbl := List.mem_append_right _ (List.mem_append_right _ (List.mem_append_right _ (List.mem_append_left _ (List.mem_of_getElem? (i := 32) rfl))))
theorem wq_346 : (.methodLink R_Function 38 y_Kinds_goesToPlace : Cond) ∈ tb := tb_i8 (List.mem_of_getElem? (i := 26) rfl)
set_option maxRecDepth 100000 in
theorem wl_347 : (.fieldLink R_Function 47 "StackBytes$Handler" "target" "I" : Cond) ∈ lw_tbl := List.mem_append_right _ (List.mem_append_left _ (List.mem_of_getElem? (i := 127) rfl))
theorem wq_347 : (.fieldLink R_Function 47 "StackBytes$Handler" "target" "I" : Cond) ∈ tb := tb_i8 (List.mem_of_getElem? (i := 27) rfl)
set_option maxRecDepth 100000 in
theorem wl_348 : (.fieldLink R_SB 115 "StackBytes$Function" "depths" "[I" : Cond) ∈ lw_tbl := List.mem_append_right _ (List.mem_append_left _ (List.mem_of_getElem? (i := 183) rfl))
theorem wq_348 : (.fieldLink R_SB 115 "StackBytes$Function" "depths" "[I" : Cond) ∈ tb := tb_i8 (List.mem_of_getElem? (i := 28) rfl)
set_option maxRecDepth 100000 in
theorem wl_349 : (.fieldLink R_SB 118 "StackBytes$Function" "rowsOnStack" "[I" : Cond) ∈ lw_tbl := List.mem_append_right _ (List.mem_append_left _ (List.mem_of_getElem? (i := 186) rfl))
theorem wq_349 : (.fieldLink R_SB 118 "StackBytes$Function" "rowsOnStack" "[I" : Cond) ∈ tb := tb_i8 (List.mem_of_getElem? (i := 29) rfl)
set_option maxRecDepth 100000 in
theorem wl_350 : (.code y_Function_isGoneTo b_Function_isGoneTo 3 (some .boolean) : Cond) ∈ lw_tbl := List.mem_append_right _ (List.mem_append_right _ (List.mem_append_right _ (List.mem_append_left _ (List.mem_of_getElem? (i := 31) rfl))))
theorem wq_350 : (.code y_Function_isGoneTo b_Function_isGoneTo 3 (some .boolean) : Cond) ∈ tb := tb_i8 (List.mem_of_getElem? (i := 30) rfl)
set_option maxRecDepth 100000 in
theorem wl_351 : (.methodLink R_SB 121 y_Function_isGoneTo : Cond) ∈ lw_tbl := List.mem_append_right _ (List.mem_append_right _ (List.mem_append_right _ (List.mem_append_left _ (List.mem_of_getElem? (i := 28) rfl))))
theorem wq_351 : (.methodLink R_SB 121 y_Function_isGoneTo : Cond) ∈ tb := tb_i8 (List.mem_of_getElem? (i := 31) rfl)
set_option maxRecDepth 100000 in
theorem wl_352 : (.instanceMethod y_Function_isGoneTo : Cond) ∈ lw_tbl := List.mem_append_right _ (List.mem_append_right _ (List.mem_append_right _ (List.mem_append_left _ (List.mem_of_getElem? (i := 29) rfl))))
theorem wq_352 : (.instanceMethod y_Function_isGoneTo : Cond) ∈ tb := tb_i8 (List.mem_of_getElem? (i := 32) rfl)
set_option maxRecDepth 100000 in
theorem wl_353 : (.selects R_Function y_Function_isGoneTo y_Function_isGoneTo : Cond) ∈ lw_tbl := List.mem_append_right _ (List.mem_append_right _ (List.mem_append_right _ (List.mem_append_left _ (List.mem_of_getElem? (i := 30) rfl))))
theorem wq_353 : (.selects R_Function y_Function_isGoneTo y_Function_isGoneTo : Cond) ∈ tb := tb_i8 (List.mem_of_getElem? (i := 33) rfl)
set_option maxRecDepth 100000 in
theorem wl_354 : (.methodLink R_Function 50 Lib.Math.max.name : Cond) ∈ lw_tbl := List.mem_append_right _ (List.mem_append_right _ (List.mem_append_right _ (List.mem_append_left _ (List.mem_of_getElem? (i := 45) rfl))))
theorem wq_354 : (.methodLink R_Function 50 Lib.Math.max.name : Cond) ∈ tb := tb_i8 (List.mem_of_getElem? (i := 34) rfl)
set_option maxRecDepth 100000 in
theorem wl_355 : (.fieldLink R_SB 124 "StackBytes$Function" "params" "I" : Cond) ∈ lw_tbl := List.mem_append_right _ (List.mem_append_left _ (List.mem_of_getElem? (i := 150) rfl))
theorem wq_355 : (.fieldLink R_SB 124 "StackBytes$Function" "params" "I" : Cond) ∈ tb := tb_i8 (List.mem_of_getElem? (i := 35) rfl)
set_option maxRecDepth 100000 in
theorem wl_356 : (.fieldLink R_SB 127 "StackBytes$Function" "locals" "I" : Cond) ∈ lw_tbl := List.mem_append_right _ (List.mem_append_left _ (List.mem_of_getElem? (i := 155) rfl))
theorem wq_356 : (.fieldLink R_SB 127 "StackBytes$Function" "locals" "I" : Cond) ∈ tb := tb_i8 (List.mem_of_getElem? (i := 36) rfl)
set_option maxRecDepth 100000 in
theorem wl_357 : (.fieldLink R_SB 130 "StackBytes$Function" "rowLocals" "I" : Cond) ∈ lw_tbl := List.mem_append_right _ (List.mem_append_left _ (List.mem_of_getElem? (i := 158) rfl))
theorem wq_357 : (.fieldLink R_SB 130 "StackBytes$Function" "rowLocals" "I" : Cond) ∈ tb := tb_i8 (List.mem_of_getElem? (i := 37) rfl)
set_option maxRecDepth 100000 in
theorem wl_358 : (.fieldLink R_SB 133 "StackBytes$Function" "result" "I" : Cond) ∈ lw_tbl := List.mem_append_right _ (List.mem_append_left _ (List.mem_of_getElem? (i := 161) rfl))
theorem wq_358 : (.fieldLink R_SB 133 "StackBytes$Function" "result" "I" : Cond) ∈ tb := tb_i8 (List.mem_of_getElem? (i := 38) rfl)
set_option maxRecDepth 100000 in
theorem wl_359 : (.fieldLink R_SB 136 "StackBytes$Function" "count" "I" : Cond) ∈ lw_tbl := List.mem_append_right _ (List.mem_append_left _ (List.mem_of_getElem? (i := 168) rfl))
theorem wq_359 : (.fieldLink R_SB 136 "StackBytes$Function" "count" "I" : Cond) ∈ tb := tb_i8 (List.mem_of_getElem? (i := 39) rfl)
set_option maxRecDepth 100000 in
theorem wl_360 : (.fieldLink R_SB 137 "StackBytes$Function" "handlerCount" "I" : Cond) ∈ lw_tbl := List.mem_append_right _ (List.mem_append_left _ (List.mem_of_getElem? (i := 172) rfl))
theorem wq_360 : (.fieldLink R_SB 137 "StackBytes$Function" "handlerCount" "I" : Cond) ∈ tb := tb_i9 (List.mem_of_getElem? (i := 0) rfl)
set_option maxRecDepth 100000 in
theorem wl_361 : (.code y_Function_comeTo b_Function_comeTo 3 (some .int) : Cond) ∈ lw_tbl := List.mem_append_right _ (List.mem_append_right _ (List.mem_append_right _ (List.mem_append_left _ (List.mem_of_getElem? (i := 40) rfl))))
theorem wq_361 : (.code y_Function_comeTo b_Function_comeTo 3 (some .int) : Cond) ∈ tb := tb_i9 (List.mem_of_getElem? (i := 1) rfl)
set_option maxRecDepth 100000 in
theorem wl_362 : (.methodLink R_SB 140 y_Function_comeTo : Cond) ∈ lw_tbl := List.mem_append_right _ (List.mem_append_right _ (List.mem_append_right _ (List.mem_append_left _ (List.mem_of_getElem? (i := 37) rfl))))
theorem wq_362 : (.methodLink R_SB 140 y_Function_comeTo : Cond) ∈ tb := tb_i9 (List.mem_of_getElem? (i := 2) rfl)
set_option maxRecDepth 100000 in
theorem wl_363 : (.instanceMethod y_Function_comeTo : Cond) ∈ lw_tbl := List.mem_append_right _ (List.mem_append_right _ (List.mem_append_right _ (List.mem_append_left _ (List.mem_of_getElem? (i := 38) rfl))))
theorem wq_363 : (.instanceMethod y_Function_comeTo : Cond) ∈ tb := tb_i9 (List.mem_of_getElem? (i := 3) rfl)
set_option maxRecDepth 100000 in
theorem wl_364 : (.selects R_Function y_Function_comeTo y_Function_comeTo : Cond) ∈ lw_tbl := List.mem_append_right _ (List.mem_append_right _ (List.mem_append_right _ (List.mem_append_left _ (List.mem_of_getElem? (i := 39) rfl))))
theorem wq_364 : (.selects R_Function y_Function_comeTo y_Function_comeTo : Cond) ∈ tb := tb_i9 (List.mem_of_getElem? (i := 4) rfl)
set_option maxRecDepth 100000 in
theorem wl_365 : (.code y_Function_deepest b_Function_deepest 3 (some .int) : Cond) ∈ lw_tbl := List.mem_append_right _ (List.mem_append_right _ (List.mem_append_right _ (List.mem_append_left _ (List.mem_of_getElem? (i := 44) rfl))))
theorem wq_365 : (.code y_Function_deepest b_Function_deepest 3 (some .int) : Cond) ∈ tb := tb_i9 (List.mem_of_getElem? (i := 5) rfl)
set_option maxRecDepth 100000 in
theorem wl_366 : (.methodLink R_SB 144 y_Function_deepest : Cond) ∈ lw_tbl := List.mem_append_right _ (List.mem_append_right _ (List.mem_append_right _ (List.mem_append_left _ (List.mem_of_getElem? (i := 41) rfl))))
theorem wq_366 : (.methodLink R_SB 144 y_Function_deepest : Cond) ∈ tb := tb_i9 (List.mem_of_getElem? (i := 6) rfl)
set_option maxRecDepth 100000 in
theorem wl_367 : (.instanceMethod y_Function_deepest : Cond) ∈ lw_tbl := List.mem_append_right _ (List.mem_append_right _ (List.mem_append_right _ (List.mem_append_left _ (List.mem_of_getElem? (i := 42) rfl))))
theorem wq_367 : (.instanceMethod y_Function_deepest : Cond) ∈ tb := tb_i9 (List.mem_of_getElem? (i := 7) rfl)
set_option maxRecDepth 100000 in
theorem wl_368 : (.selects R_Function y_Function_deepest y_Function_deepest : Cond) ∈ lw_tbl := List.mem_append_right _ (List.mem_append_right _ (List.mem_append_right _ (List.mem_append_left _ (List.mem_of_getElem? (i := 43) rfl))))
theorem wq_368 : (.selects R_Function y_Function_deepest y_Function_deepest : Cond) ∈ tb := tb_i9 (List.mem_of_getElem? (i := 8) rfl)
set_option maxRecDepth 100000 in
theorem wl_369 : (.fieldLink R_SB 147 "StackBytes$Function" "handlers" "[LStackBytes$Handler;" : Cond) ∈ lw_tbl := List.mem_append_right _ (List.mem_append_left _ (List.mem_of_getElem? (i := 190) rfl))
theorem wq_369 : (.fieldLink R_SB 147 "StackBytes$Function" "handlers" "[LStackBytes$Handler;" : Cond) ∈ tb := tb_i9 (List.mem_of_getElem? (i := 9) rfl)
set_option maxRecDepth 100000 in
theorem wl_370 : (.fieldLink R_SB 151 "StackBytes$Handler" "from" "I" : Cond) ∈ lw_tbl := List.mem_append_right _ (List.mem_append_left _ (List.mem_of_getElem? (i := 122) rfl))
theorem wq_370 : (.fieldLink R_SB 151 "StackBytes$Handler" "from" "I" : Cond) ∈ tb := tb_i9 (List.mem_of_getElem? (i := 10) rfl)
set_option maxRecDepth 100000 in
theorem wl_371 : (.fieldLink R_SB 156 "StackBytes$Handler" "to" "I" : Cond) ∈ lw_tbl := List.mem_append_right _ (List.mem_append_left _ (List.mem_of_getElem? (i := 125) rfl))
theorem wq_371 : (.fieldLink R_SB 156 "StackBytes$Handler" "to" "I" : Cond) ∈ tb := tb_i9 (List.mem_of_getElem? (i := 11) rfl)
set_option maxRecDepth 100000 in
theorem wl_372 : (.fieldLink R_SB 159 "StackBytes$Handler" "target" "I" : Cond) ∈ lw_tbl := List.mem_append_right _ (List.mem_append_left _ (List.mem_of_getElem? (i := 130) rfl))
theorem wq_372 : (.fieldLink R_SB 159 "StackBytes$Handler" "target" "I" : Cond) ∈ tb := tb_i9 (List.mem_of_getElem? (i := 12) rfl)
set_option maxRecDepth 100000 in
theorem wl_373 : (.fieldLink R_SB 162 "StackBytes$Handler" "forAny" "Z" : Cond) ∈ lw_tbl := List.mem_append_right _ (List.mem_append_left _ (List.mem_of_getElem? (i := 133) rfl))
theorem wq_373 : (.fieldLink R_SB 162 "StackBytes$Handler" "forAny" "Z" : Cond) ∈ tb := tb_i9 (List.mem_of_getElem? (i := 13) rfl)
set_option maxRecDepth 100000 in
theorem wl_374 : (.fieldLink R_SB 166 "StackBytes$Handler" "code" "I" : Cond) ∈ lw_tbl := List.mem_append_right _ (List.mem_append_left _ (List.mem_of_getElem? (i := 136) rfl))
theorem wq_374 : (.fieldLink R_SB 166 "StackBytes$Handler" "code" "I" : Cond) ∈ tb := tb_i9 (List.mem_of_getElem? (i := 14) rfl)
set_option maxRecDepth 100000 in
theorem wl_375 : (.methodLink R_SB 169 y_ByteRow_at : Cond) ∈ lw_tbl := List.mem_append_right _ (List.mem_append_right _ (List.mem_append_right _ (List.mem_append_left _ (List.mem_of_getElem? (i := 54) rfl))))
theorem wq_375 : (.methodLink R_SB 169 y_ByteRow_at : Cond) ∈ tb := tb_i9 (List.mem_of_getElem? (i := 15) rfl)
set_option maxRecDepth 100000 in
theorem wl_376 : (.fieldLink R_Program 22 "StackBytes$Function" "count" "I" : Cond) ∈ lw_tbl := List.mem_append_right _ (List.mem_append_left _ (List.mem_of_getElem? (i := 165) rfl))
theorem wq_376 : (.fieldLink R_Program 22 "StackBytes$Function" "count" "I" : Cond) ∈ tb := tb_i9 (List.mem_of_getElem? (i := 16) rfl)
set_option maxRecDepth 100000 in
theorem wl_377 : (.code y_Program_instructions b_Program_instructions 3 (some .int) : Cond) ∈ lw_tbl := List.mem_append_right _ (List.mem_append_right _ (List.mem_append_right _ (List.mem_append_left _ (List.mem_of_getElem? (i := 62) rfl))))
theorem wq_377 : (.code y_Program_instructions b_Program_instructions 3 (some .int) : Cond) ∈ tb := tb_i9 (List.mem_of_getElem? (i := 17) rfl)
set_option maxRecDepth 100000 in
theorem wl_378 : (.methodLink R_SB 172 y_Program_instructions : Cond) ∈ lw_tbl := List.mem_append_right _ (List.mem_append_right _ (List.mem_append_right _ (List.mem_append_left _ (List.mem_of_getElem? (i := 59) rfl))))
theorem wq_378 : (.methodLink R_SB 172 y_Program_instructions : Cond) ∈ tb := tb_i9 (List.mem_of_getElem? (i := 18) rfl)
set_option maxRecDepth 100000 in
theorem wl_379 : (.instanceMethod y_Program_instructions : Cond) ∈ lw_tbl := List.mem_append_right _ (List.mem_append_right _ (List.mem_append_right _ (List.mem_append_left _ (List.mem_of_getElem? (i := 60) rfl))))
theorem wq_379 : (.instanceMethod y_Program_instructions : Cond) ∈ tb := tb_i9 (List.mem_of_getElem? (i := 19) rfl)
set_option maxRecDepth 100000 in
theorem wl_380 : (.selects R_Program y_Program_instructions y_Program_instructions : Cond) ∈ lw_tbl := List.mem_append_right _ (List.mem_append_right _ (List.mem_append_right _ (List.mem_append_left _ (List.mem_of_getElem? (i := 61) rfl))))
theorem wq_380 : (.selects R_Program y_Program_instructions y_Program_instructions : Cond) ∈ tb := tb_i9 (List.mem_of_getElem? (i := 20) rfl)
set_option maxRecDepth 100000 in
theorem wl_381 : (.fieldLink R_SB 175 "StackBytes$Fault" "place" "I" : Cond) ∈ lw_tbl := List.mem_append_right _ (List.mem_append_left _ (List.mem_of_getElem? (i := 52) rfl))
theorem wq_381 : (.fieldLink R_SB 175 "StackBytes$Fault" "place" "I" : Cond) ∈ tb := tb_i9 (List.mem_of_getElem? (i := 21) rfl)
set_option maxRecDepth 100000 in
theorem wl_382 : (.fieldLink R_Mo 79 "StackBytesModel" "bad" "I" : Cond) ∈ lw_tbl := List.mem_append_right _ (List.mem_append_right _ (List.mem_append_right _ (List.mem_append_left _ (List.mem_of_getElem? (i := 112) rfl))))
theorem wq_382 : (.fieldLink R_Mo 79 "StackBytesModel" "bad" "I" : Cond) ∈ tb := tb_i9 (List.mem_of_getElem? (i := 22) rfl)
set_option maxRecDepth 100000 in
theorem wl_383 : (.fieldLink R_Mo 82 "StackBytesModel" "where" "I" : Cond) ∈ lw_tbl := List.mem_append_right _ (List.mem_append_right _ (List.mem_append_right _ (List.mem_append_left _ (List.mem_of_getElem? (i := 113) rfl))))
theorem wq_383 : (.fieldLink R_Mo 82 "StackBytesModel" "where" "I" : Cond) ∈ tb := tb_i9 (List.mem_of_getElem? (i := 23) rfl)
set_option maxRecDepth 100000 in
theorem wl_384 : (.fieldLink R_Mo 63 "StackBytesModel" "heights" "[I" : Cond) ∈ lw_tbl := List.mem_append_right _ (List.mem_append_right _ (List.mem_append_right _ (List.mem_append_left _ (List.mem_of_getElem? (i := 128) rfl))))
theorem wq_384 : (.fieldLink R_Mo 63 "StackBytesModel" "heights" "[I" : Cond) ∈ tb := tb_i9 (List.mem_of_getElem? (i := 24) rfl)
set_option maxRecDepth 100000 in
theorem wl_385 : (.code y_Mo_wrong b_Mo_wrong 3 none : Cond) ∈ lw_tbl := List.mem_append_right _ (List.mem_append_right _ (List.mem_append_right _ (List.mem_append_left _ (List.mem_of_getElem? (i := 80) rfl))))
theorem wq_385 : (.code y_Mo_wrong b_Mo_wrong 3 none : Cond) ∈ tb := tb_i9 (List.mem_of_getElem? (i := 25) rfl)
set_option maxRecDepth 100000 in
theorem wl_386 : (.methodLink R_Mo 96 y_Mo_wrong : Cond) ∈ lw_tbl := List.mem_append_right _ (List.mem_append_right _ (List.mem_append_right _ (List.mem_append_left _ (List.mem_of_getElem? (i := 77) rfl))))
theorem wq_386 : (.methodLink R_Mo 96 y_Mo_wrong : Cond) ∈ tb := tb_i9 (List.mem_of_getElem? (i := 26) rfl)
set_option maxRecDepth 100000 in
theorem wl_387 : (.instanceMethod y_Mo_wrong : Cond) ∈ lw_tbl := List.mem_append_right _ (List.mem_append_right _ (List.mem_append_right _ (List.mem_append_left _ (List.mem_of_getElem? (i := 79) rfl))))
theorem wq_387 : (.instanceMethod y_Mo_wrong : Cond) ∈ tb := tb_i9 (List.mem_of_getElem? (i := 27) rfl)
set_option maxRecDepth 100000 in
theorem wl_388 : (.selects R_Mo y_Mo_wrong y_Mo_wrong : Cond) ∈ lw_tbl := List.mem_append_left _ (List.mem_of_getElem? (i := 25) rfl)
theorem wq_388 : (.selects R_Mo y_Mo_wrong y_Mo_wrong : Cond) ∈ tb := tb_i9 (List.mem_of_getElem? (i := 28) rfl)
set_option maxRecDepth 100000 in
theorem wl_389 : (.initialized R_Mo : Cond) ∈ lw_tbl := List.mem_append_right _ (List.mem_append_left _ (List.mem_of_getElem? (i := 8) rfl))
theorem wq_389 : (.initialized R_Mo : Cond) ∈ tb := tb_i9 (List.mem_of_getElem? (i := 29) rfl)
set_option maxRecDepth 100000 in
theorem wl_390 : (.fieldLink R_Mo 66 "StackBytesModel" "kinds" "[I" : Cond) ∈ lw_tbl := List.mem_append_right _ (List.mem_append_right _ (List.mem_append_right _ (List.mem_append_left _ (List.mem_of_getElem? (i := 129) rfl))))
theorem wq_390 : (.fieldLink R_Mo 66 "StackBytesModel" "kinds" "[I" : Cond) ∈ tb := tb_i9 (List.mem_of_getElem? (i := 30) rfl)
set_option maxRecDepth 100000 in
theorem wl_391 : (.fieldLink R_Mo 69 "StackBytesModel" "waits" "[Z" : Cond) ∈ lw_tbl := List.mem_append_right _ (List.mem_append_right _ (List.mem_append_right _ (List.mem_append_left _ (List.mem_of_getElem? (i := 130) rfl))))
theorem wq_391 : (.fieldLink R_Mo 69 "StackBytesModel" "waits" "[Z" : Cond) ∈ tb := tb_i9 (List.mem_of_getElem? (i := 31) rfl)
set_option maxRecDepth 100000 in
theorem wl_392 : (.fieldLink R_Mo 135 "StackBytesModel" "kind" "I" : Cond) ∈ lw_tbl := List.mem_append_right _ (List.mem_append_right _ (List.mem_append_right _ (List.mem_append_left _ (List.mem_of_getElem? (i := 133) rfl))))
theorem wq_392 : (.fieldLink R_Mo 135 "StackBytesModel" "kind" "I" : Cond) ∈ tb := tb_i9 (List.mem_of_getElem? (i := 32) rfl)
set_option maxRecDepth 100000 in
theorem wl_393 : (.fieldLink R_Mo 132 "StackBytesModel" "height" "I" : Cond) ∈ lw_tbl := List.mem_append_right _ (List.mem_append_right _ (List.mem_append_right _ (List.mem_append_left _ (List.mem_of_getElem? (i := 132) rfl))))
theorem wq_393 : (.fieldLink R_Mo 132 "StackBytesModel" "height" "I" : Cond) ∈ tb := tb_i9 (List.mem_of_getElem? (i := 33) rfl)
set_option maxRecDepth 100000 in
theorem wl_394 : (.fieldLink R_Mo 29 "StackBytesModel" "rowBits" "[I" : Cond) ∈ lw_tbl := List.mem_append_right _ (List.mem_append_right _ (List.mem_append_right _ (List.mem_append_left _ (List.mem_of_getElem? (i := 117) rfl))))
theorem wq_394 : (.fieldLink R_Mo 29 "StackBytesModel" "rowBits" "[I" : Cond) ∈ tb := tb_i9 (List.mem_of_getElem? (i := 34) rfl)
set_option maxRecDepth 100000 in
theorem wl_395 : (.code y_Mo_takes b_Mo_takes 3 (some .boolean) : Cond) ∈ lw_tbl := List.mem_append_right _ (List.mem_append_right _ (List.mem_append_right _ (List.mem_append_left _ (List.mem_of_getElem? (i := 96) rfl))))
theorem wq_395 : (.code y_Mo_takes b_Mo_takes 3 (some .boolean) : Cond) ∈ tb := tb_i9 (List.mem_of_getElem? (i := 35) rfl)
set_option maxRecDepth 100000 in
theorem wl_396 : (.methodLink R_Mo 138 y_Mo_takes : Cond) ∈ lw_tbl := List.mem_append_right _ (List.mem_append_right _ (List.mem_append_right _ (List.mem_append_left _ (List.mem_of_getElem? (i := 93) rfl))))
theorem wq_396 : (.methodLink R_Mo 138 y_Mo_takes : Cond) ∈ tb := tb_i9 (List.mem_of_getElem? (i := 36) rfl)
set_option maxRecDepth 100000 in
theorem wl_397 : (.instanceMethod y_Mo_takes : Cond) ∈ lw_tbl := List.mem_append_right _ (List.mem_append_right _ (List.mem_append_right _ (List.mem_append_left _ (List.mem_of_getElem? (i := 95) rfl))))
theorem wq_397 : (.instanceMethod y_Mo_takes : Cond) ∈ tb := tb_i9 (List.mem_of_getElem? (i := 37) rfl)
set_option maxRecDepth 100000 in
theorem wl_398 : (.selects R_Mo y_Mo_takes y_Mo_takes : Cond) ∈ lw_tbl := List.mem_append_left _ (List.mem_of_getElem? (i := 29) rfl)
theorem wq_398 : (.selects R_Mo y_Mo_takes y_Mo_takes : Cond) ∈ tb := tb_i9 (List.mem_of_getElem? (i := 38) rfl)
set_option maxRecDepth 100000 in
theorem wl_399 : (.code y_Mo_takesInts b_Mo_takesInts 4 (some .boolean) : Cond) ∈ lw_tbl := List.mem_append_right _ (List.mem_append_right _ (List.mem_append_right _ (List.mem_append_left _ (List.mem_of_getElem? (i := 104) rfl))))
theorem wq_399 : (.code y_Mo_takesInts b_Mo_takesInts 4 (some .boolean) : Cond) ∈ tb := tb_i9 (List.mem_of_getElem? (i := 39) rfl)
set_option maxRecDepth 100000 in
theorem wl_400 : (.code y_Mo_puts b_Mo_puts 2 none : Cond) ∈ lw_tbl := List.mem_append_right _ (List.mem_append_right _ (List.mem_append_right _ (List.mem_append_left _ (List.mem_of_getElem? (i := 92) rfl))))
theorem wq_400 : (.code y_Mo_puts b_Mo_puts 2 none : Cond) ∈ tb := tb_i10 (List.mem_of_getElem? (i := 0) rfl)
set_option maxRecDepth 100000 in
theorem wl_401 : (.methodLink R_Mo 142 y_Mo_puts : Cond) ∈ lw_tbl := List.mem_append_right _ (List.mem_append_right _ (List.mem_append_right _ (List.mem_append_left _ (List.mem_of_getElem? (i := 89) rfl))))
theorem wq_401 : (.methodLink R_Mo 142 y_Mo_puts : Cond) ∈ tb := tb_i10 (List.mem_of_getElem? (i := 1) rfl)
set_option maxRecDepth 100000 in
theorem wl_402 : (.instanceMethod y_Mo_puts : Cond) ∈ lw_tbl := List.mem_append_right _ (List.mem_append_right _ (List.mem_append_right _ (List.mem_append_left _ (List.mem_of_getElem? (i := 91) rfl))))
theorem wq_402 : (.instanceMethod y_Mo_puts : Cond) ∈ tb := tb_i10 (List.mem_of_getElem? (i := 2) rfl)
set_option maxRecDepth 100000 in
theorem wl_403 : (.selects R_Mo y_Mo_puts y_Mo_puts : Cond) ∈ lw_tbl := List.mem_append_left _ (List.mem_of_getElem? (i := 28) rfl)
theorem wq_403 : (.selects R_Mo y_Mo_puts y_Mo_puts : Cond) ∈ tb := tb_i10 (List.mem_of_getElem? (i := 3) rfl)
set_option maxRecDepth 100000 in
theorem wl_404 : (.methodLink R_Mo 150 y_Mo_takesInts : Cond) ∈ lw_tbl := List.mem_append_right _ (List.mem_append_right _ (List.mem_append_right _ (List.mem_append_left _ (List.mem_of_getElem? (i := 101) rfl))))
theorem wq_404 : (.methodLink R_Mo 150 y_Mo_takesInts : Cond) ∈ tb := tb_i10 (List.mem_of_getElem? (i := 4) rfl)
set_option maxRecDepth 100000 in
theorem wl_405 : (.instanceMethod y_Mo_takesInts : Cond) ∈ lw_tbl := List.mem_append_right _ (List.mem_append_right _ (List.mem_append_right _ (List.mem_append_left _ (List.mem_of_getElem? (i := 103) rfl))))
theorem wq_405 : (.instanceMethod y_Mo_takesInts : Cond) ∈ tb := tb_i10 (List.mem_of_getElem? (i := 5) rfl)
set_option maxRecDepth 100000 in
theorem wl_406 : (.selects R_Mo y_Mo_takesInts y_Mo_takesInts : Cond) ∈ lw_tbl := List.mem_append_left _ (List.mem_of_getElem? (i := 31) rfl)
theorem wq_406 : (.selects R_Mo y_Mo_takesInts y_Mo_takesInts : Cond) ∈ tb := tb_i10 (List.mem_of_getElem? (i := 6) rfl)
set_option maxRecDepth 100000 in
theorem wl_407 : (.fieldLink R_Mo 32 "StackBytesModel" "results" "[I" : Cond) ∈ lw_tbl := List.mem_append_right _ (List.mem_append_right _ (List.mem_append_right _ (List.mem_append_left _ (List.mem_of_getElem? (i := 118) rfl))))
theorem wq_407 : (.fieldLink R_Mo 32 "StackBytesModel" "results" "[I" : Cond) ∈ tb := tb_i10 (List.mem_of_getElem? (i := 7) rfl)
set_option maxRecDepth 100000 in
theorem wl_408 : (.fieldLink R_Mo 23 "StackBytesModel" "params" "[I" : Cond) ∈ lw_tbl := List.mem_append_right _ (List.mem_append_right _ (List.mem_append_right _ (List.mem_append_left _ (List.mem_of_getElem? (i := 115) rfl))))
theorem wq_408 : (.fieldLink R_Mo 23 "StackBytesModel" "params" "[I" : Cond) ∈ tb := tb_i10 (List.mem_of_getElem? (i := 8) rfl)
set_option maxRecDepth 100000 in
theorem wl_409 : (.code y_Mo_isRow b_Mo_isRow 3 (some .int) : Cond) ∈ lw_tbl := List.mem_append_right _ (List.mem_append_right _ (List.mem_append_right _ (List.mem_append_left _ (List.mem_of_getElem? (i := 100) rfl))))
theorem wq_409 : (.code y_Mo_isRow b_Mo_isRow 3 (some .int) : Cond) ∈ tb := tb_i10 (List.mem_of_getElem? (i := 9) rfl)
set_option maxRecDepth 100000 in
theorem wl_410 : (.methodLink R_Mo 146 y_Mo_isRow : Cond) ∈ lw_tbl := List.mem_append_right _ (List.mem_append_right _ (List.mem_append_right _ (List.mem_append_left _ (List.mem_of_getElem? (i := 97) rfl))))
theorem wq_410 : (.methodLink R_Mo 146 y_Mo_isRow : Cond) ∈ tb := tb_i10 (List.mem_of_getElem? (i := 10) rfl)
set_option maxRecDepth 100000 in
theorem wl_411 : (.instanceMethod y_Mo_isRow : Cond) ∈ lw_tbl := List.mem_append_right _ (List.mem_append_right _ (List.mem_append_right _ (List.mem_append_left _ (List.mem_of_getElem? (i := 99) rfl))))
theorem wq_411 : (.instanceMethod y_Mo_isRow : Cond) ∈ tb := tb_i10 (List.mem_of_getElem? (i := 11) rfl)
set_option maxRecDepth 100000 in
theorem wl_412 : (.selects R_Mo y_Mo_isRow y_Mo_isRow : Cond) ∈ lw_tbl := List.mem_append_left _ (List.mem_of_getElem? (i := 30) rfl)
theorem wq_412 : (.selects R_Mo y_Mo_isRow y_Mo_isRow : Cond) ∈ tb := tb_i10 (List.mem_of_getElem? (i := 12) rfl)
set_option maxRecDepth 100000 in
theorem wl_413 : (.fieldLink R_Mo 41 "StackBytesModel" "ops" "[I" : Cond) ∈ lw_tbl := List.mem_append_right _ (List.mem_append_right _ (List.mem_append_right _ (List.mem_append_left _ (List.mem_of_getElem? (i := 121) rfl))))
theorem wq_413 : (.fieldLink R_Mo 41 "StackBytesModel" "ops" "[I" : Cond) ∈ tb := tb_i10 (List.mem_of_getElem? (i := 13) rfl)
set_option maxRecDepth 100000 in
theorem wl_414 : (.fieldLink R_Mo 44 "StackBytesModel" "operands" "[I" : Cond) ∈ lw_tbl := List.mem_append_right _ (List.mem_append_right _ (List.mem_append_right _ (List.mem_append_left _ (List.mem_of_getElem? (i := 122) rfl))))
theorem wq_414 : (.fieldLink R_Mo 44 "StackBytesModel" "operands" "[I" : Cond) ∈ tb := tb_i10 (List.mem_of_getElem? (i := 14) rfl)
set_option maxRecDepth 100000 in
theorem wl_415 : (.code y_Mo_moves b_Mo_moves 9 (some .boolean) : Cond) ∈ lw_tbl := List.mem_append_right _ (List.mem_append_right _ (List.mem_append_right _ (List.mem_append_left _ (List.mem_of_getElem? (i := 88) rfl))))
theorem wq_415 : (.code y_Mo_moves b_Mo_moves 9 (some .boolean) : Cond) ∈ tb := tb_i10 (List.mem_of_getElem? (i := 15) rfl)
set_option maxRecDepth 100000 in
theorem wl_416 : (.fieldLink R_Mo 38 "StackBytesModel" "handlerMany" "[I" : Cond) ∈ lw_tbl := List.mem_append_right _ (List.mem_append_right _ (List.mem_append_right _ (List.mem_append_left _ (List.mem_of_getElem? (i := 120) rfl))))
theorem wq_416 : (.fieldLink R_Mo 38 "StackBytesModel" "handlerMany" "[I" : Cond) ∈ tb := tb_i10 (List.mem_of_getElem? (i := 16) rfl)
set_option maxRecDepth 100000 in
theorem wl_417 : (.fieldLink R_Mo 47 "StackBytesModel" "froms" "[I" : Cond) ∈ lw_tbl := List.mem_append_right _ (List.mem_append_right _ (List.mem_append_right _ (List.mem_append_left _ (List.mem_of_getElem? (i := 123) rfl))))
theorem wq_417 : (.fieldLink R_Mo 47 "StackBytesModel" "froms" "[I" : Cond) ∈ tb := tb_i10 (List.mem_of_getElem? (i := 17) rfl)
set_option maxRecDepth 100000 in
theorem wl_418 : (.fieldLink R_Mo 50 "StackBytesModel" "tos" "[I" : Cond) ∈ lw_tbl := List.mem_append_right _ (List.mem_append_right _ (List.mem_append_right _ (List.mem_append_left _ (List.mem_of_getElem? (i := 124) rfl))))
theorem wq_418 : (.fieldLink R_Mo 50 "StackBytesModel" "tos" "[I" : Cond) ∈ tb := tb_i10 (List.mem_of_getElem? (i := 18) rfl)
set_option maxRecDepth 100000 in
theorem wl_419 : (.fieldLink R_Mo 53 "StackBytesModel" "targets" "[I" : Cond) ∈ lw_tbl := List.mem_append_right _ (List.mem_append_right _ (List.mem_append_right _ (List.mem_append_left _ (List.mem_of_getElem? (i := 125) rfl))))
theorem wq_419 : (.fieldLink R_Mo 53 "StackBytesModel" "targets" "[I" : Cond) ∈ tb := tb_i10 (List.mem_of_getElem? (i := 19) rfl)
set_option maxRecDepth 100000 in
theorem wl_420 : (.code y_Mo_comeTo b_Mo_comeTo 7 none : Cond) ∈ lw_tbl := List.mem_append_right _ (List.mem_append_right _ (List.mem_append_right _ (List.mem_append_left _ (List.mem_of_getElem? (i := 76) rfl))))
theorem wq_420 : (.code y_Mo_comeTo b_Mo_comeTo 7 none : Cond) ∈ tb := tb_i10 (List.mem_of_getElem? (i := 20) rfl)
set_option maxRecDepth 100000 in
theorem wl_421 : (.methodLink R_Mo 153 y_Mo_comeTo : Cond) ∈ lw_tbl := List.mem_append_right _ (List.mem_append_right _ (List.mem_append_right _ (List.mem_append_left _ (List.mem_of_getElem? (i := 73) rfl))))
theorem wq_421 : (.methodLink R_Mo 153 y_Mo_comeTo : Cond) ∈ tb := tb_i10 (List.mem_of_getElem? (i := 21) rfl)
set_option maxRecDepth 100000 in
theorem wl_422 : (.instanceMethod y_Mo_comeTo : Cond) ∈ lw_tbl := List.mem_append_right _ (List.mem_append_right _ (List.mem_append_right _ (List.mem_append_left _ (List.mem_of_getElem? (i := 75) rfl))))
theorem wq_422 : (.instanceMethod y_Mo_comeTo : Cond) ∈ tb := tb_i10 (List.mem_of_getElem? (i := 22) rfl)
set_option maxRecDepth 100000 in
theorem wl_423 : (.selects R_Mo y_Mo_comeTo y_Mo_comeTo : Cond) ∈ lw_tbl := List.mem_append_left _ (List.mem_of_getElem? (i := 24) rfl)
theorem wq_423 : (.selects R_Mo y_Mo_comeTo y_Mo_comeTo : Cond) ∈ tb := tb_i10 (List.mem_of_getElem? (i := 23) rfl)
set_option maxRecDepth 100000 in
theorem wl_424 : (.fieldLink R_Mo 35 "StackBytesModel" "sizes" "[I" : Cond) ∈ lw_tbl := List.mem_append_right _ (List.mem_append_right _ (List.mem_append_right _ (List.mem_append_left _ (List.mem_of_getElem? (i := 119) rfl))))
theorem wq_424 : (.fieldLink R_Mo 35 "StackBytesModel" "sizes" "[I" : Cond) ∈ tb := tb_i10 (List.mem_of_getElem? (i := 24) rfl)
set_option maxRecDepth 100000 in
theorem wl_425 : (.methodLink R_Mo 161 y_Mo_moves : Cond) ∈ lw_tbl := List.mem_append_right _ (List.mem_append_right _ (List.mem_append_right _ (List.mem_append_left _ (List.mem_of_getElem? (i := 85) rfl))))
theorem wq_425 : (.methodLink R_Mo 161 y_Mo_moves : Cond) ∈ tb := tb_i10 (List.mem_of_getElem? (i := 25) rfl)
set_option maxRecDepth 100000 in
theorem wl_426 : (.instanceMethod y_Mo_moves : Cond) ∈ lw_tbl := List.mem_append_right _ (List.mem_append_right _ (List.mem_append_right _ (List.mem_append_left _ (List.mem_of_getElem? (i := 87) rfl))))
theorem wq_426 : (.instanceMethod y_Mo_moves : Cond) ∈ tb := tb_i10 (List.mem_of_getElem? (i := 26) rfl)
set_option maxRecDepth 100000 in
theorem wl_427 : (.selects R_Mo y_Mo_moves y_Mo_moves : Cond) ∈ lw_tbl := List.mem_append_left _ (List.mem_of_getElem? (i := 27) rfl)
theorem wq_427 : (.selects R_Mo y_Mo_moves y_Mo_moves : Cond) ∈ tb := tb_i10 (List.mem_of_getElem? (i := 27) rfl)
set_option maxRecDepth 100000 in
theorem wl_428 : (.code y_Mo_lookAtOne b_Mo_lookAtOne 10 none : Cond) ∈ lw_tbl := List.mem_append_right _ (List.mem_append_right _ (List.mem_append_right _ (List.mem_append_left _ (List.mem_of_getElem? (i := 84) rfl))))
theorem wq_428 : (.code y_Mo_lookAtOne b_Mo_lookAtOne 10 none : Cond) ∈ tb := tb_i10 (List.mem_of_getElem? (i := 28) rfl)
set_option maxRecDepth 100000 in
theorem wl_429 : (.methodLink R_Mo 157 y_Mo_lookAtOne : Cond) ∈ lw_tbl := List.mem_append_right _ (List.mem_append_right _ (List.mem_append_right _ (List.mem_append_left _ (List.mem_of_getElem? (i := 81) rfl))))
theorem wq_429 : (.methodLink R_Mo 157 y_Mo_lookAtOne : Cond) ∈ tb := tb_i10 (List.mem_of_getElem? (i := 29) rfl)
set_option maxRecDepth 100000 in
theorem wl_430 : (.instanceMethod y_Mo_lookAtOne : Cond) ∈ lw_tbl := List.mem_append_right _ (List.mem_append_right _ (List.mem_append_right _ (List.mem_append_left _ (List.mem_of_getElem? (i := 83) rfl))))
theorem wq_430 : (.instanceMethod y_Mo_lookAtOne : Cond) ∈ tb := tb_i10 (List.mem_of_getElem? (i := 30) rfl)
set_option maxRecDepth 100000 in
theorem wl_431 : (.selects R_Mo y_Mo_lookAtOne y_Mo_lookAtOne : Cond) ∈ lw_tbl := List.mem_append_left _ (List.mem_of_getElem? (i := 26) rfl)
theorem wq_431 : (.selects R_Mo y_Mo_lookAtOne y_Mo_lookAtOne : Cond) ∈ tb := tb_i10 (List.mem_of_getElem? (i := 31) rfl)
set_option maxRecDepth 100000 in
theorem wl_432 : (.methodLink R_Mo 1 objectInit : Cond) ∈ lw_tbl := List.mem_append_right _ (List.mem_append_right _ (List.mem_append_right _ (List.mem_append_left _ (List.mem_of_getElem? (i := 68) rfl))))
theorem wq_432 : (.methodLink R_Mo 1 objectInit : Cond) ∈ tb := tb_i10 (List.mem_of_getElem? (i := 32) rfl)
set_option maxRecDepth 100000 in
theorem wl_433 : (.fieldLink R_Mo 7 "StackBytesModel" "bytes" "[I" : Cond) ∈ lw_tbl := List.mem_append_right _ (List.mem_append_right _ (List.mem_append_right _ (List.mem_append_left _ (List.mem_of_getElem? (i := 106) rfl))))
theorem wq_433 : (.fieldLink R_Mo 7 "StackBytesModel" "bytes" "[I" : Cond) ∈ tb := tb_i10 (List.mem_of_getElem? (i := 33) rfl)
set_option maxRecDepth 100000 in
theorem wl_434 : (.fieldLink R_Mo 13 "StackBytesModel" "written" "[I" : Cond) ∈ lw_tbl := List.mem_append_right _ (List.mem_append_right _ (List.mem_append_right _ (List.mem_append_left _ (List.mem_of_getElem? (i := 108) rfl))))
theorem wq_434 : (.fieldLink R_Mo 13 "StackBytesModel" "written" "[I" : Cond) ∈ tb := tb_i10 (List.mem_of_getElem? (i := 34) rfl)
set_option maxRecDepth 100000 in
theorem wl_435 : (.fieldLink R_Mo 16 "StackBytesModel" "place" "I" : Cond) ∈ lw_tbl := List.mem_append_right _ (List.mem_append_right _ (List.mem_append_right _ (List.mem_append_left _ (List.mem_of_getElem? (i := 111) rfl))))
theorem wq_435 : (.fieldLink R_Mo 16 "StackBytesModel" "place" "I" : Cond) ∈ tb := tb_i10 (List.mem_of_getElem? (i := 35) rfl)
set_option maxRecDepth 100000 in
theorem wl_436 : (.fieldLink R_Mo 20 "StackBytesModel" "functions" "[I" : Cond) ∈ lw_tbl := List.mem_append_right _ (List.mem_append_right _ (List.mem_append_right _ (List.mem_append_left _ (List.mem_of_getElem? (i := 114) rfl))))
theorem wq_436 : (.fieldLink R_Mo 20 "StackBytesModel" "functions" "[I" : Cond) ∈ tb := tb_i10 (List.mem_of_getElem? (i := 36) rfl)
set_option maxRecDepth 100000 in
theorem wl_437 : (.fieldLink R_Mo 26 "StackBytesModel" "locals" "[I" : Cond) ∈ lw_tbl := List.mem_append_right _ (List.mem_append_right _ (List.mem_append_right _ (List.mem_append_left _ (List.mem_of_getElem? (i := 116) rfl))))
theorem wq_437 : (.fieldLink R_Mo 26 "StackBytesModel" "locals" "[I" : Cond) ∈ tb := tb_i10 (List.mem_of_getElem? (i := 37) rfl)
set_option maxRecDepth 100000 in
theorem wl_438 : (.fieldLink R_Mo 56 "StackBytesModel" "anyCode" "[Z" : Cond) ∈ lw_tbl := List.mem_append_right _ (List.mem_append_right _ (List.mem_append_right _ (List.mem_append_left _ (List.mem_of_getElem? (i := 126) rfl))))
theorem wq_438 : (.fieldLink R_Mo 56 "StackBytesModel" "anyCode" "[Z" : Cond) ∈ tb := tb_i10 (List.mem_of_getElem? (i := 38) rfl)
set_option maxRecDepth 100000 in
theorem wl_439 : (.fieldLink R_Mo 60 "StackBytesModel" "handlerCodes" "[I" : Cond) ∈ lw_tbl := List.mem_append_right _ (List.mem_append_right _ (List.mem_append_right _ (List.mem_append_left _ (List.mem_of_getElem? (i := 127) rfl))))
theorem wq_439 : (.fieldLink R_Mo 60 "StackBytesModel" "handlerCodes" "[I" : Cond) ∈ tb := tb_i10 (List.mem_of_getElem? (i := 39) rfl)
set_option maxRecDepth 100000 in
theorem wl_440 : (.code y_Mo_verify b_Mo_verify 5 none : Cond) ∈ lw_tbl := List.mem_append_right _ (List.mem_append_right _ (List.mem_append_right _ (List.mem_append_left _ (List.mem_of_getElem? (i := 72) rfl))))
theorem wq_440 : (.code y_Mo_verify b_Mo_verify 5 none : Cond) ∈ tb := tb_i11 (List.mem_of_getElem? (i := 0) rfl)
set_option maxRecDepth 100000 in
theorem wl_441 : (.methodLink R_Mo 72 y_Mo_verify : Cond) ∈ lw_tbl := List.mem_append_right _ (List.mem_append_right _ (List.mem_append_right _ (List.mem_append_left _ (List.mem_of_getElem? (i := 69) rfl))))
theorem wq_441 : (.methodLink R_Mo 72 y_Mo_verify : Cond) ∈ tb := tb_i11 (List.mem_of_getElem? (i := 1) rfl)
set_option maxRecDepth 100000 in
theorem wl_442 : (.instanceMethod y_Mo_verify : Cond) ∈ lw_tbl := List.mem_append_right _ (List.mem_append_right _ (List.mem_append_right _ (List.mem_append_left _ (List.mem_of_getElem? (i := 71) rfl))))
theorem wq_442 : (.instanceMethod y_Mo_verify : Cond) ∈ tb := tb_i11 (List.mem_of_getElem? (i := 2) rfl)
set_option maxRecDepth 100000 in
theorem wl_443 : (.selects R_Mo y_Mo_verify y_Mo_verify : Cond) ∈ lw_tbl := List.mem_append_left _ (List.mem_of_getElem? (i := 23) rfl)
theorem wq_443 : (.selects R_Mo y_Mo_verify y_Mo_verify : Cond) ∈ tb := tb_i11 (List.mem_of_getElem? (i := 3) rfl)
set_option maxRecDepth 100000 in
theorem wl_444 : (.fieldLink R_Mo 76 "StackBytesModel" "thrown" "I" : Cond) ∈ lw_tbl := List.mem_append_right _ (List.mem_append_right _ (List.mem_append_right _ (List.mem_append_left _ (List.mem_of_getElem? (i := 105) rfl))))
theorem wq_444 : (.fieldLink R_Mo 76 "StackBytesModel" "thrown" "I" : Cond) ∈ tb := tb_i11 (List.mem_of_getElem? (i := 4) rfl)
set_option maxRecDepth 100000 in
theorem wl_445 : (.fieldLink R_Mo 85 "StackBytesModel" "many" "I" : Cond) ∈ lw_tbl := List.mem_append_right _ (List.mem_append_right _ (List.mem_append_right _ (List.mem_append_left _ (List.mem_of_getElem? (i := 107) rfl))))
theorem wq_445 : (.fieldLink R_Mo 85 "StackBytesModel" "many" "I" : Cond) ∈ tb := tb_i11 (List.mem_of_getElem? (i := 5) rfl)
set_option maxRecDepth 100000 in
theorem wl_446 : (.constantLong R_Mo 88 255 : Cond) ∈ lw_tbl := List.mem_append_right _ (List.mem_append_right _ (List.mem_append_right _ (List.mem_append_left _ (List.mem_of_getElem? (i := 197) rfl))))
theorem wq_446 : (.constantLong R_Mo 88 255 : Cond) ∈ tb := tb_i11 (List.mem_of_getElem? (i := 6) rfl)
set_option maxRecDepth 100000 in
theorem wl_447 : (.fieldLink R_Mo 90 "StackBytesModel" "writtenMany" "I" : Cond) ∈ lw_tbl := List.mem_append_right _ (List.mem_append_right _ (List.mem_append_right _ (List.mem_append_left _ (List.mem_of_getElem? (i := 109) rfl))))
theorem wq_447 : (.fieldLink R_Mo 90 "StackBytesModel" "writtenMany" "I" : Cond) ∈ tb := tb_i11 (List.mem_of_getElem? (i := 7) rfl)
set_option maxRecDepth 100000 in
theorem wl_448 : (.fieldLink R_Mo 93 "StackBytesModel" "p" "I" : Cond) ∈ lw_tbl := List.mem_append_right _ (List.mem_append_right _ (List.mem_append_right _ (List.mem_append_left _ (List.mem_of_getElem? (i := 131) rfl))))
theorem wq_448 : (.fieldLink R_Mo 93 "StackBytesModel" "p" "I" : Cond) ∈ tb := tb_i11 (List.mem_of_getElem? (i := 8) rfl)
set_option maxRecDepth 100000 in
theorem wl_449 : (.code y_Mo_byteNext b_Mo_byteNext 1 (some .int) : Cond) ∈ lw_tbl := List.mem_append_right _ (List.mem_append_right _ (List.mem_append_right _ (List.mem_append_left _ (List.mem_of_getElem? (i := 225) rfl))))
theorem wq_449 : (.code y_Mo_byteNext b_Mo_byteNext 1 (some .int) : Cond) ∈ tb := tb_i11 (List.mem_of_getElem? (i := 9) rfl)
set_option maxRecDepth 100000 in
theorem wl_450 : (.methodLink R_Mo 99 y_Mo_byteNext : Cond) ∈ lw_tbl := List.mem_append_right _ (List.mem_append_right _ (List.mem_append_right _ (List.mem_append_left _ (List.mem_of_getElem? (i := 222) rfl))))
theorem wq_450 : (.methodLink R_Mo 99 y_Mo_byteNext : Cond) ∈ tb := tb_i11 (List.mem_of_getElem? (i := 10) rfl)
set_option maxRecDepth 100000 in
theorem wl_451 : (.instanceMethod y_Mo_byteNext : Cond) ∈ lw_tbl := List.mem_append_right _ (List.mem_append_right _ (List.mem_append_right _ (List.mem_append_left _ (List.mem_of_getElem? (i := 224) rfl))))
theorem wq_451 : (.instanceMethod y_Mo_byteNext : Cond) ∈ tb := tb_i11 (List.mem_of_getElem? (i := 11) rfl)
set_option maxRecDepth 100000 in
theorem wl_452 : (.selects R_Mo y_Mo_byteNext y_Mo_byteNext : Cond) ∈ lw_tbl := List.mem_append_left _ (List.mem_of_getElem? (i := 33) rfl)
theorem wq_452 : (.selects R_Mo y_Mo_byteNext y_Mo_byteNext : Cond) ∈ tb := tb_i11 (List.mem_of_getElem? (i := 12) rfl)
set_option maxRecDepth 100000 in
theorem wl_453 : (.code y_Mo_numberNext b_Mo_numberNext 7 (some .int) : Cond) ∈ lw_tbl := List.mem_append_right _ (List.mem_append_right _ (List.mem_append_right _ (List.mem_append_left _ (List.mem_of_getElem? (i := 229) rfl))))
theorem wq_453 : (.code y_Mo_numberNext b_Mo_numberNext 7 (some .int) : Cond) ∈ tb := tb_i11 (List.mem_of_getElem? (i := 13) rfl)
set_option maxRecDepth 100000 in
theorem wl_454 : (.methodLink R_Mo 103 y_Mo_numberNext : Cond) ∈ lw_tbl := List.mem_append_right _ (List.mem_append_right _ (List.mem_append_right _ (List.mem_append_left _ (List.mem_of_getElem? (i := 226) rfl))))
theorem wq_454 : (.methodLink R_Mo 103 y_Mo_numberNext : Cond) ∈ tb := tb_i11 (List.mem_of_getElem? (i := 14) rfl)
set_option maxRecDepth 100000 in
theorem wl_455 : (.instanceMethod y_Mo_numberNext : Cond) ∈ lw_tbl := List.mem_append_right _ (List.mem_append_right _ (List.mem_append_right _ (List.mem_append_left _ (List.mem_of_getElem? (i := 228) rfl))))
theorem wq_455 : (.instanceMethod y_Mo_numberNext : Cond) ∈ tb := tb_i11 (List.mem_of_getElem? (i := 15) rfl)
set_option maxRecDepth 100000 in
theorem wl_456 : (.selects R_Mo y_Mo_numberNext y_Mo_numberNext : Cond) ∈ lw_tbl := List.mem_append_left _ (List.mem_of_getElem? (i := 34) rfl)
theorem wq_456 : (.selects R_Mo y_Mo_numberNext y_Mo_numberNext : Cond) ∈ tb := tb_i11 (List.mem_of_getElem? (i := 16) rfl)
set_option maxRecDepth 100000 in
theorem wl_457 : (.constant R_Mo 107 (-2147483648) : Cond) ∈ lw_tbl := List.mem_append_right _ (List.mem_append_right _ (List.mem_append_right _ (List.mem_append_left _ (List.mem_of_getElem? (i := 238) rfl))))
theorem wq_457 : (.constant R_Mo 107 (-2147483648) : Cond) ∈ tb := tb_i11 (List.mem_of_getElem? (i := 17) rfl)
set_option maxRecDepth 100000 in
theorem wl_458 : (.constant R_Mo 108 2147483647 : Cond) ∈ lw_tbl := List.mem_append_right _ (List.mem_append_right _ (List.mem_append_right _ (List.mem_append_left _ (List.mem_of_getElem? (i := 239) rfl))))
theorem wq_458 : (.constant R_Mo 108 2147483647 : Cond) ∈ tb := tb_i11 (List.mem_of_getElem? (i := 18) rfl)
set_option maxRecDepth 100000 in
theorem wl_459 : (.code y_Mo_readInstruction b_Mo_readInstruction 7 none : Cond) ∈ lw_tbl := List.mem_append_right _ (List.mem_append_right _ (List.mem_append_right _ (List.mem_append_left _ (List.mem_of_getElem? (i := 237) rfl))))
theorem wq_459 : (.code y_Mo_readInstruction b_Mo_readInstruction 7 none : Cond) ∈ tb := tb_i11 (List.mem_of_getElem? (i := 19) rfl)
set_option maxRecDepth 100000 in
theorem wl_460 : (.methodLink R_Mo 109 y_Mo_readInstruction : Cond) ∈ lw_tbl := List.mem_append_right _ (List.mem_append_right _ (List.mem_append_right _ (List.mem_append_left _ (List.mem_of_getElem? (i := 234) rfl))))
theorem wq_460 : (.methodLink R_Mo 109 y_Mo_readInstruction : Cond) ∈ tb := tb_i11 (List.mem_of_getElem? (i := 20) rfl)
set_option maxRecDepth 100000 in
theorem wl_461 : (.instanceMethod y_Mo_readInstruction : Cond) ∈ lw_tbl := List.mem_append_right _ (List.mem_append_right _ (List.mem_append_right _ (List.mem_append_left _ (List.mem_of_getElem? (i := 236) rfl))))
theorem wq_461 : (.instanceMethod y_Mo_readInstruction : Cond) ∈ tb := tb_i11 (List.mem_of_getElem? (i := 21) rfl)
set_option maxRecDepth 100000 in
theorem wl_462 : (.selects R_Mo y_Mo_readInstruction y_Mo_readInstruction : Cond) ∈ lw_tbl := List.mem_append_left _ (List.mem_of_getElem? (i := 36) rfl)
theorem wq_462 : (.selects R_Mo y_Mo_readInstruction y_Mo_readInstruction : Cond) ∈ tb := tb_i11 (List.mem_of_getElem? (i := 22) rfl)
set_option maxRecDepth 100000 in
theorem wl_463 : (.code y_Mo_readFunction b_Mo_readFunction 6 none : Cond) ∈ lw_tbl := List.mem_append_right _ (List.mem_append_right _ (List.mem_append_right _ (List.mem_append_left _ (List.mem_of_getElem? (i := 233) rfl))))
theorem wq_463 : (.code y_Mo_readFunction b_Mo_readFunction 6 none : Cond) ∈ tb := tb_i11 (List.mem_of_getElem? (i := 23) rfl)
set_option maxRecDepth 100000 in
theorem wl_464 : (.methodLink R_Mo 113 y_Mo_readFunction : Cond) ∈ lw_tbl := List.mem_append_right _ (List.mem_append_right _ (List.mem_append_right _ (List.mem_append_left _ (List.mem_of_getElem? (i := 230) rfl))))
theorem wq_464 : (.methodLink R_Mo 113 y_Mo_readFunction : Cond) ∈ tb := tb_i11 (List.mem_of_getElem? (i := 24) rfl)
set_option maxRecDepth 100000 in
theorem wl_465 : (.instanceMethod y_Mo_readFunction : Cond) ∈ lw_tbl := List.mem_append_right _ (List.mem_append_right _ (List.mem_append_right _ (List.mem_append_left _ (List.mem_of_getElem? (i := 232) rfl))))
theorem wq_465 : (.instanceMethod y_Mo_readFunction : Cond) ∈ tb := tb_i11 (List.mem_of_getElem? (i := 25) rfl)
set_option maxRecDepth 100000 in
theorem wl_466 : (.selects R_Mo y_Mo_readFunction y_Mo_readFunction : Cond) ∈ lw_tbl := List.mem_append_left _ (List.mem_of_getElem? (i := 35) rfl)
theorem wq_466 : (.selects R_Mo y_Mo_readFunction y_Mo_readFunction : Cond) ∈ tb := tb_i11 (List.mem_of_getElem? (i := 26) rfl)
set_option maxRecDepth 100000 in
theorem wl_467 : (.fieldLink R_Mo 116 "StackBytesModel" "fault" "I" : Cond) ∈ lw_tbl := List.mem_append_right _ (List.mem_append_right _ (List.mem_append_right _ (List.mem_append_left _ (List.mem_of_getElem? (i := 110) rfl))))
theorem wq_467 : (.fieldLink R_Mo 116 "StackBytesModel" "fault" "I" : Cond) ∈ tb := tb_i11 (List.mem_of_getElem? (i := 27) rfl)
set_option maxRecDepth 100000 in
theorem wl_468 : (.code y_Mo_readProgram b_Mo_readProgram 3 none : Cond) ∈ lw_tbl := List.mem_append_right _ (List.mem_append_right _ (List.mem_append_right _ (List.mem_append_left _ (List.mem_of_getElem? (i := 221) rfl))))
theorem wq_468 : (.code y_Mo_readProgram b_Mo_readProgram 3 none : Cond) ∈ tb := tb_i11 (List.mem_of_getElem? (i := 28) rfl)
set_option maxRecDepth 100000 in
theorem wl_469 : (.code y_Mo_told b_Mo_told 1 (some .int) : Cond) ∈ lw_tbl := List.mem_append_right _ (List.mem_append_right _ (List.mem_append_right _ (List.mem_append_right _ (List.mem_of_getElem? (i := 7) rfl))))
theorem wq_469 : (.code y_Mo_told b_Mo_told 1 (some .int) : Cond) ∈ tb := tb_i11 (List.mem_of_getElem? (i := 29) rfl)
set_option maxRecDepth 100000 in
theorem wl_470 : (.methodLink R_Mo 125 y_Mo_told : Cond) ∈ lw_tbl := List.mem_append_right _ (List.mem_append_right _ (List.mem_append_right _ (List.mem_append_right _ (List.mem_of_getElem? (i := 4) rfl))))
theorem wq_470 : (.methodLink R_Mo 125 y_Mo_told : Cond) ∈ tb := tb_i11 (List.mem_of_getElem? (i := 30) rfl)
set_option maxRecDepth 100000 in
theorem wl_471 : (.instanceMethod y_Mo_told : Cond) ∈ lw_tbl := List.mem_append_right _ (List.mem_append_right _ (List.mem_append_right _ (List.mem_append_right _ (List.mem_of_getElem? (i := 6) rfl))))
theorem wq_471 : (.instanceMethod y_Mo_told : Cond) ∈ tb := tb_i11 (List.mem_of_getElem? (i := 31) rfl)
set_option maxRecDepth 100000 in
theorem wl_472 : (.selects R_Mo y_Mo_told y_Mo_told : Cond) ∈ lw_tbl := List.mem_append_left _ (List.mem_of_getElem? (i := 38) rfl)
theorem wq_472 : (.selects R_Mo y_Mo_told y_Mo_told : Cond) ∈ tb := tb_i11 (List.mem_of_getElem? (i := 32) rfl)
set_option maxRecDepth 100000 in
theorem wl_473 : (.code y_Mo_copyProgram b_Mo_copyProgram 4 none : Cond) ∈ lw_tbl := List.mem_append_right _ (List.mem_append_right _ (List.mem_append_right _ (List.mem_append_right _ (List.mem_of_getElem? (i := 3) rfl))))
theorem wq_473 : (.code y_Mo_copyProgram b_Mo_copyProgram 4 none : Cond) ∈ tb := tb_i11 (List.mem_of_getElem? (i := 33) rfl)
set_option maxRecDepth 100000 in
theorem wl_474 : (.methodLink R_Mo 122 y_Mo_copyProgram : Cond) ∈ lw_tbl := List.mem_append_right _ (List.mem_append_right _ (List.mem_append_right _ (List.mem_append_right _ (List.mem_of_getElem? (i := 0) rfl))))
theorem wq_474 : (.methodLink R_Mo 122 y_Mo_copyProgram : Cond) ∈ tb := tb_i11 (List.mem_of_getElem? (i := 34) rfl)
set_option maxRecDepth 100000 in
theorem wl_475 : (.instanceMethod y_Mo_copyProgram : Cond) ∈ lw_tbl := List.mem_append_right _ (List.mem_append_right _ (List.mem_append_right _ (List.mem_append_right _ (List.mem_of_getElem? (i := 2) rfl))))
theorem wq_475 : (.instanceMethod y_Mo_copyProgram : Cond) ∈ tb := tb_i11 (List.mem_of_getElem? (i := 35) rfl)
set_option maxRecDepth 100000 in
theorem wl_476 : (.selects R_Mo y_Mo_copyProgram y_Mo_copyProgram : Cond) ∈ lw_tbl := List.mem_append_left _ (List.mem_of_getElem? (i := 37) rfl)
theorem wq_476 : (.selects R_Mo y_Mo_copyProgram y_Mo_copyProgram : Cond) ∈ tb := tb_i11 (List.mem_of_getElem? (i := 36) rfl)
set_option maxRecDepth 100000 in
theorem wl_477 : (.methodLink R_Mo 119 y_Mo_readProgram : Cond) ∈ lw_tbl := List.mem_append_right _ (List.mem_append_right _ (List.mem_append_right _ (List.mem_append_left _ (List.mem_of_getElem? (i := 218) rfl))))
theorem wq_477 : (.methodLink R_Mo 119 y_Mo_readProgram : Cond) ∈ tb := tb_i11 (List.mem_of_getElem? (i := 37) rfl)
set_option maxRecDepth 100000 in
theorem wl_478 : (.instanceMethod y_Mo_readProgram : Cond) ∈ lw_tbl := List.mem_append_right _ (List.mem_append_right _ (List.mem_append_right _ (List.mem_append_left _ (List.mem_of_getElem? (i := 220) rfl))))
theorem wq_478 : (.instanceMethod y_Mo_readProgram : Cond) ∈ tb := tb_i11 (List.mem_of_getElem? (i := 38) rfl)
set_option maxRecDepth 100000 in
theorem wl_479 : (.selects R_Mo y_Mo_readProgram y_Mo_readProgram : Cond) ∈ lw_tbl := List.mem_append_left _ (List.mem_of_getElem? (i := 32) rfl)
theorem wq_479 : (.selects R_Mo y_Mo_readProgram y_Mo_readProgram : Cond) ∈ tb := tb_i11 (List.mem_of_getElem? (i := 39) rfl)
set_option maxRecDepth 100000 in
theorem wl_480 : (.code y_Mo_canStand b_Mo_canStand 4 (some .boolean) : Cond) ∈ lw_tbl := List.mem_append_right _ (List.mem_append_right _ (List.mem_append_right _ (List.mem_append_right _ (List.mem_of_getElem? (i := 15) rfl))))
theorem wq_480 : (.code y_Mo_canStand b_Mo_canStand 4 (some .boolean) : Cond) ∈ tb := tb_i12 (List.mem_of_getElem? (i := 0) rfl)
set_option maxRecDepth 100000 in
theorem wl_481 : (.methodLink R_Mo 128 y_Mo_canStand : Cond) ∈ lw_tbl := List.mem_append_right _ (List.mem_append_right _ (List.mem_append_right _ (List.mem_append_right _ (List.mem_of_getElem? (i := 12) rfl))))
theorem wq_481 : (.methodLink R_Mo 128 y_Mo_canStand : Cond) ∈ tb := tb_i12 (List.mem_of_getElem? (i := 1) rfl)
set_option maxRecDepth 100000 in
theorem wl_482 : (.instanceMethod y_Mo_canStand : Cond) ∈ lw_tbl := List.mem_append_right _ (List.mem_append_right _ (List.mem_append_right _ (List.mem_append_right _ (List.mem_of_getElem? (i := 14) rfl))))
theorem wq_482 : (.instanceMethod y_Mo_canStand : Cond) ∈ tb := tb_i12 (List.mem_of_getElem? (i := 2) rfl)
set_option maxRecDepth 100000 in
theorem wl_483 : (.selects R_Mo y_Mo_canStand y_Mo_canStand : Cond) ∈ lw_tbl := List.mem_append_left _ (List.mem_of_getElem? (i := 39) rfl)
theorem wq_483 : (.selects R_Mo y_Mo_canStand y_Mo_canStand : Cond) ∈ tb := tb_i12 (List.mem_of_getElem? (i := 3) rfl)
set_option maxRecDepth 100000 in
theorem wl_484 : (.code y_Mo_put b_Mo_put 4 none : Cond) ∈ lw_tbl := List.mem_append_right _ (List.mem_append_right _ (List.mem_append_right _ (List.mem_append_right _ (List.mem_of_getElem? (i := 23) rfl))))
theorem wq_484 : (.code y_Mo_put b_Mo_put 4 none : Cond) ∈ tb := tb_i12 (List.mem_of_getElem? (i := 4) rfl)
set_option maxRecDepth 100000 in
theorem wl_485 : (.code y_Mo_behind b_Mo_behind 1 (some .int) : Cond) ∈ lw_tbl := List.mem_append_right _ (List.mem_append_right _ (List.mem_append_right _ (List.mem_append_right _ (List.mem_of_getElem? (i := 26) rfl))))
theorem wq_485 : (.code y_Mo_behind b_Mo_behind 1 (some .int) : Cond) ∈ tb := tb_i12 (List.mem_of_getElem? (i := 5) rfl)
set_option maxRecDepth 100000 in
theorem wl_486 : (.methodLink R_Mo 165 y_Mo_put : Cond) ∈ lw_tbl := List.mem_append_right _ (List.mem_append_right _ (List.mem_append_right _ (List.mem_append_right _ (List.mem_of_getElem? (i := 20) rfl))))
theorem wq_486 : (.methodLink R_Mo 165 y_Mo_put : Cond) ∈ tb := tb_i12 (List.mem_of_getElem? (i := 6) rfl)
set_option maxRecDepth 100000 in
theorem wl_487 : (.instanceMethod y_Mo_put : Cond) ∈ lw_tbl := List.mem_append_right _ (List.mem_append_right _ (List.mem_append_right _ (List.mem_append_right _ (List.mem_of_getElem? (i := 22) rfl))))
theorem wq_487 : (.instanceMethod y_Mo_put : Cond) ∈ tb := tb_i12 (List.mem_of_getElem? (i := 7) rfl)
set_option maxRecDepth 100000 in
theorem wl_488 : (.selects R_Mo y_Mo_put y_Mo_put : Cond) ∈ lw_tbl := List.mem_append_left _ (List.mem_of_getElem? (i := 40) rfl)
theorem wq_488 : (.selects R_Mo y_Mo_put y_Mo_put : Cond) ∈ tb := tb_i12 (List.mem_of_getElem? (i := 8) rfl)
set_option maxRecDepth 100000 in
theorem wl_489 : (.methodLink R_Mo 168 y_Mo_behind : Cond) ∈ lw_tbl := List.mem_append_right _ (List.mem_append_right _ (List.mem_append_right _ (List.mem_append_right _ (List.mem_of_getElem? (i := 24) rfl))))
theorem wq_489 : (.methodLink R_Mo 168 y_Mo_behind : Cond) ∈ tb := tb_i12 (List.mem_of_getElem? (i := 9) rfl)
set_option maxRecDepth 100000 in
theorem wl_490 : (.static y_Mo_behind : Cond) ∈ lw_tbl := List.mem_append_right _ (List.mem_append_right _ (List.mem_append_right _ (List.mem_append_right _ (List.mem_of_getElem? (i := 25) rfl))))
theorem wq_490 : (.static y_Mo_behind : Cond) ∈ tb := tb_i12 (List.mem_of_getElem? (i := 10) rfl)
set_option maxRecDepth 100000 in
theorem wl_491 : (.code y_Mo_isFunction b_Mo_isFunction 2 (some .boolean) : Cond) ∈ lw_tbl := List.mem_append_right _ (List.mem_append_right _ (List.mem_append_right _ (List.mem_append_right _ (List.mem_of_getElem? (i := 34) rfl))))
theorem wq_491 : (.code y_Mo_isFunction b_Mo_isFunction 2 (some .boolean) : Cond) ∈ tb := tb_i12 (List.mem_of_getElem? (i := 11) rfl)
set_option maxRecDepth 100000 in
theorem wl_492 : (.code y_Mo_isGoal b_Mo_isGoal 6 (some .int) : Cond) ∈ lw_tbl := List.mem_append_right _ (List.mem_append_right _ (List.mem_append_right _ (List.mem_append_right _ (List.mem_of_getElem? (i := 38) rfl))))
theorem wq_492 : (.code y_Mo_isGoal b_Mo_isGoal 6 (some .int) : Cond) ∈ tb := tb_i12 (List.mem_of_getElem? (i := 12) rfl)
set_option maxRecDepth 100000 in
theorem wl_493 : (.methodLink R_Mo 175 y_Mo_isGoal : Cond) ∈ lw_tbl := List.mem_append_right _ (List.mem_append_right _ (List.mem_append_right _ (List.mem_append_right _ (List.mem_of_getElem? (i := 35) rfl))))
theorem wq_493 : (.methodLink R_Mo 175 y_Mo_isGoal : Cond) ∈ tb := tb_i12 (List.mem_of_getElem? (i := 13) rfl)
set_option maxRecDepth 100000 in
theorem wl_494 : (.instanceMethod y_Mo_isGoal : Cond) ∈ lw_tbl := List.mem_append_right _ (List.mem_append_right _ (List.mem_append_right _ (List.mem_append_right _ (List.mem_of_getElem? (i := 37) rfl))))
theorem wq_494 : (.instanceMethod y_Mo_isGoal : Cond) ∈ tb := tb_i12 (List.mem_of_getElem? (i := 14) rfl)
set_option maxRecDepth 100000 in
theorem wl_495 : (.selects R_Mo y_Mo_isGoal y_Mo_isGoal : Cond) ∈ lw_tbl := List.mem_append_left _ (List.mem_of_getElem? (i := 42) rfl)
theorem wq_495 : (.selects R_Mo y_Mo_isGoal y_Mo_isGoal : Cond) ∈ tb := tb_i12 (List.mem_of_getElem? (i := 15) rfl)
set_option maxRecDepth 100000 in
theorem wl_496 : (.methodLink R_Mo 172 y_Mo_isFunction : Cond) ∈ lw_tbl := List.mem_append_right _ (List.mem_append_right _ (List.mem_append_right _ (List.mem_append_right _ (List.mem_of_getElem? (i := 31) rfl))))
theorem wq_496 : (.methodLink R_Mo 172 y_Mo_isFunction : Cond) ∈ tb := tb_i12 (List.mem_of_getElem? (i := 16) rfl)
set_option maxRecDepth 100000 in
theorem wl_497 : (.instanceMethod y_Mo_isFunction : Cond) ∈ lw_tbl := List.mem_append_right _ (List.mem_append_right _ (List.mem_append_right _ (List.mem_append_right _ (List.mem_of_getElem? (i := 33) rfl))))
theorem wq_497 : (.instanceMethod y_Mo_isFunction : Cond) ∈ tb := tb_i12 (List.mem_of_getElem? (i := 17) rfl)
set_option maxRecDepth 100000 in
theorem wl_498 : (.selects R_Mo y_Mo_isFunction y_Mo_isFunction : Cond) ∈ lw_tbl := List.mem_append_left _ (List.mem_of_getElem? (i := 41) rfl)
theorem wq_498 : (.selects R_Mo y_Mo_isFunction y_Mo_isFunction : Cond) ∈ tb := tb_i12 (List.mem_of_getElem? (i := 18) rfl)
set_option maxRecDepth 100000 in
theorem wl_499 : (.code y_Mo_known b_Mo_known 7 (some .int) : Cond) ∈ lw_tbl := List.mem_append_right _ (List.mem_append_right _ (List.mem_append_right _ (List.mem_append_right _ (List.mem_of_getElem? (i := 46) rfl))))
theorem wq_499 : (.code y_Mo_known b_Mo_known 7 (some .int) : Cond) ∈ tb := tb_i12 (List.mem_of_getElem? (i := 19) rfl)
set_option maxRecDepth 100000 in
theorem wl_500 : (.methodLink R_Mo 178 y_Mo_known : Cond) ∈ lw_tbl := List.mem_append_right _ (List.mem_append_right _ (List.mem_append_right _ (List.mem_append_right _ (List.mem_of_getElem? (i := 43) rfl))))
theorem wq_500 : (.methodLink R_Mo 178 y_Mo_known : Cond) ∈ tb := tb_i12 (List.mem_of_getElem? (i := 20) rfl)
set_option maxRecDepth 100000 in
theorem wl_501 : (.instanceMethod y_Mo_known : Cond) ∈ lw_tbl := List.mem_append_right _ (List.mem_append_right _ (List.mem_append_right _ (List.mem_append_right _ (List.mem_of_getElem? (i := 45) rfl))))
theorem wq_501 : (.instanceMethod y_Mo_known : Cond) ∈ tb := tb_i12 (List.mem_of_getElem? (i := 21) rfl)
set_option maxRecDepth 100000 in
theorem wl_502 : (.selects R_Mo y_Mo_known y_Mo_known : Cond) ∈ lw_tbl := List.mem_append_left _ (List.mem_of_getElem? (i := 43) rfl)
theorem wq_502 : (.selects R_Mo y_Mo_known y_Mo_known : Cond) ∈ tb := tb_i12 (List.mem_of_getElem? (i := 22) rfl)
set_option maxRecDepth 100000 in
theorem wl_503 : (.code y_Mo_codes b_Mo_codes 3 (some .int) : Cond) ∈ lw_tbl := List.mem_append_right _ (List.mem_append_right _ (List.mem_append_right _ (List.mem_append_right _ (List.mem_of_getElem? (i := 58) rfl))))
theorem wq_503 : (.code y_Mo_codes b_Mo_codes 3 (some .int) : Cond) ∈ tb := tb_i12 (List.mem_of_getElem? (i := 23) rfl)
set_option maxRecDepth 100000 in
theorem wl_504 : (.methodLink R_Mo 182 y_Mo_codes : Cond) ∈ lw_tbl := List.mem_append_right _ (List.mem_append_right _ (List.mem_append_right _ (List.mem_append_right _ (List.mem_of_getElem? (i := 55) rfl))))
theorem wq_504 : (.methodLink R_Mo 182 y_Mo_codes : Cond) ∈ tb := tb_i12 (List.mem_of_getElem? (i := 24) rfl)
set_option maxRecDepth 100000 in
theorem wl_505 : (.instanceMethod y_Mo_codes : Cond) ∈ lw_tbl := List.mem_append_right _ (List.mem_append_right _ (List.mem_append_right _ (List.mem_append_right _ (List.mem_of_getElem? (i := 57) rfl))))
theorem wq_505 : (.instanceMethod y_Mo_codes : Cond) ∈ tb := tb_i12 (List.mem_of_getElem? (i := 25) rfl)
set_option maxRecDepth 100000 in
theorem wl_506 : (.selects R_Mo y_Mo_codes y_Mo_codes : Cond) ∈ lw_tbl := List.mem_append_left _ (List.mem_of_getElem? (i := 44) rfl)
theorem wq_506 : (.selects R_Mo y_Mo_codes y_Mo_codes : Cond) ∈ tb := tb_i12 (List.mem_of_getElem? (i := 26) rfl)
set_option maxRecDepth 100000 in
theorem wl_507 : (.classLink R_La 7 R_SB : Cond) ∈ lw_tbl := List.mem_append_right _ (List.mem_append_left _ (List.mem_of_getElem? (i := 14) rfl))
theorem wq_507 : (.classLink R_La 7 R_SB : Cond) ∈ tb := tb_i12 (List.mem_of_getElem? (i := 27) rfl)
set_option maxRecDepth 100000 in
theorem wl_508 : (.instantiable R_SB 6 : Cond) ∈ lw_tbl := List.mem_append_right _ (List.mem_append_left _ (List.mem_of_getElem? (i := 15) rfl))
theorem wq_508 : (.instantiable R_SB 6 : Cond) ∈ tb := tb_i12 (List.mem_of_getElem? (i := 28) rfl)
set_option maxRecDepth 100000 in
theorem wl_509 : (.initialized R_SB : Cond) ∈ lw_tbl := List.mem_append_right _ (List.mem_append_left _ (List.mem_of_getElem? (i := 1) rfl))
theorem wq_509 : (.initialized R_SB : Cond) ∈ tb := tb_i12 (List.mem_of_getElem? (i := 29) rfl)
set_option maxRecDepth 100000 in
theorem wl_510 : (.code y_SB_init b_SB_init 1 none : Cond) ∈ lw_tbl := List.mem_append_right _ (List.mem_append_left _ (List.mem_of_getElem? (i := 18) rfl))
theorem wq_510 : (.code y_SB_init b_SB_init 1 none : Cond) ∈ tb := tb_i12 (List.mem_of_getElem? (i := 30) rfl)
set_option maxRecDepth 100000 in
theorem wl_511 : (.classLink R_La 10 R_Mo : Cond) ∈ lw_tbl := List.mem_append_right _ (List.mem_append_right _ (List.mem_append_right _ (List.mem_append_left _ (List.mem_of_getElem? (i := 63) rfl))))
theorem wq_511 : (.classLink R_La 10 R_Mo : Cond) ∈ tb := tb_i12 (List.mem_of_getElem? (i := 31) rfl)
set_option maxRecDepth 100000 in
theorem wl_512 : (.instantiable R_Mo 29 : Cond) ∈ lw_tbl := List.mem_append_right _ (List.mem_append_right _ (List.mem_append_right _ (List.mem_append_left _ (List.mem_of_getElem? (i := 64) rfl))))
theorem wq_512 : (.instantiable R_Mo 29 : Cond) ∈ tb := tb_i12 (List.mem_of_getElem? (i := 32) rfl)
set_option maxRecDepth 100000 in
theorem wl_513 : (.code y_Mo_init b_Mo_init 1 none : Cond) ∈ lw_tbl := List.mem_append_right _ (List.mem_append_right _ (List.mem_append_right _ (List.mem_append_left _ (List.mem_of_getElem? (i := 67) rfl))))
theorem wq_513 : (.code y_Mo_init b_Mo_init 1 none : Cond) ∈ tb := tb_i12 (List.mem_of_getElem? (i := 33) rfl)
set_option maxRecDepth 100000 in
theorem wl_514 : (.constantLong R_La 13 4294967295 : Cond) ∈ lw_tbl := List.mem_append_right _ (List.mem_append_right _ (List.mem_append_right _ (List.mem_append_right _ (List.mem_of_getElem? (i := 59) rfl))))
theorem wq_514 : (.constantLong R_La 13 4294967295 : Cond) ∈ tb := tb_i12 (List.mem_of_getElem? (i := 34) rfl)
set_option maxRecDepth 100000 in
theorem wl_515 : (.code y_SB_give b_SB_give 4 (some .boolean) : Cond) ∈ lw_tbl := List.mem_append_right _ (List.mem_append_right _ (List.mem_append_left _ (List.mem_of_getElem? (i := 6) rfl)))
theorem wq_515 : (.code y_SB_give b_SB_give 4 (some .boolean) : Cond) ∈ tb := tb_i12 (List.mem_of_getElem? (i := 35) rfl)
set_option maxRecDepth 100000 in
theorem wl_516 : (.code y_Mo_give b_Mo_give 5 (some .boolean) : Cond) ∈ lw_tbl := List.mem_append_right _ (List.mem_append_right _ (List.mem_append_right _ (List.mem_append_left _ (List.mem_of_getElem? (i := 196) rfl))))
theorem wq_516 : (.code y_Mo_give b_Mo_give 5 (some .boolean) : Cond) ∈ tb := tb_i12 (List.mem_of_getElem? (i := 36) rfl)
set_option maxRecDepth 100000 in
theorem wl_517 : (.methodLink R_La 19 y_Mo_give : Cond) ∈ lw_tbl := List.mem_append_right _ (List.mem_append_right _ (List.mem_append_right _ (List.mem_append_left _ (List.mem_of_getElem? (i := 193) rfl))))
theorem wq_517 : (.methodLink R_La 19 y_Mo_give : Cond) ∈ tb := tb_i12 (List.mem_of_getElem? (i := 37) rfl)
set_option maxRecDepth 100000 in
theorem wl_518 : (.instanceMethod y_Mo_give : Cond) ∈ lw_tbl := List.mem_append_right _ (List.mem_append_right _ (List.mem_append_right _ (List.mem_append_left _ (List.mem_of_getElem? (i := 194) rfl))))
theorem wq_518 : (.instanceMethod y_Mo_give : Cond) ∈ tb := tb_i12 (List.mem_of_getElem? (i := 38) rfl)
set_option maxRecDepth 100000 in
theorem wl_519 : (.selects R_Mo y_Mo_give y_Mo_give : Cond) ∈ lw_tbl := List.mem_append_right _ (List.mem_append_right _ (List.mem_append_right _ (List.mem_append_left _ (List.mem_of_getElem? (i := 195) rfl))))
theorem wq_519 : (.selects R_Mo y_Mo_give y_Mo_give : Cond) ∈ tb := tb_i12 (List.mem_of_getElem? (i := 39) rfl)
set_option maxRecDepth 100000 in
theorem wl_520 : (.methodLink R_La 15 y_SB_give : Cond) ∈ lw_tbl := List.mem_append_right _ (List.mem_append_right _ (List.mem_append_left _ (List.mem_of_getElem? (i := 3) rfl)))
theorem wq_520 : (.methodLink R_La 15 y_SB_give : Cond) ∈ tb := tb_i13 (List.mem_of_getElem? (i := 0) rfl)
set_option maxRecDepth 100000 in
theorem wl_521 : (.instanceMethod y_SB_give : Cond) ∈ lw_tbl := List.mem_append_right _ (List.mem_append_right _ (List.mem_append_left _ (List.mem_of_getElem? (i := 4) rfl)))
theorem wq_521 : (.instanceMethod y_SB_give : Cond) ∈ tb := tb_i13 (List.mem_of_getElem? (i := 1) rfl)
set_option maxRecDepth 100000 in
theorem wl_522 : (.selects R_SB y_SB_give y_SB_give : Cond) ∈ lw_tbl := List.mem_append_right _ (List.mem_append_right _ (List.mem_append_left _ (List.mem_of_getElem? (i := 5) rfl)))
theorem wq_522 : (.selects R_SB y_SB_give y_SB_give : Cond) ∈ tb := tb_i13 (List.mem_of_getElem? (i := 2) rfl)
set_option maxRecDepth 100000 in
theorem wl_523 : (.code y_SB_cut b_SB_cut 2 (some .boolean) : Cond) ∈ lw_tbl := List.mem_append_right _ (List.mem_append_right _ (List.mem_append_left _ (List.mem_of_getElem? (i := 38) rfl)))
theorem wq_523 : (.code y_SB_cut b_SB_cut 2 (some .boolean) : Cond) ∈ tb := tb_i13 (List.mem_of_getElem? (i := 3) rfl)
set_option maxRecDepth 100000 in
theorem wl_524 : (.code y_Mo_cut b_Mo_cut 2 (some .boolean) : Cond) ∈ lw_tbl := List.mem_append_right _ (List.mem_append_right _ (List.mem_append_right _ (List.mem_append_left _ (List.mem_of_getElem? (i := 201) rfl))))
theorem wq_524 : (.code y_Mo_cut b_Mo_cut 2 (some .boolean) : Cond) ∈ tb := tb_i13 (List.mem_of_getElem? (i := 4) rfl)
set_option maxRecDepth 100000 in
theorem wl_525 : (.methodLink R_La 24 y_Mo_cut : Cond) ∈ lw_tbl := List.mem_append_right _ (List.mem_append_right _ (List.mem_append_right _ (List.mem_append_left _ (List.mem_of_getElem? (i := 198) rfl))))
theorem wq_525 : (.methodLink R_La 24 y_Mo_cut : Cond) ∈ tb := tb_i13 (List.mem_of_getElem? (i := 5) rfl)
set_option maxRecDepth 100000 in
theorem wl_526 : (.instanceMethod y_Mo_cut : Cond) ∈ lw_tbl := List.mem_append_right _ (List.mem_append_right _ (List.mem_append_right _ (List.mem_append_left _ (List.mem_of_getElem? (i := 199) rfl))))
theorem wq_526 : (.instanceMethod y_Mo_cut : Cond) ∈ tb := tb_i13 (List.mem_of_getElem? (i := 6) rfl)
set_option maxRecDepth 100000 in
theorem wl_527 : (.selects R_Mo y_Mo_cut y_Mo_cut : Cond) ∈ lw_tbl := List.mem_append_right _ (List.mem_append_right _ (List.mem_append_right _ (List.mem_append_left _ (List.mem_of_getElem? (i := 200) rfl))))
theorem wq_527 : (.selects R_Mo y_Mo_cut y_Mo_cut : Cond) ∈ tb := tb_i13 (List.mem_of_getElem? (i := 7) rfl)
set_option maxRecDepth 100000 in
theorem wl_528 : (.methodLink R_La 20 y_SB_cut : Cond) ∈ lw_tbl := List.mem_append_right _ (List.mem_append_right _ (List.mem_append_left _ (List.mem_of_getElem? (i := 35) rfl)))
theorem wq_528 : (.methodLink R_La 20 y_SB_cut : Cond) ∈ tb := tb_i13 (List.mem_of_getElem? (i := 8) rfl)
set_option maxRecDepth 100000 in
theorem wl_529 : (.instanceMethod y_SB_cut : Cond) ∈ lw_tbl := List.mem_append_right _ (List.mem_append_right _ (List.mem_append_left _ (List.mem_of_getElem? (i := 36) rfl)))
theorem wq_529 : (.instanceMethod y_SB_cut : Cond) ∈ tb := tb_i13 (List.mem_of_getElem? (i := 9) rfl)
set_option maxRecDepth 100000 in
theorem wl_530 : (.selects R_SB y_SB_cut y_SB_cut : Cond) ∈ lw_tbl := List.mem_append_right _ (List.mem_append_right _ (List.mem_append_left _ (List.mem_of_getElem? (i := 37) rfl)))
theorem wq_530 : (.selects R_SB y_SB_cut y_SB_cut : Cond) ∈ tb := tb_i13 (List.mem_of_getElem? (i := 10) rfl)
set_option maxRecDepth 100000 in
theorem wl_531 : (.code y_SB_poke b_SB_poke 3 (some .boolean) : Cond) ∈ lw_tbl := List.mem_append_right _ (List.mem_append_right _ (List.mem_append_left _ (List.mem_of_getElem? (i := 46) rfl)))
theorem wq_531 : (.code y_SB_poke b_SB_poke 3 (some .boolean) : Cond) ∈ tb := tb_i13 (List.mem_of_getElem? (i := 11) rfl)
set_option maxRecDepth 100000 in
theorem wl_532 : (.code y_Mo_poke b_Mo_poke 3 (some .boolean) : Cond) ∈ lw_tbl := List.mem_append_right _ (List.mem_append_right _ (List.mem_append_right _ (List.mem_append_left _ (List.mem_of_getElem? (i := 205) rfl))))
theorem wq_532 : (.code y_Mo_poke b_Mo_poke 3 (some .boolean) : Cond) ∈ tb := tb_i13 (List.mem_of_getElem? (i := 12) rfl)
set_option maxRecDepth 100000 in
theorem wl_533 : (.methodLink R_La 29 y_Mo_poke : Cond) ∈ lw_tbl := List.mem_append_right _ (List.mem_append_right _ (List.mem_append_right _ (List.mem_append_left _ (List.mem_of_getElem? (i := 202) rfl))))
theorem wq_533 : (.methodLink R_La 29 y_Mo_poke : Cond) ∈ tb := tb_i13 (List.mem_of_getElem? (i := 13) rfl)
set_option maxRecDepth 100000 in
theorem wl_534 : (.instanceMethod y_Mo_poke : Cond) ∈ lw_tbl := List.mem_append_right _ (List.mem_append_right _ (List.mem_append_right _ (List.mem_append_left _ (List.mem_of_getElem? (i := 203) rfl))))
theorem wq_534 : (.instanceMethod y_Mo_poke : Cond) ∈ tb := tb_i13 (List.mem_of_getElem? (i := 14) rfl)
set_option maxRecDepth 100000 in
theorem wl_535 : (.selects R_Mo y_Mo_poke y_Mo_poke : Cond) ∈ lw_tbl := List.mem_append_right _ (List.mem_append_right _ (List.mem_append_right _ (List.mem_append_left _ (List.mem_of_getElem? (i := 204) rfl))))
theorem wq_535 : (.selects R_Mo y_Mo_poke y_Mo_poke : Cond) ∈ tb := tb_i13 (List.mem_of_getElem? (i := 15) rfl)
set_option maxRecDepth 100000 in
theorem wl_536 : (.methodLink R_La 25 y_SB_poke : Cond) ∈ lw_tbl := List.mem_append_right _ (List.mem_append_right _ (List.mem_append_left _ (List.mem_of_getElem? (i := 43) rfl)))
theorem wq_536 : (.methodLink R_La 25 y_SB_poke : Cond) ∈ tb := tb_i13 (List.mem_of_getElem? (i := 16) rfl)
set_option maxRecDepth 100000 in
theorem wl_537 : (.instanceMethod y_SB_poke : Cond) ∈ lw_tbl := List.mem_append_right _ (List.mem_append_right _ (List.mem_append_left _ (List.mem_of_getElem? (i := 44) rfl)))
theorem wq_537 : (.instanceMethod y_SB_poke : Cond) ∈ tb := tb_i13 (List.mem_of_getElem? (i := 17) rfl)
set_option maxRecDepth 100000 in
theorem wl_538 : (.selects R_SB y_SB_poke y_SB_poke : Cond) ∈ lw_tbl := List.mem_append_right _ (List.mem_append_right _ (List.mem_append_left _ (List.mem_of_getElem? (i := 45) rfl)))
theorem wq_538 : (.selects R_SB y_SB_poke y_SB_poke : Cond) ∈ tb := tb_i13 (List.mem_of_getElem? (i := 18) rfl)
set_option maxRecDepth 100000 in
theorem wl_539 : (.code y_SB_read b_SB_read 2 (some .int) : Cond) ∈ lw_tbl := List.mem_append_right _ (List.mem_append_right _ (List.mem_append_left _ (List.mem_of_getElem? (i := 54) rfl)))
theorem wq_539 : (.code y_SB_read b_SB_read 2 (some .int) : Cond) ∈ tb := tb_i13 (List.mem_of_getElem? (i := 19) rfl)
set_option maxRecDepth 100000 in
theorem wl_540 : (.code y_Mo_read b_Mo_read 2 (some .int) : Cond) ∈ lw_tbl := List.mem_append_right _ (List.mem_append_right _ (List.mem_append_right _ (List.mem_append_left _ (List.mem_of_getElem? (i := 217) rfl))))
theorem wq_540 : (.code y_Mo_read b_Mo_read 2 (some .int) : Cond) ∈ tb := tb_i13 (List.mem_of_getElem? (i := 20) rfl)
set_option maxRecDepth 100000 in
theorem wl_541 : (.methodLink R_La 34 y_Mo_read : Cond) ∈ lw_tbl := List.mem_append_right _ (List.mem_append_right _ (List.mem_append_right _ (List.mem_append_left _ (List.mem_of_getElem? (i := 214) rfl))))
theorem wq_541 : (.methodLink R_La 34 y_Mo_read : Cond) ∈ tb := tb_i13 (List.mem_of_getElem? (i := 21) rfl)
set_option maxRecDepth 100000 in
theorem wl_542 : (.instanceMethod y_Mo_read : Cond) ∈ lw_tbl := List.mem_append_right _ (List.mem_append_right _ (List.mem_append_right _ (List.mem_append_left _ (List.mem_of_getElem? (i := 215) rfl))))
theorem wq_542 : (.instanceMethod y_Mo_read : Cond) ∈ tb := tb_i13 (List.mem_of_getElem? (i := 22) rfl)
set_option maxRecDepth 100000 in
theorem wl_543 : (.selects R_Mo y_Mo_read y_Mo_read : Cond) ∈ lw_tbl := List.mem_append_right _ (List.mem_append_right _ (List.mem_append_right _ (List.mem_append_left _ (List.mem_of_getElem? (i := 216) rfl))))
theorem wq_543 : (.selects R_Mo y_Mo_read y_Mo_read : Cond) ∈ tb := tb_i13 (List.mem_of_getElem? (i := 23) rfl)
set_option maxRecDepth 100000 in
theorem wl_544 : (.methodLink R_La 30 y_SB_read : Cond) ∈ lw_tbl := List.mem_append_right _ (List.mem_append_right _ (List.mem_append_left _ (List.mem_of_getElem? (i := 51) rfl)))
theorem wq_544 : (.methodLink R_La 30 y_SB_read : Cond) ∈ tb := tb_i13 (List.mem_of_getElem? (i := 24) rfl)
set_option maxRecDepth 100000 in
theorem wl_545 : (.instanceMethod y_SB_read : Cond) ∈ lw_tbl := List.mem_append_right _ (List.mem_append_right _ (List.mem_append_left _ (List.mem_of_getElem? (i := 52) rfl)))
theorem wq_545 : (.instanceMethod y_SB_read : Cond) ∈ tb := tb_i13 (List.mem_of_getElem? (i := 25) rfl)
set_option maxRecDepth 100000 in
theorem wl_546 : (.selects R_SB y_SB_read y_SB_read : Cond) ∈ lw_tbl := List.mem_append_right _ (List.mem_append_right _ (List.mem_append_left _ (List.mem_of_getElem? (i := 53) rfl)))
theorem wq_546 : (.selects R_SB y_SB_read y_SB_read : Cond) ∈ tb := tb_i13 (List.mem_of_getElem? (i := 26) rfl)
set_option maxRecDepth 100000 in
theorem wl_547 : (.code y_SB_write b_SB_write 1 (some .int) : Cond) ∈ lw_tbl := List.mem_append_right _ (List.mem_append_right _ (List.mem_append_left _ (List.mem_of_getElem? (i := 224) rfl)))
theorem wq_547 : (.code y_SB_write b_SB_write 1 (some .int) : Cond) ∈ tb := tb_i13 (List.mem_of_getElem? (i := 27) rfl)
set_option maxRecDepth 100000 in
theorem wl_548 : (.code y_Mo_write b_Mo_write 3 (some .int) : Cond) ∈ lw_tbl := List.mem_append_right _ (List.mem_append_right _ (List.mem_append_right _ (List.mem_append_right _ (List.mem_of_getElem? (i := 19) rfl))))
theorem wq_548 : (.code y_Mo_write b_Mo_write 3 (some .int) : Cond) ∈ tb := tb_i13 (List.mem_of_getElem? (i := 28) rfl)
set_option maxRecDepth 100000 in
theorem wl_549 : (.methodLink R_La 38 y_Mo_write : Cond) ∈ lw_tbl := List.mem_append_right _ (List.mem_append_right _ (List.mem_append_right _ (List.mem_append_right _ (List.mem_of_getElem? (i := 16) rfl))))
theorem wq_549 : (.methodLink R_La 38 y_Mo_write : Cond) ∈ tb := tb_i13 (List.mem_of_getElem? (i := 29) rfl)
set_option maxRecDepth 100000 in
theorem wl_550 : (.instanceMethod y_Mo_write : Cond) ∈ lw_tbl := List.mem_append_right _ (List.mem_append_right _ (List.mem_append_right _ (List.mem_append_right _ (List.mem_of_getElem? (i := 17) rfl))))
theorem wq_550 : (.instanceMethod y_Mo_write : Cond) ∈ tb := tb_i13 (List.mem_of_getElem? (i := 30) rfl)
set_option maxRecDepth 100000 in
theorem wl_551 : (.selects R_Mo y_Mo_write y_Mo_write : Cond) ∈ lw_tbl := List.mem_append_right _ (List.mem_append_right _ (List.mem_append_right _ (List.mem_append_right _ (List.mem_of_getElem? (i := 18) rfl))))
theorem wq_551 : (.selects R_Mo y_Mo_write y_Mo_write : Cond) ∈ tb := tb_i13 (List.mem_of_getElem? (i := 31) rfl)
set_option maxRecDepth 100000 in
theorem wl_552 : (.methodLink R_La 35 y_SB_write : Cond) ∈ lw_tbl := List.mem_append_right _ (List.mem_append_right _ (List.mem_append_left _ (List.mem_of_getElem? (i := 221) rfl)))
theorem wq_552 : (.methodLink R_La 35 y_SB_write : Cond) ∈ tb := tb_i13 (List.mem_of_getElem? (i := 32) rfl)
set_option maxRecDepth 100000 in
theorem wl_553 : (.instanceMethod y_SB_write : Cond) ∈ lw_tbl := List.mem_append_right _ (List.mem_append_right _ (List.mem_append_left _ (List.mem_of_getElem? (i := 222) rfl)))
theorem wq_553 : (.instanceMethod y_SB_write : Cond) ∈ tb := tb_i13 (List.mem_of_getElem? (i := 33) rfl)
set_option maxRecDepth 100000 in
theorem wl_554 : (.selects R_SB y_SB_write y_SB_write : Cond) ∈ lw_tbl := List.mem_append_right _ (List.mem_append_right _ (List.mem_append_left _ (List.mem_of_getElem? (i := 223) rfl)))
theorem wq_554 : (.selects R_SB y_SB_write y_SB_write : Cond) ∈ tb := tb_i13 (List.mem_of_getElem? (i := 34) rfl)
set_option maxRecDepth 100000 in
theorem wl_555 : (.code y_SB_turnOver b_SB_turnOver 1 (some .boolean) : Cond) ∈ lw_tbl := List.mem_append_right _ (List.mem_append_right _ (List.mem_append_right _ (List.mem_append_left _ (List.mem_of_getElem? (i := 6) rfl))))
theorem wq_555 : (.code y_SB_turnOver b_SB_turnOver 1 (some .boolean) : Cond) ∈ tb := tb_i13 (List.mem_of_getElem? (i := 35) rfl)
set_option maxRecDepth 100000 in
theorem wl_556 : (.code y_Mo_turnOver b_Mo_turnOver 2 (some .boolean) : Cond) ∈ lw_tbl := List.mem_append_right _ (List.mem_append_right _ (List.mem_append_right _ (List.mem_append_left _ (List.mem_of_getElem? (i := 209) rfl))))
theorem wq_556 : (.code y_Mo_turnOver b_Mo_turnOver 2 (some .boolean) : Cond) ∈ tb := tb_i13 (List.mem_of_getElem? (i := 36) rfl)
set_option maxRecDepth 100000 in
theorem wl_557 : (.methodLink R_La 43 y_Mo_turnOver : Cond) ∈ lw_tbl := List.mem_append_right _ (List.mem_append_right _ (List.mem_append_right _ (List.mem_append_left _ (List.mem_of_getElem? (i := 206) rfl))))
theorem wq_557 : (.methodLink R_La 43 y_Mo_turnOver : Cond) ∈ tb := tb_i13 (List.mem_of_getElem? (i := 37) rfl)
set_option maxRecDepth 100000 in
theorem wl_558 : (.instanceMethod y_Mo_turnOver : Cond) ∈ lw_tbl := List.mem_append_right _ (List.mem_append_right _ (List.mem_append_right _ (List.mem_append_left _ (List.mem_of_getElem? (i := 207) rfl))))
theorem wq_558 : (.instanceMethod y_Mo_turnOver : Cond) ∈ tb := tb_i13 (List.mem_of_getElem? (i := 38) rfl)
set_option maxRecDepth 100000 in
theorem wl_559 : (.selects R_Mo y_Mo_turnOver y_Mo_turnOver : Cond) ∈ lw_tbl := List.mem_append_right _ (List.mem_append_right _ (List.mem_append_right _ (List.mem_append_left _ (List.mem_of_getElem? (i := 208) rfl))))
theorem wq_559 : (.selects R_Mo y_Mo_turnOver y_Mo_turnOver : Cond) ∈ tb := tb_i13 (List.mem_of_getElem? (i := 39) rfl)
set_option maxRecDepth 100000 in
theorem wl_560 : (.methodLink R_La 39 y_SB_turnOver : Cond) ∈ lw_tbl := List.mem_append_right _ (List.mem_append_right _ (List.mem_append_right _ (List.mem_append_left _ (List.mem_of_getElem? (i := 3) rfl))))
theorem wq_560 : (.methodLink R_La 39 y_SB_turnOver : Cond) ∈ tb := tb_i14 (List.mem_of_getElem? (i := 0) rfl)
set_option maxRecDepth 100000 in
theorem wl_561 : (.instanceMethod y_SB_turnOver : Cond) ∈ lw_tbl := List.mem_append_right _ (List.mem_append_right _ (List.mem_append_right _ (List.mem_append_left _ (List.mem_of_getElem? (i := 4) rfl))))
theorem wq_561 : (.instanceMethod y_SB_turnOver : Cond) ∈ tb := tb_i14 (List.mem_of_getElem? (i := 1) rfl)
set_option maxRecDepth 100000 in
theorem wl_562 : (.selects R_SB y_SB_turnOver y_SB_turnOver : Cond) ∈ lw_tbl := List.mem_append_right _ (List.mem_append_right _ (List.mem_append_right _ (List.mem_append_left _ (List.mem_of_getElem? (i := 5) rfl))))
theorem wq_562 : (.selects R_SB y_SB_turnOver y_SB_turnOver : Cond) ∈ tb := tb_i14 (List.mem_of_getElem? (i := 2) rfl)
set_option maxRecDepth 100000 in
theorem wl_563 : (.code y_SB_change b_SB_change 8 (some .int) : Cond) ∈ lw_tbl := List.mem_append_right _ (List.mem_append_right _ (List.mem_append_right _ (List.mem_append_left _ (List.mem_of_getElem? (i := 15) rfl))))
theorem wq_563 : (.code y_SB_change b_SB_change 8 (some .int) : Cond) ∈ tb := tb_i14 (List.mem_of_getElem? (i := 3) rfl)
set_option maxRecDepth 100000 in
theorem wl_564 : (.code y_Mo_change b_Mo_change 5 (some .int) : Cond) ∈ lw_tbl := List.mem_append_right _ (List.mem_append_right _ (List.mem_append_right _ (List.mem_append_right _ (List.mem_of_getElem? (i := 11) rfl))))
theorem wq_564 : (.code y_Mo_change b_Mo_change 5 (some .int) : Cond) ∈ tb := tb_i14 (List.mem_of_getElem? (i := 4) rfl)
set_option maxRecDepth 100000 in
theorem wl_565 : (.methodLink R_La 48 y_Mo_change : Cond) ∈ lw_tbl := List.mem_append_right _ (List.mem_append_right _ (List.mem_append_right _ (List.mem_append_right _ (List.mem_of_getElem? (i := 8) rfl))))
theorem wq_565 : (.methodLink R_La 48 y_Mo_change : Cond) ∈ tb := tb_i14 (List.mem_of_getElem? (i := 5) rfl)
set_option maxRecDepth 100000 in
theorem wl_566 : (.instanceMethod y_Mo_change : Cond) ∈ lw_tbl := List.mem_append_right _ (List.mem_append_right _ (List.mem_append_right _ (List.mem_append_right _ (List.mem_of_getElem? (i := 9) rfl))))
theorem wq_566 : (.instanceMethod y_Mo_change : Cond) ∈ tb := tb_i14 (List.mem_of_getElem? (i := 6) rfl)
set_option maxRecDepth 100000 in
theorem wl_567 : (.selects R_Mo y_Mo_change y_Mo_change : Cond) ∈ lw_tbl := List.mem_append_right _ (List.mem_append_right _ (List.mem_append_right _ (List.mem_append_right _ (List.mem_of_getElem? (i := 10) rfl))))
theorem wq_567 : (.selects R_Mo y_Mo_change y_Mo_change : Cond) ∈ tb := tb_i14 (List.mem_of_getElem? (i := 7) rfl)
set_option maxRecDepth 100000 in
theorem wl_568 : (.methodLink R_La 44 y_SB_change : Cond) ∈ lw_tbl := List.mem_append_right _ (List.mem_append_right _ (List.mem_append_right _ (List.mem_append_left _ (List.mem_of_getElem? (i := 12) rfl))))
theorem wq_568 : (.methodLink R_La 44 y_SB_change : Cond) ∈ tb := tb_i14 (List.mem_of_getElem? (i := 8) rfl)
set_option maxRecDepth 100000 in
theorem wl_569 : (.instanceMethod y_SB_change : Cond) ∈ lw_tbl := List.mem_append_right _ (List.mem_append_right _ (List.mem_append_right _ (List.mem_append_left _ (List.mem_of_getElem? (i := 13) rfl))))
theorem wq_569 : (.instanceMethod y_SB_change : Cond) ∈ tb := tb_i14 (List.mem_of_getElem? (i := 9) rfl)
set_option maxRecDepth 100000 in
theorem wl_570 : (.selects R_SB y_SB_change y_SB_change : Cond) ∈ lw_tbl := List.mem_append_right _ (List.mem_append_right _ (List.mem_append_right _ (List.mem_append_left _ (List.mem_of_getElem? (i := 14) rfl))))
theorem wq_570 : (.selects R_SB y_SB_change y_SB_change : Cond) ∈ tb := tb_i14 (List.mem_of_getElem? (i := 10) rfl)
set_option maxRecDepth 100000 in
theorem wl_571 : (.code y_SB_code b_SB_code 5 (some .int) : Cond) ∈ lw_tbl := List.mem_append_right _ (List.mem_append_right _ (List.mem_append_right _ (List.mem_append_left _ (List.mem_of_getElem? (i := 27) rfl))))
theorem wq_571 : (.code y_SB_code b_SB_code 5 (some .int) : Cond) ∈ tb := tb_i14 (List.mem_of_getElem? (i := 11) rfl)
set_option maxRecDepth 100000 in
theorem wl_572 : (.code y_Mo_code b_Mo_code 4 (some .int) : Cond) ∈ lw_tbl := List.mem_append_right _ (List.mem_append_right _ (List.mem_append_right _ (List.mem_append_right _ (List.mem_of_getElem? (i := 30) rfl))))
theorem wq_572 : (.code y_Mo_code b_Mo_code 4 (some .int) : Cond) ∈ tb := tb_i14 (List.mem_of_getElem? (i := 12) rfl)
set_option maxRecDepth 100000 in
theorem wl_573 : (.methodLink R_La 53 y_Mo_code : Cond) ∈ lw_tbl := List.mem_append_right _ (List.mem_append_right _ (List.mem_append_right _ (List.mem_append_right _ (List.mem_of_getElem? (i := 27) rfl))))
theorem wq_573 : (.methodLink R_La 53 y_Mo_code : Cond) ∈ tb := tb_i14 (List.mem_of_getElem? (i := 13) rfl)
set_option maxRecDepth 100000 in
theorem wl_574 : (.instanceMethod y_Mo_code : Cond) ∈ lw_tbl := List.mem_append_right _ (List.mem_append_right _ (List.mem_append_right _ (List.mem_append_right _ (List.mem_of_getElem? (i := 28) rfl))))
theorem wq_574 : (.instanceMethod y_Mo_code : Cond) ∈ tb := tb_i14 (List.mem_of_getElem? (i := 14) rfl)
set_option maxRecDepth 100000 in
theorem wl_575 : (.selects R_Mo y_Mo_code y_Mo_code : Cond) ∈ lw_tbl := List.mem_append_right _ (List.mem_append_right _ (List.mem_append_right _ (List.mem_append_right _ (List.mem_of_getElem? (i := 29) rfl))))
theorem wq_575 : (.selects R_Mo y_Mo_code y_Mo_code : Cond) ∈ tb := tb_i14 (List.mem_of_getElem? (i := 15) rfl)
set_option maxRecDepth 100000 in
theorem wl_576 : (.methodLink R_La 49 y_SB_code : Cond) ∈ lw_tbl := List.mem_append_right _ (List.mem_append_right _ (List.mem_append_right _ (List.mem_append_left _ (List.mem_of_getElem? (i := 24) rfl))))
theorem wq_576 : (.methodLink R_La 49 y_SB_code : Cond) ∈ tb := tb_i14 (List.mem_of_getElem? (i := 16) rfl)
set_option maxRecDepth 100000 in
theorem wl_577 : (.instanceMethod y_SB_code : Cond) ∈ lw_tbl := List.mem_append_right _ (List.mem_append_right _ (List.mem_append_right _ (List.mem_append_left _ (List.mem_of_getElem? (i := 25) rfl))))
theorem wq_577 : (.instanceMethod y_SB_code : Cond) ∈ tb := tb_i14 (List.mem_of_getElem? (i := 17) rfl)
set_option maxRecDepth 100000 in
theorem wl_578 : (.selects R_SB y_SB_code y_SB_code : Cond) ∈ lw_tbl := List.mem_append_right _ (List.mem_append_right _ (List.mem_append_right _ (List.mem_append_left _ (List.mem_of_getElem? (i := 26) rfl))))
theorem wq_578 : (.selects R_SB y_SB_code y_SB_code : Cond) ∈ tb := tb_i14 (List.mem_of_getElem? (i := 18) rfl)
set_option maxRecDepth 100000 in
theorem wl_579 : (.code y_SB_function b_SB_function 4 (some .int) : Cond) ∈ lw_tbl := List.mem_append_right _ (List.mem_append_right _ (List.mem_append_right _ (List.mem_append_left _ (List.mem_of_getElem? (i := 36) rfl))))
theorem wq_579 : (.code y_SB_function b_SB_function 4 (some .int) : Cond) ∈ tb := tb_i14 (List.mem_of_getElem? (i := 19) rfl)
set_option maxRecDepth 100000 in
theorem wl_580 : (.code y_Mo_function b_Mo_function 3 (some .int) : Cond) ∈ lw_tbl := List.mem_append_right _ (List.mem_append_right _ (List.mem_append_right _ (List.mem_append_right _ (List.mem_of_getElem? (i := 42) rfl))))
theorem wq_580 : (.code y_Mo_function b_Mo_function 3 (some .int) : Cond) ∈ tb := tb_i14 (List.mem_of_getElem? (i := 20) rfl)
set_option maxRecDepth 100000 in
theorem wl_581 : (.methodLink R_La 58 y_Mo_function : Cond) ∈ lw_tbl := List.mem_append_right _ (List.mem_append_right _ (List.mem_append_right _ (List.mem_append_right _ (List.mem_of_getElem? (i := 39) rfl))))
theorem wq_581 : (.methodLink R_La 58 y_Mo_function : Cond) ∈ tb := tb_i14 (List.mem_of_getElem? (i := 21) rfl)
set_option maxRecDepth 100000 in
theorem wl_582 : (.instanceMethod y_Mo_function : Cond) ∈ lw_tbl := List.mem_append_right _ (List.mem_append_right _ (List.mem_append_right _ (List.mem_append_right _ (List.mem_of_getElem? (i := 40) rfl))))
theorem wq_582 : (.instanceMethod y_Mo_function : Cond) ∈ tb := tb_i14 (List.mem_of_getElem? (i := 22) rfl)
set_option maxRecDepth 100000 in
theorem wl_583 : (.selects R_Mo y_Mo_function y_Mo_function : Cond) ∈ lw_tbl := List.mem_append_right _ (List.mem_append_right _ (List.mem_append_right _ (List.mem_append_right _ (List.mem_of_getElem? (i := 41) rfl))))
theorem wq_583 : (.selects R_Mo y_Mo_function y_Mo_function : Cond) ∈ tb := tb_i14 (List.mem_of_getElem? (i := 23) rfl)
set_option maxRecDepth 100000 in
theorem wl_584 : (.methodLink R_La 54 y_SB_function : Cond) ∈ lw_tbl := List.mem_append_right _ (List.mem_append_right _ (List.mem_append_right _ (List.mem_append_left _ (List.mem_of_getElem? (i := 33) rfl))))
theorem wq_584 : (.methodLink R_La 54 y_SB_function : Cond) ∈ tb := tb_i14 (List.mem_of_getElem? (i := 24) rfl)
set_option maxRecDepth 100000 in
theorem wl_585 : (.instanceMethod y_SB_function : Cond) ∈ lw_tbl := List.mem_append_right _ (List.mem_append_right _ (List.mem_append_right _ (List.mem_append_left _ (List.mem_of_getElem? (i := 34) rfl))))
theorem wq_585 : (.instanceMethod y_SB_function : Cond) ∈ tb := tb_i14 (List.mem_of_getElem? (i := 25) rfl)
set_option maxRecDepth 100000 in
theorem wl_586 : (.selects R_SB y_SB_function y_SB_function : Cond) ∈ lw_tbl := List.mem_append_right _ (List.mem_append_right _ (List.mem_append_right _ (List.mem_append_left _ (List.mem_of_getElem? (i := 35) rfl))))
theorem wq_586 : (.selects R_SB y_SB_function y_SB_function : Cond) ∈ tb := tb_i14 (List.mem_of_getElem? (i := 26) rfl)
set_option maxRecDepth 100000 in
theorem wl_587 : (.code y_SB_handler b_SB_handler 6 (some .int) : Cond) ∈ lw_tbl := List.mem_append_right _ (List.mem_append_right _ (List.mem_append_right _ (List.mem_append_left _ (List.mem_of_getElem? (i := 49) rfl))))
theorem wq_587 : (.code y_SB_handler b_SB_handler 6 (some .int) : Cond) ∈ tb := tb_i14 (List.mem_of_getElem? (i := 27) rfl)
set_option maxRecDepth 100000 in
theorem wl_588 : (.code y_Mo_handler b_Mo_handler 5 (some .int) : Cond) ∈ lw_tbl := List.mem_append_right _ (List.mem_append_right _ (List.mem_append_right _ (List.mem_append_right _ (List.mem_of_getElem? (i := 50) rfl))))
theorem wq_588 : (.code y_Mo_handler b_Mo_handler 5 (some .int) : Cond) ∈ tb := tb_i14 (List.mem_of_getElem? (i := 28) rfl)
set_option maxRecDepth 100000 in
theorem wl_589 : (.methodLink R_La 62 y_Mo_handler : Cond) ∈ lw_tbl := List.mem_append_right _ (List.mem_append_right _ (List.mem_append_right _ (List.mem_append_right _ (List.mem_of_getElem? (i := 47) rfl))))
theorem wq_589 : (.methodLink R_La 62 y_Mo_handler : Cond) ∈ tb := tb_i14 (List.mem_of_getElem? (i := 29) rfl)
set_option maxRecDepth 100000 in
theorem wl_590 : (.instanceMethod y_Mo_handler : Cond) ∈ lw_tbl := List.mem_append_right _ (List.mem_append_right _ (List.mem_append_right _ (List.mem_append_right _ (List.mem_of_getElem? (i := 48) rfl))))
theorem wq_590 : (.instanceMethod y_Mo_handler : Cond) ∈ tb := tb_i14 (List.mem_of_getElem? (i := 30) rfl)
set_option maxRecDepth 100000 in
theorem wl_591 : (.selects R_Mo y_Mo_handler y_Mo_handler : Cond) ∈ lw_tbl := List.mem_append_right _ (List.mem_append_right _ (List.mem_append_right _ (List.mem_append_right _ (List.mem_of_getElem? (i := 49) rfl))))
theorem wq_591 : (.selects R_Mo y_Mo_handler y_Mo_handler : Cond) ∈ tb := tb_i14 (List.mem_of_getElem? (i := 31) rfl)
set_option maxRecDepth 100000 in
theorem wl_592 : (.methodLink R_La 59 y_SB_handler : Cond) ∈ lw_tbl := List.mem_append_right _ (List.mem_append_right _ (List.mem_append_right _ (List.mem_append_left _ (List.mem_of_getElem? (i := 46) rfl))))
theorem wq_592 : (.methodLink R_La 59 y_SB_handler : Cond) ∈ tb := tb_i14 (List.mem_of_getElem? (i := 32) rfl)
set_option maxRecDepth 100000 in
theorem wl_593 : (.instanceMethod y_SB_handler : Cond) ∈ lw_tbl := List.mem_append_right _ (List.mem_append_right _ (List.mem_append_right _ (List.mem_append_left _ (List.mem_of_getElem? (i := 47) rfl))))
theorem wq_593 : (.instanceMethod y_SB_handler : Cond) ∈ tb := tb_i14 (List.mem_of_getElem? (i := 33) rfl)
set_option maxRecDepth 100000 in
theorem wl_594 : (.selects R_SB y_SB_handler y_SB_handler : Cond) ∈ lw_tbl := List.mem_append_right _ (List.mem_append_right _ (List.mem_append_right _ (List.mem_append_left _ (List.mem_of_getElem? (i := 48) rfl))))
theorem wq_594 : (.selects R_SB y_SB_handler y_SB_handler : Cond) ∈ tb := tb_i14 (List.mem_of_getElem? (i := 34) rfl)
set_option maxRecDepth 100000 in
theorem wl_595 : (.code y_SB_byteAt b_SB_byteAt 3 (some .int) : Cond) ∈ lw_tbl := List.mem_append_right _ (List.mem_append_right _ (List.mem_append_right _ (List.mem_append_left _ (List.mem_of_getElem? (i := 53) rfl))))
theorem wq_595 : (.code y_SB_byteAt b_SB_byteAt 3 (some .int) : Cond) ∈ tb := tb_i14 (List.mem_of_getElem? (i := 35) rfl)
set_option maxRecDepth 100000 in
theorem wl_596 : (.code y_Mo_byteAt b_Mo_byteAt 3 (some .int) : Cond) ∈ lw_tbl := List.mem_append_right _ (List.mem_append_right _ (List.mem_append_right _ (List.mem_append_left _ (List.mem_of_getElem? (i := 213) rfl))))
theorem wq_596 : (.code y_Mo_byteAt b_Mo_byteAt 3 (some .int) : Cond) ∈ tb := tb_i14 (List.mem_of_getElem? (i := 36) rfl)
set_option maxRecDepth 100000 in
theorem wl_597 : (.methodLink R_La 67 y_Mo_byteAt : Cond) ∈ lw_tbl := List.mem_append_right _ (List.mem_append_right _ (List.mem_append_right _ (List.mem_append_left _ (List.mem_of_getElem? (i := 210) rfl))))
theorem wq_597 : (.methodLink R_La 67 y_Mo_byteAt : Cond) ∈ tb := tb_i14 (List.mem_of_getElem? (i := 37) rfl)
set_option maxRecDepth 100000 in
theorem wl_598 : (.instanceMethod y_Mo_byteAt : Cond) ∈ lw_tbl := List.mem_append_right _ (List.mem_append_right _ (List.mem_append_right _ (List.mem_append_left _ (List.mem_of_getElem? (i := 211) rfl))))
theorem wq_598 : (.instanceMethod y_Mo_byteAt : Cond) ∈ tb := tb_i14 (List.mem_of_getElem? (i := 38) rfl)
set_option maxRecDepth 100000 in
theorem wl_599 : (.selects R_Mo y_Mo_byteAt y_Mo_byteAt : Cond) ∈ lw_tbl := List.mem_append_right _ (List.mem_append_right _ (List.mem_append_right _ (List.mem_append_left _ (List.mem_of_getElem? (i := 212) rfl))))
theorem wq_599 : (.selects R_Mo y_Mo_byteAt y_Mo_byteAt : Cond) ∈ tb := tb_i14 (List.mem_of_getElem? (i := 39) rfl)
set_option maxRecDepth 100000 in
theorem wl_600 : (.methodLink R_La 63 y_SB_byteAt : Cond) ∈ lw_tbl := List.mem_append_right _ (List.mem_append_right _ (List.mem_append_right _ (List.mem_append_left _ (List.mem_of_getElem? (i := 50) rfl))))
theorem wq_600 : (.methodLink R_La 63 y_SB_byteAt : Cond) ∈ tb := tb_i15 (List.mem_of_getElem? (i := 0) rfl)
set_option maxRecDepth 100000 in
theorem wl_601 : (.instanceMethod y_SB_byteAt : Cond) ∈ lw_tbl := List.mem_append_right _ (List.mem_append_right _ (List.mem_append_right _ (List.mem_append_left _ (List.mem_of_getElem? (i := 51) rfl))))
theorem wq_601 : (.instanceMethod y_SB_byteAt : Cond) ∈ tb := tb_i15 (List.mem_of_getElem? (i := 1) rfl)
set_option maxRecDepth 100000 in
theorem wl_602 : (.selects R_SB y_SB_byteAt y_SB_byteAt : Cond) ∈ lw_tbl := List.mem_append_right _ (List.mem_append_right _ (List.mem_append_right _ (List.mem_append_left _ (List.mem_of_getElem? (i := 52) rfl))))
theorem wq_602 : (.selects R_SB y_SB_byteAt y_SB_byteAt : Cond) ∈ tb := tb_i15 (List.mem_of_getElem? (i := 2) rfl)
set_option maxRecDepth 100000 in
theorem wl_603 : (.code y_SB_look b_SB_look 2 (some .int) : Cond) ∈ lw_tbl := List.mem_append_right _ (List.mem_append_right _ (List.mem_append_right _ (List.mem_append_left _ (List.mem_of_getElem? (i := 58) rfl))))
theorem wq_603 : (.code y_SB_look b_SB_look 2 (some .int) : Cond) ∈ tb := tb_i15 (List.mem_of_getElem? (i := 3) rfl)
set_option maxRecDepth 100000 in
theorem wl_604 : (.code y_Mo_look b_Mo_look 2 (some .int) : Cond) ∈ lw_tbl := List.mem_append_right _ (List.mem_append_right _ (List.mem_append_right _ (List.mem_append_right _ (List.mem_of_getElem? (i := 54) rfl))))
theorem wq_604 : (.code y_Mo_look b_Mo_look 2 (some .int) : Cond) ∈ tb := tb_i15 (List.mem_of_getElem? (i := 4) rfl)
set_option maxRecDepth 100000 in
theorem wl_605 : (.methodLink R_La 72 y_Mo_look : Cond) ∈ lw_tbl := List.mem_append_right _ (List.mem_append_right _ (List.mem_append_right _ (List.mem_append_right _ (List.mem_of_getElem? (i := 51) rfl))))
theorem wq_605 : (.methodLink R_La 72 y_Mo_look : Cond) ∈ tb := tb_i15 (List.mem_of_getElem? (i := 5) rfl)
set_option maxRecDepth 100000 in
theorem wl_606 : (.instanceMethod y_Mo_look : Cond) ∈ lw_tbl := List.mem_append_right _ (List.mem_append_right _ (List.mem_append_right _ (List.mem_append_right _ (List.mem_of_getElem? (i := 52) rfl))))
theorem wq_606 : (.instanceMethod y_Mo_look : Cond) ∈ tb := tb_i15 (List.mem_of_getElem? (i := 6) rfl)
set_option maxRecDepth 100000 in
theorem wl_607 : (.selects R_Mo y_Mo_look y_Mo_look : Cond) ∈ lw_tbl := List.mem_append_right _ (List.mem_append_right _ (List.mem_append_right _ (List.mem_append_right _ (List.mem_of_getElem? (i := 53) rfl))))
theorem wq_607 : (.selects R_Mo y_Mo_look y_Mo_look : Cond) ∈ tb := tb_i15 (List.mem_of_getElem? (i := 7) rfl)
set_option maxRecDepth 100000 in
theorem wl_608 : (.methodLink R_La 68 y_SB_look : Cond) ∈ lw_tbl := List.mem_append_right _ (List.mem_append_right _ (List.mem_append_right _ (List.mem_append_left _ (List.mem_of_getElem? (i := 55) rfl))))
theorem wq_608 : (.methodLink R_La 68 y_SB_look : Cond) ∈ tb := tb_i15 (List.mem_of_getElem? (i := 8) rfl)
set_option maxRecDepth 100000 in
theorem wl_609 : (.instanceMethod y_SB_look : Cond) ∈ lw_tbl := List.mem_append_right _ (List.mem_append_right _ (List.mem_append_right _ (List.mem_append_left _ (List.mem_of_getElem? (i := 56) rfl))))
theorem wq_609 : (.instanceMethod y_SB_look : Cond) ∈ tb := tb_i15 (List.mem_of_getElem? (i := 9) rfl)
set_option maxRecDepth 100000 in
theorem wl_610 : (.selects R_SB y_SB_look y_SB_look : Cond) ∈ lw_tbl := List.mem_append_right _ (List.mem_append_right _ (List.mem_append_right _ (List.mem_append_left _ (List.mem_of_getElem? (i := 57) rfl))))
theorem wq_610 : (.selects R_SB y_SB_look y_SB_look : Cond) ∈ tb := tb_i15 (List.mem_of_getElem? (i := 10) rfl)
set_option maxRecDepth 100000 in
theorem wl_611 : (.methodLink R_La 12 y_Mo_init : Cond) ∈ lw_tbl := List.mem_append_right _ (List.mem_append_right _ (List.mem_append_right _ (List.mem_append_left _ (List.mem_of_getElem? (i := 65) rfl))))
theorem wq_611 : (.methodLink R_La 12 y_Mo_init : Cond) ∈ tb := tb_i15 (List.mem_of_getElem? (i := 11) rfl)
set_option maxRecDepth 100000 in
theorem wl_612 : (.instanceMethod y_Mo_init : Cond) ∈ lw_tbl := List.mem_append_right _ (List.mem_append_right _ (List.mem_append_right _ (List.mem_append_left _ (List.mem_of_getElem? (i := 66) rfl))))
theorem wq_612 : (.instanceMethod y_Mo_init : Cond) ∈ tb := tb_i15 (List.mem_of_getElem? (i := 12) rfl)
set_option maxRecDepth 100000 in
theorem wl_613 : (.methodLink R_La 9 y_SB_init : Cond) ∈ lw_tbl := List.mem_append_right _ (List.mem_append_left _ (List.mem_of_getElem? (i := 16) rfl))
theorem wq_613 : (.methodLink R_La 9 y_SB_init : Cond) ∈ tb := tb_i15 (List.mem_of_getElem? (i := 13) rfl)
set_option maxRecDepth 100000 in
theorem wl_614 : (.instanceMethod y_SB_init : Cond) ∈ lw_tbl := List.mem_append_right _ (List.mem_append_left _ (List.mem_of_getElem? (i := 17) rfl))
theorem wq_614 : (.instanceMethod y_SB_init : Cond) ∈ tb := tb_i15 (List.mem_of_getElem? (i := 14) rfl)
set_option maxRecDepth 100000 in
theorem wl_615 : (.laysFinal R_SB "StackBytes" "bytes" "LStackBytes$ByteRow;" : Cond) ∈ lw_tbl := List.mem_append_right _ (List.mem_append_left _ (List.mem_of_getElem? (i := 230) rfl))
theorem wq_615 : (.laysFinal R_SB "StackBytes" "bytes" "LStackBytes$ByteRow;" : Cond) ∈ tb := tb_i15 (List.mem_of_getElem? (i := 15) rfl)
set_option maxRecDepth 100000 in
theorem wl_616 : (.laysFinal R_SB "StackBytes" "written" "LStackBytes$ByteRow;" : Cond) ∈ lw_tbl := List.mem_append_right _ (List.mem_append_left _ (List.mem_of_getElem? (i := 232) rfl))
theorem wq_616 : (.laysFinal R_SB "StackBytes" "written" "LStackBytes$ByteRow;" : Cond) ∈ tb := tb_i15 (List.mem_of_getElem? (i := 16) rfl)
set_option maxRecDepth 100000 in
theorem wl_617 : (.laysFinal R_SB "StackBytes" "latest" "LStackBytes$Fault;" : Cond) ∈ lw_tbl := List.mem_append_right _ (List.mem_append_left _ (List.mem_of_getElem? (i := 234) rfl))
theorem wq_617 : (.laysFinal R_SB "StackBytes" "latest" "LStackBytes$Fault;" : Cond) ∈ tb := tb_i15 (List.mem_of_getElem? (i := 17) rfl)
set_option maxRecDepth 100000 in
theorem wl_618 : (.laysFinal R_SB "StackBytes" "verifier" "LStackBytes$Verifier;" : Cond) ∈ lw_tbl := List.mem_append_right _ (List.mem_append_left _ (List.mem_of_getElem? (i := 236) rfl))
theorem wq_618 : (.laysFinal R_SB "StackBytes" "verifier" "LStackBytes$Verifier;" : Cond) ∈ tb := tb_i15 (List.mem_of_getElem? (i := 18) rfl)
set_option maxRecDepth 100000 in
theorem wl_619 : (.lays R_SB "StackBytes" "program" "LStackBytes$Program;" : Cond) ∈ lw_tbl := List.mem_append_right _ (List.mem_append_left _ (List.mem_of_getElem? (i := 238) rfl))
theorem wq_619 : (.lays R_SB "StackBytes" "program" "LStackBytes$Program;" : Cond) ∈ tb := tb_i15 (List.mem_of_getElem? (i := 19) rfl)
set_option maxRecDepth 100000 in
theorem wl_620 : (.lays R_SB "StackBytes" "spare" "LStackBytes$Program;" : Cond) ∈ lw_tbl := List.mem_append_right _ (List.mem_append_right _ (List.mem_append_left _ (List.mem_of_getElem? (i := 0) rfl)))
theorem wq_620 : (.lays R_SB "StackBytes" "spare" "LStackBytes$Program;" : Cond) ∈ tb := tb_i15 (List.mem_of_getElem? (i := 20) rfl)
set_option maxRecDepth 100000 in
theorem wl_621 : (.laysFinal R_ByteRow "StackBytes$ByteRow" "most" "I" : Cond) ∈ lw_tbl := List.mem_append_right _ (List.mem_append_left _ (List.mem_of_getElem? (i := 33) rfl))
theorem wq_621 : (.laysFinal R_ByteRow "StackBytes$ByteRow" "most" "I" : Cond) ∈ tb := tb_i15 (List.mem_of_getElem? (i := 21) rfl)
set_option maxRecDepth 100000 in
theorem wl_622 : (.lays R_ByteRow "StackBytes$ByteRow" "row" "[B" : Cond) ∈ lw_tbl := List.mem_append_right _ (List.mem_append_left _ (List.mem_of_getElem? (i := 35) rfl))
theorem wq_622 : (.lays R_ByteRow "StackBytes$ByteRow" "row" "[B" : Cond) ∈ tb := tb_i15 (List.mem_of_getElem? (i := 22) rfl)
set_option maxRecDepth 100000 in
theorem wl_623 : (.lays R_ByteRow "StackBytes$ByteRow" "count" "I" : Cond) ∈ lw_tbl := List.mem_append_right _ (List.mem_append_left _ (List.mem_of_getElem? (i := 37) rfl))
theorem wq_623 : (.lays R_ByteRow "StackBytes$ByteRow" "count" "I" : Cond) ∈ tb := tb_i15 (List.mem_of_getElem? (i := 23) rfl)
set_option maxRecDepth 100000 in
theorem wl_624 : (.lays R_Fault "StackBytes$Fault" "kind" "I" : Cond) ∈ lw_tbl := List.mem_append_right _ (List.mem_append_left _ (List.mem_of_getElem? (i := 53) rfl))
theorem wq_624 : (.lays R_Fault "StackBytes$Fault" "kind" "I" : Cond) ∈ tb := tb_i15 (List.mem_of_getElem? (i := 24) rfl)
set_option maxRecDepth 100000 in
theorem wl_625 : (.lays R_Fault "StackBytes$Fault" "place" "I" : Cond) ∈ lw_tbl := List.mem_append_right _ (List.mem_append_left _ (List.mem_of_getElem? (i := 55) rfl))
theorem wq_625 : (.lays R_Fault "StackBytes$Fault" "place" "I" : Cond) ∈ tb := tb_i15 (List.mem_of_getElem? (i := 25) rfl)
set_option maxRecDepth 100000 in
theorem wl_626 : (.lays R_Function "StackBytes$Function" "params" "I" : Cond) ∈ lw_tbl := List.mem_append_right _ (List.mem_append_left _ (List.mem_of_getElem? (i := 191) rfl))
theorem wq_626 : (.lays R_Function "StackBytes$Function" "params" "I" : Cond) ∈ tb := tb_i15 (List.mem_of_getElem? (i := 26) rfl)
set_option maxRecDepth 100000 in
theorem wl_627 : (.lays R_Function "StackBytes$Function" "locals" "I" : Cond) ∈ lw_tbl := List.mem_append_right _ (List.mem_append_left _ (List.mem_of_getElem? (i := 193) rfl))
theorem wq_627 : (.lays R_Function "StackBytes$Function" "locals" "I" : Cond) ∈ tb := tb_i15 (List.mem_of_getElem? (i := 27) rfl)
set_option maxRecDepth 100000 in
theorem wl_628 : (.lays R_Function "StackBytes$Function" "rowLocals" "I" : Cond) ∈ lw_tbl := List.mem_append_right _ (List.mem_append_left _ (List.mem_of_getElem? (i := 195) rfl))
theorem wq_628 : (.lays R_Function "StackBytes$Function" "rowLocals" "I" : Cond) ∈ tb := tb_i15 (List.mem_of_getElem? (i := 28) rfl)
set_option maxRecDepth 100000 in
theorem wl_629 : (.lays R_Function "StackBytes$Function" "result" "I" : Cond) ∈ lw_tbl := List.mem_append_right _ (List.mem_append_left _ (List.mem_of_getElem? (i := 197) rfl))
theorem wq_629 : (.lays R_Function "StackBytes$Function" "result" "I" : Cond) ∈ tb := tb_i15 (List.mem_of_getElem? (i := 29) rfl)
set_option maxRecDepth 100000 in
theorem wl_630 : (.lays R_Function "StackBytes$Function" "count" "I" : Cond) ∈ lw_tbl := List.mem_append_right _ (List.mem_append_left _ (List.mem_of_getElem? (i := 199) rfl))
theorem wq_630 : (.lays R_Function "StackBytes$Function" "count" "I" : Cond) ∈ tb := tb_i15 (List.mem_of_getElem? (i := 30) rfl)
set_option maxRecDepth 100000 in
theorem wl_631 : (.lays R_Function "StackBytes$Function" "handlerCount" "I" : Cond) ∈ lw_tbl := List.mem_append_right _ (List.mem_append_left _ (List.mem_of_getElem? (i := 201) rfl))
theorem wq_631 : (.lays R_Function "StackBytes$Function" "handlerCount" "I" : Cond) ∈ tb := tb_i15 (List.mem_of_getElem? (i := 31) rfl)
set_option maxRecDepth 100000 in
theorem wl_632 : (.laysFinal R_Function "StackBytes$Function" "ops" "[I" : Cond) ∈ lw_tbl := List.mem_append_right _ (List.mem_append_left _ (List.mem_of_getElem? (i := 203) rfl))
theorem wq_632 : (.laysFinal R_Function "StackBytes$Function" "ops" "[I" : Cond) ∈ tb := tb_i15 (List.mem_of_getElem? (i := 32) rfl)
set_option maxRecDepth 100000 in
theorem wl_633 : (.laysFinal R_Function "StackBytes$Function" "behinds" "[I" : Cond) ∈ lw_tbl := List.mem_append_right _ (List.mem_append_left _ (List.mem_of_getElem? (i := 205) rfl))
theorem wq_633 : (.laysFinal R_Function "StackBytes$Function" "behinds" "[I" : Cond) ∈ tb := tb_i15 (List.mem_of_getElem? (i := 33) rfl)
set_option maxRecDepth 100000 in
theorem wl_634 : (.laysFinal R_Function "StackBytes$Function" "depths" "[I" : Cond) ∈ lw_tbl := List.mem_append_right _ (List.mem_append_left _ (List.mem_of_getElem? (i := 207) rfl))
theorem wq_634 : (.laysFinal R_Function "StackBytes$Function" "depths" "[I" : Cond) ∈ tb := tb_i15 (List.mem_of_getElem? (i := 34) rfl)
set_option maxRecDepth 100000 in
theorem wl_635 : (.laysFinal R_Function "StackBytes$Function" "rowsOnStack" "[I" : Cond) ∈ lw_tbl := List.mem_append_right _ (List.mem_append_left _ (List.mem_of_getElem? (i := 209) rfl))
theorem wq_635 : (.laysFinal R_Function "StackBytes$Function" "rowsOnStack" "[I" : Cond) ∈ tb := tb_i15 (List.mem_of_getElem? (i := 35) rfl)
set_option maxRecDepth 100000 in
theorem wl_636 : (.laysFinal R_Function "StackBytes$Function" "handlers" "[LStackBytes$Handler;" : Cond) ∈ lw_tbl := List.mem_append_right _ (List.mem_append_left _ (List.mem_of_getElem? (i := 211) rfl))
theorem wq_636 : (.laysFinal R_Function "StackBytes$Function" "handlers" "[LStackBytes$Handler;" : Cond) ∈ tb := tb_i15 (List.mem_of_getElem? (i := 36) rfl)
set_option maxRecDepth 100000 in
theorem wl_637 : (.lays R_Handler "StackBytes$Handler" "from" "I" : Cond) ∈ lw_tbl := List.mem_append_right _ (List.mem_append_left _ (List.mem_of_getElem? (i := 137) rfl))
theorem wq_637 : (.lays R_Handler "StackBytes$Handler" "from" "I" : Cond) ∈ tb := tb_i15 (List.mem_of_getElem? (i := 37) rfl)
set_option maxRecDepth 100000 in
theorem wl_638 : (.lays R_Handler "StackBytes$Handler" "to" "I" : Cond) ∈ lw_tbl := List.mem_append_right _ (List.mem_append_left _ (List.mem_of_getElem? (i := 139) rfl))
theorem wq_638 : (.lays R_Handler "StackBytes$Handler" "to" "I" : Cond) ∈ tb := tb_i15 (List.mem_of_getElem? (i := 38) rfl)
set_option maxRecDepth 100000 in
theorem wl_639 : (.lays R_Handler "StackBytes$Handler" "target" "I" : Cond) ∈ lw_tbl := List.mem_append_right _ (List.mem_append_left _ (List.mem_of_getElem? (i := 141) rfl))
theorem wq_639 : (.lays R_Handler "StackBytes$Handler" "target" "I" : Cond) ∈ tb := tb_i15 (List.mem_of_getElem? (i := 39) rfl)
set_option maxRecDepth 100000 in
theorem wl_640 : (.lays R_Handler "StackBytes$Handler" "forAny" "Z" : Cond) ∈ lw_tbl := List.mem_append_right _ (List.mem_append_left _ (List.mem_of_getElem? (i := 143) rfl))
theorem wq_640 : (.lays R_Handler "StackBytes$Handler" "forAny" "Z" : Cond) ∈ tb := tb_i16 (List.mem_of_getElem? (i := 0) rfl)
set_option maxRecDepth 100000 in
theorem wl_641 : (.lays R_Handler "StackBytes$Handler" "code" "I" : Cond) ∈ lw_tbl := List.mem_append_right _ (List.mem_append_left _ (List.mem_of_getElem? (i := 145) rfl))
theorem wq_641 : (.lays R_Handler "StackBytes$Handler" "code" "I" : Cond) ∈ tb := tb_i16 (List.mem_of_getElem? (i := 1) rfl)
set_option maxRecDepth 100000 in
theorem wl_642 : (.laysFinal R_Program "StackBytes$Program" "functions" "[LStackBytes$Function;" : Cond) ∈ lw_tbl := List.mem_append_right _ (List.mem_append_left _ (List.mem_of_getElem? (i := 219) rfl))
theorem wq_642 : (.laysFinal R_Program "StackBytes$Program" "functions" "[LStackBytes$Function;" : Cond) ∈ tb := tb_i16 (List.mem_of_getElem? (i := 2) rfl)
set_option maxRecDepth 100000 in
theorem wl_643 : (.lays R_Program "StackBytes$Program" "count" "I" : Cond) ∈ lw_tbl := List.mem_append_right _ (List.mem_append_left _ (List.mem_of_getElem? (i := 221) rfl))
theorem wq_643 : (.lays R_Program "StackBytes$Program" "count" "I" : Cond) ∈ tb := tb_i16 (List.mem_of_getElem? (i := 3) rfl)
set_option maxRecDepth 100000 in
theorem wl_644 : (.laysFinal R_Reader "StackBytes$Reader" "in" "LStackBytes$ByteRow;" : Cond) ∈ lw_tbl := List.mem_append_right _ (List.mem_append_right _ (List.mem_append_left _ (List.mem_of_getElem? (i := 68) rfl)))
theorem wq_644 : (.laysFinal R_Reader "StackBytes$Reader" "in" "LStackBytes$ByteRow;" : Cond) ∈ tb := tb_i16 (List.mem_of_getElem? (i := 4) rfl)
set_option maxRecDepth 100000 in
theorem wl_645 : (.laysFinal R_Reader "StackBytes$Reader" "fault" "LStackBytes$Fault;" : Cond) ∈ lw_tbl := List.mem_append_right _ (List.mem_append_right _ (List.mem_append_left _ (List.mem_of_getElem? (i := 70) rfl)))
theorem wq_645 : (.laysFinal R_Reader "StackBytes$Reader" "fault" "LStackBytes$Fault;" : Cond) ∈ tb := tb_i16 (List.mem_of_getElem? (i := 5) rfl)
set_option maxRecDepth 100000 in
theorem wl_646 : (.lays R_Reader "StackBytes$Reader" "at" "I" : Cond) ∈ lw_tbl := List.mem_append_right _ (List.mem_append_right _ (List.mem_append_left _ (List.mem_of_getElem? (i := 72) rfl)))
theorem wq_646 : (.lays R_Reader "StackBytes$Reader" "at" "I" : Cond) ∈ tb := tb_i16 (List.mem_of_getElem? (i := 6) rfl)
set_option maxRecDepth 100000 in
theorem wl_647 : (.laysFinal R_Verifier "StackBytes$Verifier" "depths" "[I" : Cond) ∈ lw_tbl := List.mem_append_right _ (List.mem_append_left _ (List.mem_of_getElem? (i := 75) rfl))
theorem wq_647 : (.laysFinal R_Verifier "StackBytes$Verifier" "depths" "[I" : Cond) ∈ tb := tb_i16 (List.mem_of_getElem? (i := 7) rfl)
set_option maxRecDepth 100000 in
theorem wl_648 : (.laysFinal R_Verifier "StackBytes$Verifier" "rowsOnStack" "[I" : Cond) ∈ lw_tbl := List.mem_append_right _ (List.mem_append_left _ (List.mem_of_getElem? (i := 77) rfl))
theorem wq_648 : (.laysFinal R_Verifier "StackBytes$Verifier" "rowsOnStack" "[I" : Cond) ∈ tb := tb_i16 (List.mem_of_getElem? (i := 8) rfl)
set_option maxRecDepth 100000 in
theorem wl_649 : (.laysFinal R_Verifier "StackBytes$Verifier" "waits" "[Z" : Cond) ∈ lw_tbl := List.mem_append_right _ (List.mem_append_left _ (List.mem_of_getElem? (i := 79) rfl))
theorem wq_649 : (.laysFinal R_Verifier "StackBytes$Verifier" "waits" "[Z" : Cond) ∈ tb := tb_i16 (List.mem_of_getElem? (i := 9) rfl)
set_option maxRecDepth 100000 in
theorem wl_650 : (.lays R_Verifier "StackBytes$Verifier" "leastWaiting" "I" : Cond) ∈ lw_tbl := List.mem_append_right _ (List.mem_append_left _ (List.mem_of_getElem? (i := 81) rfl))
theorem wq_650 : (.lays R_Verifier "StackBytes$Verifier" "leastWaiting" "I" : Cond) ∈ tb := tb_i16 (List.mem_of_getElem? (i := 10) rfl)
set_option maxRecDepth 100000 in
theorem wl_651 : (.lays R_Verifier "StackBytes$Verifier" "program" "LStackBytes$Program;" : Cond) ∈ lw_tbl := List.mem_append_right _ (List.mem_append_left _ (List.mem_of_getElem? (i := 83) rfl))
theorem wq_651 : (.lays R_Verifier "StackBytes$Verifier" "program" "LStackBytes$Program;" : Cond) ∈ tb := tb_i16 (List.mem_of_getElem? (i := 11) rfl)
set_option maxRecDepth 100000 in
theorem wl_652 : (.lays R_Verifier "StackBytes$Verifier" "function" "LStackBytes$Function;" : Cond) ∈ lw_tbl := List.mem_append_right _ (List.mem_append_left _ (List.mem_of_getElem? (i := 85) rfl))
theorem wq_652 : (.lays R_Verifier "StackBytes$Verifier" "function" "LStackBytes$Function;" : Cond) ∈ tb := tb_i16 (List.mem_of_getElem? (i := 12) rfl)
set_option maxRecDepth 100000 in
theorem wl_653 : (.lays R_Verifier "StackBytes$Verifier" "fault" "LStackBytes$Fault;" : Cond) ∈ lw_tbl := List.mem_append_right _ (List.mem_append_left _ (List.mem_of_getElem? (i := 87) rfl))
theorem wq_653 : (.lays R_Verifier "StackBytes$Verifier" "fault" "LStackBytes$Fault;" : Cond) ∈ tb := tb_i16 (List.mem_of_getElem? (i := 13) rfl)
set_option maxRecDepth 100000 in
theorem wl_654 : (.lays R_Verifier "StackBytes$Verifier" "firstPlace" "I" : Cond) ∈ lw_tbl := List.mem_append_right _ (List.mem_append_left _ (List.mem_of_getElem? (i := 89) rfl))
theorem wq_654 : (.lays R_Verifier "StackBytes$Verifier" "firstPlace" "I" : Cond) ∈ tb := tb_i16 (List.mem_of_getElem? (i := 14) rfl)
set_option maxRecDepth 100000 in
theorem wl_655 : (.lays R_Verifier "StackBytes$Verifier" "current" "I" : Cond) ∈ lw_tbl := List.mem_append_right _ (List.mem_append_left _ (List.mem_of_getElem? (i := 91) rfl))
theorem wq_655 : (.lays R_Verifier "StackBytes$Verifier" "current" "I" : Cond) ∈ tb := tb_i16 (List.mem_of_getElem? (i := 15) rfl)
set_option maxRecDepth 100000 in
theorem wl_656 : (.lays R_Verifier "StackBytes$Verifier" "depth" "I" : Cond) ∈ lw_tbl := List.mem_append_right _ (List.mem_append_left _ (List.mem_of_getElem? (i := 93) rfl))
theorem wq_656 : (.lays R_Verifier "StackBytes$Verifier" "depth" "I" : Cond) ∈ tb := tb_i16 (List.mem_of_getElem? (i := 16) rfl)
set_option maxRecDepth 100000 in
theorem wl_657 : (.lays R_Verifier "StackBytes$Verifier" "rows" "I" : Cond) ∈ lw_tbl := List.mem_append_right _ (List.mem_append_left _ (List.mem_of_getElem? (i := 95) rfl))
theorem wq_657 : (.lays R_Verifier "StackBytes$Verifier" "rows" "I" : Cond) ∈ tb := tb_i16 (List.mem_of_getElem? (i := 17) rfl)
set_option maxRecDepth 100000 in
theorem wl_658 : (.lays R_Mo "StackBytesModel" "thrown" "I" : Cond) ∈ lw_tbl := List.mem_append_right _ (List.mem_append_right _ (List.mem_append_right _ (List.mem_append_left _ (List.mem_of_getElem? (i := 134) rfl))))
theorem wq_658 : (.lays R_Mo "StackBytesModel" "thrown" "I" : Cond) ∈ tb := tb_i16 (List.mem_of_getElem? (i := 18) rfl)
set_option maxRecDepth 100000 in
theorem wl_659 : (.laysFinal R_Mo "StackBytesModel" "bytes" "[I" : Cond) ∈ lw_tbl := List.mem_append_right _ (List.mem_append_right _ (List.mem_append_right _ (List.mem_append_left _ (List.mem_of_getElem? (i := 136) rfl))))
theorem wq_659 : (.laysFinal R_Mo "StackBytesModel" "bytes" "[I" : Cond) ∈ tb := tb_i16 (List.mem_of_getElem? (i := 19) rfl)
set_option maxRecDepth 100000 in
theorem wl_660 : (.lays R_Mo "StackBytesModel" "many" "I" : Cond) ∈ lw_tbl := List.mem_append_right _ (List.mem_append_right _ (List.mem_append_right _ (List.mem_append_left _ (List.mem_of_getElem? (i := 138) rfl))))
theorem wq_660 : (.lays R_Mo "StackBytesModel" "many" "I" : Cond) ∈ tb := tb_i16 (List.mem_of_getElem? (i := 20) rfl)
set_option maxRecDepth 100000 in
theorem wl_661 : (.laysFinal R_Mo "StackBytesModel" "written" "[I" : Cond) ∈ lw_tbl := List.mem_append_right _ (List.mem_append_right _ (List.mem_append_right _ (List.mem_append_left _ (List.mem_of_getElem? (i := 140) rfl))))
theorem wq_661 : (.laysFinal R_Mo "StackBytesModel" "written" "[I" : Cond) ∈ tb := tb_i16 (List.mem_of_getElem? (i := 21) rfl)
set_option maxRecDepth 100000 in
theorem wl_662 : (.lays R_Mo "StackBytesModel" "writtenMany" "I" : Cond) ∈ lw_tbl := List.mem_append_right _ (List.mem_append_right _ (List.mem_append_right _ (List.mem_append_left _ (List.mem_of_getElem? (i := 142) rfl))))
theorem wq_662 : (.lays R_Mo "StackBytesModel" "writtenMany" "I" : Cond) ∈ tb := tb_i16 (List.mem_of_getElem? (i := 22) rfl)
set_option maxRecDepth 100000 in
theorem wl_663 : (.lays R_Mo "StackBytesModel" "fault" "I" : Cond) ∈ lw_tbl := List.mem_append_right _ (List.mem_append_right _ (List.mem_append_right _ (List.mem_append_left _ (List.mem_of_getElem? (i := 144) rfl))))
theorem wq_663 : (.lays R_Mo "StackBytesModel" "fault" "I" : Cond) ∈ tb := tb_i16 (List.mem_of_getElem? (i := 23) rfl)
set_option maxRecDepth 100000 in
theorem wl_664 : (.lays R_Mo "StackBytesModel" "place" "I" : Cond) ∈ lw_tbl := List.mem_append_right _ (List.mem_append_right _ (List.mem_append_right _ (List.mem_append_left _ (List.mem_of_getElem? (i := 146) rfl))))
theorem wq_664 : (.lays R_Mo "StackBytesModel" "place" "I" : Cond) ∈ tb := tb_i16 (List.mem_of_getElem? (i := 24) rfl)
set_option maxRecDepth 100000 in
theorem wl_665 : (.lays R_Mo "StackBytesModel" "bad" "I" : Cond) ∈ lw_tbl := List.mem_append_right _ (List.mem_append_right _ (List.mem_append_right _ (List.mem_append_left _ (List.mem_of_getElem? (i := 148) rfl))))
theorem wq_665 : (.lays R_Mo "StackBytesModel" "bad" "I" : Cond) ∈ tb := tb_i16 (List.mem_of_getElem? (i := 25) rfl)
set_option maxRecDepth 100000 in
theorem wl_666 : (.lays R_Mo "StackBytesModel" "where" "I" : Cond) ∈ lw_tbl := List.mem_append_right _ (List.mem_append_right _ (List.mem_append_right _ (List.mem_append_left _ (List.mem_of_getElem? (i := 150) rfl))))
theorem wq_666 : (.lays R_Mo "StackBytesModel" "where" "I" : Cond) ∈ tb := tb_i16 (List.mem_of_getElem? (i := 26) rfl)
set_option maxRecDepth 100000 in
theorem wl_667 : (.laysFinal R_Mo "StackBytesModel" "functions" "[I" : Cond) ∈ lw_tbl := List.mem_append_right _ (List.mem_append_right _ (List.mem_append_right _ (List.mem_append_left _ (List.mem_of_getElem? (i := 152) rfl))))
theorem wq_667 : (.laysFinal R_Mo "StackBytesModel" "functions" "[I" : Cond) ∈ tb := tb_i16 (List.mem_of_getElem? (i := 27) rfl)
set_option maxRecDepth 100000 in
theorem wl_668 : (.laysFinal R_Mo "StackBytesModel" "params" "[I" : Cond) ∈ lw_tbl := List.mem_append_right _ (List.mem_append_right _ (List.mem_append_right _ (List.mem_append_left _ (List.mem_of_getElem? (i := 154) rfl))))
theorem wq_668 : (.laysFinal R_Mo "StackBytesModel" "params" "[I" : Cond) ∈ tb := tb_i16 (List.mem_of_getElem? (i := 28) rfl)
set_option maxRecDepth 100000 in
theorem wl_669 : (.laysFinal R_Mo "StackBytesModel" "locals" "[I" : Cond) ∈ lw_tbl := List.mem_append_right _ (List.mem_append_right _ (List.mem_append_right _ (List.mem_append_left _ (List.mem_of_getElem? (i := 156) rfl))))
theorem wq_669 : (.laysFinal R_Mo "StackBytesModel" "locals" "[I" : Cond) ∈ tb := tb_i16 (List.mem_of_getElem? (i := 29) rfl)
set_option maxRecDepth 100000 in
theorem wl_670 : (.laysFinal R_Mo "StackBytesModel" "rowBits" "[I" : Cond) ∈ lw_tbl := List.mem_append_right _ (List.mem_append_right _ (List.mem_append_right _ (List.mem_append_left _ (List.mem_of_getElem? (i := 158) rfl))))
theorem wq_670 : (.laysFinal R_Mo "StackBytesModel" "rowBits" "[I" : Cond) ∈ tb := tb_i16 (List.mem_of_getElem? (i := 30) rfl)
set_option maxRecDepth 100000 in
theorem wl_671 : (.laysFinal R_Mo "StackBytesModel" "results" "[I" : Cond) ∈ lw_tbl := List.mem_append_right _ (List.mem_append_right _ (List.mem_append_right _ (List.mem_append_left _ (List.mem_of_getElem? (i := 160) rfl))))
theorem wq_671 : (.laysFinal R_Mo "StackBytesModel" "results" "[I" : Cond) ∈ tb := tb_i16 (List.mem_of_getElem? (i := 31) rfl)
set_option maxRecDepth 100000 in
theorem wl_672 : (.laysFinal R_Mo "StackBytesModel" "sizes" "[I" : Cond) ∈ lw_tbl := List.mem_append_right _ (List.mem_append_right _ (List.mem_append_right _ (List.mem_append_left _ (List.mem_of_getElem? (i := 162) rfl))))
theorem wq_672 : (.laysFinal R_Mo "StackBytesModel" "sizes" "[I" : Cond) ∈ tb := tb_i16 (List.mem_of_getElem? (i := 32) rfl)
set_option maxRecDepth 100000 in
theorem wl_673 : (.laysFinal R_Mo "StackBytesModel" "handlerMany" "[I" : Cond) ∈ lw_tbl := List.mem_append_right _ (List.mem_append_right _ (List.mem_append_right _ (List.mem_append_left _ (List.mem_of_getElem? (i := 164) rfl))))
theorem wq_673 : (.laysFinal R_Mo "StackBytesModel" "handlerMany" "[I" : Cond) ∈ tb := tb_i16 (List.mem_of_getElem? (i := 33) rfl)
set_option maxRecDepth 100000 in
theorem wl_674 : (.laysFinal R_Mo "StackBytesModel" "ops" "[I" : Cond) ∈ lw_tbl := List.mem_append_right _ (List.mem_append_right _ (List.mem_append_right _ (List.mem_append_left _ (List.mem_of_getElem? (i := 166) rfl))))
theorem wq_674 : (.laysFinal R_Mo "StackBytesModel" "ops" "[I" : Cond) ∈ tb := tb_i16 (List.mem_of_getElem? (i := 34) rfl)
set_option maxRecDepth 100000 in
theorem wl_675 : (.laysFinal R_Mo "StackBytesModel" "operands" "[I" : Cond) ∈ lw_tbl := List.mem_append_right _ (List.mem_append_right _ (List.mem_append_right _ (List.mem_append_left _ (List.mem_of_getElem? (i := 168) rfl))))
theorem wq_675 : (.laysFinal R_Mo "StackBytesModel" "operands" "[I" : Cond) ∈ tb := tb_i16 (List.mem_of_getElem? (i := 35) rfl)
set_option maxRecDepth 100000 in
theorem wl_676 : (.laysFinal R_Mo "StackBytesModel" "froms" "[I" : Cond) ∈ lw_tbl := List.mem_append_right _ (List.mem_append_right _ (List.mem_append_right _ (List.mem_append_left _ (List.mem_of_getElem? (i := 170) rfl))))
theorem wq_676 : (.laysFinal R_Mo "StackBytesModel" "froms" "[I" : Cond) ∈ tb := tb_i16 (List.mem_of_getElem? (i := 36) rfl)
set_option maxRecDepth 100000 in
theorem wl_677 : (.laysFinal R_Mo "StackBytesModel" "tos" "[I" : Cond) ∈ lw_tbl := List.mem_append_right _ (List.mem_append_right _ (List.mem_append_right _ (List.mem_append_left _ (List.mem_of_getElem? (i := 172) rfl))))
theorem wq_677 : (.laysFinal R_Mo "StackBytesModel" "tos" "[I" : Cond) ∈ tb := tb_i16 (List.mem_of_getElem? (i := 37) rfl)
set_option maxRecDepth 100000 in
theorem wl_678 : (.laysFinal R_Mo "StackBytesModel" "targets" "[I" : Cond) ∈ lw_tbl := List.mem_append_right _ (List.mem_append_right _ (List.mem_append_right _ (List.mem_append_left _ (List.mem_of_getElem? (i := 174) rfl))))
theorem wq_678 : (.laysFinal R_Mo "StackBytesModel" "targets" "[I" : Cond) ∈ tb := tb_i16 (List.mem_of_getElem? (i := 38) rfl)
set_option maxRecDepth 100000 in
theorem wl_679 : (.laysFinal R_Mo "StackBytesModel" "anyCode" "[Z" : Cond) ∈ lw_tbl := List.mem_append_right _ (List.mem_append_right _ (List.mem_append_right _ (List.mem_append_left _ (List.mem_of_getElem? (i := 176) rfl))))
theorem wq_679 : (.laysFinal R_Mo "StackBytesModel" "anyCode" "[Z" : Cond) ∈ tb := tb_i16 (List.mem_of_getElem? (i := 39) rfl)
set_option maxRecDepth 100000 in
theorem wl_680 : (.laysFinal R_Mo "StackBytesModel" "handlerCodes" "[I" : Cond) ∈ lw_tbl := List.mem_append_right _ (List.mem_append_right _ (List.mem_append_right _ (List.mem_append_left _ (List.mem_of_getElem? (i := 178) rfl))))
theorem wq_680 : (.laysFinal R_Mo "StackBytesModel" "handlerCodes" "[I" : Cond) ∈ tb := tb_i17 (List.mem_of_getElem? (i := 0) rfl)
set_option maxRecDepth 100000 in
theorem wl_681 : (.laysFinal R_Mo "StackBytesModel" "heights" "[I" : Cond) ∈ lw_tbl := List.mem_append_right _ (List.mem_append_right _ (List.mem_append_right _ (List.mem_append_left _ (List.mem_of_getElem? (i := 180) rfl))))
theorem wq_681 : (.laysFinal R_Mo "StackBytesModel" "heights" "[I" : Cond) ∈ tb := tb_i17 (List.mem_of_getElem? (i := 1) rfl)
set_option maxRecDepth 100000 in
theorem wl_682 : (.laysFinal R_Mo "StackBytesModel" "kinds" "[I" : Cond) ∈ lw_tbl := List.mem_append_right _ (List.mem_append_right _ (List.mem_append_right _ (List.mem_append_left _ (List.mem_of_getElem? (i := 182) rfl))))
theorem wq_682 : (.laysFinal R_Mo "StackBytesModel" "kinds" "[I" : Cond) ∈ tb := tb_i17 (List.mem_of_getElem? (i := 2) rfl)
set_option maxRecDepth 100000 in
theorem wl_683 : (.laysFinal R_Mo "StackBytesModel" "waits" "[Z" : Cond) ∈ lw_tbl := List.mem_append_right _ (List.mem_append_right _ (List.mem_append_right _ (List.mem_append_left _ (List.mem_of_getElem? (i := 184) rfl))))
theorem wq_683 : (.laysFinal R_Mo "StackBytesModel" "waits" "[Z" : Cond) ∈ tb := tb_i17 (List.mem_of_getElem? (i := 3) rfl)
set_option maxRecDepth 100000 in
theorem wl_684 : (.lays R_Mo "StackBytesModel" "p" "I" : Cond) ∈ lw_tbl := List.mem_append_right _ (List.mem_append_right _ (List.mem_append_right _ (List.mem_append_left _ (List.mem_of_getElem? (i := 186) rfl))))
theorem wq_684 : (.lays R_Mo "StackBytesModel" "p" "I" : Cond) ∈ tb := tb_i17 (List.mem_of_getElem? (i := 4) rfl)
set_option maxRecDepth 100000 in
theorem wl_685 : (.lays R_Mo "StackBytesModel" "height" "I" : Cond) ∈ lw_tbl := List.mem_append_right _ (List.mem_append_right _ (List.mem_append_right _ (List.mem_append_left _ (List.mem_of_getElem? (i := 188) rfl))))
theorem wq_685 : (.lays R_Mo "StackBytesModel" "height" "I" : Cond) ∈ tb := tb_i17 (List.mem_of_getElem? (i := 5) rfl)
set_option maxRecDepth 100000 in
theorem wl_686 : (.lays R_Mo "StackBytesModel" "kind" "I" : Cond) ∈ lw_tbl := List.mem_append_right _ (List.mem_append_right _ (List.mem_append_right _ (List.mem_append_left _ (List.mem_of_getElem? (i := 190) rfl))))
theorem wq_686 : (.lays R_Mo "StackBytesModel" "kind" "I" : Cond) ∈ tb := tb_i17 (List.mem_of_getElem? (i := 6) rfl)
set_option maxRecDepth 100000 in
theorem tb_s0 : ∀ w ∈ tb_0, w ∈ lw_tbl := List.forall_mem_cons.mpr ⟨wl_0, List.forall_mem_cons.mpr ⟨wl_1, List.forall_mem_cons.mpr ⟨wl_2, List.forall_mem_cons.mpr ⟨wl_3, List.forall_mem_cons.mpr ⟨wl_4, List.forall_mem_cons.mpr ⟨wl_5, List.forall_mem_cons.mpr ⟨wl_6, List.forall_mem_cons.mpr ⟨wl_7, List.forall_mem_cons.mpr ⟨wl_8, List.forall_mem_cons.mpr ⟨wl_9, List.forall_mem_cons.mpr ⟨wl_10, List.forall_mem_cons.mpr ⟨wl_11, List.forall_mem_cons.mpr ⟨wl_12, List.forall_mem_cons.mpr ⟨wl_13, List.forall_mem_cons.mpr ⟨wl_14, List.forall_mem_cons.mpr ⟨wl_15, List.forall_mem_cons.mpr ⟨wl_16, List.forall_mem_cons.mpr ⟨wl_17, List.forall_mem_cons.mpr ⟨wl_18, List.forall_mem_cons.mpr ⟨wl_19, List.forall_mem_cons.mpr ⟨wl_20, List.forall_mem_cons.mpr ⟨wl_21, List.forall_mem_cons.mpr ⟨wl_22, List.forall_mem_cons.mpr ⟨wl_23, List.forall_mem_cons.mpr ⟨wl_24, List.forall_mem_cons.mpr ⟨wl_25, List.forall_mem_cons.mpr ⟨wl_26, List.forall_mem_cons.mpr ⟨wl_27, List.forall_mem_cons.mpr ⟨wl_28, List.forall_mem_cons.mpr ⟨wl_29, List.forall_mem_cons.mpr ⟨wl_30, List.forall_mem_cons.mpr ⟨wl_31, List.forall_mem_cons.mpr ⟨wl_32, List.forall_mem_cons.mpr ⟨wl_33, List.forall_mem_cons.mpr ⟨wl_34, List.forall_mem_cons.mpr ⟨wl_35, List.forall_mem_cons.mpr ⟨wl_36, List.forall_mem_cons.mpr ⟨wl_37, List.forall_mem_cons.mpr ⟨wl_38, List.forall_mem_cons.mpr ⟨wl_39, fun _ h => absurd h List.not_mem_nil⟩⟩⟩⟩⟩⟩⟩⟩⟩⟩⟩⟩⟩⟩⟩⟩⟩⟩⟩⟩⟩⟩⟩⟩⟩⟩⟩⟩⟩⟩⟩⟩⟩⟩⟩⟩⟩⟩⟩⟩
set_option maxRecDepth 100000 in
theorem tb_g0 : tb_0.all goodWord = true := by decide +kernel
theorem tb_h0 : GoodIn lw_tbl tb_0 := fun w h => ⟨tb_s0 w h, good_of_word (List.all_eq_true.mp tb_g0 w h)⟩
set_option maxRecDepth 100000 in
theorem tb_s1 : ∀ w ∈ tb_1, w ∈ lw_tbl := List.forall_mem_cons.mpr ⟨wl_40, List.forall_mem_cons.mpr ⟨wl_41, List.forall_mem_cons.mpr ⟨wl_42, List.forall_mem_cons.mpr ⟨wl_43, List.forall_mem_cons.mpr ⟨wl_44, List.forall_mem_cons.mpr ⟨wl_45, List.forall_mem_cons.mpr ⟨wl_46, List.forall_mem_cons.mpr ⟨wl_47, List.forall_mem_cons.mpr ⟨wl_48, List.forall_mem_cons.mpr ⟨wl_49, List.forall_mem_cons.mpr ⟨wl_50, List.forall_mem_cons.mpr ⟨wl_51, List.forall_mem_cons.mpr ⟨wl_52, List.forall_mem_cons.mpr ⟨wl_53, List.forall_mem_cons.mpr ⟨wl_54, List.forall_mem_cons.mpr ⟨wl_55, List.forall_mem_cons.mpr ⟨wl_56, List.forall_mem_cons.mpr ⟨wl_57, List.forall_mem_cons.mpr ⟨wl_58, List.forall_mem_cons.mpr ⟨wl_59, List.forall_mem_cons.mpr ⟨wl_60, List.forall_mem_cons.mpr ⟨wl_61, List.forall_mem_cons.mpr ⟨wl_62, List.forall_mem_cons.mpr ⟨wl_63, List.forall_mem_cons.mpr ⟨wl_64, List.forall_mem_cons.mpr ⟨wl_65, List.forall_mem_cons.mpr ⟨wl_66, List.forall_mem_cons.mpr ⟨wl_67, List.forall_mem_cons.mpr ⟨wl_68, List.forall_mem_cons.mpr ⟨wl_69, List.forall_mem_cons.mpr ⟨wl_70, List.forall_mem_cons.mpr ⟨wl_71, List.forall_mem_cons.mpr ⟨wl_72, List.forall_mem_cons.mpr ⟨wl_73, List.forall_mem_cons.mpr ⟨wl_74, List.forall_mem_cons.mpr ⟨wl_75, List.forall_mem_cons.mpr ⟨wl_76, List.forall_mem_cons.mpr ⟨wl_77, List.forall_mem_cons.mpr ⟨wl_78, List.forall_mem_cons.mpr ⟨wl_79, fun _ h => absurd h List.not_mem_nil⟩⟩⟩⟩⟩⟩⟩⟩⟩⟩⟩⟩⟩⟩⟩⟩⟩⟩⟩⟩⟩⟩⟩⟩⟩⟩⟩⟩⟩⟩⟩⟩⟩⟩⟩⟩⟩⟩⟩⟩
set_option maxRecDepth 100000 in
theorem tb_g1 : tb_1.all goodWord = true := by decide +kernel
theorem tb_h1 : GoodIn lw_tbl tb_1 := fun w h => ⟨tb_s1 w h, good_of_word (List.all_eq_true.mp tb_g1 w h)⟩
set_option maxRecDepth 100000 in
theorem tb_s2 : ∀ w ∈ tb_2, w ∈ lw_tbl := List.forall_mem_cons.mpr ⟨wl_80, List.forall_mem_cons.mpr ⟨wl_81, List.forall_mem_cons.mpr ⟨wl_82, List.forall_mem_cons.mpr ⟨wl_83, List.forall_mem_cons.mpr ⟨wl_84, List.forall_mem_cons.mpr ⟨wl_85, List.forall_mem_cons.mpr ⟨wl_86, List.forall_mem_cons.mpr ⟨wl_87, List.forall_mem_cons.mpr ⟨wl_88, List.forall_mem_cons.mpr ⟨wl_89, List.forall_mem_cons.mpr ⟨wl_90, List.forall_mem_cons.mpr ⟨wl_91, List.forall_mem_cons.mpr ⟨wl_92, List.forall_mem_cons.mpr ⟨wl_93, List.forall_mem_cons.mpr ⟨wl_94, List.forall_mem_cons.mpr ⟨wl_95, List.forall_mem_cons.mpr ⟨wl_96, List.forall_mem_cons.mpr ⟨wl_97, List.forall_mem_cons.mpr ⟨wl_98, List.forall_mem_cons.mpr ⟨wl_99, List.forall_mem_cons.mpr ⟨wl_100, List.forall_mem_cons.mpr ⟨wl_101, List.forall_mem_cons.mpr ⟨wl_102, List.forall_mem_cons.mpr ⟨wl_103, List.forall_mem_cons.mpr ⟨wl_104, List.forall_mem_cons.mpr ⟨wl_105, List.forall_mem_cons.mpr ⟨wl_106, List.forall_mem_cons.mpr ⟨wl_107, List.forall_mem_cons.mpr ⟨wl_108, List.forall_mem_cons.mpr ⟨wl_109, List.forall_mem_cons.mpr ⟨wl_110, List.forall_mem_cons.mpr ⟨wl_111, List.forall_mem_cons.mpr ⟨wl_112, List.forall_mem_cons.mpr ⟨wl_113, List.forall_mem_cons.mpr ⟨wl_114, List.forall_mem_cons.mpr ⟨wl_115, List.forall_mem_cons.mpr ⟨wl_116, List.forall_mem_cons.mpr ⟨wl_117, List.forall_mem_cons.mpr ⟨wl_118, List.forall_mem_cons.mpr ⟨wl_119, fun _ h => absurd h List.not_mem_nil⟩⟩⟩⟩⟩⟩⟩⟩⟩⟩⟩⟩⟩⟩⟩⟩⟩⟩⟩⟩⟩⟩⟩⟩⟩⟩⟩⟩⟩⟩⟩⟩⟩⟩⟩⟩⟩⟩⟩⟩
set_option maxRecDepth 100000 in
theorem tb_g2 : tb_2.all goodWord = true := by decide +kernel
theorem tb_h2 : GoodIn lw_tbl tb_2 := fun w h => ⟨tb_s2 w h, good_of_word (List.all_eq_true.mp tb_g2 w h)⟩
set_option maxRecDepth 100000 in
theorem tb_s3 : ∀ w ∈ tb_3, w ∈ lw_tbl := List.forall_mem_cons.mpr ⟨wl_120, List.forall_mem_cons.mpr ⟨wl_121, List.forall_mem_cons.mpr ⟨wl_122, List.forall_mem_cons.mpr ⟨wl_123, List.forall_mem_cons.mpr ⟨wl_124, List.forall_mem_cons.mpr ⟨wl_125, List.forall_mem_cons.mpr ⟨wl_126, List.forall_mem_cons.mpr ⟨wl_127, List.forall_mem_cons.mpr ⟨wl_128, List.forall_mem_cons.mpr ⟨wl_129, List.forall_mem_cons.mpr ⟨wl_130, List.forall_mem_cons.mpr ⟨wl_131, List.forall_mem_cons.mpr ⟨wl_132, List.forall_mem_cons.mpr ⟨wl_133, List.forall_mem_cons.mpr ⟨wl_134, List.forall_mem_cons.mpr ⟨wl_135, List.forall_mem_cons.mpr ⟨wl_136, List.forall_mem_cons.mpr ⟨wl_137, List.forall_mem_cons.mpr ⟨wl_138, List.forall_mem_cons.mpr ⟨wl_139, List.forall_mem_cons.mpr ⟨wl_140, List.forall_mem_cons.mpr ⟨wl_141, List.forall_mem_cons.mpr ⟨wl_142, List.forall_mem_cons.mpr ⟨wl_143, List.forall_mem_cons.mpr ⟨wl_144, List.forall_mem_cons.mpr ⟨wl_145, List.forall_mem_cons.mpr ⟨wl_146, List.forall_mem_cons.mpr ⟨wl_147, List.forall_mem_cons.mpr ⟨wl_148, List.forall_mem_cons.mpr ⟨wl_149, List.forall_mem_cons.mpr ⟨wl_150, List.forall_mem_cons.mpr ⟨wl_151, List.forall_mem_cons.mpr ⟨wl_152, List.forall_mem_cons.mpr ⟨wl_153, List.forall_mem_cons.mpr ⟨wl_154, List.forall_mem_cons.mpr ⟨wl_155, List.forall_mem_cons.mpr ⟨wl_156, List.forall_mem_cons.mpr ⟨wl_157, List.forall_mem_cons.mpr ⟨wl_158, List.forall_mem_cons.mpr ⟨wl_159, fun _ h => absurd h List.not_mem_nil⟩⟩⟩⟩⟩⟩⟩⟩⟩⟩⟩⟩⟩⟩⟩⟩⟩⟩⟩⟩⟩⟩⟩⟩⟩⟩⟩⟩⟩⟩⟩⟩⟩⟩⟩⟩⟩⟩⟩⟩
set_option maxRecDepth 100000 in
theorem tb_g3 : tb_3.all goodWord = true := by decide +kernel
theorem tb_h3 : GoodIn lw_tbl tb_3 := fun w h => ⟨tb_s3 w h, good_of_word (List.all_eq_true.mp tb_g3 w h)⟩
set_option maxRecDepth 100000 in
theorem tb_s4 : ∀ w ∈ tb_4, w ∈ lw_tbl := List.forall_mem_cons.mpr ⟨wl_160, List.forall_mem_cons.mpr ⟨wl_161, List.forall_mem_cons.mpr ⟨wl_162, List.forall_mem_cons.mpr ⟨wl_163, List.forall_mem_cons.mpr ⟨wl_164, List.forall_mem_cons.mpr ⟨wl_165, List.forall_mem_cons.mpr ⟨wl_166, List.forall_mem_cons.mpr ⟨wl_167, List.forall_mem_cons.mpr ⟨wl_168, List.forall_mem_cons.mpr ⟨wl_169, List.forall_mem_cons.mpr ⟨wl_170, List.forall_mem_cons.mpr ⟨wl_171, List.forall_mem_cons.mpr ⟨wl_172, List.forall_mem_cons.mpr ⟨wl_173, List.forall_mem_cons.mpr ⟨wl_174, List.forall_mem_cons.mpr ⟨wl_175, List.forall_mem_cons.mpr ⟨wl_176, List.forall_mem_cons.mpr ⟨wl_177, List.forall_mem_cons.mpr ⟨wl_178, List.forall_mem_cons.mpr ⟨wl_179, List.forall_mem_cons.mpr ⟨wl_180, List.forall_mem_cons.mpr ⟨wl_181, List.forall_mem_cons.mpr ⟨wl_182, List.forall_mem_cons.mpr ⟨wl_183, List.forall_mem_cons.mpr ⟨wl_184, List.forall_mem_cons.mpr ⟨wl_185, List.forall_mem_cons.mpr ⟨wl_186, List.forall_mem_cons.mpr ⟨wl_187, List.forall_mem_cons.mpr ⟨wl_188, List.forall_mem_cons.mpr ⟨wl_189, List.forall_mem_cons.mpr ⟨wl_190, List.forall_mem_cons.mpr ⟨wl_191, List.forall_mem_cons.mpr ⟨wl_192, List.forall_mem_cons.mpr ⟨wl_193, List.forall_mem_cons.mpr ⟨wl_194, List.forall_mem_cons.mpr ⟨wl_195, List.forall_mem_cons.mpr ⟨wl_196, List.forall_mem_cons.mpr ⟨wl_197, List.forall_mem_cons.mpr ⟨wl_198, List.forall_mem_cons.mpr ⟨wl_199, fun _ h => absurd h List.not_mem_nil⟩⟩⟩⟩⟩⟩⟩⟩⟩⟩⟩⟩⟩⟩⟩⟩⟩⟩⟩⟩⟩⟩⟩⟩⟩⟩⟩⟩⟩⟩⟩⟩⟩⟩⟩⟩⟩⟩⟩⟩
set_option maxRecDepth 100000 in
theorem tb_g4 : tb_4.all goodWord = true := by decide +kernel
theorem tb_h4 : GoodIn lw_tbl tb_4 := fun w h => ⟨tb_s4 w h, good_of_word (List.all_eq_true.mp tb_g4 w h)⟩
set_option maxRecDepth 100000 in
theorem tb_s5 : ∀ w ∈ tb_5, w ∈ lw_tbl := List.forall_mem_cons.mpr ⟨wl_200, List.forall_mem_cons.mpr ⟨wl_201, List.forall_mem_cons.mpr ⟨wl_202, List.forall_mem_cons.mpr ⟨wl_203, List.forall_mem_cons.mpr ⟨wl_204, List.forall_mem_cons.mpr ⟨wl_205, List.forall_mem_cons.mpr ⟨wl_206, List.forall_mem_cons.mpr ⟨wl_207, List.forall_mem_cons.mpr ⟨wl_208, List.forall_mem_cons.mpr ⟨wl_209, List.forall_mem_cons.mpr ⟨wl_210, List.forall_mem_cons.mpr ⟨wl_211, List.forall_mem_cons.mpr ⟨wl_212, List.forall_mem_cons.mpr ⟨wl_213, List.forall_mem_cons.mpr ⟨wl_214, List.forall_mem_cons.mpr ⟨wl_215, List.forall_mem_cons.mpr ⟨wl_216, List.forall_mem_cons.mpr ⟨wl_217, List.forall_mem_cons.mpr ⟨wl_218, List.forall_mem_cons.mpr ⟨wl_219, List.forall_mem_cons.mpr ⟨wl_220, List.forall_mem_cons.mpr ⟨wl_221, List.forall_mem_cons.mpr ⟨wl_222, List.forall_mem_cons.mpr ⟨wl_223, List.forall_mem_cons.mpr ⟨wl_224, List.forall_mem_cons.mpr ⟨wl_225, List.forall_mem_cons.mpr ⟨wl_226, List.forall_mem_cons.mpr ⟨wl_227, List.forall_mem_cons.mpr ⟨wl_228, List.forall_mem_cons.mpr ⟨wl_229, List.forall_mem_cons.mpr ⟨wl_230, List.forall_mem_cons.mpr ⟨wl_231, List.forall_mem_cons.mpr ⟨wl_232, List.forall_mem_cons.mpr ⟨wl_233, List.forall_mem_cons.mpr ⟨wl_234, List.forall_mem_cons.mpr ⟨wl_235, List.forall_mem_cons.mpr ⟨wl_236, List.forall_mem_cons.mpr ⟨wl_237, List.forall_mem_cons.mpr ⟨wl_238, List.forall_mem_cons.mpr ⟨wl_239, fun _ h => absurd h List.not_mem_nil⟩⟩⟩⟩⟩⟩⟩⟩⟩⟩⟩⟩⟩⟩⟩⟩⟩⟩⟩⟩⟩⟩⟩⟩⟩⟩⟩⟩⟩⟩⟩⟩⟩⟩⟩⟩⟩⟩⟩⟩
set_option maxRecDepth 100000 in
theorem tb_g5 : tb_5.all goodWord = true := by decide +kernel
theorem tb_h5 : GoodIn lw_tbl tb_5 := fun w h => ⟨tb_s5 w h, good_of_word (List.all_eq_true.mp tb_g5 w h)⟩
set_option maxRecDepth 100000 in
theorem tb_s6 : ∀ w ∈ tb_6, w ∈ lw_tbl := List.forall_mem_cons.mpr ⟨wl_240, List.forall_mem_cons.mpr ⟨wl_241, List.forall_mem_cons.mpr ⟨wl_242, List.forall_mem_cons.mpr ⟨wl_243, List.forall_mem_cons.mpr ⟨wl_244, List.forall_mem_cons.mpr ⟨wl_245, List.forall_mem_cons.mpr ⟨wl_246, List.forall_mem_cons.mpr ⟨wl_247, List.forall_mem_cons.mpr ⟨wl_248, List.forall_mem_cons.mpr ⟨wl_249, List.forall_mem_cons.mpr ⟨wl_250, List.forall_mem_cons.mpr ⟨wl_251, List.forall_mem_cons.mpr ⟨wl_252, List.forall_mem_cons.mpr ⟨wl_253, List.forall_mem_cons.mpr ⟨wl_254, List.forall_mem_cons.mpr ⟨wl_255, List.forall_mem_cons.mpr ⟨wl_256, List.forall_mem_cons.mpr ⟨wl_257, List.forall_mem_cons.mpr ⟨wl_258, List.forall_mem_cons.mpr ⟨wl_259, List.forall_mem_cons.mpr ⟨wl_260, List.forall_mem_cons.mpr ⟨wl_261, List.forall_mem_cons.mpr ⟨wl_262, List.forall_mem_cons.mpr ⟨wl_263, List.forall_mem_cons.mpr ⟨wl_264, List.forall_mem_cons.mpr ⟨wl_265, List.forall_mem_cons.mpr ⟨wl_266, List.forall_mem_cons.mpr ⟨wl_267, List.forall_mem_cons.mpr ⟨wl_268, List.forall_mem_cons.mpr ⟨wl_269, List.forall_mem_cons.mpr ⟨wl_270, List.forall_mem_cons.mpr ⟨wl_271, List.forall_mem_cons.mpr ⟨wl_272, List.forall_mem_cons.mpr ⟨wl_273, List.forall_mem_cons.mpr ⟨wl_274, List.forall_mem_cons.mpr ⟨wl_275, List.forall_mem_cons.mpr ⟨wl_276, List.forall_mem_cons.mpr ⟨wl_277, List.forall_mem_cons.mpr ⟨wl_278, List.forall_mem_cons.mpr ⟨wl_279, fun _ h => absurd h List.not_mem_nil⟩⟩⟩⟩⟩⟩⟩⟩⟩⟩⟩⟩⟩⟩⟩⟩⟩⟩⟩⟩⟩⟩⟩⟩⟩⟩⟩⟩⟩⟩⟩⟩⟩⟩⟩⟩⟩⟩⟩⟩
set_option maxRecDepth 100000 in
theorem tb_g6 : tb_6.all goodWord = true := by decide +kernel
theorem tb_h6 : GoodIn lw_tbl tb_6 := fun w h => ⟨tb_s6 w h, good_of_word (List.all_eq_true.mp tb_g6 w h)⟩
set_option maxRecDepth 100000 in
theorem tb_s7 : ∀ w ∈ tb_7, w ∈ lw_tbl := List.forall_mem_cons.mpr ⟨wl_280, List.forall_mem_cons.mpr ⟨wl_281, List.forall_mem_cons.mpr ⟨wl_282, List.forall_mem_cons.mpr ⟨wl_283, List.forall_mem_cons.mpr ⟨wl_284, List.forall_mem_cons.mpr ⟨wl_285, List.forall_mem_cons.mpr ⟨wl_286, List.forall_mem_cons.mpr ⟨wl_287, List.forall_mem_cons.mpr ⟨wl_288, List.forall_mem_cons.mpr ⟨wl_289, List.forall_mem_cons.mpr ⟨wl_290, List.forall_mem_cons.mpr ⟨wl_291, List.forall_mem_cons.mpr ⟨wl_292, List.forall_mem_cons.mpr ⟨wl_293, List.forall_mem_cons.mpr ⟨wl_294, List.forall_mem_cons.mpr ⟨wl_295, List.forall_mem_cons.mpr ⟨wl_296, List.forall_mem_cons.mpr ⟨wl_297, List.forall_mem_cons.mpr ⟨wl_298, List.forall_mem_cons.mpr ⟨wl_299, List.forall_mem_cons.mpr ⟨wl_300, List.forall_mem_cons.mpr ⟨wl_301, List.forall_mem_cons.mpr ⟨wl_302, List.forall_mem_cons.mpr ⟨wl_303, List.forall_mem_cons.mpr ⟨wl_304, List.forall_mem_cons.mpr ⟨wl_305, List.forall_mem_cons.mpr ⟨wl_306, List.forall_mem_cons.mpr ⟨wl_307, List.forall_mem_cons.mpr ⟨wl_308, List.forall_mem_cons.mpr ⟨wl_309, List.forall_mem_cons.mpr ⟨wl_310, List.forall_mem_cons.mpr ⟨wl_311, List.forall_mem_cons.mpr ⟨wl_312, List.forall_mem_cons.mpr ⟨wl_313, List.forall_mem_cons.mpr ⟨wl_314, List.forall_mem_cons.mpr ⟨wl_315, List.forall_mem_cons.mpr ⟨wl_316, List.forall_mem_cons.mpr ⟨wl_317, List.forall_mem_cons.mpr ⟨wl_318, List.forall_mem_cons.mpr ⟨wl_319, fun _ h => absurd h List.not_mem_nil⟩⟩⟩⟩⟩⟩⟩⟩⟩⟩⟩⟩⟩⟩⟩⟩⟩⟩⟩⟩⟩⟩⟩⟩⟩⟩⟩⟩⟩⟩⟩⟩⟩⟩⟩⟩⟩⟩⟩⟩
set_option maxRecDepth 100000 in
theorem tb_g7 : tb_7.all goodWord = true := by decide +kernel
theorem tb_h7 : GoodIn lw_tbl tb_7 := fun w h => ⟨tb_s7 w h, good_of_word (List.all_eq_true.mp tb_g7 w h)⟩
set_option maxRecDepth 100000 in
theorem tb_s8 : ∀ w ∈ tb_8, w ∈ lw_tbl := List.forall_mem_cons.mpr ⟨wl_320, List.forall_mem_cons.mpr ⟨wl_321, List.forall_mem_cons.mpr ⟨wl_322, List.forall_mem_cons.mpr ⟨wl_323, List.forall_mem_cons.mpr ⟨wl_324, List.forall_mem_cons.mpr ⟨wl_325, List.forall_mem_cons.mpr ⟨wl_326, List.forall_mem_cons.mpr ⟨wl_327, List.forall_mem_cons.mpr ⟨wl_328, List.forall_mem_cons.mpr ⟨wl_329, List.forall_mem_cons.mpr ⟨wl_330, List.forall_mem_cons.mpr ⟨wl_331, List.forall_mem_cons.mpr ⟨wl_332, List.forall_mem_cons.mpr ⟨wl_333, List.forall_mem_cons.mpr ⟨wl_334, List.forall_mem_cons.mpr ⟨wl_335, List.forall_mem_cons.mpr ⟨wl_336, List.forall_mem_cons.mpr ⟨wl_337, List.forall_mem_cons.mpr ⟨wl_338, List.forall_mem_cons.mpr ⟨wl_339, List.forall_mem_cons.mpr ⟨wl_340, List.forall_mem_cons.mpr ⟨wl_341, List.forall_mem_cons.mpr ⟨wl_342, List.forall_mem_cons.mpr ⟨wl_343, List.forall_mem_cons.mpr ⟨wl_344, List.forall_mem_cons.mpr ⟨wl_345, List.forall_mem_cons.mpr ⟨wl_346, List.forall_mem_cons.mpr ⟨wl_347, List.forall_mem_cons.mpr ⟨wl_348, List.forall_mem_cons.mpr ⟨wl_349, List.forall_mem_cons.mpr ⟨wl_350, List.forall_mem_cons.mpr ⟨wl_351, List.forall_mem_cons.mpr ⟨wl_352, List.forall_mem_cons.mpr ⟨wl_353, List.forall_mem_cons.mpr ⟨wl_354, List.forall_mem_cons.mpr ⟨wl_355, List.forall_mem_cons.mpr ⟨wl_356, List.forall_mem_cons.mpr ⟨wl_357, List.forall_mem_cons.mpr ⟨wl_358, List.forall_mem_cons.mpr ⟨wl_359, fun _ h => absurd h List.not_mem_nil⟩⟩⟩⟩⟩⟩⟩⟩⟩⟩⟩⟩⟩⟩⟩⟩⟩⟩⟩⟩⟩⟩⟩⟩⟩⟩⟩⟩⟩⟩⟩⟩⟩⟩⟩⟩⟩⟩⟩⟩
set_option maxRecDepth 100000 in
theorem tb_g8 : tb_8.all goodWord = true := by decide +kernel
theorem tb_h8 : GoodIn lw_tbl tb_8 := fun w h => ⟨tb_s8 w h, good_of_word (List.all_eq_true.mp tb_g8 w h)⟩
set_option maxRecDepth 100000 in
theorem tb_s9 : ∀ w ∈ tb_9, w ∈ lw_tbl := List.forall_mem_cons.mpr ⟨wl_360, List.forall_mem_cons.mpr ⟨wl_361, List.forall_mem_cons.mpr ⟨wl_362, List.forall_mem_cons.mpr ⟨wl_363, List.forall_mem_cons.mpr ⟨wl_364, List.forall_mem_cons.mpr ⟨wl_365, List.forall_mem_cons.mpr ⟨wl_366, List.forall_mem_cons.mpr ⟨wl_367, List.forall_mem_cons.mpr ⟨wl_368, List.forall_mem_cons.mpr ⟨wl_369, List.forall_mem_cons.mpr ⟨wl_370, List.forall_mem_cons.mpr ⟨wl_371, List.forall_mem_cons.mpr ⟨wl_372, List.forall_mem_cons.mpr ⟨wl_373, List.forall_mem_cons.mpr ⟨wl_374, List.forall_mem_cons.mpr ⟨wl_375, List.forall_mem_cons.mpr ⟨wl_376, List.forall_mem_cons.mpr ⟨wl_377, List.forall_mem_cons.mpr ⟨wl_378, List.forall_mem_cons.mpr ⟨wl_379, List.forall_mem_cons.mpr ⟨wl_380, List.forall_mem_cons.mpr ⟨wl_381, List.forall_mem_cons.mpr ⟨wl_382, List.forall_mem_cons.mpr ⟨wl_383, List.forall_mem_cons.mpr ⟨wl_384, List.forall_mem_cons.mpr ⟨wl_385, List.forall_mem_cons.mpr ⟨wl_386, List.forall_mem_cons.mpr ⟨wl_387, List.forall_mem_cons.mpr ⟨wl_388, List.forall_mem_cons.mpr ⟨wl_389, List.forall_mem_cons.mpr ⟨wl_390, List.forall_mem_cons.mpr ⟨wl_391, List.forall_mem_cons.mpr ⟨wl_392, List.forall_mem_cons.mpr ⟨wl_393, List.forall_mem_cons.mpr ⟨wl_394, List.forall_mem_cons.mpr ⟨wl_395, List.forall_mem_cons.mpr ⟨wl_396, List.forall_mem_cons.mpr ⟨wl_397, List.forall_mem_cons.mpr ⟨wl_398, List.forall_mem_cons.mpr ⟨wl_399, fun _ h => absurd h List.not_mem_nil⟩⟩⟩⟩⟩⟩⟩⟩⟩⟩⟩⟩⟩⟩⟩⟩⟩⟩⟩⟩⟩⟩⟩⟩⟩⟩⟩⟩⟩⟩⟩⟩⟩⟩⟩⟩⟩⟩⟩⟩
set_option maxRecDepth 100000 in
theorem tb_g9 : tb_9.all goodWord = true := by decide +kernel
theorem tb_h9 : GoodIn lw_tbl tb_9 := fun w h => ⟨tb_s9 w h, good_of_word (List.all_eq_true.mp tb_g9 w h)⟩
set_option maxRecDepth 100000 in
theorem tb_s10 : ∀ w ∈ tb_10, w ∈ lw_tbl := List.forall_mem_cons.mpr ⟨wl_400, List.forall_mem_cons.mpr ⟨wl_401, List.forall_mem_cons.mpr ⟨wl_402, List.forall_mem_cons.mpr ⟨wl_403, List.forall_mem_cons.mpr ⟨wl_404, List.forall_mem_cons.mpr ⟨wl_405, List.forall_mem_cons.mpr ⟨wl_406, List.forall_mem_cons.mpr ⟨wl_407, List.forall_mem_cons.mpr ⟨wl_408, List.forall_mem_cons.mpr ⟨wl_409, List.forall_mem_cons.mpr ⟨wl_410, List.forall_mem_cons.mpr ⟨wl_411, List.forall_mem_cons.mpr ⟨wl_412, List.forall_mem_cons.mpr ⟨wl_413, List.forall_mem_cons.mpr ⟨wl_414, List.forall_mem_cons.mpr ⟨wl_415, List.forall_mem_cons.mpr ⟨wl_416, List.forall_mem_cons.mpr ⟨wl_417, List.forall_mem_cons.mpr ⟨wl_418, List.forall_mem_cons.mpr ⟨wl_419, List.forall_mem_cons.mpr ⟨wl_420, List.forall_mem_cons.mpr ⟨wl_421, List.forall_mem_cons.mpr ⟨wl_422, List.forall_mem_cons.mpr ⟨wl_423, List.forall_mem_cons.mpr ⟨wl_424, List.forall_mem_cons.mpr ⟨wl_425, List.forall_mem_cons.mpr ⟨wl_426, List.forall_mem_cons.mpr ⟨wl_427, List.forall_mem_cons.mpr ⟨wl_428, List.forall_mem_cons.mpr ⟨wl_429, List.forall_mem_cons.mpr ⟨wl_430, List.forall_mem_cons.mpr ⟨wl_431, List.forall_mem_cons.mpr ⟨wl_432, List.forall_mem_cons.mpr ⟨wl_433, List.forall_mem_cons.mpr ⟨wl_434, List.forall_mem_cons.mpr ⟨wl_435, List.forall_mem_cons.mpr ⟨wl_436, List.forall_mem_cons.mpr ⟨wl_437, List.forall_mem_cons.mpr ⟨wl_438, List.forall_mem_cons.mpr ⟨wl_439, fun _ h => absurd h List.not_mem_nil⟩⟩⟩⟩⟩⟩⟩⟩⟩⟩⟩⟩⟩⟩⟩⟩⟩⟩⟩⟩⟩⟩⟩⟩⟩⟩⟩⟩⟩⟩⟩⟩⟩⟩⟩⟩⟩⟩⟩⟩
set_option maxRecDepth 100000 in
theorem tb_g10 : tb_10.all goodWord = true := by decide +kernel
theorem tb_h10 : GoodIn lw_tbl tb_10 := fun w h => ⟨tb_s10 w h, good_of_word (List.all_eq_true.mp tb_g10 w h)⟩
set_option maxRecDepth 100000 in
theorem tb_s11 : ∀ w ∈ tb_11, w ∈ lw_tbl := List.forall_mem_cons.mpr ⟨wl_440, List.forall_mem_cons.mpr ⟨wl_441, List.forall_mem_cons.mpr ⟨wl_442, List.forall_mem_cons.mpr ⟨wl_443, List.forall_mem_cons.mpr ⟨wl_444, List.forall_mem_cons.mpr ⟨wl_445, List.forall_mem_cons.mpr ⟨wl_446, List.forall_mem_cons.mpr ⟨wl_447, List.forall_mem_cons.mpr ⟨wl_448, List.forall_mem_cons.mpr ⟨wl_449, List.forall_mem_cons.mpr ⟨wl_450, List.forall_mem_cons.mpr ⟨wl_451, List.forall_mem_cons.mpr ⟨wl_452, List.forall_mem_cons.mpr ⟨wl_453, List.forall_mem_cons.mpr ⟨wl_454, List.forall_mem_cons.mpr ⟨wl_455, List.forall_mem_cons.mpr ⟨wl_456, List.forall_mem_cons.mpr ⟨wl_457, List.forall_mem_cons.mpr ⟨wl_458, List.forall_mem_cons.mpr ⟨wl_459, List.forall_mem_cons.mpr ⟨wl_460, List.forall_mem_cons.mpr ⟨wl_461, List.forall_mem_cons.mpr ⟨wl_462, List.forall_mem_cons.mpr ⟨wl_463, List.forall_mem_cons.mpr ⟨wl_464, List.forall_mem_cons.mpr ⟨wl_465, List.forall_mem_cons.mpr ⟨wl_466, List.forall_mem_cons.mpr ⟨wl_467, List.forall_mem_cons.mpr ⟨wl_468, List.forall_mem_cons.mpr ⟨wl_469, List.forall_mem_cons.mpr ⟨wl_470, List.forall_mem_cons.mpr ⟨wl_471, List.forall_mem_cons.mpr ⟨wl_472, List.forall_mem_cons.mpr ⟨wl_473, List.forall_mem_cons.mpr ⟨wl_474, List.forall_mem_cons.mpr ⟨wl_475, List.forall_mem_cons.mpr ⟨wl_476, List.forall_mem_cons.mpr ⟨wl_477, List.forall_mem_cons.mpr ⟨wl_478, List.forall_mem_cons.mpr ⟨wl_479, fun _ h => absurd h List.not_mem_nil⟩⟩⟩⟩⟩⟩⟩⟩⟩⟩⟩⟩⟩⟩⟩⟩⟩⟩⟩⟩⟩⟩⟩⟩⟩⟩⟩⟩⟩⟩⟩⟩⟩⟩⟩⟩⟩⟩⟩⟩
set_option maxRecDepth 100000 in
theorem tb_g11 : tb_11.all goodWord = true := by decide +kernel
theorem tb_h11 : GoodIn lw_tbl tb_11 := fun w h => ⟨tb_s11 w h, good_of_word (List.all_eq_true.mp tb_g11 w h)⟩
set_option maxRecDepth 100000 in
theorem tb_s12 : ∀ w ∈ tb_12, w ∈ lw_tbl := List.forall_mem_cons.mpr ⟨wl_480, List.forall_mem_cons.mpr ⟨wl_481, List.forall_mem_cons.mpr ⟨wl_482, List.forall_mem_cons.mpr ⟨wl_483, List.forall_mem_cons.mpr ⟨wl_484, List.forall_mem_cons.mpr ⟨wl_485, List.forall_mem_cons.mpr ⟨wl_486, List.forall_mem_cons.mpr ⟨wl_487, List.forall_mem_cons.mpr ⟨wl_488, List.forall_mem_cons.mpr ⟨wl_489, List.forall_mem_cons.mpr ⟨wl_490, List.forall_mem_cons.mpr ⟨wl_491, List.forall_mem_cons.mpr ⟨wl_492, List.forall_mem_cons.mpr ⟨wl_493, List.forall_mem_cons.mpr ⟨wl_494, List.forall_mem_cons.mpr ⟨wl_495, List.forall_mem_cons.mpr ⟨wl_496, List.forall_mem_cons.mpr ⟨wl_497, List.forall_mem_cons.mpr ⟨wl_498, List.forall_mem_cons.mpr ⟨wl_499, List.forall_mem_cons.mpr ⟨wl_500, List.forall_mem_cons.mpr ⟨wl_501, List.forall_mem_cons.mpr ⟨wl_502, List.forall_mem_cons.mpr ⟨wl_503, List.forall_mem_cons.mpr ⟨wl_504, List.forall_mem_cons.mpr ⟨wl_505, List.forall_mem_cons.mpr ⟨wl_506, List.forall_mem_cons.mpr ⟨wl_507, List.forall_mem_cons.mpr ⟨wl_508, List.forall_mem_cons.mpr ⟨wl_509, List.forall_mem_cons.mpr ⟨wl_510, List.forall_mem_cons.mpr ⟨wl_511, List.forall_mem_cons.mpr ⟨wl_512, List.forall_mem_cons.mpr ⟨wl_513, List.forall_mem_cons.mpr ⟨wl_514, List.forall_mem_cons.mpr ⟨wl_515, List.forall_mem_cons.mpr ⟨wl_516, List.forall_mem_cons.mpr ⟨wl_517, List.forall_mem_cons.mpr ⟨wl_518, List.forall_mem_cons.mpr ⟨wl_519, fun _ h => absurd h List.not_mem_nil⟩⟩⟩⟩⟩⟩⟩⟩⟩⟩⟩⟩⟩⟩⟩⟩⟩⟩⟩⟩⟩⟩⟩⟩⟩⟩⟩⟩⟩⟩⟩⟩⟩⟩⟩⟩⟩⟩⟩⟩
set_option maxRecDepth 100000 in
theorem tb_g12 : tb_12.all goodWord = true := by decide +kernel
theorem tb_h12 : GoodIn lw_tbl tb_12 := fun w h => ⟨tb_s12 w h, good_of_word (List.all_eq_true.mp tb_g12 w h)⟩
set_option maxRecDepth 100000 in
theorem tb_s13 : ∀ w ∈ tb_13, w ∈ lw_tbl := List.forall_mem_cons.mpr ⟨wl_520, List.forall_mem_cons.mpr ⟨wl_521, List.forall_mem_cons.mpr ⟨wl_522, List.forall_mem_cons.mpr ⟨wl_523, List.forall_mem_cons.mpr ⟨wl_524, List.forall_mem_cons.mpr ⟨wl_525, List.forall_mem_cons.mpr ⟨wl_526, List.forall_mem_cons.mpr ⟨wl_527, List.forall_mem_cons.mpr ⟨wl_528, List.forall_mem_cons.mpr ⟨wl_529, List.forall_mem_cons.mpr ⟨wl_530, List.forall_mem_cons.mpr ⟨wl_531, List.forall_mem_cons.mpr ⟨wl_532, List.forall_mem_cons.mpr ⟨wl_533, List.forall_mem_cons.mpr ⟨wl_534, List.forall_mem_cons.mpr ⟨wl_535, List.forall_mem_cons.mpr ⟨wl_536, List.forall_mem_cons.mpr ⟨wl_537, List.forall_mem_cons.mpr ⟨wl_538, List.forall_mem_cons.mpr ⟨wl_539, List.forall_mem_cons.mpr ⟨wl_540, List.forall_mem_cons.mpr ⟨wl_541, List.forall_mem_cons.mpr ⟨wl_542, List.forall_mem_cons.mpr ⟨wl_543, List.forall_mem_cons.mpr ⟨wl_544, List.forall_mem_cons.mpr ⟨wl_545, List.forall_mem_cons.mpr ⟨wl_546, List.forall_mem_cons.mpr ⟨wl_547, List.forall_mem_cons.mpr ⟨wl_548, List.forall_mem_cons.mpr ⟨wl_549, List.forall_mem_cons.mpr ⟨wl_550, List.forall_mem_cons.mpr ⟨wl_551, List.forall_mem_cons.mpr ⟨wl_552, List.forall_mem_cons.mpr ⟨wl_553, List.forall_mem_cons.mpr ⟨wl_554, List.forall_mem_cons.mpr ⟨wl_555, List.forall_mem_cons.mpr ⟨wl_556, List.forall_mem_cons.mpr ⟨wl_557, List.forall_mem_cons.mpr ⟨wl_558, List.forall_mem_cons.mpr ⟨wl_559, fun _ h => absurd h List.not_mem_nil⟩⟩⟩⟩⟩⟩⟩⟩⟩⟩⟩⟩⟩⟩⟩⟩⟩⟩⟩⟩⟩⟩⟩⟩⟩⟩⟩⟩⟩⟩⟩⟩⟩⟩⟩⟩⟩⟩⟩⟩
set_option maxRecDepth 100000 in
theorem tb_g13 : tb_13.all goodWord = true := by decide +kernel
theorem tb_h13 : GoodIn lw_tbl tb_13 := fun w h => ⟨tb_s13 w h, good_of_word (List.all_eq_true.mp tb_g13 w h)⟩
set_option maxRecDepth 100000 in
theorem tb_s14 : ∀ w ∈ tb_14, w ∈ lw_tbl := List.forall_mem_cons.mpr ⟨wl_560, List.forall_mem_cons.mpr ⟨wl_561, List.forall_mem_cons.mpr ⟨wl_562, List.forall_mem_cons.mpr ⟨wl_563, List.forall_mem_cons.mpr ⟨wl_564, List.forall_mem_cons.mpr ⟨wl_565, List.forall_mem_cons.mpr ⟨wl_566, List.forall_mem_cons.mpr ⟨wl_567, List.forall_mem_cons.mpr ⟨wl_568, List.forall_mem_cons.mpr ⟨wl_569, List.forall_mem_cons.mpr ⟨wl_570, List.forall_mem_cons.mpr ⟨wl_571, List.forall_mem_cons.mpr ⟨wl_572, List.forall_mem_cons.mpr ⟨wl_573, List.forall_mem_cons.mpr ⟨wl_574, List.forall_mem_cons.mpr ⟨wl_575, List.forall_mem_cons.mpr ⟨wl_576, List.forall_mem_cons.mpr ⟨wl_577, List.forall_mem_cons.mpr ⟨wl_578, List.forall_mem_cons.mpr ⟨wl_579, List.forall_mem_cons.mpr ⟨wl_580, List.forall_mem_cons.mpr ⟨wl_581, List.forall_mem_cons.mpr ⟨wl_582, List.forall_mem_cons.mpr ⟨wl_583, List.forall_mem_cons.mpr ⟨wl_584, List.forall_mem_cons.mpr ⟨wl_585, List.forall_mem_cons.mpr ⟨wl_586, List.forall_mem_cons.mpr ⟨wl_587, List.forall_mem_cons.mpr ⟨wl_588, List.forall_mem_cons.mpr ⟨wl_589, List.forall_mem_cons.mpr ⟨wl_590, List.forall_mem_cons.mpr ⟨wl_591, List.forall_mem_cons.mpr ⟨wl_592, List.forall_mem_cons.mpr ⟨wl_593, List.forall_mem_cons.mpr ⟨wl_594, List.forall_mem_cons.mpr ⟨wl_595, List.forall_mem_cons.mpr ⟨wl_596, List.forall_mem_cons.mpr ⟨wl_597, List.forall_mem_cons.mpr ⟨wl_598, List.forall_mem_cons.mpr ⟨wl_599, fun _ h => absurd h List.not_mem_nil⟩⟩⟩⟩⟩⟩⟩⟩⟩⟩⟩⟩⟩⟩⟩⟩⟩⟩⟩⟩⟩⟩⟩⟩⟩⟩⟩⟩⟩⟩⟩⟩⟩⟩⟩⟩⟩⟩⟩⟩
set_option maxRecDepth 100000 in
theorem tb_g14 : tb_14.all goodWord = true := by decide +kernel
theorem tb_h14 : GoodIn lw_tbl tb_14 := fun w h => ⟨tb_s14 w h, good_of_word (List.all_eq_true.mp tb_g14 w h)⟩
set_option maxRecDepth 100000 in
theorem tb_s15 : ∀ w ∈ tb_15, w ∈ lw_tbl := List.forall_mem_cons.mpr ⟨wl_600, List.forall_mem_cons.mpr ⟨wl_601, List.forall_mem_cons.mpr ⟨wl_602, List.forall_mem_cons.mpr ⟨wl_603, List.forall_mem_cons.mpr ⟨wl_604, List.forall_mem_cons.mpr ⟨wl_605, List.forall_mem_cons.mpr ⟨wl_606, List.forall_mem_cons.mpr ⟨wl_607, List.forall_mem_cons.mpr ⟨wl_608, List.forall_mem_cons.mpr ⟨wl_609, List.forall_mem_cons.mpr ⟨wl_610, List.forall_mem_cons.mpr ⟨wl_611, List.forall_mem_cons.mpr ⟨wl_612, List.forall_mem_cons.mpr ⟨wl_613, List.forall_mem_cons.mpr ⟨wl_614, List.forall_mem_cons.mpr ⟨wl_615, List.forall_mem_cons.mpr ⟨wl_616, List.forall_mem_cons.mpr ⟨wl_617, List.forall_mem_cons.mpr ⟨wl_618, List.forall_mem_cons.mpr ⟨wl_619, List.forall_mem_cons.mpr ⟨wl_620, List.forall_mem_cons.mpr ⟨wl_621, List.forall_mem_cons.mpr ⟨wl_622, List.forall_mem_cons.mpr ⟨wl_623, List.forall_mem_cons.mpr ⟨wl_624, List.forall_mem_cons.mpr ⟨wl_625, List.forall_mem_cons.mpr ⟨wl_626, List.forall_mem_cons.mpr ⟨wl_627, List.forall_mem_cons.mpr ⟨wl_628, List.forall_mem_cons.mpr ⟨wl_629, List.forall_mem_cons.mpr ⟨wl_630, List.forall_mem_cons.mpr ⟨wl_631, List.forall_mem_cons.mpr ⟨wl_632, List.forall_mem_cons.mpr ⟨wl_633, List.forall_mem_cons.mpr ⟨wl_634, List.forall_mem_cons.mpr ⟨wl_635, List.forall_mem_cons.mpr ⟨wl_636, List.forall_mem_cons.mpr ⟨wl_637, List.forall_mem_cons.mpr ⟨wl_638, List.forall_mem_cons.mpr ⟨wl_639, fun _ h => absurd h List.not_mem_nil⟩⟩⟩⟩⟩⟩⟩⟩⟩⟩⟩⟩⟩⟩⟩⟩⟩⟩⟩⟩⟩⟩⟩⟩⟩⟩⟩⟩⟩⟩⟩⟩⟩⟩⟩⟩⟩⟩⟩⟩
set_option maxRecDepth 100000 in
theorem tb_g15 : tb_15.all goodWord = true := by decide +kernel
theorem tb_h15 : GoodIn lw_tbl tb_15 := fun w h => ⟨tb_s15 w h, good_of_word (List.all_eq_true.mp tb_g15 w h)⟩
set_option maxRecDepth 100000 in
theorem tb_s16 : ∀ w ∈ tb_16, w ∈ lw_tbl := List.forall_mem_cons.mpr ⟨wl_640, List.forall_mem_cons.mpr ⟨wl_641, List.forall_mem_cons.mpr ⟨wl_642, List.forall_mem_cons.mpr ⟨wl_643, List.forall_mem_cons.mpr ⟨wl_644, List.forall_mem_cons.mpr ⟨wl_645, List.forall_mem_cons.mpr ⟨wl_646, List.forall_mem_cons.mpr ⟨wl_647, List.forall_mem_cons.mpr ⟨wl_648, List.forall_mem_cons.mpr ⟨wl_649, List.forall_mem_cons.mpr ⟨wl_650, List.forall_mem_cons.mpr ⟨wl_651, List.forall_mem_cons.mpr ⟨wl_652, List.forall_mem_cons.mpr ⟨wl_653, List.forall_mem_cons.mpr ⟨wl_654, List.forall_mem_cons.mpr ⟨wl_655, List.forall_mem_cons.mpr ⟨wl_656, List.forall_mem_cons.mpr ⟨wl_657, List.forall_mem_cons.mpr ⟨wl_658, List.forall_mem_cons.mpr ⟨wl_659, List.forall_mem_cons.mpr ⟨wl_660, List.forall_mem_cons.mpr ⟨wl_661, List.forall_mem_cons.mpr ⟨wl_662, List.forall_mem_cons.mpr ⟨wl_663, List.forall_mem_cons.mpr ⟨wl_664, List.forall_mem_cons.mpr ⟨wl_665, List.forall_mem_cons.mpr ⟨wl_666, List.forall_mem_cons.mpr ⟨wl_667, List.forall_mem_cons.mpr ⟨wl_668, List.forall_mem_cons.mpr ⟨wl_669, List.forall_mem_cons.mpr ⟨wl_670, List.forall_mem_cons.mpr ⟨wl_671, List.forall_mem_cons.mpr ⟨wl_672, List.forall_mem_cons.mpr ⟨wl_673, List.forall_mem_cons.mpr ⟨wl_674, List.forall_mem_cons.mpr ⟨wl_675, List.forall_mem_cons.mpr ⟨wl_676, List.forall_mem_cons.mpr ⟨wl_677, List.forall_mem_cons.mpr ⟨wl_678, List.forall_mem_cons.mpr ⟨wl_679, fun _ h => absurd h List.not_mem_nil⟩⟩⟩⟩⟩⟩⟩⟩⟩⟩⟩⟩⟩⟩⟩⟩⟩⟩⟩⟩⟩⟩⟩⟩⟩⟩⟩⟩⟩⟩⟩⟩⟩⟩⟩⟩⟩⟩⟩⟩
set_option maxRecDepth 100000 in
theorem tb_g16 : tb_16.all goodWord = true := by decide +kernel
theorem tb_h16 : GoodIn lw_tbl tb_16 := fun w h => ⟨tb_s16 w h, good_of_word (List.all_eq_true.mp tb_g16 w h)⟩
set_option maxRecDepth 100000 in
theorem tb_s17 : ∀ w ∈ tb_17, w ∈ lw_tbl := List.forall_mem_cons.mpr ⟨wl_680, List.forall_mem_cons.mpr ⟨wl_681, List.forall_mem_cons.mpr ⟨wl_682, List.forall_mem_cons.mpr ⟨wl_683, List.forall_mem_cons.mpr ⟨wl_684, List.forall_mem_cons.mpr ⟨wl_685, List.forall_mem_cons.mpr ⟨wl_686, fun _ h => absurd h List.not_mem_nil⟩⟩⟩⟩⟩⟩⟩
set_option maxRecDepth 100000 in
theorem tb_g17 : tb_17.all goodWord = true := by decide +kernel
theorem tb_h17 : GoodIn lw_tbl tb_17 := fun w h => ⟨tb_s17 w h, good_of_word (List.all_eq_true.mp tb_g17 w h)⟩
theorem good_ap {big a b : List Cond} (ha : GoodIn big a) (hb : GoodIn big b) : GoodIn big (a ++ b) := fun w h => (List.mem_append.mp h).elim (ha w) (hb w)
theorem tb_good : GoodIn lw_tbl tb := good_ap tb_h0 (good_ap tb_h1 (good_ap tb_h2 (good_ap tb_h3 (good_ap tb_h4 (good_ap tb_h5 (good_ap tb_h6 (good_ap tb_h7 (good_ap tb_h8 (good_ap tb_h9 (good_ap tb_h10 (good_ap tb_h11 (good_ap tb_h12 (good_ap tb_h13 (good_ap tb_h14 (good_ap tb_h15 (good_ap tb_h16 tb_h17))))))))))))))))
theorem hG : GoodIn tb tb := fun w h => ⟨h, (tb_good w h).2⟩
abbrev vwcl : List vw_C := [(R_SB, F_SB, 6), (R_ByteRow, F_ByteRow, 3), (R_Fault, F_Fault, 2), (R_Function, F_Function, 11), (R_Handler, F_Handler, 5), (R_Program, F_Program, 2), (R_Reader, F_Reader, 3), (R_Verifier, F_Verifier, 11), (R_Mo, F_Mo, 29)]
abbrev artys : List FieldType := [.int, .int, .int, .int, .int, .int, .boolean, .byte, .object "StackBytes$Function", .object "StackBytes$Handler", .int, .int, .int, .int, .int, .int, .int, .int, .int, .int, .int, .int, .int, .int, .boolean, .int, .int, .int, .boolean]
abbrev nestw : List (String × Nat × MethodName × String) := [(R_SB, 30, y_Verifier_init, "StackBytes"), (R_Function, 34, y_Handler_init, "StackBytes")]
abbrev aoverw : List String := ["StackBytes$Function", "StackBytes$Handler"]
abbrev gg (D : va_G) (dA : Nat → ClassId) : hc_G := (D, dA, vwcl, artys, nestw, aoverw)
theorem nq_SB_30 : (R_SB, 30, y_Verifier_init, "StackBytes") ∈ nestw := List.mem_of_getElem? (i := 0) rfl
theorem nq_Function_34 : (R_Function, 34, y_Handler_init, "StackBytes") ∈ nestw := List.mem_of_getElem? (i := 1) rfl
set_option maxRecDepth 100000 in
theorem cf_SB : hc_cls tb vwcl 0 R_SB F_SB 6 t_SB := ⟨rfl, show ∀ w ∈ ([.laysFinal R_SB "StackBytes" "bytes" "LStackBytes$ByteRow;", .laysFinal R_SB "StackBytes" "written" "LStackBytes$ByteRow;", .laysFinal R_SB "StackBytes" "latest" "LStackBytes$Fault;", .laysFinal R_SB "StackBytes" "verifier" "LStackBytes$Verifier;", .lays R_SB "StackBytes" "program" "LStackBytes$Program;", .lays R_SB "StackBytes" "spare" "LStackBytes$Program;"] : List Cond), w ∈ tb from List.forall_mem_cons.mpr ⟨wq_615, List.forall_mem_cons.mpr ⟨wq_616, List.forall_mem_cons.mpr ⟨wq_617, List.forall_mem_cons.mpr ⟨wq_618, List.forall_mem_cons.mpr ⟨wq_619, List.forall_mem_cons.mpr ⟨wq_620, fun _ h => absurd h List.not_mem_nil⟩⟩⟩⟩⟩⟩, by decide +kernel, by decide +kernel⟩
set_option maxRecDepth 100000 in
theorem cf_ByteRow : hc_cls tb vwcl 1 R_ByteRow F_ByteRow 3 t_ByteRow := ⟨rfl, show ∀ w ∈ ([.laysFinal R_ByteRow "StackBytes$ByteRow" "most" "I", .lays R_ByteRow "StackBytes$ByteRow" "row" "[B", .lays R_ByteRow "StackBytes$ByteRow" "count" "I"] : List Cond), w ∈ tb from List.forall_mem_cons.mpr ⟨wq_621, List.forall_mem_cons.mpr ⟨wq_622, List.forall_mem_cons.mpr ⟨wq_623, fun _ h => absurd h List.not_mem_nil⟩⟩⟩, by decide +kernel, by decide +kernel⟩
set_option maxRecDepth 100000 in
theorem cf_Fault : hc_cls tb vwcl 2 R_Fault F_Fault 2 t_Fault := ⟨rfl, show ∀ w ∈ ([.lays R_Fault "StackBytes$Fault" "kind" "I", .lays R_Fault "StackBytes$Fault" "place" "I"] : List Cond), w ∈ tb from List.forall_mem_cons.mpr ⟨wq_624, List.forall_mem_cons.mpr ⟨wq_625, fun _ h => absurd h List.not_mem_nil⟩⟩, by decide +kernel, by decide +kernel⟩
set_option maxRecDepth 100000 in
theorem cf_Function : hc_cls tb vwcl 3 R_Function F_Function 11 t_Function := ⟨rfl, show ∀ w ∈ ([.lays R_Function "StackBytes$Function" "params" "I", .lays R_Function "StackBytes$Function" "locals" "I", .lays R_Function "StackBytes$Function" "rowLocals" "I", .lays R_Function "StackBytes$Function" "result" "I", .lays R_Function "StackBytes$Function" "count" "I", .lays R_Function "StackBytes$Function" "handlerCount" "I", .laysFinal R_Function "StackBytes$Function" "ops" "[I", .laysFinal R_Function "StackBytes$Function" "behinds" "[I", .laysFinal R_Function "StackBytes$Function" "depths" "[I", .laysFinal R_Function "StackBytes$Function" "rowsOnStack" "[I", .laysFinal R_Function "StackBytes$Function" "handlers" "[LStackBytes$Handler;"] : List Cond), w ∈ tb from List.forall_mem_cons.mpr ⟨wq_626, List.forall_mem_cons.mpr ⟨wq_627, List.forall_mem_cons.mpr ⟨wq_628, List.forall_mem_cons.mpr ⟨wq_629, List.forall_mem_cons.mpr ⟨wq_630, List.forall_mem_cons.mpr ⟨wq_631, List.forall_mem_cons.mpr ⟨wq_632, List.forall_mem_cons.mpr ⟨wq_633, List.forall_mem_cons.mpr ⟨wq_634, List.forall_mem_cons.mpr ⟨wq_635, List.forall_mem_cons.mpr ⟨wq_636, fun _ h => absurd h List.not_mem_nil⟩⟩⟩⟩⟩⟩⟩⟩⟩⟩⟩, by decide +kernel, by decide +kernel⟩
set_option maxRecDepth 100000 in
theorem cf_Handler : hc_cls tb vwcl 4 R_Handler F_Handler 5 t_Handler := ⟨rfl, show ∀ w ∈ ([.lays R_Handler "StackBytes$Handler" "from" "I", .lays R_Handler "StackBytes$Handler" "to" "I", .lays R_Handler "StackBytes$Handler" "target" "I", .lays R_Handler "StackBytes$Handler" "forAny" "Z", .lays R_Handler "StackBytes$Handler" "code" "I"] : List Cond), w ∈ tb from List.forall_mem_cons.mpr ⟨wq_637, List.forall_mem_cons.mpr ⟨wq_638, List.forall_mem_cons.mpr ⟨wq_639, List.forall_mem_cons.mpr ⟨wq_640, List.forall_mem_cons.mpr ⟨wq_641, fun _ h => absurd h List.not_mem_nil⟩⟩⟩⟩⟩, by decide +kernel, by decide +kernel⟩
set_option maxRecDepth 100000 in
theorem cf_Program : hc_cls tb vwcl 5 R_Program F_Program 2 t_Program := ⟨rfl, show ∀ w ∈ ([.laysFinal R_Program "StackBytes$Program" "functions" "[LStackBytes$Function;", .lays R_Program "StackBytes$Program" "count" "I"] : List Cond), w ∈ tb from List.forall_mem_cons.mpr ⟨wq_642, List.forall_mem_cons.mpr ⟨wq_643, fun _ h => absurd h List.not_mem_nil⟩⟩, by decide +kernel, by decide +kernel⟩
set_option maxRecDepth 100000 in
theorem cf_Reader : hc_cls tb vwcl 6 R_Reader F_Reader 3 t_Reader := ⟨rfl, show ∀ w ∈ ([.laysFinal R_Reader "StackBytes$Reader" "in" "LStackBytes$ByteRow;", .laysFinal R_Reader "StackBytes$Reader" "fault" "LStackBytes$Fault;", .lays R_Reader "StackBytes$Reader" "at" "I"] : List Cond), w ∈ tb from List.forall_mem_cons.mpr ⟨wq_644, List.forall_mem_cons.mpr ⟨wq_645, List.forall_mem_cons.mpr ⟨wq_646, fun _ h => absurd h List.not_mem_nil⟩⟩⟩, by decide +kernel, by decide +kernel⟩
set_option maxRecDepth 100000 in
theorem cf_Verifier : hc_cls tb vwcl 7 R_Verifier F_Verifier 11 t_Verifier := ⟨rfl, show ∀ w ∈ ([.laysFinal R_Verifier "StackBytes$Verifier" "depths" "[I", .laysFinal R_Verifier "StackBytes$Verifier" "rowsOnStack" "[I", .laysFinal R_Verifier "StackBytes$Verifier" "waits" "[Z", .lays R_Verifier "StackBytes$Verifier" "leastWaiting" "I", .lays R_Verifier "StackBytes$Verifier" "program" "LStackBytes$Program;", .lays R_Verifier "StackBytes$Verifier" "function" "LStackBytes$Function;", .lays R_Verifier "StackBytes$Verifier" "fault" "LStackBytes$Fault;", .lays R_Verifier "StackBytes$Verifier" "firstPlace" "I", .lays R_Verifier "StackBytes$Verifier" "current" "I", .lays R_Verifier "StackBytes$Verifier" "depth" "I", .lays R_Verifier "StackBytes$Verifier" "rows" "I"] : List Cond), w ∈ tb from List.forall_mem_cons.mpr ⟨wq_647, List.forall_mem_cons.mpr ⟨wq_648, List.forall_mem_cons.mpr ⟨wq_649, List.forall_mem_cons.mpr ⟨wq_650, List.forall_mem_cons.mpr ⟨wq_651, List.forall_mem_cons.mpr ⟨wq_652, List.forall_mem_cons.mpr ⟨wq_653, List.forall_mem_cons.mpr ⟨wq_654, List.forall_mem_cons.mpr ⟨wq_655, List.forall_mem_cons.mpr ⟨wq_656, List.forall_mem_cons.mpr ⟨wq_657, fun _ h => absurd h List.not_mem_nil⟩⟩⟩⟩⟩⟩⟩⟩⟩⟩⟩, by decide +kernel, by decide +kernel⟩
set_option maxRecDepth 100000 in
theorem cf_Mo : hc_cls tb vwcl 8 R_Mo F_Mo 29 t_Mo := ⟨rfl, show ∀ w ∈ ([.lays R_Mo "StackBytesModel" "thrown" "I", .laysFinal R_Mo "StackBytesModel" "bytes" "[I", .lays R_Mo "StackBytesModel" "many" "I", .laysFinal R_Mo "StackBytesModel" "written" "[I", .lays R_Mo "StackBytesModel" "writtenMany" "I", .lays R_Mo "StackBytesModel" "fault" "I", .lays R_Mo "StackBytesModel" "place" "I", .lays R_Mo "StackBytesModel" "bad" "I", .lays R_Mo "StackBytesModel" "where" "I", .laysFinal R_Mo "StackBytesModel" "functions" "[I", .laysFinal R_Mo "StackBytesModel" "params" "[I", .laysFinal R_Mo "StackBytesModel" "locals" "[I", .laysFinal R_Mo "StackBytesModel" "rowBits" "[I", .laysFinal R_Mo "StackBytesModel" "results" "[I", .laysFinal R_Mo "StackBytesModel" "sizes" "[I", .laysFinal R_Mo "StackBytesModel" "handlerMany" "[I", .laysFinal R_Mo "StackBytesModel" "ops" "[I", .laysFinal R_Mo "StackBytesModel" "operands" "[I", .laysFinal R_Mo "StackBytesModel" "froms" "[I", .laysFinal R_Mo "StackBytesModel" "tos" "[I", .laysFinal R_Mo "StackBytesModel" "targets" "[I", .laysFinal R_Mo "StackBytesModel" "anyCode" "[Z", .laysFinal R_Mo "StackBytesModel" "handlerCodes" "[I", .laysFinal R_Mo "StackBytesModel" "heights" "[I", .laysFinal R_Mo "StackBytesModel" "kinds" "[I", .laysFinal R_Mo "StackBytesModel" "waits" "[Z", .lays R_Mo "StackBytesModel" "p" "I", .lays R_Mo "StackBytesModel" "height" "I", .lays R_Mo "StackBytesModel" "kind" "I"] : List Cond), w ∈ tb from List.forall_mem_cons.mpr ⟨wq_658, List.forall_mem_cons.mpr ⟨wq_659, List.forall_mem_cons.mpr ⟨wq_660, List.forall_mem_cons.mpr ⟨wq_661, List.forall_mem_cons.mpr ⟨wq_662, List.forall_mem_cons.mpr ⟨wq_663, List.forall_mem_cons.mpr ⟨wq_664, List.forall_mem_cons.mpr ⟨wq_665, List.forall_mem_cons.mpr ⟨wq_666, List.forall_mem_cons.mpr ⟨wq_667, List.forall_mem_cons.mpr ⟨wq_668, List.forall_mem_cons.mpr ⟨wq_669, List.forall_mem_cons.mpr ⟨wq_670, List.forall_mem_cons.mpr ⟨wq_671, List.forall_mem_cons.mpr ⟨wq_672, List.forall_mem_cons.mpr ⟨wq_673, List.forall_mem_cons.mpr ⟨wq_674, List.forall_mem_cons.mpr ⟨wq_675, List.forall_mem_cons.mpr ⟨wq_676, List.forall_mem_cons.mpr ⟨wq_677, List.forall_mem_cons.mpr ⟨wq_678, List.forall_mem_cons.mpr ⟨wq_679, List.forall_mem_cons.mpr ⟨wq_680, List.forall_mem_cons.mpr ⟨wq_681, List.forall_mem_cons.mpr ⟨wq_682, List.forall_mem_cons.mpr ⟨wq_683, List.forall_mem_cons.mpr ⟨wq_684, List.forall_mem_cons.mpr ⟨wq_685, List.forall_mem_cons.mpr ⟨wq_686, fun _ h => absurd h List.not_mem_nil⟩⟩⟩⟩⟩⟩⟩⟩⟩⟩⟩⟩⟩⟩⟩⟩⟩⟩⟩⟩⟩⟩⟩⟩⟩⟩⟩⟩⟩, by decide +kernel, by decide +kernel⟩
