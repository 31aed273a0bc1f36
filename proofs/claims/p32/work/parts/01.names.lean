-- ===== PART A: goes FIRST, ahead of the names: the tables' words, and 'selects' of the private methods out of them =====
/-- a private method of a class that the tables say can be made, by its rows of tables_1 -/
def lw_okq (q : MethodName × Nat) : Prop := (q.1.cls ≠ "java/lang/invoke/MethodHandle" ∧ q.1.cls ≠ "java/lang/invoke/VarHandle") ∧ Cond.instantiable q.1.cls q.2 ∈ tables_1 ∧ Cond.privateMethod q.1 ∈ tables_1 ∧ Cond.instanceMethod q.1 ∈ tables_1
theorem lw_p0 : lw_okq (⟨"LeaningRicks", "hold", "()V"⟩, 11) := ⟨⟨by decide +kernel, by decide +kernel⟩, List.mem_of_getElem? (i := 16) (by decide +kernel), List.mem_of_getElem? (i := 162) (by decide +kernel), List.mem_of_getElem? (i := 163) (by decide +kernel)⟩
theorem lw_p1 : lw_okq (⟨"LeaningRicks", "beforeNow", "()LLeaningRicks$Yard;"⟩, 11) := ⟨⟨by decide +kernel, by decide +kernel⟩, List.mem_of_getElem? (i := 16) (by decide +kernel), List.mem_of_getElem? (i := 166) (by decide +kernel), List.mem_of_getElem? (i := 167) (by decide +kernel)⟩
theorem lw_p2 : lw_okq (⟨"LeaningRicks", "putNow", "(III)I"⟩, 11) := ⟨⟨by decide +kernel, by decide +kernel⟩, List.mem_of_getElem? (i := 16) (by decide +kernel), List.mem_of_getElem? (i := 185) (by decide +kernel), List.mem_of_getElem? (i := 186) (by decide +kernel)⟩
theorem lw_p3 : lw_okq (⟨"LeaningRicks", "refuse", "(II)I"⟩, 11) := ⟨⟨by decide +kernel, by decide +kernel⟩, List.mem_of_getElem? (i := 16) (by decide +kernel), List.mem_of_getElem? (i := 198) (by decide +kernel), List.mem_of_getElem? (i := 199) (by decide +kernel)⟩
theorem lw_p4 : lw_okq (⟨"LeaningRicks$Rick", "set", "(IIII)V"⟩, 5) := ⟨⟨by decide +kernel, by decide +kernel⟩, List.mem_of_getElem? (i := 31) (by decide +kernel), List.mem_of_getElem? (i := 221) (by decide +kernel), List.mem_of_getElem? (i := 222) (by decide +kernel)⟩
theorem lw_p5 : lw_okq (⟨"LeaningRicks$Rick", "setDepth", "(II)V"⟩, 5) := ⟨⟨by decide +kernel, by decide +kernel⟩, List.mem_of_getElem? (i := 31) (by decide +kernel), List.mem_of_getElem? (i := 257) (by decide +kernel), List.mem_of_getElem? (i := 258) (by decide +kernel)⟩
theorem lw_p6 : lw_okq (⟨"LeaningRicks", "keep", "(I)I"⟩, 11) := ⟨⟨by decide +kernel, by decide +kernel⟩, List.mem_of_getElem? (i := 16) (by decide +kernel), List.mem_of_getElem? (i := 261) (by decide +kernel), List.mem_of_getElem? (i := 262) (by decide +kernel)⟩
theorem lw_p7 : lw_okq (⟨"LeaningRicks", "takeNow", "(II)I"⟩, 11) := ⟨⟨by decide +kernel, by decide +kernel⟩, List.mem_of_getElem? (i := 16) (by decide +kernel), List.mem_of_getElem? (i := 272) (by decide +kernel), List.mem_of_getElem? (i := 273) (by decide +kernel)⟩
theorem lw_p8 : lw_okq (⟨"LeaningRicks$Rick", "raise", "(II)V"⟩, 5) := ⟨⟨by decide +kernel, by decide +kernel⟩, List.mem_of_getElem? (i := 31) (by decide +kernel), List.mem_of_getElem? (i := 281) (by decide +kernel), List.mem_of_getElem? (i := 282) (by decide +kernel)⟩
theorem lw_p9 : lw_okq (⟨"LeaningRicks", "buildWhole", "(LLeaningRicks$Rick;)I"⟩, 11) := ⟨⟨by decide +kernel, by decide +kernel⟩, List.mem_of_getElem? (i := 16) (by decide +kernel), List.mem_of_getElem? (i := 285) (by decide +kernel), List.mem_of_getElem? (i := 286) (by decide +kernel)⟩
theorem lw_p10 : lw_okq (⟨"LeaningRicks", "buildNow", "(I)I"⟩, 11) := ⟨⟨by decide +kernel, by decide +kernel⟩, List.mem_of_getElem? (i := 16) (by decide +kernel), List.mem_of_getElem? (i := 297) (by decide +kernel), List.mem_of_getElem? (i := 298) (by decide +kernel)⟩
theorem lw_p11 : lw_okq (⟨"LeaningRicks", "limitNow", "(I)I"⟩, 11) := ⟨⟨by decide +kernel, by decide +kernel⟩, List.mem_of_getElem? (i := 16) (by decide +kernel), List.mem_of_getElem? (i := 305) (by decide +kernel), List.mem_of_getElem? (i := 306) (by decide +kernel)⟩
theorem lw_p12 : lw_okq (⟨"LeaningRicks$Orders", "isOrder", "(LLeaningRicks$Row;)Z"⟩, 4) := ⟨⟨by decide +kernel, by decide +kernel⟩, List.mem_of_getElem? (i := 105) (by decide +kernel), List.mem_of_getElem? (i := 323) (by decide +kernel), List.mem_of_getElem? (i := 324) (by decide +kernel)⟩
theorem lw_p13 : lw_okq (⟨"LeaningRicks$Orders", "isCode", "(LLeaningRicks$Row;I)Z"⟩, 4) := ⟨⟨by decide +kernel, by decide +kernel⟩, List.mem_of_getElem? (i := 105) (by decide +kernel), List.mem_of_getElem? (i := 331) (by decide +kernel), List.mem_of_getElem? (i := 332) (by decide +kernel)⟩
theorem lw_p14 : lw_okq (⟨"LeaningRicks$Orders", "isNumber", "(LLeaningRicks$Row;II)Z"⟩, 4) := ⟨⟨by decide +kernel, by decide +kernel⟩, List.mem_of_getElem? (i := 105) (by decide +kernel), List.mem_of_getElem? (i := 335) (by decide +kernel), List.mem_of_getElem? (i := 336) (by decide +kernel)⟩
theorem lw_p15 : lw_okq (⟨"LeaningRicks", "carryOut", "(I)I"⟩, 11) := ⟨⟨by decide +kernel, by decide +kernel⟩, List.mem_of_getElem? (i := 16) (by decide +kernel), List.mem_of_getElem? (i := 346) (by decide +kernel), List.mem_of_getElem? (i := 347) (by decide +kernel)⟩
def lw_privs_1 : List (MethodName × Nat) := [(⟨"LeaningRicks", "hold", "()V"⟩, 11), (⟨"LeaningRicks", "beforeNow", "()LLeaningRicks$Yard;"⟩, 11), (⟨"LeaningRicks", "putNow", "(III)I"⟩, 11), (⟨"LeaningRicks", "refuse", "(II)I"⟩, 11), (⟨"LeaningRicks$Rick", "set", "(IIII)V"⟩, 5), (⟨"LeaningRicks$Rick", "setDepth", "(II)V"⟩, 5), (⟨"LeaningRicks", "keep", "(I)I"⟩, 11), (⟨"LeaningRicks", "takeNow", "(II)I"⟩, 11), (⟨"LeaningRicks$Rick", "raise", "(II)V"⟩, 5), (⟨"LeaningRicks", "buildWhole", "(LLeaningRicks$Rick;)I"⟩, 11), (⟨"LeaningRicks", "buildNow", "(I)I"⟩, 11), (⟨"LeaningRicks", "limitNow", "(I)I"⟩, 11), (⟨"LeaningRicks$Orders", "isOrder", "(LLeaningRicks$Row;)Z"⟩, 4), (⟨"LeaningRicks$Orders", "isCode", "(LLeaningRicks$Row;I)Z"⟩, 4), (⟨"LeaningRicks$Orders", "isNumber", "(LLeaningRicks$Row;II)Z"⟩, 4), (⟨"LeaningRicks", "carryOut", "(I)I"⟩, 11)]
theorem lw_r1 : ∀ q ∈ lw_privs_1, lw_okq q := List.forall_mem_cons.mpr ⟨lw_p0, List.forall_mem_cons.mpr ⟨lw_p1, List.forall_mem_cons.mpr ⟨lw_p2, List.forall_mem_cons.mpr ⟨lw_p3, List.forall_mem_cons.mpr ⟨lw_p4, List.forall_mem_cons.mpr ⟨lw_p5, List.forall_mem_cons.mpr ⟨lw_p6, List.forall_mem_cons.mpr ⟨lw_p7, List.forall_mem_cons.mpr ⟨lw_p8, List.forall_mem_cons.mpr ⟨lw_p9, List.forall_mem_cons.mpr ⟨lw_p10, List.forall_mem_cons.mpr ⟨lw_p11, List.forall_mem_cons.mpr ⟨lw_p12, List.forall_mem_cons.mpr ⟨lw_p13, List.forall_mem_cons.mpr ⟨lw_p14, List.forall_mem_cons.mpr ⟨lw_p15, fun _ h => absurd h List.not_mem_nil⟩⟩⟩⟩⟩⟩⟩⟩⟩⟩⟩⟩⟩⟩⟩⟩
theorem lw_p16 : lw_okq (⟨"LeaningRicks", "pourNow", "(II)I"⟩, 11) := ⟨⟨by decide +kernel, by decide +kernel⟩, List.mem_of_getElem? (i := 16) (by decide +kernel), List.mem_of_getElem? (i := 358) (by decide +kernel), List.mem_of_getElem? (i := 359) (by decide +kernel)⟩
theorem lw_p17 : lw_okq (⟨"LeaningRicks", "giveBack", "()V"⟩, 11) := ⟨⟨by decide +kernel, by decide +kernel⟩, List.mem_of_getElem? (i := 16) (by decide +kernel), List.mem_of_getElem? (i := 362) (by decide +kernel), List.mem_of_getElem? (i := 363) (by decide +kernel)⟩
theorem lw_p18 : lw_okq (⟨"LeaningRicks$Rick", "loadsOfLighter", "(J)I"⟩, 5) := ⟨⟨by decide +kernel, by decide +kernel⟩, List.mem_of_getElem? (i := 31) (by decide +kernel), List.mem_of_getElem? (i := 544) (by decide +kernel), List.mem_of_getElem? (i := 545) (by decide +kernel)⟩
def lw_privs_2 : List (MethodName × Nat) := [(⟨"LeaningRicks", "pourNow", "(II)I"⟩, 11), (⟨"LeaningRicks", "giveBack", "()V"⟩, 11), (⟨"LeaningRicks$Rick", "loadsOfLighter", "(J)I"⟩, 5)]
theorem lw_r2 : ∀ q ∈ lw_privs_2, lw_okq q := List.forall_mem_cons.mpr ⟨lw_p16, List.forall_mem_cons.mpr ⟨lw_p17, List.forall_mem_cons.mpr ⟨lw_p18, fun _ h => absurd h List.not_mem_nil⟩⟩⟩
def lw_privs : List (MethodName × Nat) := lw_privs_1 ++ (lw_privs_2)
def lw_tbl : List Cond := k2_sels lw_privs ++ tables_1
theorem lw_privs_ok : ∀ q ∈ lw_privs, lw_okq q := by
  show ∀ q ∈ lw_privs_1 ++ (lw_privs_2), lw_okq q
  exact List.forall_mem_append.mpr ⟨lw_r1, lw_r2⟩
/-- the streams that the claim lets the run draw from -/
abbrev lw_cs : List Choice := [Jvm.Choice.named "NaN.bits"]
theorem lw_bits : nanBits ∈ lw_cs := by first | decide | exact List.mem_cons_self | simp [lw_cs, nanBits]
def RX0 : String := "LeaningRicks$Orders"
def TX0 : u_T := fun k => match k with
  | 0 => ("LeaningRicks$Orders", "sign", "[I", true)
  | 1 => ("LeaningRicks$Orders", "number", "[I", true)
  | 2 => ("LeaningRicks$Orders", "count", "I", false)
  | _ => ("LeaningRicks$Orders", "index", "I", false)
def tyX0 : Nat → FieldType := fun k => match k with
  | 0 => .array .int
  | 1 => .array .int
  | 2 => .int
  | _ => .int
theorem nmX0 : ∀ a, a < 4 → ∀ b, b < 4 → a ≠ b → (TX0 a).2.1 ≠ (TX0 b).2.1 := by decide +kernel
theorem tyX0_ok : ∀ k, k < 4 → parseFieldDescriptor (TX0 k).2.2.1 = some (tyX0 k) := by decide +kernel
abbrev cX0_init : ByteArray := prog_2_method_1_code
def yX0_init : MethodName := ⟨RX0, "<init>", "()V"⟩
abbrev cX0_signOf : ByteArray := prog_2_method_2_code
def yX0_signOf : MethodName := ⟨RX0, "signOf", "(I)I"⟩
abbrev cX0_numberOf : ByteArray := prog_2_method_3_code
def yX0_numberOf : MethodName := ⟨RX0, "numberOf", "(II)I"⟩
abbrev cX0_read : ByteArray := prog_2_method_4_code
def yX0_read : MethodName := ⟨RX0, "read", "(LLeaningRicks$Row;)I"⟩
abbrev cX0_isOrder : ByteArray := prog_2_method_5_code
def yX0_isOrder : MethodName := ⟨RX0, "isOrder", "(LLeaningRicks$Row;)Z"⟩
abbrev cX0_isCode : ByteArray := prog_2_method_6_code
def yX0_isCode : MethodName := ⟨RX0, "isCode", "(LLeaningRicks$Row;I)Z"⟩
abbrev cX0_isNumber : ByteArray := prog_2_method_7_code
def yX0_isNumber : MethodName := ⟨RX0, "isNumber", "(LLeaningRicks$Row;II)Z"⟩
abbrev cX0_isDigit : ByteArray := prog_2_method_8_code
def yX0_isDigit : MethodName := ⟨RX0, "isDigit", "(I)Z"⟩
def RX1 : String := "LeaningRicks$Rick"
def TX1 : u_T := fun k => match k with
  | 0 => ("LeaningRicks$Rick", "weight", "[I", true)
  | 1 => ("LeaningRicks$Rick", "load", "[I", true)
  | 2 => ("LeaningRicks$Rick", "depth", "[I", true)
  | 3 => ("LeaningRicks$Rick", "count", "I", false)
  | _ => ("LeaningRicks$Rick", "most", "I", false)
def tyX1 : Nat → FieldType := fun k => match k with
  | 0 => .array .int
  | 1 => .array .int
  | 2 => .array .int
  | 3 => .int
  | _ => .int
theorem nmX1 : ∀ a, a < 5 → ∀ b, b < 5 → a ≠ b → (TX1 a).2.1 ≠ (TX1 b).2.1 := by decide +kernel
theorem tyX1_ok : ∀ k, k < 5 → parseFieldDescriptor (TX1 k).2.2.1 = some (tyX1 k) := by decide +kernel
abbrev cX1_init : ByteArray := prog_3_method_1_code
def yX1_init : MethodName := ⟨RX1, "<init>", "()V"⟩
abbrev cX1_isPlace : ByteArray := prog_3_method_2_code
def yX1_isPlace : MethodName := ⟨RX1, "isPlace", "(I)Z"⟩
abbrev cX1_weightAt : ByteArray := prog_3_method_3_code
def yX1_weightAt : MethodName := ⟨RX1, "weightAt", "(I)I"⟩
abbrev cX1_loadAt : ByteArray := prog_3_method_4_code
def yX1_loadAt : MethodName := ⟨RX1, "loadAt", "(I)I"⟩
abbrev cX1_depthAt : ByteArray := prog_3_method_5_code
def yX1_depthAt : MethodName := ⟨RX1, "depthAt", "(I)I"⟩
abbrev cX1_find : ByteArray := prog_3_method_6_code
def yX1_find : MethodName := ⟨RX1, "find", "(I)I"⟩
abbrev cX1_firstOf : ByteArray := prog_3_method_7_code
def yX1_firstOf : MethodName := ⟨RX1, "firstOf", "(I)I"⟩
abbrev cX1_lastOf : ByteArray := prog_3_method_8_code
def yX1_lastOf : MethodName := ⟨RX1, "lastOf", "(I)I"⟩
abbrev cX1_topOf : ByteArray := prog_3_method_9_code
def yX1_topOf : MethodName := ⟨RX1, "topOf", "(II)I"⟩
abbrev cX1_above : ByteArray := prog_3_method_10_code
def yX1_above : MethodName := ⟨RX1, "above", "(I)I"⟩
abbrev cX1_leans : ByteArray := prog_3_method_11_code
def yX1_leans : MethodName := ⟨RX1, "leans", "(II)Z"⟩
abbrev cX1_loadsFrom : ByteArray := prog_3_method_12_code
def yX1_loadsFrom : MethodName := ⟨RX1, "loadsFrom", "(II)I"⟩
abbrev cX1_depths : ByteArray := prog_3_method_13_code
def yX1_depths : MethodName := ⟨RX1, "depths", "()I"⟩
abbrev cX1_greatestDepth : ByteArray := prog_3_method_14_code
def yX1_greatestDepth : MethodName := ⟨RX1, "greatestDepth", "()I"⟩
abbrev cX1_leaning : ByteArray := prog_3_method_15_code
def yX1_leaning : MethodName := ⟨RX1, "leaning", "(I)I"⟩
abbrev cX1_lowest : ByteArray := prog_3_method_16_code
def yX1_lowest : MethodName := ⟨RX1, "lowest", "()I"⟩
abbrev cX1_cartsUpTo : ByteArray := prog_3_method_17_code
def yX1_cartsUpTo : MethodName := ⟨RX1, "cartsUpTo", "(II)I"⟩
abbrev cX1_lighterByParts : ByteArray := prog_3_method_18_code
def yX1_lighterByParts : MethodName := ⟨RX1, "lighterByParts", "(I)I"⟩
abbrev cX1_lighterOneByOne : ByteArray := prog_3_method_19_code
def yX1_lighterOneByOne : MethodName := ⟨RX1, "lighterOneByOne", "(I)I"⟩
abbrev cX1_loadsByParts : ByteArray := prog_3_method_20_code
def yX1_loadsByParts : MethodName := ⟨RX1, "loadsByParts", "(II)I"⟩
abbrev cX1_loadsOfLighter : ByteArray := prog_3_method_21_code
def yX1_loadsOfLighter : MethodName := ⟨RX1, "loadsOfLighter", "(J)I"⟩
abbrev cX1_loadsOneByOne : ByteArray := prog_3_method_22_code
def yX1_loadsOneByOne : MethodName := ⟨RX1, "loadsOneByOne", "(II)I"⟩
abbrev cX1_isInOrder : ByteArray := prog_3_method_23_code
def yX1_isInOrder : MethodName := ⟨RX1, "isInOrder", "()Z"⟩
abbrev cX1_lay : ByteArray := prog_3_method_24_code
def yX1_lay : MethodName := ⟨RX1, "lay", "(II)I"⟩
abbrev cX1_lift : ByteArray := prog_3_method_25_code
def yX1_lift : MethodName := ⟨RX1, "lift", "(I)V"⟩
abbrev cX1_buildPartAbove : ByteArray := prog_3_method_26_code
def yX1_buildPartAbove : MethodName := ⟨RX1, "buildPartAbove", "(II)I"⟩
abbrev cX1_buildWhole : ByteArray := prog_3_method_27_code
def yX1_buildWhole : MethodName := ⟨RX1, "buildWhole", "()I"⟩
abbrev cX1_spread : ByteArray := prog_3_method_28_code
def yX1_spread : MethodName := ⟨RX1, "spread", "(LLeaningRicks$Rick;III)I"⟩
abbrev cX1_raise : ByteArray := prog_3_method_29_code
def yX1_raise : MethodName := ⟨RX1, "raise", "(II)V"⟩
abbrev cX1_set : ByteArray := prog_3_method_30_code
def yX1_set : MethodName := ⟨RX1, "set", "(IIII)V"⟩
abbrev cX1_setDepth : ByteArray := prog_3_method_31_code
def yX1_setDepth : MethodName := ⟨RX1, "setDepth", "(II)V"⟩
abbrev cX1_copyFrom : ByteArray := prog_3_method_32_code
def yX1_copyFrom : MethodName := ⟨RX1, "copyFrom", "(LLeaningRicks$Rick;)V"⟩
def RX2 : String := "LeaningRicks$Row"
def TX2 : u_T := fun k => match k with
  | 0 => ("LeaningRicks$Row", "code", "[I", true)
  | _ => ("LeaningRicks$Row", "length", "I", false)
def tyX2 : Nat → FieldType := fun k => match k with
  | 0 => .array .int
  | _ => .int
theorem nmX2 : ∀ a, a < 2 → ∀ b, b < 2 → a ≠ b → (TX2 a).2.1 ≠ (TX2 b).2.1 := by decide +kernel
theorem tyX2_ok : ∀ k, k < 2 → parseFieldDescriptor (TX2 k).2.2.1 = some (tyX2 k) := by decide +kernel
abbrev cX2_init : ByteArray := prog_4_method_1_code
def yX2_init : MethodName := ⟨RX2, "<init>", "()V"⟩
abbrev cX2_clear : ByteArray := prog_4_method_2_code
def yX2_clear : MethodName := ⟨RX2, "clear", "()V"⟩
abbrev cX2_add : ByteArray := prog_4_method_3_code
def yX2_add : MethodName := ⟨RX2, "add", "(I)Z"⟩
abbrev cX2_addNumber : ByteArray := prog_4_method_4_code
def yX2_addNumber : MethodName := ⟨RX2, "addNumber", "(I)V"⟩
abbrev cX2_codeAt : ByteArray := prog_4_method_5_code
def yX2_codeAt : MethodName := ⟨RX2, "codeAt", "(I)I"⟩
def RX3 : String := "LeaningRicks$Yard"
def TX3 : u_T := fun k => match k with
  | 0 => ("LeaningRicks$Yard", "ricks", "[LLeaningRicks$Rick;", true)
  | 1 => ("LeaningRicks$Yard", "limit", "I", false)
  | 2 => ("LeaningRicks$Yard", "sheavesPut", "I", false)
  | 3 => ("LeaningRicks$Yard", "sheavesTaken", "I", false)
  | 4 => ("LeaningRicks$Yard", "partsBuilt", "I", false)
  | 5 => ("LeaningRicks$Yard", "ricksBuilt", "I", false)
  | 6 => ("LeaningRicks$Yard", "sheavesBuilt", "I", false)
  | _ => ("LeaningRicks$Yard", "ricksPoured", "I", false)
def tyX3 : Nat → FieldType := fun k => match k with
  | 0 => .array (.object "LeaningRicks$Rick")
  | 1 => .int
  | 2 => .int
  | 3 => .int
  | 4 => .int
  | 5 => .int
  | 6 => .int
  | _ => .int
theorem nmX3 : ∀ a, a < 8 → ∀ b, b < 8 → a ≠ b → (TX3 a).2.1 ≠ (TX3 b).2.1 := by decide +kernel
theorem tyX3_ok : ∀ k, k < 8 → parseFieldDescriptor (TX3 k).2.2.1 = some (tyX3 k) := by decide +kernel
abbrev cX3_init : ByteArray := prog_5_method_1_code
def yX3_init : MethodName := ⟨RX3, "<init>", "()V"⟩
abbrev cX3_rickAt : ByteArray := prog_5_method_2_code
def yX3_rickAt : MethodName := ⟨RX3, "rickAt", "(I)LLeaningRicks$Rick;"⟩
abbrev cX3_sheaves : ByteArray := prog_5_method_3_code
def yX3_sheaves : MethodName := ⟨RX3, "sheaves", "()I"⟩
abbrev cX3_loads : ByteArray := prog_5_method_4_code
def yX3_loads : MethodName := ⟨RX3, "loads", "()I"⟩
abbrev cX3_keyAfter : ByteArray := prog_5_method_5_code
def yX3_keyAfter : MethodName := ⟨RX3, "keyAfter", "(I)I"⟩
abbrev cX3_copyFrom : ByteArray := prog_5_method_6_code
def yX3_copyFrom : MethodName := ⟨RX3, "copyFrom", "(LLeaningRicks$Yard;)V"⟩
def RX4 : String := "LeaningRicks"
def TX4 : u_T := fun k => match k with
  | 0 => ("LeaningRicks", "now", "LLeaningRicks$Yard;", true)
  | 1 => ("LeaningRicks", "saved", "LLeaningRicks$Yard;", true)
  | 2 => ("LeaningRicks", "isSaved", "Z", false)
  | 3 => ("LeaningRicks", "past", "[LLeaningRicks$Yard;", true)
  | 4 => ("LeaningRicks", "next", "I", false)
  | 5 => ("LeaningRicks", "undoable", "I", false)
  | 6 => ("LeaningRicks", "text", "LLeaningRicks$Row;", true)
  | 7 => ("LeaningRicks", "line", "LLeaningRicks$Row;", true)
  | 8 => ("LeaningRicks", "orders", "LLeaningRicks$Orders;", true)
  | 9 => ("LeaningRicks", "latestReason", "I", false)
  | _ => ("LeaningRicks", "latestDetail", "I", false)
def tyX4 : Nat → FieldType := fun k => match k with
  | 0 => .object "LeaningRicks$Yard"
  | 1 => .object "LeaningRicks$Yard"
  | 2 => .boolean
  | 3 => .array (.object "LeaningRicks$Yard")
  | 4 => .int
  | 5 => .int
  | 6 => .object "LeaningRicks$Row"
  | 7 => .object "LeaningRicks$Row"
  | 8 => .object "LeaningRicks$Orders"
  | 9 => .int
  | _ => .int
theorem nmX4 : ∀ a, a < 11 → ∀ b, b < 11 → a ≠ b → (TX4 a).2.1 ≠ (TX4 b).2.1 := by decide +kernel
theorem tyX4_ok : ∀ k, k < 11 → parseFieldDescriptor (TX4 k).2.2.1 = some (tyX4 k) := by decide +kernel
abbrev cX4_init : ByteArray := prog_1_method_1_code
def yX4_init : MethodName := ⟨RX4, "<init>", "()V"⟩
abbrev cX4_put : ByteArray := prog_1_method_2_code
def yX4_put : MethodName := ⟨RX4, "put", "(III)I"⟩
abbrev cX4_take : ByteArray := prog_1_method_3_code
def yX4_take : MethodName := ⟨RX4, "take", "(II)I"⟩
abbrev cX4_build : ByteArray := prog_1_method_4_code
def yX4_build : MethodName := ⟨RX4, "build", "(I)I"⟩
abbrev cX4_pour : ByteArray := prog_1_method_5_code
def yX4_pour : MethodName := ⟨RX4, "pour", "(II)I"⟩
abbrev cX4_limit : ByteArray := prog_1_method_6_code
def yX4_limit : MethodName := ⟨RX4, "limit", "(I)I"⟩
abbrev cX4_sheafOf : ByteArray := prog_1_method_7_code
def yX4_sheafOf : MethodName := ⟨RX4, "sheafOf", "(III)I"⟩
abbrev cX4_rickOf : ByteArray := prog_1_method_8_code
def yX4_rickOf : MethodName := ⟨RX4, "rickOf", "(II)I"⟩
abbrev cX4_rank : ByteArray := prog_1_method_9_code
def yX4_rank : MethodName := ⟨RX4, "rank", "(II)I"⟩
abbrev cX4_rankAgain : ByteArray := prog_1_method_10_code
def yX4_rankAgain : MethodName := ⟨RX4, "rankAgain", "(II)I"⟩
abbrev cX4_at : ByteArray := prog_1_method_11_code
def yX4_at : MethodName := ⟨RX4, "at", "(II)I"⟩
abbrev cX4_between : ByteArray := prog_1_method_12_code
def yX4_between : MethodName := ⟨RX4, "between", "(III)I"⟩
abbrev cX4_betweenAgain : ByteArray := prog_1_method_13_code
def yX4_betweenAgain : MethodName := ⟨RX4, "betweenAgain", "(III)I"⟩
abbrev cX4_heaviest : ByteArray := prog_1_method_14_code
def yX4_heaviest : MethodName := ⟨RX4, "heaviest", "(I)I"⟩
abbrev cX4_carts : ByteArray := prog_1_method_15_code
def yX4_carts : MethodName := ⟨RX4, "carts", "(II)I"⟩
abbrev cX4_cartOf : ByteArray := prog_1_method_16_code
def yX4_cartOf : MethodName := ⟨RX4, "cartOf", "(III)I"⟩
abbrev cX4_shape : ByteArray := prog_1_method_17_code
def yX4_shape : MethodName := ⟨RX4, "shape", "(I)J"⟩
abbrev cX4_weights : ByteArray := prog_1_method_18_code
def yX4_weights : MethodName := ⟨RX4, "weights", "(II)J"⟩
abbrev cX4_leaningShare : ByteArray := prog_1_method_19_code
def yX4_leaningShare : MethodName := ⟨RX4, "leaningShare", "(I)I"⟩
abbrev cX4_meanDepth : ByteArray := prog_1_method_20_code
def yX4_meanDepth : MethodName := ⟨RX4, "meanDepth", "(I)J"⟩
abbrev cX4_append : ByteArray := prog_1_method_21_code
def yX4_append : MethodName := ⟨RX4, "append", "(I)I"⟩
abbrev cX4_run : ByteArray := prog_1_method_22_code
def yX4_run : MethodName := ⟨RX4, "run", "()I"⟩
abbrev cX4_tell : ByteArray := prog_1_method_23_code
def yX4_tell : MethodName := ⟨RX4, "tell", "(I)I"⟩
abbrev cX4_reason : ByteArray := prog_1_method_25_code
def yX4_reason : MethodName := ⟨RX4, "reason", "(Z)I"⟩
abbrev cX4_account : ByteArray := prog_1_method_26_code
def yX4_account : MethodName := ⟨RX4, "account", "(I)I"⟩
abbrev cX4_isBalanced : ByteArray := prog_1_method_27_code
def yX4_isBalanced : MethodName := ⟨RX4, "isBalanced", "()I"⟩
abbrev cX4_undo : ByteArray := prog_1_method_28_code
def yX4_undo : MethodName := ⟨RX4, "undo", "()I"⟩
abbrev cX4_save : ByteArray := prog_1_method_29_code
def yX4_save : MethodName := ⟨RX4, "save", "()I"⟩
abbrev cX4_restore : ByteArray := prog_1_method_30_code
def yX4_restore : MethodName := ⟨RX4, "restore", "()I"⟩
abbrev cX4_putNow : ByteArray := prog_1_method_31_code
def yX4_putNow : MethodName := ⟨RX4, "putNow", "(III)I"⟩
abbrev cX4_takeNow : ByteArray := prog_1_method_32_code
def yX4_takeNow : MethodName := ⟨RX4, "takeNow", "(II)I"⟩
abbrev cX4_buildNow : ByteArray := prog_1_method_33_code
def yX4_buildNow : MethodName := ⟨RX4, "buildNow", "(I)I"⟩
abbrev cX4_pourNow : ByteArray := prog_1_method_34_code
def yX4_pourNow : MethodName := ⟨RX4, "pourNow", "(II)I"⟩
abbrev cX4_limitNow : ByteArray := prog_1_method_35_code
def yX4_limitNow : MethodName := ⟨RX4, "limitNow", "(I)I"⟩
abbrev cX4_buildWhole : ByteArray := prog_1_method_36_code
def yX4_buildWhole : MethodName := ⟨RX4, "buildWhole", "(LLeaningRicks$Rick;)I"⟩
abbrev cX4_carryOut : ByteArray := prog_1_method_37_code
def yX4_carryOut : MethodName := ⟨RX4, "carryOut", "(I)I"⟩
abbrev cX4_refuse : ByteArray := prog_1_method_38_code
def yX4_refuse : MethodName := ⟨RX4, "refuse", "(II)I"⟩
abbrev cX4_hold : ByteArray := prog_1_method_39_code
def yX4_hold : MethodName := ⟨RX4, "hold", "()V"⟩
abbrev cX4_keep : ByteArray := prog_1_method_40_code
def yX4_keep : MethodName := ⟨RX4, "keep", "(I)I"⟩
abbrev cX4_giveBack : ByteArray := prog_1_method_41_code
def yX4_giveBack : MethodName := ⟨RX4, "giveBack", "()V"⟩
abbrev cX4_beforeNow : ByteArray := prog_1_method_42_code
def yX4_beforeNow : MethodName := ⟨RX4, "beforeNow", "()LLeaningRicks$Yard;"⟩
abbrev cX4_isBears : ByteArray := prog_1_method_43_code
def yX4_isBears : MethodName := ⟨RX4, "isBears", "(I)Z"⟩
abbrev cX4_depthFor : ByteArray := prog_1_method_44_code
def yX4_depthFor : MethodName := ⟨RX4, "depthFor", "(II)I"⟩
abbrev cX4_shapeOf : ByteArray := prog_1_method_45_code
def yX4_shapeOf : MethodName := ⟨RX4, "shapeOf", "(LLeaningRicks$Rick;IIJI)J"⟩
abbrev cX4_write : ByteArray := prog_1_method_46_code
def yX4_write : MethodName := ⟨RX4, "write", "(LLeaningRicks$Row;LLeaningRicks$Rick;IIII)V"⟩
abbrev cX4_isSound : ByteArray := prog_1_method_47_code
def yX4_isSound : MethodName := ⟨RX4, "isSound", "(LLeaningRicks$Rick;)Z"⟩
abbrev cX4_isTree : ByteArray := prog_1_method_48_code
def yX4_isTree : MethodName := ⟨RX4, "isTree", "(LLeaningRicks$Rick;III)Z"⟩
abbrev cX4_shareBits : ByteArray := prog_1_method_49_code
def yX4_shareBits : MethodName := ⟨RX4, "shareBits", "(F)I"⟩
abbrev cX4_meanBits : ByteArray := prog_1_method_50_code
def yX4_meanBits : MethodName := ⟨RX4, "meanBits", "(D)J"⟩
def RX5 : String := "LeaningRicksModel"
def TX5 : u_T := fun k => match k with
  | _ => ("", "", "", false)
def tyX5 : Nat → FieldType := fun k => match k with
  | _ => .int
theorem nmX5 : ∀ a, a < 0 → ∀ b, b < 0 → a ≠ b → (TX5 a).2.1 ≠ (TX5 b).2.1 := by decide +kernel
theorem tyX5_ok : ∀ k, k < 0 → parseFieldDescriptor (TX5 k).2.2.1 = some (tyX5 k) := by decide +kernel
def RJxe99ae : String := "java/lang/Double"
abbrev cJxe99ae_isNaN_b9ae7 : ByteArray := prog_8_method_6_code
def yJxe99ae_isNaN_b9ae7 : MethodName := ⟨RJxe99ae, "isNaN", "(D)Z"⟩
abbrev cJxe99ae_doubleToLongBits_ccdee : ByteArray := prog_8_method_23_code
def yJxe99ae_doubleToLongBits_ccdee : MethodName := ⟨RJxe99ae, "doubleToLongBits", "(D)J"⟩
def RJxf58ca : String := "java/lang/Float"
abbrev cJxf58ca_isNaN_12338 : ByteArray := prog_9_method_6_code
def yJxf58ca_isNaN_12338 : MethodName := ⟨RJxf58ca, "isNaN", "(F)Z"⟩
abbrev cJxf58ca_floatToIntBits_5c35a : ByteArray := prog_9_method_24_code
def yJxf58ca_floatToIntBits_5c35a : MethodName := ⟨RJxf58ca, "floatToIntBits", "(F)I"⟩
def RJ13 : String := "java/lang/Long"
abbrev cJ13_bitCount_95d88 : ByteArray := prog_10_method_50_code
def yJ13_bitCount_95d88 : MethodName := ⟨RJ13, "bitCount", "(J)I"⟩
def RJ9 : String := "java/lang/Math"
abbrev cJ9_max_7cf53 : ByteArray := prog_11_method_65_code
def yJ9_max_7cf53 : MethodName := ⟨RJ9, "max", "(II)I"⟩
abbrev cJ9_min_7cf53 : ByteArray := prog_11_method_69_code
def yJ9_min_7cf53 : MethodName := ⟨RJ9, "min", "(II)I"⟩
def RJ0 : String := "java/lang/String"
abbrev cJ0_length_8abf5 : ByteArray := prog_12_method_54_code
def yJ0_length_8abf5 : MethodName := ⟨RJ0, "length", "()I"⟩
abbrev cJ0_charAt_5068e : ByteArray := prog_12_method_56_code
def yJ0_charAt_5068e : MethodName := ⟨RJ0, "charAt", "(I)C"⟩
abbrev cJ0_coder_7d493 : ByteArray := prog_12_method_152_code
def yJ0_coder_7d493 : MethodName := ⟨RJ0, "coder", "()B"⟩
abbrev cJ0_isLatin1_aae02 : ByteArray := prog_12_method_154_code
def yJ0_isLatin1_aae02 : MethodName := ⟨RJ0, "isLatin1", "()Z"⟩
abbrev cJ0_checkIndex_df160 : ByteArray := prog_12_method_155_code
def yJ0_checkIndex_df160 : MethodName := ⟨RJ0, "checkIndex", "(II)V"⟩
def RJ1 : String := "java/lang/StringLatin1"
abbrev cJ1_charAt_3b067 : ByteArray := prog_13_method_2_code
def yJ1_charAt_3b067 : MethodName := ⟨RJ1, "charAt", "([BI)C"⟩
def RJ2 : String := "java/lang/StringUTF16"
abbrev cJ2_getChar_3b067 : ByteArray := prog_14_method_5_code
def yJ2_getChar_3b067 : MethodName := ⟨RJ2, "getChar", "([BI)C"⟩
abbrev cJ2_length_9d52b : ByteArray := prog_14_method_6_code
def yJ2_length_9d52b : MethodName := ⟨RJ2, "length", "([B)I"⟩
abbrev cJ2_charAt_3b067 : ByteArray := prog_14_method_83_code
def yJ2_charAt_3b067 : MethodName := ⟨RJ2, "charAt", "([BI)C"⟩
abbrev cJ2_checkIndex_2214a : ByteArray := prog_14_method_91_code
def yJ2_checkIndex_2214a : MethodName := ⟨RJ2, "checkIndex", "(I[B)V"⟩
def RJ10 : String := "java/lang/System"
def RJ3 : String := "jdk/internal/util/Preconditions"
abbrev cJ3_checkIndex_8e157 : ByteArray := prog_16_method_11_code
def yJ3_checkIndex_8e157 : MethodName := ⟨RJ3, "checkIndex", "(IILjava/util/function/BiFunction;)I"⟩
def RL : String := "LeaningRicksLaw"
abbrev cL_cell : ByteArray := method_2_code
def yL_cell : MethodName := ⟨RL, "cell", "([II)I"⟩
abbrev cL_write : ByteArray := method_3_code
def yL_write : MethodName := ⟨RL, "write", "(LLeaningRicks;Ljava/lang/String;)LLeaningRicks;"⟩
abbrev cL_act : ByteArray := method_4_code
def yL_act : MethodName := ⟨RL, "act", "(LLeaningRicks;I)I"⟩
abbrev cL_digest : ByteArray := method_5_code
def yL_digest : MethodName := ⟨RL, "digest", "(LLeaningRicks;)J"⟩
abbrev cL_isSheaf : ByteArray := method_6_code
def yL_isSheaf : MethodName := ⟨RL, "isSheaf", "(LLeaningRicks;II)Z"⟩
abbrev cL_isRick : ByteArray := method_7_code
def yL_isRick : MethodName := ⟨RL, "isRick", "(LLeaningRicks;I)Z"⟩
abbrev cL_areCarts : ByteArray := method_8_code
def yL_areCarts : MethodName := ⟨RL, "areCarts", "(LLeaningRicks;II)Z"⟩
abbrev cL_areHeaviest : ByteArray := method_9_code
def yL_areHeaviest : MethodName := ⟨RL, "areHeaviest", "(LLeaningRicks;)Z"⟩
abbrev cL_isFit : ByteArray := method_10_code
def yL_isFit : MethodName := ⟨RL, "isFit", "(LLeaningRicks;)Z"⟩
abbrev cL_isPut : ByteArray := method_11_code
def yL_isPut : MethodName := ⟨RL, "isPut", "(LLeaningRicks;II)Z"⟩
abbrev cL_law : ByteArray := code
def yL_law : MethodName := ⟨RL, "law", "([I)Z"⟩
abbrev vwCl : List vw_C := [(RX0, TX0, 4), (RX1, TX1, 5), (RX2, TX2, 2), (RX3, TX3, 8), (RX4, TX4, 11)]
theorem inX0 : ∀ w ∈ u_ws RX0 TX0 4, w ∈ lw_tbl := by decide +kernel
theorem inX1 : ∀ w ∈ u_ws RX1 TX1 5, w ∈ lw_tbl := by decide +kernel
theorem inX2 : ∀ w ∈ u_ws RX2 TX2 2, w ∈ lw_tbl := by decide +kernel
theorem inX3 : ∀ w ∈ u_ws RX3 TX3 8, w ∈ lw_tbl := by decide +kernel
theorem inX4 : ∀ w ∈ u_ws RX4 TX4 11, w ∈ lw_tbl := by decide +kernel
