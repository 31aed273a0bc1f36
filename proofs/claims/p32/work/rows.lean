section
-- ===== PART A: goes FIRST, ahead of the names: the tables' words, and 'selects' of the private methods out of them =====
/-- a private method of a class that the tables say can be made, by its rows of tables_1 -/
def lw_okq (q : MethodName × Nat) : Prop := (q.1.cls ≠ "java/lang/invoke/MethodHandle" ∧ q.1.cls ≠ "java/lang/invoke/VarHandle") ∧ Cond.instantiable q.1.cls q.2 ∈ tables_1 ∧ Cond.privateMethod q.1 ∈ tables_1 ∧ Cond.instanceMethod q.1 ∈ tables_1
theorem lw_p0 : lw_okq (⟨"LeaningRicks", "hold", "()V"⟩, 11) := ⟨⟨by decide +kernel, by decide +kernel⟩, List.mem_of_getElem? (i := 16) (by decide +kernel), List.mem_of_getElem? (i := 162) (by decide +kernel), List.mem_of_getElem? (i := 163) (by decide +kernel)⟩
theorem lw_p1 : lw_okq (⟨"LeaningRicks", "beforeNow", "()LLeaningRicks$Yard;"⟩, 11) := ⟨⟨by decide +kernel, by decide +kernel⟩, List.mem_of_getElem? (i := 16) (by decide +kernel), List.mem_of_getElem? (i := 166) (by decide +kernel), List.mem_of_getElem? (i := 167) (by decide +kernel)⟩
theorem lw_p2 : lw_okq (⟨"LeaningRicks", "putNow", "(III)I"⟩, 11) := ⟨⟨by decide +kernel, by decide +kernel⟩, List.mem_of_getElem? (i := 16) (by decide +kernel), List.mem_of_getElem? (i := 185) (by decide +kernel), List.mem_of_getElem? (i := 186) (by decide +kernel)⟩
theorem lw_p3 : lw_okq (⟨"LeaningRicks", "refuse", "(II)I"⟩, 11) := ⟨⟨by decide +kernel, by decide +kernel⟩, List.mem_of_getElem? (i := 16) (by decide +kernel), List.mem_of_getElem? (i := 198) (by decide +kernel), List.mem_of_getElem? (i := 199) (by decide +kernel)⟩
theorem lw_p4 : lw_okq (⟨"LeaningRicks$Rick", "set", "(IIII)V"⟩, 5) := ⟨⟨by decide +kernel, by decide +kernel⟩, List.mem_of_getElem? (i := 31) (by decide +kernel), List.mem_of_getElem? (i := 221) (by decide +kernel), List.mem_of_getElem? (i := 222) (by decide +kernel)⟩
theorem lw_p5 : lw_okq (⟨"LeaningRicks$Rick", "setDepth", "(II)V"⟩, 5) := ⟨⟨by decide +kernel, by decide +kernel⟩, List.mem_of_getElem? (i := 31) (by decide +kernel), List.mem_of_getElem? (i := 257) (by decide +kernel), List.mem_of_getElem? (i := 258) (by decide +kernel)⟩
theorem lw_p6 : lw_okq (⟨"LeaningRicks", "keep", "(I)I"⟩, 11) := ⟨⟨by decide +kernel, by decide +kernel⟩, List.mem_of_getElem? (i := 16) (by decide +kernel), List.mem_of_getElem? (i := 261) (by decide +kernel), List.mem_of_getElem? (i := 262) (by decide +kernel)⟩
theorem lw_p7 : lw_okq (⟨"LeaningRicks", "takeNow", "(II)I"⟩, 11) := ⟨⟨by decide +kernel, by decide +kernel⟩, List.mem_of_getElem? (i := 16) (by decide +kernel), List.mem_of_getElem? (i := 272) (by decide +kernel), List.mem_of_getElem? (i := 273) (by decide +kernel)⟩
theorem lw_p8 : lw_okq (⟨"LeaningRicks$Rick", "raise", "(II)V"⟩, 5) := ⟨⟨by decide +kernel, by decide +kernel⟩, List.mem_of_getElem? (i := 31) (by decide +kernel), List.mem_of_getElem? (i := 281) (by decide +kernel), List.mem_of_getElem? (i := 282) (by decide +kernel)⟩
theorem lw_p9 : lw_okq (⟨"LeaningRicks", "buildWhole", "(LLeaningRicks$Rick;)I"⟩, 11) := ⟨⟨by decide +kernel, by decide +kernel⟩, List.mem_of_getElem? (i := 16) (by decide +kernel), List.mem_of_getElem? (i := 285) (by decide +kernel), List.mem_of_getElem? (i := 286) (by decide +kernel)⟩
theorem lw_p10 : lw_okq (⟨"LeaningRicks", "buildNow", "(I)I"⟩, 11) := ⟨⟨by decide +kernel, by decide +kernel⟩, List.mem_of_getElem? (i := 16) (by decide +kernel), List.mem_of_getElem? (i := 297) (by decide +kernel), List.mem_of_getElem? (i := 298) (by decide +kernel)⟩
theorem lw_p11 : lw_okq (⟨"LeaningRicks", "limitNow", "(I)I"⟩, 11) := ⟨⟨by decide +kernel, by decide +kernel⟩, List.mem_of_getElem? (i := 16) (by decide +kernel), List.mem_of_getElem? (i := 305) (by decide +kernel), List.mem_of_getElem? (i := 306) (by decide +kernel)⟩
theorem lw_p12 : lw_okq (⟨"LeaningRicks$Orders", "isOrder", "(LLeaningRicks$Row;)Z"⟩, 4) := ⟨⟨by decide +kernel, by decide +kernel⟩, List.mem_of_getElem? (i := 105) (by decide +kernel), List.mem_of_getElem? (i := 323) (by decide +kernel), List.mem_of_getElem? (i := 324) (by decide +kernel)⟩
theorem lw_p13 : lw_okq (⟨"LeaningRicks$Orders", "isCode", "(LLeaningRicks$Row;I)Z"⟩, 4) := ⟨⟨by decide +kernel, by decide +kernel⟩, List.mem_of_getElem? (i := 105) (by decide +kernel), List.mem_of_getElem? (i := 331) (by decide +kernel), List.mem_of_getElem? (i := 332) (by decide +kernel)⟩
theorem lw_p14 : lw_okq (⟨"LeaningRicks$Orders", "isNumber", "(LLeaningRicks$Row;II)Z"⟩, 4) := ⟨⟨by decide +kernel, by decide +kernel⟩, List.mem_of_getElem? (i := 105) (by decide +kernel), List.mem_of_getElem? (i := 335) (by decide +kernel), List.mem_of_getElem? (i := 336) (by decide +kernel)⟩
theorem lw_p15 : lw_okq (⟨"LeaningRicks", "carryOut", "(I)I"⟩, 11) := ⟨⟨by decide +kernel, by decide +kernel⟩, List.mem_of_getElem? (i := 16) (by decide +kernel), List.mem_of_getElem? (i := 346) (by decide +kernel), List.mem_of_getElem? (i := 347) (by decide +kernel)⟩
def lw_privs_1 : List (MethodName × Nat) := [(⟨"LeaningRicks", "hold", "()V"⟩, 11), (⟨"LeaningRicks", "beforeNow", "()LLeaningRicks$Yard;"⟩, 11), (⟨"LeaningRicks", "putNow", "(III)I"⟩, 11), (⟨"LeaningRicks", "refuse", "(II)I"⟩, 11), (⟨"LeaningRicks$Rick", "set", "(IIII)V"⟩, 5), (⟨"LeaningRicks$Rick", "setDepth", "(II)V"⟩, 5), (⟨"LeaningRicks", "keep", "(I)I"⟩, 11), (⟨"LeaningRicks", "takeNow", "(II)I"⟩, 11), (⟨"LeaningRicks$Rick", "raise", "(II)V"⟩, 5), (⟨"LeaningRicks", "buildWhole", "(LLeaningRicks$Rick;)I"⟩, 11), (⟨"LeaningRicks", "buildNow", "(I)I"⟩, 11), (⟨"LeaningRicks", "limitNow", "(I)I"⟩, 11), (⟨"LeaningRicks$Orders", "isOrder", "(LLeaningRicks$Row;)Z"⟩, 4), (⟨"LeaningRicks$Orders", "isCode", "(LLeaningRicks$Row;I)Z"⟩, 4), (⟨"LeaningRicks$Orders", "isNumber", "(LLeaningRicks$Row;II)Z"⟩, 4), (⟨"LeaningRicks", "carryOut", "(I)I"⟩, 11)]
theorem lw_r1 : ∀ q ∈ lw_privs_1, lw_okq q := List.forall_mem_cons.mpr ⟨lw_p0, List.forall_mem_cons.mpr ⟨lw_p1, List.forall_mem_cons.mpr ⟨lw_p2, List.forall_mem_cons.mpr ⟨lw_p3, List.forall_mem_cons.mpr ⟨lw_p4, List.forall_mem_cons.mpr ⟨lw_p5, List.forall_mem_cons.mpr ⟨lw_p6, List.forall_mem_cons.mpr ⟨lw_p7, List.forall_mem_cons.mpr ⟨lw_p8, List.forall_mem_cons.mpr ⟨lw_p9, List.forall_mem_cons.mpr ⟨lw_p10, List.forall_mem_cons.mpr ⟨lw_p11, List.forall_mem_cons.mpr ⟨lw_p12, List.forall_mem_cons.mpr ⟨lw_p13, List.forall_mem_cons.mpr ⟨lw_p14, List.forall_mem_cons.mpr ⟨lw_p15, fun _ h => absurd h List.not_mem_nil⟩⟩⟩⟩⟩⟩⟩⟩⟩⟩⟩⟩⟩⟩⟩⟩
theorem lw_p16 : lw_okq (⟨"LeaningRicks", "pourNow", "(II)I"⟩, 11) := ⟨⟨by decide +kernel, by decide +kernel⟩, List.mem_of_getElem? (i := 16) (by decide +kernel), List.mem_of_getElem? (i := 358) (by decide +kernel), List.mem_of_getElem? (i := 359) (by decide +kernel)⟩
theorem lw_p17 : lw_okq (⟨"LeaningRicks", "giveBack", "()V"⟩, 11) := ⟨⟨by decide +kernel, by decide +kernel⟩, List.mem_of_getElem? (i := 16) (by decide +kernel), List.mem_of_getElem? (i := 362) (by decide +kernel), List.mem_of_getElem? (i := 363) (by decide +kernel)⟩
theorem lw_p18 : lw_okq (⟨"LeaningRicks$Rick", "loadsOfLighter", "(J)I"⟩, 5) := ⟨⟨by decide +kernel, by decide +kernel⟩, List.mem_of_getElem? (i := 31) (by decide +kernel), List.mem_of_getElem? (i := 544) (by decide +kernel), List.mem_of_getElem? (i := 545) (by decide +kernel)⟩
def lw_privs_2 : List (MethodName × Nat) := [(⟨"LeaningRicks", "pourNow", "(II)I"⟩, 11), (⟨"LeaningRicks", "giveBack", "()V"⟩, 11), (⟨"LeaningRicks$Rick", "loadsOfLighter", "(J)I"⟩, 5)]
theorem lw_r2 : ∀ q ∈ lw_privs_2, lw_okq q := List.forall_mem_cons.mpr ⟨lw_p16, List.forall_mem_cons.mpr ⟨lw_p17, List.forall_mem_cons.mpr ⟨lw_p18, fun _ h => absurd h List.not_mem_nil⟩⟩⟩
def lw_privs : List (MethodName × Nat) := lw_privs_1 ++ (lw_privs_2)
def lw_tbl : List Cond := k2_sels lw_privs ++ tables_1
theorem lw_privs_ok : ∀ q ∈ lw_privs, lw_okq q := by
  show ∀ q ∈ lw_privs_1 ++ (lw_privs_2), lw_okq q
  exact List.forall_mem_append.mpr ⟨lw_r1, lw_r2⟩
/-- the streams that the claim lets the run draw from -/
abbrev lw_cs : List Choice := [Jvm.Choice.named "NaN.bits"]
theorem lw_bits : nanBits ∈ lw_cs := by first | decide | exact List.mem_cons_self | simp [lw_cs, nanBits]
def RX0 : String := "LeaningRicks$Orders"
def TX0 : u_T := fun k => match k with
  | 0 => ("LeaningRicks$Orders", "sign", "[I", true)
  | 1 => ("LeaningRicks$Orders", "number", "[I", true)
  | 2 => ("LeaningRicks$Orders", "count", "I", false)
  | _ => ("LeaningRicks$Orders", "index", "I", false)
def tyX0 : Nat → FieldType := fun k => match k with
  | 0 => .array .int
  | 1 => .array .int
  | 2 => .int
  | _ => .int
theorem nmX0 : ∀ a, a < 4 → ∀ b, b < 4 → a ≠ b → (TX0 a).2.1 ≠ (TX0 b).2.1 := by decide +kernel
theorem tyX0_ok : ∀ k, k < 4 → parseFieldDescriptor (TX0 k).2.2.1 = some (tyX0 k) := by decide +kernel
abbrev cX0_init : ByteArray := prog_2_method_1_code
def yX0_init : MethodName := ⟨RX0, "<init>", "()V"⟩
abbrev cX0_signOf : ByteArray := prog_2_method_2_code
def yX0_signOf : MethodName := ⟨RX0, "signOf", "(I)I"⟩
abbrev cX0_numberOf : ByteArray := prog_2_method_3_code
def yX0_numberOf : MethodName := ⟨RX0, "numberOf", "(II)I"⟩
abbrev cX0_read : ByteArray := prog_2_method_4_code
def yX0_read : MethodName := ⟨RX0, "read", "(LLeaningRicks$Row;)I"⟩
abbrev cX0_isOrder : ByteArray := prog_2_method_5_code
def yX0_isOrder : MethodName := ⟨RX0, "isOrder", "(LLeaningRicks$Row;)Z"⟩
abbrev cX0_isCode : ByteArray := prog_2_method_6_code
def yX0_isCode : MethodName := ⟨RX0, "isCode", "(LLeaningRicks$Row;I)Z"⟩
abbrev cX0_isNumber : ByteArray := prog_2_method_7_code
def yX0_isNumber : MethodName := ⟨RX0, "isNumber", "(LLeaningRicks$Row;II)Z"⟩
abbrev cX0_isDigit : ByteArray := prog_2_method_8_code
def yX0_isDigit : MethodName := ⟨RX0, "isDigit", "(I)Z"⟩
def RX1 : String := "LeaningRicks$Rick"
def TX1 : u_T := fun k => match k with
  | 0 => ("LeaningRicks$Rick", "weight", "[I", true)
  | 1 => ("LeaningRicks$Rick", "load", "[I", true)
  | 2 => ("LeaningRicks$Rick", "depth", "[I", true)
  | 3 => ("LeaningRicks$Rick", "count", "I", false)
  | _ => ("LeaningRicks$Rick", "most", "I", false)
def tyX1 : Nat → FieldType := fun k => match k with
  | 0 => .array .int
  | 1 => .array .int
  | 2 => .array .int
  | 3 => .int
  | _ => .int
theorem nmX1 : ∀ a, a < 5 → ∀ b, b < 5 → a ≠ b → (TX1 a).2.1 ≠ (TX1 b).2.1 := by decide +kernel
theorem tyX1_ok : ∀ k, k < 5 → parseFieldDescriptor (TX1 k).2.2.1 = some (tyX1 k) := by decide +kernel
abbrev cX1_init : ByteArray := prog_3_method_1_code
def yX1_init : MethodName := ⟨RX1, "<init>", "()V"⟩
abbrev cX1_isPlace : ByteArray := prog_3_method_2_code
def yX1_isPlace : MethodName := ⟨RX1, "isPlace", "(I)Z"⟩
abbrev cX1_weightAt : ByteArray := prog_3_method_3_code
def yX1_weightAt : MethodName := ⟨RX1, "weightAt", "(I)I"⟩
abbrev cX1_loadAt : ByteArray := prog_3_method_4_code
def yX1_loadAt : MethodName := ⟨RX1, "loadAt", "(I)I"⟩
abbrev cX1_depthAt : ByteArray := prog_3_method_5_code
def yX1_depthAt : MethodName := ⟨RX1, "depthAt", "(I)I"⟩
abbrev cX1_find : ByteArray := prog_3_method_6_code
def yX1_find : MethodName := ⟨RX1, "find", "(I)I"⟩
abbrev cX1_firstOf : ByteArray := prog_3_method_7_code
def yX1_firstOf : MethodName := ⟨RX1, "firstOf", "(I)I"⟩
abbrev cX1_lastOf : ByteArray := prog_3_method_8_code
def yX1_lastOf : MethodName := ⟨RX1, "lastOf", "(I)I"⟩
abbrev cX1_topOf : ByteArray := prog_3_method_9_code
def yX1_topOf : MethodName := ⟨RX1, "topOf", "(II)I"⟩
abbrev cX1_above : ByteArray := prog_3_method_10_code
def yX1_above : MethodName := ⟨RX1, "above", "(I)I"⟩
abbrev cX1_leans : ByteArray := prog_3_method_11_code
def yX1_leans : MethodName := ⟨RX1, "leans", "(II)Z"⟩
abbrev cX1_loadsFrom : ByteArray := prog_3_method_12_code
def yX1_loadsFrom : MethodName := ⟨RX1, "loadsFrom", "(II)I"⟩
abbrev cX1_depths : ByteArray := prog_3_method_13_code
def yX1_depths : MethodName := ⟨RX1, "depths", "()I"⟩
abbrev cX1_greatestDepth : ByteArray := prog_3_method_14_code
def yX1_greatestDepth : MethodName := ⟨RX1, "greatestDepth", "()I"⟩
abbrev cX1_leaning : ByteArray := prog_3_method_15_code
def yX1_leaning : MethodName := ⟨RX1, "leaning", "(I)I"⟩
abbrev cX1_lowest : ByteArray := prog_3_method_16_code
def yX1_lowest : MethodName := ⟨RX1, "lowest", "()I"⟩
abbrev cX1_cartsUpTo : ByteArray := prog_3_method_17_code
def yX1_cartsUpTo : MethodName := ⟨RX1, "cartsUpTo", "(II)I"⟩
abbrev cX1_lighterByParts : ByteArray := prog_3_method_18_code
def yX1_lighterByParts : MethodName := ⟨RX1, "lighterByParts", "(I)I"⟩
abbrev cX1_lighterOneByOne : ByteArray := prog_3_method_19_code
def yX1_lighterOneByOne : MethodName := ⟨RX1, "lighterOneByOne", "(I)I"⟩
abbrev cX1_loadsByParts : ByteArray := prog_3_method_20_code
def yX1_loadsByParts : MethodName := ⟨RX1, "loadsByParts", "(II)I"⟩
abbrev cX1_loadsOfLighter : ByteArray := prog_3_method_21_code
def yX1_loadsOfLighter : MethodName := ⟨RX1, "loadsOfLighter", "(J)I"⟩
abbrev cX1_loadsOneByOne : ByteArray := prog_3_method_22_code
def yX1_loadsOneByOne : MethodName := ⟨RX1, "loadsOneByOne", "(II)I"⟩
abbrev cX1_isInOrder : ByteArray := prog_3_method_23_code
def yX1_isInOrder : MethodName := ⟨RX1, "isInOrder", "()Z"⟩
abbrev cX1_lay : ByteArray := prog_3_method_24_code
def yX1_lay : MethodName := ⟨RX1, "lay", "(II)I"⟩
abbrev cX1_lift : ByteArray := prog_3_method_25_code
def yX1_lift : MethodName := ⟨RX1, "lift", "(I)V"⟩
abbrev cX1_buildPartAbove : ByteArray := prog_3_method_26_code
def yX1_buildPartAbove : MethodName := ⟨RX1, "buildPartAbove", "(II)I"⟩
abbrev cX1_buildWhole : ByteArray := prog_3_method_27_code
def yX1_buildWhole : MethodName := ⟨RX1, "buildWhole", "()I"⟩
abbrev cX1_spread : ByteArray := prog_3_method_28_code
def yX1_spread : MethodName := ⟨RX1, "spread", "(LLeaningRicks$Rick;III)I"⟩
abbrev cX1_raise : ByteArray := prog_3_method_29_code
def yX1_raise : MethodName := ⟨RX1, "raise", "(II)V"⟩
abbrev cX1_set : ByteArray := prog_3_method_30_code
def yX1_set : MethodName := ⟨RX1, "set", "(IIII)V"⟩
abbrev cX1_setDepth : ByteArray := prog_3_method_31_code
def yX1_setDepth : MethodName := ⟨RX1, "setDepth", "(II)V"⟩
abbrev cX1_copyFrom : ByteArray := prog_3_method_32_code
def yX1_copyFrom : MethodName := ⟨RX1, "copyFrom", "(LLeaningRicks$Rick;)V"⟩
def RX2 : String := "LeaningRicks$Row"
def TX2 : u_T := fun k => match k with
  | 0 => ("LeaningRicks$Row", "code", "[I", true)
  | _ => ("LeaningRicks$Row", "length", "I", false)
def tyX2 : Nat → FieldType := fun k => match k with
  | 0 => .array .int
  | _ => .int
theorem nmX2 : ∀ a, a < 2 → ∀ b, b < 2 → a ≠ b → (TX2 a).2.1 ≠ (TX2 b).2.1 := by decide +kernel
theorem tyX2_ok : ∀ k, k < 2 → parseFieldDescriptor (TX2 k).2.2.1 = some (tyX2 k) := by decide +kernel
abbrev cX2_init : ByteArray := prog_4_method_1_code
def yX2_init : MethodName := ⟨RX2, "<init>", "()V"⟩
abbrev cX2_clear : ByteArray := prog_4_method_2_code
def yX2_clear : MethodName := ⟨RX2, "clear", "()V"⟩
abbrev cX2_add : ByteArray := prog_4_method_3_code
def yX2_add : MethodName := ⟨RX2, "add", "(I)Z"⟩
abbrev cX2_addNumber : ByteArray := prog_4_method_4_code
def yX2_addNumber : MethodName := ⟨RX2, "addNumber", "(I)V"⟩
abbrev cX2_codeAt : ByteArray := prog_4_method_5_code
def yX2_codeAt : MethodName := ⟨RX2, "codeAt", "(I)I"⟩
def RX3 : String := "LeaningRicks$Yard"
def TX3 : u_T := fun k => match k with
  | 0 => ("LeaningRicks$Yard", "ricks", "[LLeaningRicks$Rick;", true)
  | 1 => ("LeaningRicks$Yard", "limit", "I", false)
  | 2 => ("LeaningRicks$Yard", "sheavesPut", "I", false)
  | 3 => ("LeaningRicks$Yard", "sheavesTaken", "I", false)
  | 4 => ("LeaningRicks$Yard", "partsBuilt", "I", false)
  | 5 => ("LeaningRicks$Yard", "ricksBuilt", "I", false)
  | 6 => ("LeaningRicks$Yard", "sheavesBuilt", "I", false)
  | _ => ("LeaningRicks$Yard", "ricksPoured", "I", false)
def tyX3 : Nat → FieldType := fun k => match k with
  | 0 => .array (.object "LeaningRicks$Rick")
  | 1 => .int
  | 2 => .int
  | 3 => .int
  | 4 => .int
  | 5 => .int
  | 6 => .int
  | _ => .int
theorem nmX3 : ∀ a, a < 8 → ∀ b, b < 8 → a ≠ b → (TX3 a).2.1 ≠ (TX3 b).2.1 := by decide +kernel
theorem tyX3_ok : ∀ k, k < 8 → parseFieldDescriptor (TX3 k).2.2.1 = some (tyX3 k) := by decide +kernel
abbrev cX3_init : ByteArray := prog_5_method_1_code
def yX3_init : MethodName := ⟨RX3, "<init>", "()V"⟩
abbrev cX3_rickAt : ByteArray := prog_5_method_2_code
def yX3_rickAt : MethodName := ⟨RX3, "rickAt", "(I)LLeaningRicks$Rick;"⟩
abbrev cX3_sheaves : ByteArray := prog_5_method_3_code
def yX3_sheaves : MethodName := ⟨RX3, "sheaves", "()I"⟩
abbrev cX3_loads : ByteArray := prog_5_method_4_code
def yX3_loads : MethodName := ⟨RX3, "loads", "()I"⟩
abbrev cX3_keyAfter : ByteArray := prog_5_method_5_code
def yX3_keyAfter : MethodName := ⟨RX3, "keyAfter", "(I)I"⟩
abbrev cX3_copyFrom : ByteArray := prog_5_method_6_code
def yX3_copyFrom : MethodName := ⟨RX3, "copyFrom", "(LLeaningRicks$Yard;)V"⟩
def RX4 : String := "LeaningRicks"
def TX4 : u_T := fun k => match k with
  | 0 => ("LeaningRicks", "now", "LLeaningRicks$Yard;", true)
  | 1 => ("LeaningRicks", "saved", "LLeaningRicks$Yard;", true)
  | 2 => ("LeaningRicks", "isSaved", "Z", false)
  | 3 => ("LeaningRicks", "past", "[LLeaningRicks$Yard;", true)
  | 4 => ("LeaningRicks", "next", "I", false)
  | 5 => ("LeaningRicks", "undoable", "I", false)
  | 6 => ("LeaningRicks", "text", "LLeaningRicks$Row;", true)
  | 7 => ("LeaningRicks", "line", "LLeaningRicks$Row;", true)
  | 8 => ("LeaningRicks", "orders", "LLeaningRicks$Orders;", true)
  | 9 => ("LeaningRicks", "latestReason", "I", false)
  | _ => ("LeaningRicks", "latestDetail", "I", false)
def tyX4 : Nat → FieldType := fun k => match k with
  | 0 => .object "LeaningRicks$Yard"
  | 1 => .object "LeaningRicks$Yard"
  | 2 => .boolean
  | 3 => .array (.object "LeaningRicks$Yard")
  | 4 => .int
  | 5 => .int
  | 6 => .object "LeaningRicks$Row"
  | 7 => .object "LeaningRicks$Row"
  | 8 => .object "LeaningRicks$Orders"
  | 9 => .int
  | _ => .int
theorem nmX4 : ∀ a, a < 11 → ∀ b, b < 11 → a ≠ b → (TX4 a).2.1 ≠ (TX4 b).2.1 := by decide +kernel
theorem tyX4_ok : ∀ k, k < 11 → parseFieldDescriptor (TX4 k).2.2.1 = some (tyX4 k) := by decide +kernel
abbrev cX4_init : ByteArray := prog_1_method_1_code
def yX4_init : MethodName := ⟨RX4, "<init>", "()V"⟩
abbrev cX4_put : ByteArray := prog_1_method_2_code
def yX4_put : MethodName := ⟨RX4, "put", "(III)I"⟩
abbrev cX4_take : ByteArray := prog_1_method_3_code
def yX4_take : MethodName := ⟨RX4, "take", "(II)I"⟩
abbrev cX4_build : ByteArray := prog_1_method_4_code
def yX4_build : MethodName := ⟨RX4, "build", "(I)I"⟩
abbrev cX4_pour : ByteArray := prog_1_method_5_code
def yX4_pour : MethodName := ⟨RX4, "pour", "(II)I"⟩
abbrev cX4_limit : ByteArray := prog_1_method_6_code
def yX4_limit : MethodName := ⟨RX4, "limit", "(I)I"⟩
abbrev cX4_sheafOf : ByteArray := prog_1_method_7_code
def yX4_sheafOf : MethodName := ⟨RX4, "sheafOf", "(III)I"⟩
abbrev cX4_rickOf : ByteArray := prog_1_method_8_code
def yX4_rickOf : MethodName := ⟨RX4, "rickOf", "(II)I"⟩
abbrev cX4_rank : ByteArray := prog_1_method_9_code
def yX4_rank : MethodName := ⟨RX4, "rank", "(II)I"⟩
abbrev cX4_rankAgain : ByteArray := prog_1_method_10_code
def yX4_rankAgain : MethodName := ⟨RX4, "rankAgain", "(II)I"⟩
abbrev cX4_at : ByteArray := prog_1_method_11_code
def yX4_at : MethodName := ⟨RX4, "at", "(II)I"⟩
abbrev cX4_between : ByteArray := prog_1_method_12_code
def yX4_between : MethodName := ⟨RX4, "between", "(III)I"⟩
abbrev cX4_betweenAgain : ByteArray := prog_1_method_13_code
def yX4_betweenAgain : MethodName := ⟨RX4, "betweenAgain", "(III)I"⟩
abbrev cX4_heaviest : ByteArray := prog_1_method_14_code
def yX4_heaviest : MethodName := ⟨RX4, "heaviest", "(I)I"⟩
abbrev cX4_carts : ByteArray := prog_1_method_15_code
def yX4_carts : MethodName := ⟨RX4, "carts", "(II)I"⟩
abbrev cX4_cartOf : ByteArray := prog_1_method_16_code
def yX4_cartOf : MethodName := ⟨RX4, "cartOf", "(III)I"⟩
abbrev cX4_shape : ByteArray := prog_1_method_17_code
def yX4_shape : MethodName := ⟨RX4, "shape", "(I)J"⟩
abbrev cX4_weights : ByteArray := prog_1_method_18_code
def yX4_weights : MethodName := ⟨RX4, "weights", "(II)J"⟩
abbrev cX4_leaningShare : ByteArray := prog_1_method_19_code
def yX4_leaningShare : MethodName := ⟨RX4, "leaningShare", "(I)I"⟩
abbrev cX4_meanDepth : ByteArray := prog_1_method_20_code
def yX4_meanDepth : MethodName := ⟨RX4, "meanDepth", "(I)J"⟩
abbrev cX4_append : ByteArray := prog_1_method_21_code
def yX4_append : MethodName := ⟨RX4, "append", "(I)I"⟩
abbrev cX4_run : ByteArray := prog_1_method_22_code
def yX4_run : MethodName := ⟨RX4, "run", "()I"⟩
abbrev cX4_tell : ByteArray := prog_1_method_23_code
def yX4_tell : MethodName := ⟨RX4, "tell", "(I)I"⟩
abbrev cX4_reason : ByteArray := prog_1_method_25_code
def yX4_reason : MethodName := ⟨RX4, "reason", "(Z)I"⟩
abbrev cX4_account : ByteArray := prog_1_method_26_code
def yX4_account : MethodName := ⟨RX4, "account", "(I)I"⟩
abbrev cX4_isBalanced : ByteArray := prog_1_method_27_code
def yX4_isBalanced : MethodName := ⟨RX4, "isBalanced", "()I"⟩
abbrev cX4_undo : ByteArray := prog_1_method_28_code
def yX4_undo : MethodName := ⟨RX4, "undo", "()I"⟩
abbrev cX4_save : ByteArray := prog_1_method_29_code
def yX4_save : MethodName := ⟨RX4, "save", "()I"⟩
abbrev cX4_restore : ByteArray := prog_1_method_30_code
def yX4_restore : MethodName := ⟨RX4, "restore", "()I"⟩
abbrev cX4_putNow : ByteArray := prog_1_method_31_code
def yX4_putNow : MethodName := ⟨RX4, "putNow", "(III)I"⟩
abbrev cX4_takeNow : ByteArray := prog_1_method_32_code
def yX4_takeNow : MethodName := ⟨RX4, "takeNow", "(II)I"⟩
abbrev cX4_buildNow : ByteArray := prog_1_method_33_code
def yX4_buildNow : MethodName := ⟨RX4, "buildNow", "(I)I"⟩
abbrev cX4_pourNow : ByteArray := prog_1_method_34_code
def yX4_pourNow : MethodName := ⟨RX4, "pourNow", "(II)I"⟩
abbrev cX4_limitNow : ByteArray := prog_1_method_35_code
def yX4_limitNow : MethodName := ⟨RX4, "limitNow", "(I)I"⟩
abbrev cX4_buildWhole : ByteArray := prog_1_method_36_code
def yX4_buildWhole : MethodName := ⟨RX4, "buildWhole", "(LLeaningRicks$Rick;)I"⟩
abbrev cX4_carryOut : ByteArray := prog_1_method_37_code
def yX4_carryOut : MethodName := ⟨RX4, "carryOut", "(I)I"⟩
abbrev cX4_refuse : ByteArray := prog_1_method_38_code
def yX4_refuse : MethodName := ⟨RX4, "refuse", "(II)I"⟩
abbrev cX4_hold : ByteArray := prog_1_method_39_code
def yX4_hold : MethodName := ⟨RX4, "hold", "()V"⟩
abbrev cX4_keep : ByteArray := prog_1_method_40_code
def yX4_keep : MethodName := ⟨RX4, "keep", "(I)I"⟩
abbrev cX4_giveBack : ByteArray := prog_1_method_41_code
def yX4_giveBack : MethodName := ⟨RX4, "giveBack", "()V"⟩
abbrev cX4_beforeNow : ByteArray := prog_1_method_42_code
def yX4_beforeNow : MethodName := ⟨RX4, "beforeNow", "()LLeaningRicks$Yard;"⟩
abbrev cX4_isBears : ByteArray := prog_1_method_43_code
def yX4_isBears : MethodName := ⟨RX4, "isBears", "(I)Z"⟩
abbrev cX4_depthFor : ByteArray := prog_1_method_44_code
def yX4_depthFor : MethodName := ⟨RX4, "depthFor", "(II)I"⟩
abbrev cX4_shapeOf : ByteArray := prog_1_method_45_code
def yX4_shapeOf : MethodName := ⟨RX4, "shapeOf", "(LLeaningRicks$Rick;IIJI)J"⟩
abbrev cX4_write : ByteArray := prog_1_method_46_code
def yX4_write : MethodName := ⟨RX4, "write", "(LLeaningRicks$Row;LLeaningRicks$Rick;IIII)V"⟩
abbrev cX4_isSound : ByteArray := prog_1_method_47_code
def yX4_isSound : MethodName := ⟨RX4, "isSound", "(LLeaningRicks$Rick;)Z"⟩
abbrev cX4_isTree : ByteArray := prog_1_method_48_code
def yX4_isTree : MethodName := ⟨RX4, "isTree", "(LLeaningRicks$Rick;III)Z"⟩
abbrev cX4_shareBits : ByteArray := prog_1_method_49_code
def yX4_shareBits : MethodName := ⟨RX4, "shareBits", "(F)I"⟩
abbrev cX4_meanBits : ByteArray := prog_1_method_50_code
def yX4_meanBits : MethodName := ⟨RX4, "meanBits", "(D)J"⟩
def RX5 : String := "LeaningRicksModel"
def TX5 : u_T := fun k => match k with
  | _ => ("", "", "", false)
def tyX5 : Nat → FieldType := fun k => match k with
  | _ => .int
theorem nmX5 : ∀ a, a < 0 → ∀ b, b < 0 → a ≠ b → (TX5 a).2.1 ≠ (TX5 b).2.1 := by decide +kernel
theorem tyX5_ok : ∀ k, k < 0 → parseFieldDescriptor (TX5 k).2.2.1 = some (tyX5 k) := by decide +kernel
def RJxe99ae : String := "java/lang/Double"
abbrev cJxe99ae_isNaN_b9ae7 : ByteArray := prog_8_method_6_code
def yJxe99ae_isNaN_b9ae7 : MethodName := ⟨RJxe99ae, "isNaN", "(D)Z"⟩
abbrev cJxe99ae_doubleToLongBits_ccdee : ByteArray := prog_8_method_23_code
def yJxe99ae_doubleToLongBits_ccdee : MethodName := ⟨RJxe99ae, "doubleToLongBits", "(D)J"⟩
def RJxf58ca : String := "java/lang/Float"
abbrev cJxf58ca_isNaN_12338 : ByteArray := prog_9_method_6_code
def yJxf58ca_isNaN_12338 : MethodName := ⟨RJxf58ca, "isNaN", "(F)Z"⟩
abbrev cJxf58ca_floatToIntBits_5c35a : ByteArray := prog_9_method_24_code
def yJxf58ca_floatToIntBits_5c35a : MethodName := ⟨RJxf58ca, "floatToIntBits", "(F)I"⟩
def RJ13 : String := "java/lang/Long"
abbrev cJ13_bitCount_95d88 : ByteArray := prog_10_method_50_code
def yJ13_bitCount_95d88 : MethodName := ⟨RJ13, "bitCount", "(J)I"⟩
def RJ9 : String := "java/lang/Math"
abbrev cJ9_max_7cf53 : ByteArray := prog_11_method_65_code
def yJ9_max_7cf53 : MethodName := ⟨RJ9, "max", "(II)I"⟩
abbrev cJ9_min_7cf53 : ByteArray := prog_11_method_69_code
def yJ9_min_7cf53 : MethodName := ⟨RJ9, "min", "(II)I"⟩
def RJ0 : String := "java/lang/String"
abbrev cJ0_length_8abf5 : ByteArray := prog_12_method_54_code
def yJ0_length_8abf5 : MethodName := ⟨RJ0, "length", "()I"⟩
abbrev cJ0_charAt_5068e : ByteArray := prog_12_method_56_code
def yJ0_charAt_5068e : MethodName := ⟨RJ0, "charAt", "(I)C"⟩
abbrev cJ0_coder_7d493 : ByteArray := prog_12_method_152_code
def yJ0_coder_7d493 : MethodName := ⟨RJ0, "coder", "()B"⟩
abbrev cJ0_isLatin1_aae02 : ByteArray := prog_12_method_154_code
def yJ0_isLatin1_aae02 : MethodName := ⟨RJ0, "isLatin1", "()Z"⟩
abbrev cJ0_checkIndex_df160 : ByteArray := prog_12_method_155_code
def yJ0_checkIndex_df160 : MethodName := ⟨RJ0, "checkIndex", "(II)V"⟩
def RJ1 : String := "java/lang/StringLatin1"
abbrev cJ1_charAt_3b067 : ByteArray := prog_13_method_2_code
def yJ1_charAt_3b067 : MethodName := ⟨RJ1, "charAt", "([BI)C"⟩
def RJ2 : String := "java/lang/StringUTF16"
abbrev cJ2_getChar_3b067 : ByteArray := prog_14_method_5_code
def yJ2_getChar_3b067 : MethodName := ⟨RJ2, "getChar", "([BI)C"⟩
abbrev cJ2_length_9d52b : ByteArray := prog_14_method_6_code
def yJ2_length_9d52b : MethodName := ⟨RJ2, "length", "([B)I"⟩
abbrev cJ2_charAt_3b067 : ByteArray := prog_14_method_83_code
def yJ2_charAt_3b067 : MethodName := ⟨RJ2, "charAt", "([BI)C"⟩
abbrev cJ2_checkIndex_2214a : ByteArray := prog_14_method_91_code
def yJ2_checkIndex_2214a : MethodName := ⟨RJ2, "checkIndex", "(I[B)V"⟩
def RJ10 : String := "java/lang/System"
def RJ3 : String := "jdk/internal/util/Preconditions"
abbrev cJ3_checkIndex_8e157 : ByteArray := prog_16_method_11_code
def yJ3_checkIndex_8e157 : MethodName := ⟨RJ3, "checkIndex", "(IILjava/util/function/BiFunction;)I"⟩
def RL : String := "LeaningRicksLaw"
abbrev cL_cell : ByteArray := method_2_code
def yL_cell : MethodName := ⟨RL, "cell", "([II)I"⟩
abbrev cL_write : ByteArray := method_3_code
def yL_write : MethodName := ⟨RL, "write", "(LLeaningRicks;Ljava/lang/String;)LLeaningRicks;"⟩
abbrev cL_act : ByteArray := method_4_code
def yL_act : MethodName := ⟨RL, "act", "(LLeaningRicks;I)I"⟩
abbrev cL_digest : ByteArray := method_5_code
def yL_digest : MethodName := ⟨RL, "digest", "(LLeaningRicks;)J"⟩
abbrev cL_isSheaf : ByteArray := method_6_code
def yL_isSheaf : MethodName := ⟨RL, "isSheaf", "(LLeaningRicks;II)Z"⟩
abbrev cL_isRick : ByteArray := method_7_code
def yL_isRick : MethodName := ⟨RL, "isRick", "(LLeaningRicks;I)Z"⟩
abbrev cL_areCarts : ByteArray := method_8_code
def yL_areCarts : MethodName := ⟨RL, "areCarts", "(LLeaningRicks;II)Z"⟩
abbrev cL_areHeaviest : ByteArray := method_9_code
def yL_areHeaviest : MethodName := ⟨RL, "areHeaviest", "(LLeaningRicks;)Z"⟩
abbrev cL_isFit : ByteArray := method_10_code
def yL_isFit : MethodName := ⟨RL, "isFit", "(LLeaningRicks;)Z"⟩
abbrev cL_isPut : ByteArray := method_11_code
def yL_isPut : MethodName := ⟨RL, "isPut", "(LLeaningRicks;II)Z"⟩
abbrev cL_law : ByteArray := code
def yL_law : MethodName := ⟨RL, "law", "([I)Z"⟩
abbrev vwCl : List vw_C := [(RX0, TX0, 4), (RX1, TX1, 5), (RX2, TX2, 2), (RX3, TX3, 8), (RX4, TX4, 11)]
theorem inX0 : ∀ w ∈ u_ws RX0 TX0 4, w ∈ lw_tbl := by decide +kernel
theorem inX1 : ∀ w ∈ u_ws RX1 TX1 5, w ∈ lw_tbl := by decide +kernel
theorem inX2 : ∀ w ∈ u_ws RX2 TX2 2, w ∈ lw_tbl := by decide +kernel
theorem inX3 : ∀ w ∈ u_ws RX3 TX3 8, w ∈ lw_tbl := by decide +kernel
theorem inX4 : ∀ w ∈ u_ws RX4 TX4 11, w ∈ lw_tbl := by decide +kernel
end
section
theorem dX0_init_0 : decode cX0_init 0 = .ok (.aload_n 0, 1) := by decide +kernel
theorem dX0_init_1 : decode cX0_init 1 = .ok (.invokespecial 3, 3) := by decide +kernel
theorem dX0_init_4 : decode cX0_init 4 = .ok (.aload_n 0, 1) := by decide +kernel
theorem dX0_init_5 : decode cX0_init 5 = .ok (.bipush 20, 2) := by decide +kernel
theorem dX0_init_7 : decode cX0_init 7 = .ok (.newarray .int, 2) := by decide +kernel
theorem dX0_init_9 : decode cX0_init 9 = .ok (.putfield 9, 3) := by decide +kernel
theorem dX0_init_12 : decode cX0_init 12 = .ok (.aload_n 0, 1) := by decide +kernel
theorem dX0_init_13 : decode cX0_init 13 = .ok (.bipush 60, 2) := by decide +kernel
theorem dX0_init_15 : decode cX0_init 15 = .ok (.newarray .int, 2) := by decide +kernel
theorem dX0_init_17 : decode cX0_init 17 = .ok (.putfield 15, 3) := by decide +kernel
theorem dX0_init_20 : decode cX0_init 20 = .ok (.return_, 1) := by decide +kernel
theorem dX0_signOf_0 : decode cX0_signOf 0 = .ok (.iload_n 1, 1) := by decide +kernel
theorem dX0_signOf_1 : decode cX0_signOf 1 = .ok (.ifCond .lt 18, 3) := by decide +kernel
theorem dX0_signOf_4 : decode cX0_signOf 4 = .ok (.iload_n 1, 1) := by decide +kernel
theorem dX0_signOf_5 : decode cX0_signOf 5 = .ok (.bipush 20, 2) := by decide +kernel
theorem dX0_signOf_7 : decode cX0_signOf 7 = .ok (.if_icmp .ge 12, 3) := by decide +kernel
theorem dX0_signOf_10 : decode cX0_signOf 10 = .ok (.aload_n 0, 1) := by decide +kernel
theorem dX0_signOf_11 : decode cX0_signOf 11 = .ok (.getfield 9, 3) := by decide +kernel
theorem dX0_signOf_14 : decode cX0_signOf 14 = .ok (.iload_n 1, 1) := by decide +kernel
theorem dX0_signOf_15 : decode cX0_signOf 15 = .ok (.iaload, 1) := by decide +kernel
theorem dX0_signOf_16 : decode cX0_signOf 16 = .ok (.goto 5, 3) := by decide +kernel
theorem dX0_signOf_19 : decode cX0_signOf 19 = .ok (.bipush (-11), 2) := by decide +kernel
theorem dX0_signOf_21 : decode cX0_signOf 21 = .ok (.ireturn, 1) := by decide +kernel
theorem dX0_numberOf_0 : decode cX0_numberOf 0 = .ok (.iload_n 1, 1) := by decide +kernel
theorem dX0_numberOf_1 : decode cX0_numberOf 1 = .ok (.iconst 3, 1) := by decide +kernel
theorem dX0_numberOf_2 : decode cX0_numberOf 2 = .ok (.imul, 1) := by decide +kernel
theorem dX0_numberOf_3 : decode cX0_numberOf 3 = .ok (.iload_n 2, 1) := by decide +kernel
theorem dX0_numberOf_4 : decode cX0_numberOf 4 = .ok (.iadd, 1) := by decide +kernel
theorem dX0_numberOf_5 : decode cX0_numberOf 5 = .ok (.istore_n 3, 1) := by decide +kernel
theorem dX0_numberOf_6 : decode cX0_numberOf 6 = .ok (.iload_n 1, 1) := by decide +kernel
theorem dX0_numberOf_7 : decode cX0_numberOf 7 = .ok (.ifCond .lt 27, 3) := by decide +kernel
theorem dX0_numberOf_10 : decode cX0_numberOf 10 = .ok (.iload_n 1, 1) := by decide +kernel
theorem dX0_numberOf_11 : decode cX0_numberOf 11 = .ok (.bipush 20, 2) := by decide +kernel
theorem dX0_numberOf_13 : decode cX0_numberOf 13 = .ok (.if_icmp .ge 21, 3) := by decide +kernel
theorem dX0_numberOf_16 : decode cX0_numberOf 16 = .ok (.iload_n 2, 1) := by decide +kernel
theorem dX0_numberOf_17 : decode cX0_numberOf 17 = .ok (.ifCond .lt 17, 3) := by decide +kernel
theorem dX0_numberOf_20 : decode cX0_numberOf 20 = .ok (.iload_n 2, 1) := by decide +kernel
theorem dX0_numberOf_21 : decode cX0_numberOf 21 = .ok (.iconst 3, 1) := by decide +kernel
theorem dX0_numberOf_22 : decode cX0_numberOf 22 = .ok (.if_icmp .ge 12, 3) := by decide +kernel
theorem dX0_numberOf_25 : decode cX0_numberOf 25 = .ok (.aload_n 0, 1) := by decide +kernel
theorem dX0_numberOf_26 : decode cX0_numberOf 26 = .ok (.getfield 15, 3) := by decide +kernel
theorem dX0_numberOf_29 : decode cX0_numberOf 29 = .ok (.iload_n 3, 1) := by decide +kernel
theorem dX0_numberOf_30 : decode cX0_numberOf 30 = .ok (.iaload, 1) := by decide +kernel
theorem dX0_numberOf_31 : decode cX0_numberOf 31 = .ok (.goto 5, 3) := by decide +kernel
theorem dX0_numberOf_34 : decode cX0_numberOf 34 = .ok (.bipush (-11), 2) := by decide +kernel
theorem dX0_numberOf_36 : decode cX0_numberOf 36 = .ok (.ireturn, 1) := by decide +kernel
theorem dX0_read_0 : decode cX0_read 0 = .ok (.aload_n 0, 1) := by decide +kernel
theorem dX0_read_1 : decode cX0_read 1 = .ok (.iconst 0, 1) := by decide +kernel
theorem dX0_read_2 : decode cX0_read 2 = .ok (.putfield 18, 3) := by decide +kernel
theorem dX0_read_5 : decode cX0_read 5 = .ok (.aload_n 0, 1) := by decide +kernel
theorem dX0_read_6 : decode cX0_read 6 = .ok (.iconst 0, 1) := by decide +kernel
theorem dX0_read_7 : decode cX0_read 7 = .ok (.putfield 22, 3) := by decide +kernel
theorem dX0_read_10 : decode cX0_read 10 = .ok (.iconst 1, 1) := by decide +kernel
theorem dX0_read_11 : decode cX0_read 11 = .ok (.istore_n 2, 1) := by decide +kernel
theorem dX0_read_12 : decode cX0_read 12 = .ok (.iconst 0, 1) := by decide +kernel
theorem dX0_read_13 : decode cX0_read 13 = .ok (.istore_n 3, 1) := by decide +kernel
theorem dX0_read_14 : decode cX0_read 14 = .ok (.iload_n 3, 1) := by decide +kernel
theorem dX0_read_15 : decode cX0_read 15 = .ok (.bipush 20, 2) := by decide +kernel
theorem dX0_read_17 : decode cX0_read 17 = .ok (.if_icmp .gt 80, 3) := by decide +kernel
theorem dX0_read_20 : decode cX0_read 20 = .ok (.iload_n 2, 1) := by decide +kernel
theorem dX0_read_21 : decode cX0_read 21 = .ok (.ifCond .eq 76, 3) := by decide +kernel
theorem dX0_read_24 : decode cX0_read 24 = .ok (.aload_n 0, 1) := by decide +kernel
theorem dX0_read_25 : decode cX0_read 25 = .ok (.aload_n 1, 1) := by decide +kernel
theorem dX0_read_26 : decode cX0_read 26 = .ok (.invokevirtual 25, 3) := by decide +kernel
theorem dX0_read_29 : decode cX0_read 29 = .ok (.ifCond .ne 12, 3) := by decide +kernel
theorem dX0_read_32 : decode cX0_read 32 = .ok (.sipush (-1000), 3) := by decide +kernel
theorem dX0_read_35 : decode cX0_read 35 = .ok (.aload_n 0, 1) := by decide +kernel
theorem dX0_read_36 : decode cX0_read 36 = .ok (.getfield 22, 3) := by decide +kernel
theorem dX0_read_39 : decode cX0_read 39 = .ok (.isub, 1) := by decide +kernel
theorem dX0_read_40 : decode cX0_read 40 = .ok (.ireturn, 1) := by decide +kernel
theorem dX0_read_41 : decode cX0_read 41 = .ok (.aload_n 0, 1) := by decide +kernel
theorem dX0_read_42 : decode cX0_read 42 = .ok (.dup, 1) := by decide +kernel
theorem dX0_read_43 : decode cX0_read 43 = .ok (.getfield 18, 3) := by decide +kernel
theorem dX0_read_46 : decode cX0_read 46 = .ok (.iconst 1, 1) := by decide +kernel
theorem dX0_read_47 : decode cX0_read 47 = .ok (.iadd, 1) := by decide +kernel
theorem dX0_read_48 : decode cX0_read 48 = .ok (.putfield 18, 3) := by decide +kernel
theorem dX0_read_51 : decode cX0_read 51 = .ok (.aload_n 0, 1) := by decide +kernel
theorem dX0_read_52 : decode cX0_read 52 = .ok (.getfield 22, 3) := by decide +kernel
theorem dX0_read_55 : decode cX0_read 55 = .ok (.aload_n 1, 1) := by decide +kernel
theorem dX0_read_56 : decode cX0_read 56 = .ok (.getfield 29, 3) := by decide +kernel
theorem dX0_read_59 : decode cX0_read 59 = .ok (.if_icmp .ge 7, 3) := by decide +kernel
theorem dX0_read_62 : decode cX0_read 62 = .ok (.iconst 1, 1) := by decide +kernel
theorem dX0_read_63 : decode cX0_read 63 = .ok (.goto 4, 3) := by decide +kernel
theorem dX0_read_66 : decode cX0_read 66 = .ok (.iconst 0, 1) := by decide +kernel
theorem dX0_read_67 : decode cX0_read 67 = .ok (.istore_n 2, 1) := by decide +kernel
theorem dX0_read_68 : decode cX0_read 68 = .ok (.iload_n 2, 1) := by decide +kernel
theorem dX0_read_69 : decode cX0_read 69 = .ok (.ifCond .eq 22, 3) := by decide +kernel
theorem dX0_read_72 : decode cX0_read 72 = .ok (.aload_n 0, 1) := by decide +kernel
theorem dX0_read_73 : decode cX0_read 73 = .ok (.aload_n 1, 1) := by decide +kernel
theorem dX0_read_74 : decode cX0_read 74 = .ok (.bipush 59, 2) := by decide +kernel
theorem dX0_read_76 : decode cX0_read 76 = .ok (.invokevirtual 34, 3) := by decide +kernel
theorem dX0_read_79 : decode cX0_read 79 = .ok (.ifCond .ne 12, 3) := by decide +kernel
theorem dX0_read_82 : decode cX0_read 82 = .ok (.sipush (-1000), 3) := by decide +kernel
theorem dX0_read_85 : decode cX0_read 85 = .ok (.aload_n 0, 1) := by decide +kernel
theorem dX0_read_86 : decode cX0_read 86 = .ok (.getfield 22, 3) := by decide +kernel
theorem dX0_read_89 : decode cX0_read 89 = .ok (.isub, 1) := by decide +kernel
theorem dX0_read_90 : decode cX0_read 90 = .ok (.ireturn, 1) := by decide +kernel
theorem dX0_read_91 : decode cX0_read 91 = .ok (.iinc 3 1, 3) := by decide +kernel
theorem dX0_read_94 : decode cX0_read 94 = .ok (.goto (-80), 3) := by decide +kernel
theorem dX0_read_97 : decode cX0_read 97 = .ok (.aload_n 0, 1) := by decide +kernel
theorem dX0_read_98 : decode cX0_read 98 = .ok (.getfield 18, 3) := by decide +kernel
theorem dX0_read_101 : decode cX0_read 101 = .ok (.ireturn, 1) := by decide +kernel
theorem dX0_isOrder_0 : decode cX0_isOrder 0 = .ok (.aload_n 1, 1) := by decide +kernel
theorem dX0_isOrder_1 : decode cX0_isOrder 1 = .ok (.aload_n 0, 1) := by decide +kernel
theorem dX0_isOrder_2 : decode cX0_isOrder 2 = .ok (.getfield 22, 3) := by decide +kernel
theorem dX0_isOrder_5 : decode cX0_isOrder 5 = .ok (.invokevirtual 38, 3) := by decide +kernel
theorem dX0_isOrder_8 : decode cX0_isOrder 8 = .ok (.istore_n 2, 1) := by decide +kernel
theorem dX0_isOrder_9 : decode cX0_isOrder 9 = .ok (.aload_n 0, 1) := by decide +kernel
theorem dX0_isOrder_10 : decode cX0_isOrder 10 = .ok (.getfield 18, 3) := by decide +kernel
theorem dX0_isOrder_13 : decode cX0_isOrder 13 = .ok (.bipush 20, 2) := by decide +kernel
theorem dX0_isOrder_15 : decode cX0_isOrder 15 = .ok (.if_icmp .ge 20, 3) := by decide +kernel
theorem dX0_isOrder_18 : decode cX0_isOrder 18 = .ok (.aload_n 0, 1) := by decide +kernel
theorem dX0_isOrder_19 : decode cX0_isOrder 19 = .ok (.getfield 18, 3) := by decide +kernel
theorem dX0_isOrder_22 : decode cX0_isOrder 22 = .ok (.ifCond .lt 13, 3) := by decide +kernel
theorem dX0_isOrder_25 : decode cX0_isOrder 25 = .ok (.aload_n 0, 1) := by decide +kernel
theorem dX0_isOrder_26 : decode cX0_isOrder 26 = .ok (.getfield 9, 3) := by decide +kernel
theorem dX0_isOrder_29 : decode cX0_isOrder 29 = .ok (.aload_n 0, 1) := by decide +kernel
theorem dX0_isOrder_30 : decode cX0_isOrder 30 = .ok (.getfield 18, 3) := by decide +kernel
theorem dX0_isOrder_33 : decode cX0_isOrder 33 = .ok (.iload_n 2, 1) := by decide +kernel
theorem dX0_isOrder_34 : decode cX0_isOrder 34 = .ok (.iastore, 1) := by decide +kernel
theorem dX0_isOrder_35 : decode cX0_isOrder 35 = .ok (.iload_n 2, 1) := by decide +kernel
theorem dX0_isOrder_36 : decode cX0_isOrder 36 = .ok (.lookupswitch 247 #[(37, 222), (43, 52), (45, 117), (61, 162), (62, 187)], 52) := by decide +kernel
theorem dX0_isOrder_88 : decode cX0_isOrder 88 = .ok (.aload_n 0, 1) := by decide +kernel
theorem dX0_isOrder_89 : decode cX0_isOrder 89 = .ok (.aload_n 1, 1) := by decide +kernel
theorem dX0_isOrder_90 : decode cX0_isOrder 90 = .ok (.iload_n 2, 1) := by decide +kernel
theorem dX0_isOrder_91 : decode cX0_isOrder 91 = .ok (.invokevirtual 34, 3) := by decide +kernel
theorem dX0_isOrder_94 : decode cX0_isOrder 94 = .ok (.ifCond .eq 57, 3) := by decide +kernel
theorem dX0_isOrder_97 : decode cX0_isOrder 97 = .ok (.aload_n 0, 1) := by decide +kernel
theorem dX0_isOrder_98 : decode cX0_isOrder 98 = .ok (.aload_n 1, 1) := by decide +kernel
theorem dX0_isOrder_99 : decode cX0_isOrder 99 = .ok (.iconst 0, 1) := by decide +kernel
theorem dX0_isOrder_100 : decode cX0_isOrder 100 = .ok (.iconst 1, 1) := by decide +kernel
theorem dX0_isOrder_101 : decode cX0_isOrder 101 = .ok (.invokevirtual 42, 3) := by decide +kernel
theorem dX0_isOrder_104 : decode cX0_isOrder 104 = .ok (.ifCond .eq 47, 3) := by decide +kernel
theorem dX0_isOrder_107 : decode cX0_isOrder 107 = .ok (.aload_n 0, 1) := by decide +kernel
theorem dX0_isOrder_108 : decode cX0_isOrder 108 = .ok (.aload_n 1, 1) := by decide +kernel
theorem dX0_isOrder_109 : decode cX0_isOrder 109 = .ok (.bipush 58, 2) := by decide +kernel
theorem dX0_isOrder_111 : decode cX0_isOrder 111 = .ok (.invokevirtual 34, 3) := by decide +kernel
theorem dX0_isOrder_114 : decode cX0_isOrder 114 = .ok (.ifCond .eq 37, 3) := by decide +kernel
theorem dX0_isOrder_117 : decode cX0_isOrder 117 = .ok (.aload_n 0, 1) := by decide +kernel
theorem dX0_isOrder_118 : decode cX0_isOrder 118 = .ok (.aload_n 1, 1) := by decide +kernel
theorem dX0_isOrder_119 : decode cX0_isOrder 119 = .ok (.iconst 1, 1) := by decide +kernel
theorem dX0_isOrder_120 : decode cX0_isOrder 120 = .ok (.iconst 3, 1) := by decide +kernel
theorem dX0_isOrder_121 : decode cX0_isOrder 121 = .ok (.invokevirtual 42, 3) := by decide +kernel
theorem dX0_isOrder_124 : decode cX0_isOrder 124 = .ok (.ifCond .eq 27, 3) := by decide +kernel
theorem dX0_isOrder_127 : decode cX0_isOrder 127 = .ok (.aload_n 0, 1) := by decide +kernel
theorem dX0_isOrder_128 : decode cX0_isOrder 128 = .ok (.aload_n 1, 1) := by decide +kernel
theorem dX0_isOrder_129 : decode cX0_isOrder 129 = .ok (.bipush 42, 2) := by decide +kernel
theorem dX0_isOrder_131 : decode cX0_isOrder 131 = .ok (.invokevirtual 34, 3) := by decide +kernel
theorem dX0_isOrder_134 : decode cX0_isOrder 134 = .ok (.ifCond .eq 17, 3) := by decide +kernel
theorem dX0_isOrder_137 : decode cX0_isOrder 137 = .ok (.aload_n 0, 1) := by decide +kernel
theorem dX0_isOrder_138 : decode cX0_isOrder 138 = .ok (.aload_n 1, 1) := by decide +kernel
theorem dX0_isOrder_139 : decode cX0_isOrder 139 = .ok (.iconst 2, 1) := by decide +kernel
theorem dX0_isOrder_140 : decode cX0_isOrder 140 = .ok (.iconst 2, 1) := by decide +kernel
theorem dX0_isOrder_141 : decode cX0_isOrder 141 = .ok (.invokevirtual 42, 3) := by decide +kernel
theorem dX0_isOrder_144 : decode cX0_isOrder 144 = .ok (.ifCond .eq 7, 3) := by decide +kernel
theorem dX0_isOrder_147 : decode cX0_isOrder 147 = .ok (.iconst 1, 1) := by decide +kernel
theorem dX0_isOrder_148 : decode cX0_isOrder 148 = .ok (.goto 4, 3) := by decide +kernel
theorem dX0_isOrder_151 : decode cX0_isOrder 151 = .ok (.iconst 0, 1) := by decide +kernel
theorem dX0_isOrder_152 : decode cX0_isOrder 152 = .ok (.ireturn, 1) := by decide +kernel
theorem dX0_isOrder_153 : decode cX0_isOrder 153 = .ok (.aload_n 0, 1) := by decide +kernel
theorem dX0_isOrder_154 : decode cX0_isOrder 154 = .ok (.aload_n 1, 1) := by decide +kernel
theorem dX0_isOrder_155 : decode cX0_isOrder 155 = .ok (.iload_n 2, 1) := by decide +kernel
theorem dX0_isOrder_156 : decode cX0_isOrder 156 = .ok (.invokevirtual 34, 3) := by decide +kernel
theorem dX0_isOrder_159 : decode cX0_isOrder 159 = .ok (.ifCond .eq 37, 3) := by decide +kernel
theorem dX0_isOrder_162 : decode cX0_isOrder 162 = .ok (.aload_n 0, 1) := by decide +kernel
theorem dX0_isOrder_163 : decode cX0_isOrder 163 = .ok (.aload_n 1, 1) := by decide +kernel
theorem dX0_isOrder_164 : decode cX0_isOrder 164 = .ok (.iconst 0, 1) := by decide +kernel
theorem dX0_isOrder_165 : decode cX0_isOrder 165 = .ok (.iconst 1, 1) := by decide +kernel
theorem dX0_isOrder_166 : decode cX0_isOrder 166 = .ok (.invokevirtual 42, 3) := by decide +kernel
theorem dX0_isOrder_169 : decode cX0_isOrder 169 = .ok (.ifCond .eq 27, 3) := by decide +kernel
theorem dX0_isOrder_172 : decode cX0_isOrder 172 = .ok (.aload_n 0, 1) := by decide +kernel
theorem dX0_isOrder_173 : decode cX0_isOrder 173 = .ok (.aload_n 1, 1) := by decide +kernel
theorem dX0_isOrder_174 : decode cX0_isOrder 174 = .ok (.bipush 58, 2) := by decide +kernel
theorem dX0_isOrder_176 : decode cX0_isOrder 176 = .ok (.invokevirtual 34, 3) := by decide +kernel
theorem dX0_isOrder_179 : decode cX0_isOrder 179 = .ok (.ifCond .eq 17, 3) := by decide +kernel
theorem dX0_isOrder_182 : decode cX0_isOrder 182 = .ok (.aload_n 0, 1) := by decide +kernel
theorem dX0_isOrder_183 : decode cX0_isOrder 183 = .ok (.aload_n 1, 1) := by decide +kernel
theorem dX0_isOrder_184 : decode cX0_isOrder 184 = .ok (.iconst 1, 1) := by decide +kernel
theorem dX0_isOrder_185 : decode cX0_isOrder 185 = .ok (.iconst 3, 1) := by decide +kernel
theorem dX0_isOrder_186 : decode cX0_isOrder 186 = .ok (.invokevirtual 42, 3) := by decide +kernel
theorem dX0_isOrder_189 : decode cX0_isOrder 189 = .ok (.ifCond .eq 7, 3) := by decide +kernel
theorem dX0_isOrder_192 : decode cX0_isOrder 192 = .ok (.iconst 1, 1) := by decide +kernel
theorem dX0_isOrder_193 : decode cX0_isOrder 193 = .ok (.goto 4, 3) := by decide +kernel
theorem dX0_isOrder_196 : decode cX0_isOrder 196 = .ok (.iconst 0, 1) := by decide +kernel
theorem dX0_isOrder_197 : decode cX0_isOrder 197 = .ok (.ireturn, 1) := by decide +kernel
theorem dX0_isOrder_198 : decode cX0_isOrder 198 = .ok (.aload_n 0, 1) := by decide +kernel
theorem dX0_isOrder_199 : decode cX0_isOrder 199 = .ok (.aload_n 1, 1) := by decide +kernel
theorem dX0_isOrder_200 : decode cX0_isOrder 200 = .ok (.iload_n 2, 1) := by decide +kernel
theorem dX0_isOrder_201 : decode cX0_isOrder 201 = .ok (.invokevirtual 34, 3) := by decide +kernel
theorem dX0_isOrder_204 : decode cX0_isOrder 204 = .ok (.ifCond .eq 17, 3) := by decide +kernel
theorem dX0_isOrder_207 : decode cX0_isOrder 207 = .ok (.aload_n 0, 1) := by decide +kernel
theorem dX0_isOrder_208 : decode cX0_isOrder 208 = .ok (.aload_n 1, 1) := by decide +kernel
theorem dX0_isOrder_209 : decode cX0_isOrder 209 = .ok (.iconst 0, 1) := by decide +kernel
theorem dX0_isOrder_210 : decode cX0_isOrder 210 = .ok (.iconst 1, 1) := by decide +kernel
theorem dX0_isOrder_211 : decode cX0_isOrder 211 = .ok (.invokevirtual 42, 3) := by decide +kernel
theorem dX0_isOrder_214 : decode cX0_isOrder 214 = .ok (.ifCond .eq 7, 3) := by decide +kernel
theorem dX0_isOrder_217 : decode cX0_isOrder 217 = .ok (.iconst 1, 1) := by decide +kernel
theorem dX0_isOrder_218 : decode cX0_isOrder 218 = .ok (.goto 4, 3) := by decide +kernel
theorem dX0_isOrder_221 : decode cX0_isOrder 221 = .ok (.iconst 0, 1) := by decide +kernel
theorem dX0_isOrder_222 : decode cX0_isOrder 222 = .ok (.ireturn, 1) := by decide +kernel
theorem dX0_isOrder_223 : decode cX0_isOrder 223 = .ok (.aload_n 0, 1) := by decide +kernel
theorem dX0_isOrder_224 : decode cX0_isOrder 224 = .ok (.aload_n 1, 1) := by decide +kernel
theorem dX0_isOrder_225 : decode cX0_isOrder 225 = .ok (.iload_n 2, 1) := by decide +kernel
theorem dX0_isOrder_226 : decode cX0_isOrder 226 = .ok (.invokevirtual 34, 3) := by decide +kernel
theorem dX0_isOrder_229 : decode cX0_isOrder 229 = .ok (.ifCond .eq 27, 3) := by decide +kernel
theorem dX0_isOrder_232 : decode cX0_isOrder 232 = .ok (.aload_n 0, 1) := by decide +kernel
theorem dX0_isOrder_233 : decode cX0_isOrder 233 = .ok (.aload_n 1, 1) := by decide +kernel
theorem dX0_isOrder_234 : decode cX0_isOrder 234 = .ok (.iconst 0, 1) := by decide +kernel
theorem dX0_isOrder_235 : decode cX0_isOrder 235 = .ok (.iconst 1, 1) := by decide +kernel
theorem dX0_isOrder_236 : decode cX0_isOrder 236 = .ok (.invokevirtual 42, 3) := by decide +kernel
theorem dX0_isOrder_239 : decode cX0_isOrder 239 = .ok (.ifCond .eq 17, 3) := by decide +kernel
theorem dX0_isOrder_242 : decode cX0_isOrder 242 = .ok (.aload_n 0, 1) := by decide +kernel
theorem dX0_isOrder_243 : decode cX0_isOrder 243 = .ok (.aload_n 1, 1) := by decide +kernel
theorem dX0_isOrder_244 : decode cX0_isOrder 244 = .ok (.iconst 1, 1) := by decide +kernel
theorem dX0_isOrder_245 : decode cX0_isOrder 245 = .ok (.iconst 1, 1) := by decide +kernel
theorem dX0_isOrder_246 : decode cX0_isOrder 246 = .ok (.invokevirtual 42, 3) := by decide +kernel
theorem dX0_isOrder_249 : decode cX0_isOrder 249 = .ok (.ifCond .eq 7, 3) := by decide +kernel
theorem dX0_isOrder_252 : decode cX0_isOrder 252 = .ok (.iconst 1, 1) := by decide +kernel
theorem dX0_isOrder_253 : decode cX0_isOrder 253 = .ok (.goto 4, 3) := by decide +kernel
theorem dX0_isOrder_256 : decode cX0_isOrder 256 = .ok (.iconst 0, 1) := by decide +kernel
theorem dX0_isOrder_257 : decode cX0_isOrder 257 = .ok (.ireturn, 1) := by decide +kernel
theorem dX0_isOrder_258 : decode cX0_isOrder 258 = .ok (.aload_n 0, 1) := by decide +kernel
theorem dX0_isOrder_259 : decode cX0_isOrder 259 = .ok (.aload_n 1, 1) := by decide +kernel
theorem dX0_isOrder_260 : decode cX0_isOrder 260 = .ok (.iload_n 2, 1) := by decide +kernel
theorem dX0_isOrder_261 : decode cX0_isOrder 261 = .ok (.invokevirtual 34, 3) := by decide +kernel
theorem dX0_isOrder_264 : decode cX0_isOrder 264 = .ok (.ifCond .eq 17, 3) := by decide +kernel
theorem dX0_isOrder_267 : decode cX0_isOrder 267 = .ok (.aload_n 0, 1) := by decide +kernel
theorem dX0_isOrder_268 : decode cX0_isOrder 268 = .ok (.aload_n 1, 1) := by decide +kernel
theorem dX0_isOrder_269 : decode cX0_isOrder 269 = .ok (.iconst 0, 1) := by decide +kernel
theorem dX0_isOrder_270 : decode cX0_isOrder 270 = .ok (.iconst 2, 1) := by decide +kernel
theorem dX0_isOrder_271 : decode cX0_isOrder 271 = .ok (.invokevirtual 42, 3) := by decide +kernel
theorem dX0_isOrder_274 : decode cX0_isOrder 274 = .ok (.ifCond .eq 7, 3) := by decide +kernel
theorem dX0_isOrder_277 : decode cX0_isOrder 277 = .ok (.iconst 1, 1) := by decide +kernel
theorem dX0_isOrder_278 : decode cX0_isOrder 278 = .ok (.goto 4, 3) := by decide +kernel
theorem dX0_isOrder_281 : decode cX0_isOrder 281 = .ok (.iconst 0, 1) := by decide +kernel
theorem dX0_isOrder_282 : decode cX0_isOrder 282 = .ok (.ireturn, 1) := by decide +kernel
theorem dX0_isOrder_283 : decode cX0_isOrder 283 = .ok (.iconst 0, 1) := by decide +kernel
theorem dX0_isOrder_284 : decode cX0_isOrder 284 = .ok (.ireturn, 1) := by decide +kernel
theorem dX0_isCode_0 : decode cX0_isCode 0 = .ok (.aload_n 1, 1) := by decide +kernel
theorem dX0_isCode_1 : decode cX0_isCode 1 = .ok (.aload_n 0, 1) := by decide +kernel
theorem dX0_isCode_2 : decode cX0_isCode 2 = .ok (.getfield 22, 3) := by decide +kernel
theorem dX0_isCode_5 : decode cX0_isCode 5 = .ok (.invokevirtual 38, 3) := by decide +kernel
theorem dX0_isCode_8 : decode cX0_isCode 8 = .ok (.iload_n 2, 1) := by decide +kernel
theorem dX0_isCode_9 : decode cX0_isCode 9 = .ok (.if_icmp .eq 5, 3) := by decide +kernel
theorem dX0_isCode_12 : decode cX0_isCode 12 = .ok (.iconst 0, 1) := by decide +kernel
theorem dX0_isCode_13 : decode cX0_isCode 13 = .ok (.ireturn, 1) := by decide +kernel
theorem dX0_isCode_14 : decode cX0_isCode 14 = .ok (.aload_n 0, 1) := by decide +kernel
theorem dX0_isCode_15 : decode cX0_isCode 15 = .ok (.dup, 1) := by decide +kernel
theorem dX0_isCode_16 : decode cX0_isCode 16 = .ok (.getfield 22, 3) := by decide +kernel
theorem dX0_isCode_19 : decode cX0_isCode 19 = .ok (.iconst 1, 1) := by decide +kernel
theorem dX0_isCode_20 : decode cX0_isCode 20 = .ok (.iadd, 1) := by decide +kernel
theorem dX0_isCode_21 : decode cX0_isCode 21 = .ok (.putfield 22, 3) := by decide +kernel
theorem dX0_isCode_24 : decode cX0_isCode 24 = .ok (.iconst 1, 1) := by decide +kernel
theorem dX0_isCode_25 : decode cX0_isCode 25 = .ok (.ireturn, 1) := by decide +kernel
theorem dX0_isNumber_0 : decode cX0_isNumber 0 = .ok (.iconst 0, 1) := by decide +kernel
theorem dX0_isNumber_1 : decode cX0_isNumber 1 = .ok (.istore 4, 2) := by decide +kernel
theorem dX0_isNumber_3 : decode cX0_isNumber 3 = .ok (.iconst 0, 1) := by decide +kernel
theorem dX0_isNumber_4 : decode cX0_isNumber 4 = .ok (.istore 5, 2) := by decide +kernel
theorem dX0_isNumber_6 : decode cX0_isNumber 6 = .ok (.iload 5, 2) := by decide +kernel
theorem dX0_isNumber_8 : decode cX0_isNumber 8 = .ok (.iload_n 3, 1) := by decide +kernel
theorem dX0_isNumber_9 : decode cX0_isNumber 9 = .ok (.if_icmp .ge 52, 3) := by decide +kernel
theorem dX0_isNumber_12 : decode cX0_isNumber 12 = .ok (.aload_n 1, 1) := by decide +kernel
theorem dX0_isNumber_13 : decode cX0_isNumber 13 = .ok (.aload_n 0, 1) := by decide +kernel
theorem dX0_isNumber_14 : decode cX0_isNumber 14 = .ok (.getfield 22, 3) := by decide +kernel
theorem dX0_isNumber_17 : decode cX0_isNumber 17 = .ok (.invokevirtual 38, 3) := by decide +kernel
theorem dX0_isNumber_20 : decode cX0_isNumber 20 = .ok (.invokestatic 46, 3) := by decide +kernel
theorem dX0_isNumber_23 : decode cX0_isNumber 23 = .ok (.ifCond .eq 38, 3) := by decide +kernel
theorem dX0_isNumber_26 : decode cX0_isNumber 26 = .ok (.iload 4, 2) := by decide +kernel
theorem dX0_isNumber_28 : decode cX0_isNumber 28 = .ok (.bipush 10, 2) := by decide +kernel
theorem dX0_isNumber_30 : decode cX0_isNumber 30 = .ok (.imul, 1) := by decide +kernel
theorem dX0_isNumber_31 : decode cX0_isNumber 31 = .ok (.aload_n 1, 1) := by decide +kernel
theorem dX0_isNumber_32 : decode cX0_isNumber 32 = .ok (.aload_n 0, 1) := by decide +kernel
theorem dX0_isNumber_33 : decode cX0_isNumber 33 = .ok (.getfield 22, 3) := by decide +kernel
theorem dX0_isNumber_36 : decode cX0_isNumber 36 = .ok (.invokevirtual 38, 3) := by decide +kernel
theorem dX0_isNumber_39 : decode cX0_isNumber 39 = .ok (.iadd, 1) := by decide +kernel
theorem dX0_isNumber_40 : decode cX0_isNumber 40 = .ok (.bipush 48, 2) := by decide +kernel
theorem dX0_isNumber_42 : decode cX0_isNumber 42 = .ok (.isub, 1) := by decide +kernel
theorem dX0_isNumber_43 : decode cX0_isNumber 43 = .ok (.istore 4, 2) := by decide +kernel
theorem dX0_isNumber_45 : decode cX0_isNumber 45 = .ok (.aload_n 0, 1) := by decide +kernel
theorem dX0_isNumber_46 : decode cX0_isNumber 46 = .ok (.dup, 1) := by decide +kernel
theorem dX0_isNumber_47 : decode cX0_isNumber 47 = .ok (.getfield 22, 3) := by decide +kernel
theorem dX0_isNumber_50 : decode cX0_isNumber 50 = .ok (.iconst 1, 1) := by decide +kernel
theorem dX0_isNumber_51 : decode cX0_isNumber 51 = .ok (.iadd, 1) := by decide +kernel
theorem dX0_isNumber_52 : decode cX0_isNumber 52 = .ok (.putfield 22, 3) := by decide +kernel
theorem dX0_isNumber_55 : decode cX0_isNumber 55 = .ok (.iinc 5 1, 3) := by decide +kernel
theorem dX0_isNumber_58 : decode cX0_isNumber 58 = .ok (.goto (-52), 3) := by decide +kernel
theorem dX0_isNumber_61 : decode cX0_isNumber 61 = .ok (.iload 5, 2) := by decide +kernel
theorem dX0_isNumber_63 : decode cX0_isNumber 63 = .ok (.ifCond .le 43, 3) := by decide +kernel
theorem dX0_isNumber_66 : decode cX0_isNumber 66 = .ok (.aload_n 0, 1) := by decide +kernel
theorem dX0_isNumber_67 : decode cX0_isNumber 67 = .ok (.getfield 18, 3) := by decide +kernel
theorem dX0_isNumber_70 : decode cX0_isNumber 70 = .ok (.ifCond .lt 36, 3) := by decide +kernel
theorem dX0_isNumber_73 : decode cX0_isNumber 73 = .ok (.aload_n 0, 1) := by decide +kernel
theorem dX0_isNumber_74 : decode cX0_isNumber 74 = .ok (.getfield 18, 3) := by decide +kernel
theorem dX0_isNumber_77 : decode cX0_isNumber 77 = .ok (.bipush 20, 2) := by decide +kernel
theorem dX0_isNumber_79 : decode cX0_isNumber 79 = .ok (.if_icmp .ge 27, 3) := by decide +kernel
theorem dX0_isNumber_82 : decode cX0_isNumber 82 = .ok (.iload_n 2, 1) := by decide +kernel
theorem dX0_isNumber_83 : decode cX0_isNumber 83 = .ok (.ifCond .lt 23, 3) := by decide +kernel
theorem dX0_isNumber_86 : decode cX0_isNumber 86 = .ok (.iload_n 2, 1) := by decide +kernel
theorem dX0_isNumber_87 : decode cX0_isNumber 87 = .ok (.iconst 3, 1) := by decide +kernel
theorem dX0_isNumber_88 : decode cX0_isNumber 88 = .ok (.if_icmp .ge 18, 3) := by decide +kernel
theorem dX0_isNumber_91 : decode cX0_isNumber 91 = .ok (.aload_n 0, 1) := by decide +kernel
theorem dX0_isNumber_92 : decode cX0_isNumber 92 = .ok (.getfield 15, 3) := by decide +kernel
theorem dX0_isNumber_95 : decode cX0_isNumber 95 = .ok (.aload_n 0, 1) := by decide +kernel
theorem dX0_isNumber_96 : decode cX0_isNumber 96 = .ok (.getfield 18, 3) := by decide +kernel
theorem dX0_isNumber_99 : decode cX0_isNumber 99 = .ok (.iconst 3, 1) := by decide +kernel
theorem dX0_isNumber_100 : decode cX0_isNumber 100 = .ok (.imul, 1) := by decide +kernel
theorem dX0_isNumber_101 : decode cX0_isNumber 101 = .ok (.iload_n 2, 1) := by decide +kernel
theorem dX0_isNumber_102 : decode cX0_isNumber 102 = .ok (.iadd, 1) := by decide +kernel
theorem dX0_isNumber_103 : decode cX0_isNumber 103 = .ok (.iload 4, 2) := by decide +kernel
theorem dX0_isNumber_105 : decode cX0_isNumber 105 = .ok (.iastore, 1) := by decide +kernel
theorem dX0_isNumber_106 : decode cX0_isNumber 106 = .ok (.iload 5, 2) := by decide +kernel
theorem dX0_isNumber_108 : decode cX0_isNumber 108 = .ok (.ifCond .le 7, 3) := by decide +kernel
theorem dX0_isNumber_111 : decode cX0_isNumber 111 = .ok (.iconst 1, 1) := by decide +kernel
theorem dX0_isNumber_112 : decode cX0_isNumber 112 = .ok (.goto 4, 3) := by decide +kernel
theorem dX0_isNumber_115 : decode cX0_isNumber 115 = .ok (.iconst 0, 1) := by decide +kernel
theorem dX0_isNumber_116 : decode cX0_isNumber 116 = .ok (.ireturn, 1) := by decide +kernel
theorem dX0_isDigit_0 : decode cX0_isDigit 0 = .ok (.iload_n 0, 1) := by decide +kernel
theorem dX0_isDigit_1 : decode cX0_isDigit 1 = .ok (.bipush 48, 2) := by decide +kernel
theorem dX0_isDigit_3 : decode cX0_isDigit 3 = .ok (.if_icmp .lt 13, 3) := by decide +kernel
theorem dX0_isDigit_6 : decode cX0_isDigit 6 = .ok (.iload_n 0, 1) := by decide +kernel
theorem dX0_isDigit_7 : decode cX0_isDigit 7 = .ok (.bipush 57, 2) := by decide +kernel
theorem dX0_isDigit_9 : decode cX0_isDigit 9 = .ok (.if_icmp .gt 7, 3) := by decide +kernel
theorem dX0_isDigit_12 : decode cX0_isDigit 12 = .ok (.iconst 1, 1) := by decide +kernel
theorem dX0_isDigit_13 : decode cX0_isDigit 13 = .ok (.goto 4, 3) := by decide +kernel
theorem dX0_isDigit_16 : decode cX0_isDigit 16 = .ok (.iconst 0, 1) := by decide +kernel
theorem dX0_isDigit_17 : decode cX0_isDigit 17 = .ok (.ireturn, 1) := by decide +kernel
theorem dX1_init_0 : decode cX1_init 0 = .ok (.aload_n 0, 1) := by decide +kernel
theorem dX1_init_1 : decode cX1_init 1 = .ok (.invokespecial 3, 3) := by decide +kernel
theorem dX1_init_4 : decode cX1_init 4 = .ok (.aload_n 0, 1) := by decide +kernel
theorem dX1_init_5 : decode cX1_init 5 = .ok (.bipush 30, 2) := by decide +kernel
theorem dX1_init_7 : decode cX1_init 7 = .ok (.newarray .int, 2) := by decide +kernel
theorem dX1_init_9 : decode cX1_init 9 = .ok (.putfield 9, 3) := by decide +kernel
theorem dX1_init_12 : decode cX1_init 12 = .ok (.aload_n 0, 1) := by decide +kernel
theorem dX1_init_13 : decode cX1_init 13 = .ok (.bipush 30, 2) := by decide +kernel
theorem dX1_init_15 : decode cX1_init 15 = .ok (.newarray .int, 2) := by decide +kernel
theorem dX1_init_17 : decode cX1_init 17 = .ok (.putfield 15, 3) := by decide +kernel
theorem dX1_init_20 : decode cX1_init 20 = .ok (.aload_n 0, 1) := by decide +kernel
theorem dX1_init_21 : decode cX1_init 21 = .ok (.bipush 30, 2) := by decide +kernel
theorem dX1_init_23 : decode cX1_init 23 = .ok (.newarray .int, 2) := by decide +kernel
theorem dX1_init_25 : decode cX1_init 25 = .ok (.putfield 18, 3) := by decide +kernel
theorem dX1_init_28 : decode cX1_init 28 = .ok (.return_, 1) := by decide +kernel
theorem dX1_isPlace_0 : decode cX1_isPlace 0 = .ok (.iload_n 1, 1) := by decide +kernel
theorem dX1_isPlace_1 : decode cX1_isPlace 1 = .ok (.ifCond .lt 15, 3) := by decide +kernel
theorem dX1_isPlace_4 : decode cX1_isPlace 4 = .ok (.iload_n 1, 1) := by decide +kernel
theorem dX1_isPlace_5 : decode cX1_isPlace 5 = .ok (.aload_n 0, 1) := by decide +kernel
theorem dX1_isPlace_6 : decode cX1_isPlace 6 = .ok (.getfield 21, 3) := by decide +kernel
theorem dX1_isPlace_9 : decode cX1_isPlace 9 = .ok (.if_icmp .ge 7, 3) := by decide +kernel
theorem dX1_isPlace_12 : decode cX1_isPlace 12 = .ok (.iconst 1, 1) := by decide +kernel
theorem dX1_isPlace_13 : decode cX1_isPlace 13 = .ok (.goto 4, 3) := by decide +kernel
theorem dX1_isPlace_16 : decode cX1_isPlace 16 = .ok (.iconst 0, 1) := by decide +kernel
theorem dX1_isPlace_17 : decode cX1_isPlace 17 = .ok (.ireturn, 1) := by decide +kernel
theorem dX1_weightAt_0 : decode cX1_weightAt 0 = .ok (.iload_n 1, 1) := by decide +kernel
theorem dX1_weightAt_1 : decode cX1_weightAt 1 = .ok (.ifCond .lt 26, 3) := by decide +kernel
theorem dX1_weightAt_4 : decode cX1_weightAt 4 = .ok (.iload_n 1, 1) := by decide +kernel
theorem dX1_weightAt_5 : decode cX1_weightAt 5 = .ok (.aload_n 0, 1) := by decide +kernel
theorem dX1_weightAt_6 : decode cX1_weightAt 6 = .ok (.getfield 21, 3) := by decide +kernel
theorem dX1_weightAt_9 : decode cX1_weightAt 9 = .ok (.if_icmp .ge 18, 3) := by decide +kernel
theorem dX1_weightAt_12 : decode cX1_weightAt 12 = .ok (.iload_n 1, 1) := by decide +kernel
theorem dX1_weightAt_13 : decode cX1_weightAt 13 = .ok (.bipush 30, 2) := by decide +kernel
theorem dX1_weightAt_15 : decode cX1_weightAt 15 = .ok (.if_icmp .ge 12, 3) := by decide +kernel
theorem dX1_weightAt_18 : decode cX1_weightAt 18 = .ok (.aload_n 0, 1) := by decide +kernel
theorem dX1_weightAt_19 : decode cX1_weightAt 19 = .ok (.getfield 9, 3) := by decide +kernel
theorem dX1_weightAt_22 : decode cX1_weightAt 22 = .ok (.iload_n 1, 1) := by decide +kernel
theorem dX1_weightAt_23 : decode cX1_weightAt 23 = .ok (.iaload, 1) := by decide +kernel
theorem dX1_weightAt_24 : decode cX1_weightAt 24 = .ok (.goto 5, 3) := by decide +kernel
theorem dX1_weightAt_27 : decode cX1_weightAt 27 = .ok (.bipush (-15), 2) := by decide +kernel
theorem dX1_weightAt_29 : decode cX1_weightAt 29 = .ok (.ireturn, 1) := by decide +kernel
theorem dX1_loadAt_0 : decode cX1_loadAt 0 = .ok (.iload_n 1, 1) := by decide +kernel
theorem dX1_loadAt_1 : decode cX1_loadAt 1 = .ok (.ifCond .lt 26, 3) := by decide +kernel
theorem dX1_loadAt_4 : decode cX1_loadAt 4 = .ok (.iload_n 1, 1) := by decide +kernel
theorem dX1_loadAt_5 : decode cX1_loadAt 5 = .ok (.aload_n 0, 1) := by decide +kernel
theorem dX1_loadAt_6 : decode cX1_loadAt 6 = .ok (.getfield 21, 3) := by decide +kernel
theorem dX1_loadAt_9 : decode cX1_loadAt 9 = .ok (.if_icmp .ge 18, 3) := by decide +kernel
theorem dX1_loadAt_12 : decode cX1_loadAt 12 = .ok (.iload_n 1, 1) := by decide +kernel
theorem dX1_loadAt_13 : decode cX1_loadAt 13 = .ok (.bipush 30, 2) := by decide +kernel
theorem dX1_loadAt_15 : decode cX1_loadAt 15 = .ok (.if_icmp .ge 12, 3) := by decide +kernel
theorem dX1_loadAt_18 : decode cX1_loadAt 18 = .ok (.aload_n 0, 1) := by decide +kernel
theorem dX1_loadAt_19 : decode cX1_loadAt 19 = .ok (.getfield 15, 3) := by decide +kernel
theorem dX1_loadAt_22 : decode cX1_loadAt 22 = .ok (.iload_n 1, 1) := by decide +kernel
theorem dX1_loadAt_23 : decode cX1_loadAt 23 = .ok (.iaload, 1) := by decide +kernel
theorem dX1_loadAt_24 : decode cX1_loadAt 24 = .ok (.goto 4, 3) := by decide +kernel
theorem dX1_loadAt_27 : decode cX1_loadAt 27 = .ok (.iconst 0, 1) := by decide +kernel
theorem dX1_loadAt_28 : decode cX1_loadAt 28 = .ok (.ireturn, 1) := by decide +kernel
theorem dX1_depthAt_0 : decode cX1_depthAt 0 = .ok (.iload_n 1, 1) := by decide +kernel
theorem dX1_depthAt_1 : decode cX1_depthAt 1 = .ok (.ifCond .lt 26, 3) := by decide +kernel
theorem dX1_depthAt_4 : decode cX1_depthAt 4 = .ok (.iload_n 1, 1) := by decide +kernel
theorem dX1_depthAt_5 : decode cX1_depthAt 5 = .ok (.aload_n 0, 1) := by decide +kernel
theorem dX1_depthAt_6 : decode cX1_depthAt 6 = .ok (.getfield 21, 3) := by decide +kernel
theorem dX1_depthAt_9 : decode cX1_depthAt 9 = .ok (.if_icmp .ge 18, 3) := by decide +kernel
theorem dX1_depthAt_12 : decode cX1_depthAt 12 = .ok (.iload_n 1, 1) := by decide +kernel
theorem dX1_depthAt_13 : decode cX1_depthAt 13 = .ok (.bipush 30, 2) := by decide +kernel
theorem dX1_depthAt_15 : decode cX1_depthAt 15 = .ok (.if_icmp .ge 12, 3) := by decide +kernel
theorem dX1_depthAt_18 : decode cX1_depthAt 18 = .ok (.aload_n 0, 1) := by decide +kernel
theorem dX1_depthAt_19 : decode cX1_depthAt 19 = .ok (.getfield 18, 3) := by decide +kernel
theorem dX1_depthAt_22 : decode cX1_depthAt 22 = .ok (.iload_n 1, 1) := by decide +kernel
theorem dX1_depthAt_23 : decode cX1_depthAt 23 = .ok (.iaload, 1) := by decide +kernel
theorem dX1_depthAt_24 : decode cX1_depthAt 24 = .ok (.goto 4, 3) := by decide +kernel
theorem dX1_depthAt_27 : decode cX1_depthAt 27 = .ok (.iconst (-1), 1) := by decide +kernel
theorem dX1_depthAt_28 : decode cX1_depthAt 28 = .ok (.ireturn, 1) := by decide +kernel
theorem dX1_find_0 : decode cX1_find 0 = .ok (.iconst 0, 1) := by decide +kernel
theorem dX1_find_1 : decode cX1_find 1 = .ok (.istore_n 2, 1) := by decide +kernel
theorem dX1_find_2 : decode cX1_find 2 = .ok (.iload_n 2, 1) := by decide +kernel
theorem dX1_find_3 : decode cX1_find 3 = .ok (.aload_n 0, 1) := by decide +kernel
theorem dX1_find_4 : decode cX1_find 4 = .ok (.getfield 21, 3) := by decide +kernel
theorem dX1_find_7 : decode cX1_find 7 = .ok (.if_icmp .ge 20, 3) := by decide +kernel
theorem dX1_find_10 : decode cX1_find 10 = .ok (.aload_n 0, 1) := by decide +kernel
theorem dX1_find_11 : decode cX1_find 11 = .ok (.iload_n 2, 1) := by decide +kernel
theorem dX1_find_12 : decode cX1_find 12 = .ok (.invokevirtual 25, 3) := by decide +kernel
theorem dX1_find_15 : decode cX1_find 15 = .ok (.iload_n 1, 1) := by decide +kernel
theorem dX1_find_16 : decode cX1_find 16 = .ok (.if_icmp .ne 5, 3) := by decide +kernel
theorem dX1_find_19 : decode cX1_find 19 = .ok (.iload_n 2, 1) := by decide +kernel
theorem dX1_find_20 : decode cX1_find 20 = .ok (.ireturn, 1) := by decide +kernel
theorem dX1_find_21 : decode cX1_find 21 = .ok (.iinc 2 1, 3) := by decide +kernel
theorem dX1_find_24 : decode cX1_find 24 = .ok (.goto (-22), 3) := by decide +kernel
theorem dX1_find_27 : decode cX1_find 27 = .ok (.iconst (-1), 1) := by decide +kernel
theorem dX1_find_28 : decode cX1_find 28 = .ok (.ireturn, 1) := by decide +kernel
theorem dX1_firstOf_0 : decode cX1_firstOf 0 = .ok (.iload_n 1, 1) := by decide +kernel
theorem dX1_firstOf_1 : decode cX1_firstOf 1 = .ok (.istore_n 2, 1) := by decide +kernel
theorem dX1_firstOf_2 : decode cX1_firstOf 2 = .ok (.iload_n 2, 1) := by decide +kernel
theorem dX1_firstOf_3 : decode cX1_firstOf 3 = .ok (.ifCond .le 24, 3) := by decide +kernel
theorem dX1_firstOf_6 : decode cX1_firstOf 6 = .ok (.aload_n 0, 1) := by decide +kernel
theorem dX1_firstOf_7 : decode cX1_firstOf 7 = .ok (.iload_n 2, 1) := by decide +kernel
theorem dX1_firstOf_8 : decode cX1_firstOf 8 = .ok (.iconst 1, 1) := by decide +kernel
theorem dX1_firstOf_9 : decode cX1_firstOf 9 = .ok (.isub, 1) := by decide +kernel
theorem dX1_firstOf_10 : decode cX1_firstOf 10 = .ok (.invokevirtual 29, 3) := by decide +kernel
theorem dX1_firstOf_13 : decode cX1_firstOf 13 = .ok (.aload_n 0, 1) := by decide +kernel
theorem dX1_firstOf_14 : decode cX1_firstOf 14 = .ok (.iload_n 1, 1) := by decide +kernel
theorem dX1_firstOf_15 : decode cX1_firstOf 15 = .ok (.invokevirtual 29, 3) := by decide +kernel
theorem dX1_firstOf_18 : decode cX1_firstOf 18 = .ok (.if_icmp .le 9, 3) := by decide +kernel
theorem dX1_firstOf_21 : decode cX1_firstOf 21 = .ok (.iinc 2 (-1), 3) := by decide +kernel
theorem dX1_firstOf_24 : decode cX1_firstOf 24 = .ok (.goto (-22), 3) := by decide +kernel
theorem dX1_firstOf_27 : decode cX1_firstOf 27 = .ok (.iload_n 2, 1) := by decide +kernel
theorem dX1_firstOf_28 : decode cX1_firstOf 28 = .ok (.ireturn, 1) := by decide +kernel
theorem dX1_lastOf_0 : decode cX1_lastOf 0 = .ok (.iload_n 1, 1) := by decide +kernel
theorem dX1_lastOf_1 : decode cX1_lastOf 1 = .ok (.istore_n 2, 1) := by decide +kernel
theorem dX1_lastOf_2 : decode cX1_lastOf 2 = .ok (.iload_n 2, 1) := by decide +kernel
theorem dX1_lastOf_3 : decode cX1_lastOf 3 = .ok (.aload_n 0, 1) := by decide +kernel
theorem dX1_lastOf_4 : decode cX1_lastOf 4 = .ok (.getfield 21, 3) := by decide +kernel
theorem dX1_lastOf_7 : decode cX1_lastOf 7 = .ok (.iconst 1, 1) := by decide +kernel
theorem dX1_lastOf_8 : decode cX1_lastOf 8 = .ok (.isub, 1) := by decide +kernel
theorem dX1_lastOf_9 : decode cX1_lastOf 9 = .ok (.if_icmp .ge 24, 3) := by decide +kernel
theorem dX1_lastOf_12 : decode cX1_lastOf 12 = .ok (.aload_n 0, 1) := by decide +kernel
theorem dX1_lastOf_13 : decode cX1_lastOf 13 = .ok (.iload_n 2, 1) := by decide +kernel
theorem dX1_lastOf_14 : decode cX1_lastOf 14 = .ok (.iconst 1, 1) := by decide +kernel
theorem dX1_lastOf_15 : decode cX1_lastOf 15 = .ok (.iadd, 1) := by decide +kernel
theorem dX1_lastOf_16 : decode cX1_lastOf 16 = .ok (.invokevirtual 29, 3) := by decide +kernel
theorem dX1_lastOf_19 : decode cX1_lastOf 19 = .ok (.aload_n 0, 1) := by decide +kernel
theorem dX1_lastOf_20 : decode cX1_lastOf 20 = .ok (.iload_n 1, 1) := by decide +kernel
theorem dX1_lastOf_21 : decode cX1_lastOf 21 = .ok (.invokevirtual 29, 3) := by decide +kernel
theorem dX1_lastOf_24 : decode cX1_lastOf 24 = .ok (.if_icmp .le 9, 3) := by decide +kernel
theorem dX1_lastOf_27 : decode cX1_lastOf 27 = .ok (.iinc 2 1, 3) := by decide +kernel
theorem dX1_lastOf_30 : decode cX1_lastOf 30 = .ok (.goto (-28), 3) := by decide +kernel
theorem dX1_lastOf_33 : decode cX1_lastOf 33 = .ok (.iload_n 2, 1) := by decide +kernel
theorem dX1_lastOf_34 : decode cX1_lastOf 34 = .ok (.ireturn, 1) := by decide +kernel
theorem dX1_topOf_0 : decode cX1_topOf 0 = .ok (.iconst (-1), 1) := by decide +kernel
theorem dX1_topOf_1 : decode cX1_topOf 1 = .ok (.istore_n 3, 1) := by decide +kernel
theorem dX1_topOf_2 : decode cX1_topOf 2 = .ok (.iload_n 1, 1) := by decide +kernel
theorem dX1_topOf_3 : decode cX1_topOf 3 = .ok (.iconst 0, 1) := by decide +kernel
theorem dX1_topOf_4 : decode cX1_topOf 4 = .ok (.invokestatic 32, 3) := by decide +kernel
theorem dX1_topOf_7 : decode cX1_topOf 7 = .ok (.istore 4, 2) := by decide +kernel
theorem dX1_topOf_9 : decode cX1_topOf 9 = .ok (.iload 4, 2) := by decide +kernel
theorem dX1_topOf_11 : decode cX1_topOf 11 = .ok (.iload_n 2, 1) := by decide +kernel
theorem dX1_topOf_12 : decode cX1_topOf 12 = .ok (.if_icmp .gt 40, 3) := by decide +kernel
theorem dX1_topOf_15 : decode cX1_topOf 15 = .ok (.iload 4, 2) := by decide +kernel
theorem dX1_topOf_17 : decode cX1_topOf 17 = .ok (.aload_n 0, 1) := by decide +kernel
theorem dX1_topOf_18 : decode cX1_topOf 18 = .ok (.getfield 21, 3) := by decide +kernel
theorem dX1_topOf_21 : decode cX1_topOf 21 = .ok (.if_icmp .ge 31, 3) := by decide +kernel
theorem dX1_topOf_24 : decode cX1_topOf 24 = .ok (.iload_n 3, 1) := by decide +kernel
theorem dX1_topOf_25 : decode cX1_topOf 25 = .ok (.iconst (-1), 1) := by decide +kernel
theorem dX1_topOf_26 : decode cX1_topOf 26 = .ok (.if_icmp .eq 17, 3) := by decide +kernel
theorem dX1_topOf_29 : decode cX1_topOf 29 = .ok (.aload_n 0, 1) := by decide +kernel
theorem dX1_topOf_30 : decode cX1_topOf 30 = .ok (.iload 4, 2) := by decide +kernel
theorem dX1_topOf_32 : decode cX1_topOf 32 = .ok (.invokevirtual 29, 3) := by decide +kernel
theorem dX1_topOf_35 : decode cX1_topOf 35 = .ok (.aload_n 0, 1) := by decide +kernel
theorem dX1_topOf_36 : decode cX1_topOf 36 = .ok (.iload_n 3, 1) := by decide +kernel
theorem dX1_topOf_37 : decode cX1_topOf 37 = .ok (.invokevirtual 29, 3) := by decide +kernel
theorem dX1_topOf_40 : decode cX1_topOf 40 = .ok (.if_icmp .ge 6, 3) := by decide +kernel
theorem dX1_topOf_43 : decode cX1_topOf 43 = .ok (.iload 4, 2) := by decide +kernel
theorem dX1_topOf_45 : decode cX1_topOf 45 = .ok (.istore_n 3, 1) := by decide +kernel
theorem dX1_topOf_46 : decode cX1_topOf 46 = .ok (.iinc 4 1, 3) := by decide +kernel
theorem dX1_topOf_49 : decode cX1_topOf 49 = .ok (.goto (-40), 3) := by decide +kernel
theorem dX1_topOf_52 : decode cX1_topOf 52 = .ok (.iload_n 3, 1) := by decide +kernel
theorem dX1_topOf_53 : decode cX1_topOf 53 = .ok (.ireturn, 1) := by decide +kernel
theorem dX1_above_0 : decode cX1_above 0 = .ok (.aload_n 0, 1) := by decide +kernel
theorem dX1_above_1 : decode cX1_above 1 = .ok (.iload_n 1, 1) := by decide +kernel
theorem dX1_above_2 : decode cX1_above 2 = .ok (.invokevirtual 38, 3) := by decide +kernel
theorem dX1_above_5 : decode cX1_above 5 = .ok (.iconst 1, 1) := by decide +kernel
theorem dX1_above_6 : decode cX1_above 6 = .ok (.isub, 1) := by decide +kernel
theorem dX1_above_7 : decode cX1_above 7 = .ok (.istore_n 2, 1) := by decide +kernel
theorem dX1_above_8 : decode cX1_above 8 = .ok (.aload_n 0, 1) := by decide +kernel
theorem dX1_above_9 : decode cX1_above 9 = .ok (.iload_n 1, 1) := by decide +kernel
theorem dX1_above_10 : decode cX1_above 10 = .ok (.invokevirtual 41, 3) := by decide +kernel
theorem dX1_above_13 : decode cX1_above 13 = .ok (.iconst 1, 1) := by decide +kernel
theorem dX1_above_14 : decode cX1_above 14 = .ok (.iadd, 1) := by decide +kernel
theorem dX1_above_15 : decode cX1_above 15 = .ok (.istore_n 3, 1) := by decide +kernel
theorem dX1_above_16 : decode cX1_above 16 = .ok (.aload_n 0, 1) := by decide +kernel
theorem dX1_above_17 : decode cX1_above 17 = .ok (.iload_n 2, 1) := by decide +kernel
theorem dX1_above_18 : decode cX1_above 18 = .ok (.invokevirtual 29, 3) := by decide +kernel
theorem dX1_above_21 : decode cX1_above 21 = .ok (.aload_n 0, 1) := by decide +kernel
theorem dX1_above_22 : decode cX1_above 22 = .ok (.iload_n 3, 1) := by decide +kernel
theorem dX1_above_23 : decode cX1_above 23 = .ok (.invokevirtual 29, 3) := by decide +kernel
theorem dX1_above_26 : decode cX1_above 26 = .ok (.if_icmp .le 7, 3) := by decide +kernel
theorem dX1_above_29 : decode cX1_above 29 = .ok (.iload_n 2, 1) := by decide +kernel
theorem dX1_above_30 : decode cX1_above 30 = .ok (.goto 4, 3) := by decide +kernel
theorem dX1_above_33 : decode cX1_above 33 = .ok (.iload_n 3, 1) := by decide +kernel
theorem dX1_above_34 : decode cX1_above 34 = .ok (.istore 4, 2) := by decide +kernel
theorem dX1_above_36 : decode cX1_above 36 = .ok (.aload_n 0, 1) := by decide +kernel
theorem dX1_above_37 : decode cX1_above 37 = .ok (.iload 4, 2) := by decide +kernel
theorem dX1_above_39 : decode cX1_above 39 = .ok (.invokevirtual 44, 3) := by decide +kernel
theorem dX1_above_42 : decode cX1_above 42 = .ok (.ifCond .eq 8, 3) := by decide +kernel
theorem dX1_above_45 : decode cX1_above 45 = .ok (.iload 4, 2) := by decide +kernel
theorem dX1_above_47 : decode cX1_above 47 = .ok (.goto 4, 3) := by decide +kernel
theorem dX1_above_50 : decode cX1_above 50 = .ok (.iconst (-1), 1) := by decide +kernel
theorem dX1_above_51 : decode cX1_above 51 = .ok (.ireturn, 1) := by decide +kernel
theorem dX1_leans_0 : decode cX1_leans 0 = .ok (.aload_n 0, 1) := by decide +kernel
theorem dX1_leans_1 : decode cX1_leans 1 = .ok (.iload_n 1, 1) := by decide +kernel
theorem dX1_leans_2 : decode cX1_leans 2 = .ok (.invokevirtual 38, 3) := by decide +kernel
theorem dX1_leans_5 : decode cX1_leans 5 = .ok (.istore_n 3, 1) := by decide +kernel
theorem dX1_leans_6 : decode cX1_leans 6 = .ok (.aload_n 0, 1) := by decide +kernel
theorem dX1_leans_7 : decode cX1_leans 7 = .ok (.iload_n 1, 1) := by decide +kernel
theorem dX1_leans_8 : decode cX1_leans 8 = .ok (.invokevirtual 41, 3) := by decide +kernel
theorem dX1_leans_11 : decode cX1_leans 11 = .ok (.istore 4, 2) := by decide +kernel
theorem dX1_leans_13 : decode cX1_leans 13 = .ok (.iload_n 1, 1) := by decide +kernel
theorem dX1_leans_14 : decode cX1_leans 14 = .ok (.iload_n 3, 1) := by decide +kernel
theorem dX1_leans_15 : decode cX1_leans 15 = .ok (.isub, 1) := by decide +kernel
theorem dX1_leans_16 : decode cX1_leans 16 = .ok (.iload 4, 2) := by decide +kernel
theorem dX1_leans_18 : decode cX1_leans 18 = .ok (.iload_n 1, 1) := by decide +kernel
theorem dX1_leans_19 : decode cX1_leans 19 = .ok (.isub, 1) := by decide +kernel
theorem dX1_leans_20 : decode cX1_leans 20 = .ok (.invokestatic 32, 3) := by decide +kernel
theorem dX1_leans_23 : decode cX1_leans 23 = .ok (.istore 5, 2) := by decide +kernel
theorem dX1_leans_25 : decode cX1_leans 25 = .ok (.bipush 100, 2) := by decide +kernel
theorem dX1_leans_27 : decode cX1_leans 27 = .ok (.iload 5, 2) := by decide +kernel
theorem dX1_leans_29 : decode cX1_leans 29 = .ok (.imul, 1) := by decide +kernel
theorem dX1_leans_30 : decode cX1_leans 30 = .ok (.iload_n 2, 1) := by decide +kernel
theorem dX1_leans_31 : decode cX1_leans 31 = .ok (.iload 4, 2) := by decide +kernel
theorem dX1_leans_33 : decode cX1_leans 33 = .ok (.iload_n 3, 1) := by decide +kernel
theorem dX1_leans_34 : decode cX1_leans 34 = .ok (.isub, 1) := by decide +kernel
theorem dX1_leans_35 : decode cX1_leans 35 = .ok (.iconst 1, 1) := by decide +kernel
theorem dX1_leans_36 : decode cX1_leans 36 = .ok (.iadd, 1) := by decide +kernel
theorem dX1_leans_37 : decode cX1_leans 37 = .ok (.imul, 1) := by decide +kernel
theorem dX1_leans_38 : decode cX1_leans 38 = .ok (.if_icmp .le 7, 3) := by decide +kernel
theorem dX1_leans_41 : decode cX1_leans 41 = .ok (.iconst 1, 1) := by decide +kernel
theorem dX1_leans_42 : decode cX1_leans 42 = .ok (.goto 4, 3) := by decide +kernel
theorem dX1_leans_45 : decode cX1_leans 45 = .ok (.iconst 0, 1) := by decide +kernel
theorem dX1_leans_46 : decode cX1_leans 46 = .ok (.ireturn, 1) := by decide +kernel
theorem dX1_loadsFrom_0 : decode cX1_loadsFrom 0 = .ok (.iconst 0, 1) := by decide +kernel
theorem dX1_loadsFrom_1 : decode cX1_loadsFrom 1 = .ok (.istore_n 3, 1) := by decide +kernel
theorem dX1_loadsFrom_2 : decode cX1_loadsFrom 2 = .ok (.iload_n 1, 1) := by decide +kernel
theorem dX1_loadsFrom_3 : decode cX1_loadsFrom 3 = .ok (.iconst 0, 1) := by decide +kernel
theorem dX1_loadsFrom_4 : decode cX1_loadsFrom 4 = .ok (.invokestatic 32, 3) := by decide +kernel
theorem dX1_loadsFrom_7 : decode cX1_loadsFrom 7 = .ok (.istore 4, 2) := by decide +kernel
theorem dX1_loadsFrom_9 : decode cX1_loadsFrom 9 = .ok (.iload 4, 2) := by decide +kernel
theorem dX1_loadsFrom_11 : decode cX1_loadsFrom 11 = .ok (.iload_n 2, 1) := by decide +kernel
theorem dX1_loadsFrom_12 : decode cX1_loadsFrom 12 = .ok (.if_icmp .gt 27, 3) := by decide +kernel
theorem dX1_loadsFrom_15 : decode cX1_loadsFrom 15 = .ok (.iload 4, 2) := by decide +kernel
theorem dX1_loadsFrom_17 : decode cX1_loadsFrom 17 = .ok (.aload_n 0, 1) := by decide +kernel
theorem dX1_loadsFrom_18 : decode cX1_loadsFrom 18 = .ok (.getfield 21, 3) := by decide +kernel
theorem dX1_loadsFrom_21 : decode cX1_loadsFrom 21 = .ok (.if_icmp .ge 18, 3) := by decide +kernel
theorem dX1_loadsFrom_24 : decode cX1_loadsFrom 24 = .ok (.iload_n 3, 1) := by decide +kernel
theorem dX1_loadsFrom_25 : decode cX1_loadsFrom 25 = .ok (.aload_n 0, 1) := by decide +kernel
theorem dX1_loadsFrom_26 : decode cX1_loadsFrom 26 = .ok (.iload 4, 2) := by decide +kernel
theorem dX1_loadsFrom_28 : decode cX1_loadsFrom 28 = .ok (.invokevirtual 48, 3) := by decide +kernel
theorem dX1_loadsFrom_31 : decode cX1_loadsFrom 31 = .ok (.iadd, 1) := by decide +kernel
theorem dX1_loadsFrom_32 : decode cX1_loadsFrom 32 = .ok (.istore_n 3, 1) := by decide +kernel
theorem dX1_loadsFrom_33 : decode cX1_loadsFrom 33 = .ok (.iinc 4 1, 3) := by decide +kernel
theorem dX1_loadsFrom_36 : decode cX1_loadsFrom 36 = .ok (.goto (-27), 3) := by decide +kernel
theorem dX1_loadsFrom_39 : decode cX1_loadsFrom 39 = .ok (.iload_n 3, 1) := by decide +kernel
theorem dX1_loadsFrom_40 : decode cX1_loadsFrom 40 = .ok (.ireturn, 1) := by decide +kernel
theorem dX1_depths_0 : decode cX1_depths 0 = .ok (.iconst 0, 1) := by decide +kernel
theorem dX1_depths_1 : decode cX1_depths 1 = .ok (.istore_n 1, 1) := by decide +kernel
theorem dX1_depths_2 : decode cX1_depths 2 = .ok (.iconst 0, 1) := by decide +kernel
theorem dX1_depths_3 : decode cX1_depths 3 = .ok (.istore_n 2, 1) := by decide +kernel
theorem dX1_depths_4 : decode cX1_depths 4 = .ok (.iload_n 2, 1) := by decide +kernel
theorem dX1_depths_5 : decode cX1_depths 5 = .ok (.aload_n 0, 1) := by decide +kernel
theorem dX1_depths_6 : decode cX1_depths 6 = .ok (.getfield 21, 3) := by decide +kernel
theorem dX1_depths_9 : decode cX1_depths 9 = .ok (.if_icmp .ge 17, 3) := by decide +kernel
theorem dX1_depths_12 : decode cX1_depths 12 = .ok (.iload_n 1, 1) := by decide +kernel
theorem dX1_depths_13 : decode cX1_depths 13 = .ok (.aload_n 0, 1) := by decide +kernel
theorem dX1_depths_14 : decode cX1_depths 14 = .ok (.iload_n 2, 1) := by decide +kernel
theorem dX1_depths_15 : decode cX1_depths 15 = .ok (.invokevirtual 29, 3) := by decide +kernel
theorem dX1_depths_18 : decode cX1_depths 18 = .ok (.iadd, 1) := by decide +kernel
theorem dX1_depths_19 : decode cX1_depths 19 = .ok (.istore_n 1, 1) := by decide +kernel
theorem dX1_depths_20 : decode cX1_depths 20 = .ok (.iinc 2 1, 3) := by decide +kernel
theorem dX1_depths_23 : decode cX1_depths 23 = .ok (.goto (-19), 3) := by decide +kernel
theorem dX1_depths_26 : decode cX1_depths 26 = .ok (.iload_n 1, 1) := by decide +kernel
theorem dX1_depths_27 : decode cX1_depths 27 = .ok (.ireturn, 1) := by decide +kernel
theorem dX1_greatestDepth_0 : decode cX1_greatestDepth 0 = .ok (.iconst (-1), 1) := by decide +kernel
theorem dX1_greatestDepth_1 : decode cX1_greatestDepth 1 = .ok (.istore_n 1, 1) := by decide +kernel
theorem dX1_greatestDepth_2 : decode cX1_greatestDepth 2 = .ok (.iconst 0, 1) := by decide +kernel
theorem dX1_greatestDepth_3 : decode cX1_greatestDepth 3 = .ok (.istore_n 2, 1) := by decide +kernel
theorem dX1_greatestDepth_4 : decode cX1_greatestDepth 4 = .ok (.iload_n 2, 1) := by decide +kernel
theorem dX1_greatestDepth_5 : decode cX1_greatestDepth 5 = .ok (.aload_n 0, 1) := by decide +kernel
theorem dX1_greatestDepth_6 : decode cX1_greatestDepth 6 = .ok (.getfield 21, 3) := by decide +kernel
theorem dX1_greatestDepth_9 : decode cX1_greatestDepth 9 = .ok (.if_icmp .ge 19, 3) := by decide +kernel
theorem dX1_greatestDepth_12 : decode cX1_greatestDepth 12 = .ok (.iload_n 1, 1) := by decide +kernel
theorem dX1_greatestDepth_13 : decode cX1_greatestDepth 13 = .ok (.aload_n 0, 1) := by decide +kernel
theorem dX1_greatestDepth_14 : decode cX1_greatestDepth 14 = .ok (.iload_n 2, 1) := by decide +kernel
theorem dX1_greatestDepth_15 : decode cX1_greatestDepth 15 = .ok (.invokevirtual 29, 3) := by decide +kernel
theorem dX1_greatestDepth_18 : decode cX1_greatestDepth 18 = .ok (.invokestatic 32, 3) := by decide +kernel
theorem dX1_greatestDepth_21 : decode cX1_greatestDepth 21 = .ok (.istore_n 1, 1) := by decide +kernel
theorem dX1_greatestDepth_22 : decode cX1_greatestDepth 22 = .ok (.iinc 2 1, 3) := by decide +kernel
theorem dX1_greatestDepth_25 : decode cX1_greatestDepth 25 = .ok (.goto (-21), 3) := by decide +kernel
theorem dX1_greatestDepth_28 : decode cX1_greatestDepth 28 = .ok (.iload_n 1, 1) := by decide +kernel
theorem dX1_greatestDepth_29 : decode cX1_greatestDepth 29 = .ok (.ireturn, 1) := by decide +kernel
theorem dX1_leaning_0 : decode cX1_leaning 0 = .ok (.iconst 0, 1) := by decide +kernel
theorem dX1_leaning_1 : decode cX1_leaning 1 = .ok (.istore_n 2, 1) := by decide +kernel
theorem dX1_leaning_2 : decode cX1_leaning 2 = .ok (.iconst 0, 1) := by decide +kernel
theorem dX1_leaning_3 : decode cX1_leaning 3 = .ok (.istore_n 3, 1) := by decide +kernel
theorem dX1_leaning_4 : decode cX1_leaning 4 = .ok (.iload_n 3, 1) := by decide +kernel
theorem dX1_leaning_5 : decode cX1_leaning 5 = .ok (.aload_n 0, 1) := by decide +kernel
theorem dX1_leaning_6 : decode cX1_leaning 6 = .ok (.getfield 21, 3) := by decide +kernel
theorem dX1_leaning_9 : decode cX1_leaning 9 = .ok (.if_icmp .ge 21, 3) := by decide +kernel
theorem dX1_leaning_12 : decode cX1_leaning 12 = .ok (.aload_n 0, 1) := by decide +kernel
theorem dX1_leaning_13 : decode cX1_leaning 13 = .ok (.iload_n 3, 1) := by decide +kernel
theorem dX1_leaning_14 : decode cX1_leaning 14 = .ok (.iload_n 1, 1) := by decide +kernel
theorem dX1_leaning_15 : decode cX1_leaning 15 = .ok (.invokevirtual 51, 3) := by decide +kernel
theorem dX1_leaning_18 : decode cX1_leaning 18 = .ok (.ifCond .eq 6, 3) := by decide +kernel
theorem dX1_leaning_21 : decode cX1_leaning 21 = .ok (.iinc 2 1, 3) := by decide +kernel
theorem dX1_leaning_24 : decode cX1_leaning 24 = .ok (.iinc 3 1, 3) := by decide +kernel
theorem dX1_leaning_27 : decode cX1_leaning 27 = .ok (.goto (-23), 3) := by decide +kernel
theorem dX1_leaning_30 : decode cX1_leaning 30 = .ok (.iload_n 2, 1) := by decide +kernel
theorem dX1_leaning_31 : decode cX1_leaning 31 = .ok (.ireturn, 1) := by decide +kernel
theorem dX1_lowest_0 : decode cX1_lowest 0 = .ok (.iconst 0, 1) := by decide +kernel
theorem dX1_lowest_1 : decode cX1_lowest 1 = .ok (.istore_n 1, 1) := by decide +kernel
theorem dX1_lowest_2 : decode cX1_lowest 2 = .ok (.iconst 0, 1) := by decide +kernel
theorem dX1_lowest_3 : decode cX1_lowest 3 = .ok (.istore_n 2, 1) := by decide +kernel
theorem dX1_lowest_4 : decode cX1_lowest 4 = .ok (.iload_n 2, 1) := by decide +kernel
theorem dX1_lowest_5 : decode cX1_lowest 5 = .ok (.aload_n 0, 1) := by decide +kernel
theorem dX1_lowest_6 : decode cX1_lowest 6 = .ok (.getfield 21, 3) := by decide +kernel
theorem dX1_lowest_9 : decode cX1_lowest 9 = .ok (.if_icmp .ge 42, 3) := by decide +kernel
theorem dX1_lowest_12 : decode cX1_lowest 12 = .ok (.aload_n 0, 1) := by decide +kernel
theorem dX1_lowest_13 : decode cX1_lowest 13 = .ok (.iload_n 2, 1) := by decide +kernel
theorem dX1_lowest_14 : decode cX1_lowest 14 = .ok (.iconst 1, 1) := by decide +kernel
theorem dX1_lowest_15 : decode cX1_lowest 15 = .ok (.isub, 1) := by decide +kernel
theorem dX1_lowest_16 : decode cX1_lowest 16 = .ok (.invokevirtual 29, 3) := by decide +kernel
theorem dX1_lowest_19 : decode cX1_lowest 19 = .ok (.aload_n 0, 1) := by decide +kernel
theorem dX1_lowest_20 : decode cX1_lowest 20 = .ok (.iload_n 2, 1) := by decide +kernel
theorem dX1_lowest_21 : decode cX1_lowest 21 = .ok (.invokevirtual 29, 3) := by decide +kernel
theorem dX1_lowest_24 : decode cX1_lowest 24 = .ok (.if_icmp .gt 21, 3) := by decide +kernel
theorem dX1_lowest_27 : decode cX1_lowest 27 = .ok (.aload_n 0, 1) := by decide +kernel
theorem dX1_lowest_28 : decode cX1_lowest 28 = .ok (.iload_n 2, 1) := by decide +kernel
theorem dX1_lowest_29 : decode cX1_lowest 29 = .ok (.iconst 1, 1) := by decide +kernel
theorem dX1_lowest_30 : decode cX1_lowest 30 = .ok (.iadd, 1) := by decide +kernel
theorem dX1_lowest_31 : decode cX1_lowest 31 = .ok (.invokevirtual 29, 3) := by decide +kernel
theorem dX1_lowest_34 : decode cX1_lowest 34 = .ok (.aload_n 0, 1) := by decide +kernel
theorem dX1_lowest_35 : decode cX1_lowest 35 = .ok (.iload_n 2, 1) := by decide +kernel
theorem dX1_lowest_36 : decode cX1_lowest 36 = .ok (.invokevirtual 29, 3) := by decide +kernel
theorem dX1_lowest_39 : decode cX1_lowest 39 = .ok (.if_icmp .gt 6, 3) := by decide +kernel
theorem dX1_lowest_42 : decode cX1_lowest 42 = .ok (.iinc 1 1, 3) := by decide +kernel
theorem dX1_lowest_45 : decode cX1_lowest 45 = .ok (.iinc 2 1, 3) := by decide +kernel
theorem dX1_lowest_48 : decode cX1_lowest 48 = .ok (.goto (-44), 3) := by decide +kernel
theorem dX1_lowest_51 : decode cX1_lowest 51 = .ok (.iload_n 1, 1) := by decide +kernel
theorem dX1_lowest_52 : decode cX1_lowest 52 = .ok (.ireturn, 1) := by decide +kernel
theorem dX1_cartsUpTo_0 : decode cX1_cartsUpTo 0 = .ok (.iconst 0, 1) := by decide +kernel
theorem dX1_cartsUpTo_1 : decode cX1_cartsUpTo 1 = .ok (.istore_n 3, 1) := by decide +kernel
theorem dX1_cartsUpTo_2 : decode cX1_cartsUpTo 2 = .ok (.iconst 0, 1) := by decide +kernel
theorem dX1_cartsUpTo_3 : decode cX1_cartsUpTo 3 = .ok (.istore 4, 2) := by decide +kernel
theorem dX1_cartsUpTo_5 : decode cX1_cartsUpTo 5 = .ok (.iconst 0, 1) := by decide +kernel
theorem dX1_cartsUpTo_6 : decode cX1_cartsUpTo 6 = .ok (.istore 5, 2) := by decide +kernel
theorem dX1_cartsUpTo_8 : decode cX1_cartsUpTo 8 = .ok (.iload 5, 2) := by decide +kernel
theorem dX1_cartsUpTo_10 : decode cX1_cartsUpTo 10 = .ok (.iload_n 1, 1) := by decide +kernel
theorem dX1_cartsUpTo_11 : decode cX1_cartsUpTo 11 = .ok (.if_icmp .gt 52, 3) := by decide +kernel
theorem dX1_cartsUpTo_14 : decode cX1_cartsUpTo 14 = .ok (.iload 5, 2) := by decide +kernel
theorem dX1_cartsUpTo_16 : decode cX1_cartsUpTo 16 = .ok (.aload_n 0, 1) := by decide +kernel
theorem dX1_cartsUpTo_17 : decode cX1_cartsUpTo 17 = .ok (.getfield 21, 3) := by decide +kernel
theorem dX1_cartsUpTo_20 : decode cX1_cartsUpTo 20 = .ok (.if_icmp .ge 43, 3) := by decide +kernel
theorem dX1_cartsUpTo_23 : decode cX1_cartsUpTo 23 = .ok (.iload_n 3, 1) := by decide +kernel
theorem dX1_cartsUpTo_24 : decode cX1_cartsUpTo 24 = .ok (.ifCond .eq 16, 3) := by decide +kernel
theorem dX1_cartsUpTo_27 : decode cX1_cartsUpTo 27 = .ok (.iload 4, 2) := by decide +kernel
theorem dX1_cartsUpTo_29 : decode cX1_cartsUpTo 29 = .ok (.aload_n 0, 1) := by decide +kernel
theorem dX1_cartsUpTo_30 : decode cX1_cartsUpTo 30 = .ok (.iload 5, 2) := by decide +kernel
theorem dX1_cartsUpTo_32 : decode cX1_cartsUpTo 32 = .ok (.invokevirtual 48, 3) := by decide +kernel
theorem dX1_cartsUpTo_35 : decode cX1_cartsUpTo 35 = .ok (.iadd, 1) := by decide +kernel
theorem dX1_cartsUpTo_36 : decode cX1_cartsUpTo 36 = .ok (.iload_n 2, 1) := by decide +kernel
theorem dX1_cartsUpTo_37 : decode cX1_cartsUpTo 37 = .ok (.if_icmp .le 9, 3) := by decide +kernel
theorem dX1_cartsUpTo_40 : decode cX1_cartsUpTo 40 = .ok (.iinc 3 1, 3) := by decide +kernel
theorem dX1_cartsUpTo_43 : decode cX1_cartsUpTo 43 = .ok (.iconst 0, 1) := by decide +kernel
theorem dX1_cartsUpTo_44 : decode cX1_cartsUpTo 44 = .ok (.istore 4, 2) := by decide +kernel
theorem dX1_cartsUpTo_46 : decode cX1_cartsUpTo 46 = .ok (.iload 4, 2) := by decide +kernel
theorem dX1_cartsUpTo_48 : decode cX1_cartsUpTo 48 = .ok (.aload_n 0, 1) := by decide +kernel
theorem dX1_cartsUpTo_49 : decode cX1_cartsUpTo 49 = .ok (.iload 5, 2) := by decide +kernel
theorem dX1_cartsUpTo_51 : decode cX1_cartsUpTo 51 = .ok (.invokevirtual 48, 3) := by decide +kernel
theorem dX1_cartsUpTo_54 : decode cX1_cartsUpTo 54 = .ok (.iadd, 1) := by decide +kernel
theorem dX1_cartsUpTo_55 : decode cX1_cartsUpTo 55 = .ok (.istore 4, 2) := by decide +kernel
theorem dX1_cartsUpTo_57 : decode cX1_cartsUpTo 57 = .ok (.iinc 5 1, 3) := by decide +kernel
theorem dX1_cartsUpTo_60 : decode cX1_cartsUpTo 60 = .ok (.goto (-52), 3) := by decide +kernel
theorem dX1_cartsUpTo_63 : decode cX1_cartsUpTo 63 = .ok (.iload_n 3, 1) := by decide +kernel
theorem dX1_cartsUpTo_64 : decode cX1_cartsUpTo 64 = .ok (.ireturn, 1) := by decide +kernel
theorem dX1_lighterByParts_0 : decode cX1_lighterByParts 0 = .ok (.iconst 0, 1) := by decide +kernel
theorem dX1_lighterByParts_1 : decode cX1_lighterByParts 1 = .ok (.istore_n 2, 1) := by decide +kernel
theorem dX1_lighterByParts_2 : decode cX1_lighterByParts 2 = .ok (.iconst 0, 1) := by decide +kernel
theorem dX1_lighterByParts_3 : decode cX1_lighterByParts 3 = .ok (.istore_n 3, 1) := by decide +kernel
theorem dX1_lighterByParts_4 : decode cX1_lighterByParts 4 = .ok (.aload_n 0, 1) := by decide +kernel
theorem dX1_lighterByParts_5 : decode cX1_lighterByParts 5 = .ok (.getfield 21, 3) := by decide +kernel
theorem dX1_lighterByParts_8 : decode cX1_lighterByParts 8 = .ok (.iconst 1, 1) := by decide +kernel
theorem dX1_lighterByParts_9 : decode cX1_lighterByParts 9 = .ok (.isub, 1) := by decide +kernel
theorem dX1_lighterByParts_10 : decode cX1_lighterByParts 10 = .ok (.istore 4, 2) := by decide +kernel
theorem dX1_lighterByParts_12 : decode cX1_lighterByParts 12 = .ok (.iconst 0, 1) := by decide +kernel
theorem dX1_lighterByParts_13 : decode cX1_lighterByParts 13 = .ok (.istore 5, 2) := by decide +kernel
theorem dX1_lighterByParts_15 : decode cX1_lighterByParts 15 = .ok (.iload 5, 2) := by decide +kernel
theorem dX1_lighterByParts_17 : decode cX1_lighterByParts 17 = .ok (.bipush 30, 2) := by decide +kernel
theorem dX1_lighterByParts_19 : decode cX1_lighterByParts 19 = .ok (.if_icmp .ge 57, 3) := by decide +kernel
theorem dX1_lighterByParts_22 : decode cX1_lighterByParts 22 = .ok (.iload_n 3, 1) := by decide +kernel
theorem dX1_lighterByParts_23 : decode cX1_lighterByParts 23 = .ok (.iload 4, 2) := by decide +kernel
theorem dX1_lighterByParts_25 : decode cX1_lighterByParts 25 = .ok (.if_icmp .gt 51, 3) := by decide +kernel
theorem dX1_lighterByParts_28 : decode cX1_lighterByParts 28 = .ok (.aload_n 0, 1) := by decide +kernel
theorem dX1_lighterByParts_29 : decode cX1_lighterByParts 29 = .ok (.iload_n 3, 1) := by decide +kernel
theorem dX1_lighterByParts_30 : decode cX1_lighterByParts 30 = .ok (.iload 4, 2) := by decide +kernel
theorem dX1_lighterByParts_32 : decode cX1_lighterByParts 32 = .ok (.invokevirtual 55, 3) := by decide +kernel
theorem dX1_lighterByParts_35 : decode cX1_lighterByParts 35 = .ok (.istore 6, 2) := by decide +kernel
theorem dX1_lighterByParts_37 : decode cX1_lighterByParts 37 = .ok (.aload_n 0, 1) := by decide +kernel
theorem dX1_lighterByParts_38 : decode cX1_lighterByParts 38 = .ok (.iload 6, 2) := by decide +kernel
theorem dX1_lighterByParts_40 : decode cX1_lighterByParts 40 = .ok (.invokevirtual 25, 3) := by decide +kernel
theorem dX1_lighterByParts_43 : decode cX1_lighterByParts 43 = .ok (.iload_n 1, 1) := by decide +kernel
theorem dX1_lighterByParts_44 : decode cX1_lighterByParts 44 = .ok (.if_icmp .ge 20, 3) := by decide +kernel
theorem dX1_lighterByParts_47 : decode cX1_lighterByParts 47 = .ok (.iload_n 2, 1) := by decide +kernel
theorem dX1_lighterByParts_48 : decode cX1_lighterByParts 48 = .ok (.iload 6, 2) := by decide +kernel
theorem dX1_lighterByParts_50 : decode cX1_lighterByParts 50 = .ok (.iload_n 3, 1) := by decide +kernel
theorem dX1_lighterByParts_51 : decode cX1_lighterByParts 51 = .ok (.isub, 1) := by decide +kernel
theorem dX1_lighterByParts_52 : decode cX1_lighterByParts 52 = .ok (.iconst 1, 1) := by decide +kernel
theorem dX1_lighterByParts_53 : decode cX1_lighterByParts 53 = .ok (.iadd, 1) := by decide +kernel
theorem dX1_lighterByParts_54 : decode cX1_lighterByParts 54 = .ok (.iadd, 1) := by decide +kernel
theorem dX1_lighterByParts_55 : decode cX1_lighterByParts 55 = .ok (.istore_n 2, 1) := by decide +kernel
theorem dX1_lighterByParts_56 : decode cX1_lighterByParts 56 = .ok (.iload 6, 2) := by decide +kernel
theorem dX1_lighterByParts_58 : decode cX1_lighterByParts 58 = .ok (.iconst 1, 1) := by decide +kernel
theorem dX1_lighterByParts_59 : decode cX1_lighterByParts 59 = .ok (.iadd, 1) := by decide +kernel
theorem dX1_lighterByParts_60 : decode cX1_lighterByParts 60 = .ok (.istore_n 3, 1) := by decide +kernel
theorem dX1_lighterByParts_61 : decode cX1_lighterByParts 61 = .ok (.goto 9, 3) := by decide +kernel
theorem dX1_lighterByParts_64 : decode cX1_lighterByParts 64 = .ok (.iload 6, 2) := by decide +kernel
theorem dX1_lighterByParts_66 : decode cX1_lighterByParts 66 = .ok (.iconst 1, 1) := by decide +kernel
theorem dX1_lighterByParts_67 : decode cX1_lighterByParts 67 = .ok (.isub, 1) := by decide +kernel
theorem dX1_lighterByParts_68 : decode cX1_lighterByParts 68 = .ok (.istore 4, 2) := by decide +kernel
theorem dX1_lighterByParts_70 : decode cX1_lighterByParts 70 = .ok (.iinc 5 1, 3) := by decide +kernel
theorem dX1_lighterByParts_73 : decode cX1_lighterByParts 73 = .ok (.goto (-58), 3) := by decide +kernel
theorem dX1_lighterByParts_76 : decode cX1_lighterByParts 76 = .ok (.iload_n 2, 1) := by decide +kernel
theorem dX1_lighterByParts_77 : decode cX1_lighterByParts 77 = .ok (.ireturn, 1) := by decide +kernel
theorem dX1_lighterOneByOne_0 : decode cX1_lighterOneByOne 0 = .ok (.iconst 0, 1) := by decide +kernel
theorem dX1_lighterOneByOne_1 : decode cX1_lighterOneByOne 1 = .ok (.istore_n 2, 1) := by decide +kernel
theorem dX1_lighterOneByOne_2 : decode cX1_lighterOneByOne 2 = .ok (.iconst 0, 1) := by decide +kernel
theorem dX1_lighterOneByOne_3 : decode cX1_lighterOneByOne 3 = .ok (.istore_n 3, 1) := by decide +kernel
theorem dX1_lighterOneByOne_4 : decode cX1_lighterOneByOne 4 = .ok (.iload_n 3, 1) := by decide +kernel
theorem dX1_lighterOneByOne_5 : decode cX1_lighterOneByOne 5 = .ok (.aload_n 0, 1) := by decide +kernel
theorem dX1_lighterOneByOne_6 : decode cX1_lighterOneByOne 6 = .ok (.getfield 21, 3) := by decide +kernel
theorem dX1_lighterOneByOne_9 : decode cX1_lighterOneByOne 9 = .ok (.if_icmp .ge 21, 3) := by decide +kernel
theorem dX1_lighterOneByOne_12 : decode cX1_lighterOneByOne 12 = .ok (.aload_n 0, 1) := by decide +kernel
theorem dX1_lighterOneByOne_13 : decode cX1_lighterOneByOne 13 = .ok (.iload_n 3, 1) := by decide +kernel
theorem dX1_lighterOneByOne_14 : decode cX1_lighterOneByOne 14 = .ok (.invokevirtual 25, 3) := by decide +kernel
theorem dX1_lighterOneByOne_17 : decode cX1_lighterOneByOne 17 = .ok (.iload_n 1, 1) := by decide +kernel
theorem dX1_lighterOneByOne_18 : decode cX1_lighterOneByOne 18 = .ok (.if_icmp .ge 6, 3) := by decide +kernel
theorem dX1_lighterOneByOne_21 : decode cX1_lighterOneByOne 21 = .ok (.iinc 2 1, 3) := by decide +kernel
theorem dX1_lighterOneByOne_24 : decode cX1_lighterOneByOne 24 = .ok (.iinc 3 1, 3) := by decide +kernel
theorem dX1_lighterOneByOne_27 : decode cX1_lighterOneByOne 27 = .ok (.goto (-23), 3) := by decide +kernel
theorem dX1_lighterOneByOne_30 : decode cX1_lighterOneByOne 30 = .ok (.iload_n 2, 1) := by decide +kernel
theorem dX1_lighterOneByOne_31 : decode cX1_lighterOneByOne 31 = .ok (.ireturn, 1) := by decide +kernel
theorem dX1_loadsByParts_0 : decode cX1_loadsByParts 0 = .ok (.iload_n 1, 1) := by decide +kernel
theorem dX1_loadsByParts_1 : decode cX1_loadsByParts 1 = .ok (.iload_n 2, 1) := by decide +kernel
theorem dX1_loadsByParts_2 : decode cX1_loadsByParts 2 = .ok (.if_icmp .le 7, 3) := by decide +kernel
theorem dX1_loadsByParts_5 : decode cX1_loadsByParts 5 = .ok (.iconst 0, 1) := by decide +kernel
theorem dX1_loadsByParts_6 : decode cX1_loadsByParts 6 = .ok (.goto 18, 3) := by decide +kernel
theorem dX1_loadsByParts_9 : decode cX1_loadsByParts 9 = .ok (.aload_n 0, 1) := by decide +kernel
theorem dX1_loadsByParts_10 : decode cX1_loadsByParts 10 = .ok (.iload_n 2, 1) := by decide +kernel
theorem dX1_loadsByParts_11 : decode cX1_loadsByParts 11 = .ok (.i2l, 1) := by decide +kernel
theorem dX1_loadsByParts_12 : decode cX1_loadsByParts 12 = .ok (.lconst 1, 1) := by decide +kernel
theorem dX1_loadsByParts_13 : decode cX1_loadsByParts 13 = .ok (.ladd, 1) := by decide +kernel
theorem dX1_loadsByParts_14 : decode cX1_loadsByParts 14 = .ok (.invokevirtual 58, 3) := by decide +kernel
theorem dX1_loadsByParts_17 : decode cX1_loadsByParts 17 = .ok (.aload_n 0, 1) := by decide +kernel
theorem dX1_loadsByParts_18 : decode cX1_loadsByParts 18 = .ok (.iload_n 1, 1) := by decide +kernel
theorem dX1_loadsByParts_19 : decode cX1_loadsByParts 19 = .ok (.i2l, 1) := by decide +kernel
theorem dX1_loadsByParts_20 : decode cX1_loadsByParts 20 = .ok (.invokevirtual 58, 3) := by decide +kernel
theorem dX1_loadsByParts_23 : decode cX1_loadsByParts 23 = .ok (.isub, 1) := by decide +kernel
theorem dX1_loadsByParts_24 : decode cX1_loadsByParts 24 = .ok (.ireturn, 1) := by decide +kernel
theorem dX1_loadsOfLighter_0 : decode cX1_loadsOfLighter 0 = .ok (.iconst 0, 1) := by decide +kernel
theorem dX1_loadsOfLighter_1 : decode cX1_loadsOfLighter 1 = .ok (.istore_n 3, 1) := by decide +kernel
theorem dX1_loadsOfLighter_2 : decode cX1_loadsOfLighter 2 = .ok (.iconst 0, 1) := by decide +kernel
theorem dX1_loadsOfLighter_3 : decode cX1_loadsOfLighter 3 = .ok (.istore 4, 2) := by decide +kernel
theorem dX1_loadsOfLighter_5 : decode cX1_loadsOfLighter 5 = .ok (.aload_n 0, 1) := by decide +kernel
theorem dX1_loadsOfLighter_6 : decode cX1_loadsOfLighter 6 = .ok (.getfield 21, 3) := by decide +kernel
theorem dX1_loadsOfLighter_9 : decode cX1_loadsOfLighter 9 = .ok (.iconst 1, 1) := by decide +kernel
theorem dX1_loadsOfLighter_10 : decode cX1_loadsOfLighter 10 = .ok (.isub, 1) := by decide +kernel
theorem dX1_loadsOfLighter_11 : decode cX1_loadsOfLighter 11 = .ok (.istore 5, 2) := by decide +kernel
theorem dX1_loadsOfLighter_13 : decode cX1_loadsOfLighter 13 = .ok (.iconst 0, 1) := by decide +kernel
theorem dX1_loadsOfLighter_14 : decode cX1_loadsOfLighter 14 = .ok (.istore 6, 2) := by decide +kernel
theorem dX1_loadsOfLighter_16 : decode cX1_loadsOfLighter 16 = .ok (.iload 6, 2) := by decide +kernel
theorem dX1_loadsOfLighter_18 : decode cX1_loadsOfLighter 18 = .ok (.bipush 30, 2) := by decide +kernel
theorem dX1_loadsOfLighter_20 : decode cX1_loadsOfLighter 20 = .ok (.if_icmp .ge 64, 3) := by decide +kernel
theorem dX1_loadsOfLighter_23 : decode cX1_loadsOfLighter 23 = .ok (.iload 4, 2) := by decide +kernel
theorem dX1_loadsOfLighter_25 : decode cX1_loadsOfLighter 25 = .ok (.iload 5, 2) := by decide +kernel
theorem dX1_loadsOfLighter_27 : decode cX1_loadsOfLighter 27 = .ok (.if_icmp .gt 57, 3) := by decide +kernel
theorem dX1_loadsOfLighter_30 : decode cX1_loadsOfLighter 30 = .ok (.aload_n 0, 1) := by decide +kernel
theorem dX1_loadsOfLighter_31 : decode cX1_loadsOfLighter 31 = .ok (.iload 4, 2) := by decide +kernel
theorem dX1_loadsOfLighter_33 : decode cX1_loadsOfLighter 33 = .ok (.iload 5, 2) := by decide +kernel
theorem dX1_loadsOfLighter_35 : decode cX1_loadsOfLighter 35 = .ok (.invokevirtual 55, 3) := by decide +kernel
theorem dX1_loadsOfLighter_38 : decode cX1_loadsOfLighter 38 = .ok (.istore 7, 2) := by decide +kernel
theorem dX1_loadsOfLighter_40 : decode cX1_loadsOfLighter 40 = .ok (.aload_n 0, 1) := by decide +kernel
theorem dX1_loadsOfLighter_41 : decode cX1_loadsOfLighter 41 = .ok (.iload 7, 2) := by decide +kernel
theorem dX1_loadsOfLighter_43 : decode cX1_loadsOfLighter 43 = .ok (.invokevirtual 25, 3) := by decide +kernel
theorem dX1_loadsOfLighter_46 : decode cX1_loadsOfLighter 46 = .ok (.i2l, 1) := by decide +kernel
theorem dX1_loadsOfLighter_47 : decode cX1_loadsOfLighter 47 = .ok (.lload_n 1, 1) := by decide +kernel
theorem dX1_loadsOfLighter_48 : decode cX1_loadsOfLighter 48 = .ok (.lcmp, 1) := by decide +kernel
theorem dX1_loadsOfLighter_49 : decode cX1_loadsOfLighter 49 = .ok (.ifCond .ge 23, 3) := by decide +kernel
theorem dX1_loadsOfLighter_52 : decode cX1_loadsOfLighter 52 = .ok (.iload_n 3, 1) := by decide +kernel
theorem dX1_loadsOfLighter_53 : decode cX1_loadsOfLighter 53 = .ok (.aload_n 0, 1) := by decide +kernel
theorem dX1_loadsOfLighter_54 : decode cX1_loadsOfLighter 54 = .ok (.iload 4, 2) := by decide +kernel
theorem dX1_loadsOfLighter_56 : decode cX1_loadsOfLighter 56 = .ok (.iload 7, 2) := by decide +kernel
theorem dX1_loadsOfLighter_58 : decode cX1_loadsOfLighter 58 = .ok (.invokevirtual 62, 3) := by decide +kernel
theorem dX1_loadsOfLighter_61 : decode cX1_loadsOfLighter 61 = .ok (.iadd, 1) := by decide +kernel
theorem dX1_loadsOfLighter_62 : decode cX1_loadsOfLighter 62 = .ok (.istore_n 3, 1) := by decide +kernel
theorem dX1_loadsOfLighter_63 : decode cX1_loadsOfLighter 63 = .ok (.iload 7, 2) := by decide +kernel
theorem dX1_loadsOfLighter_65 : decode cX1_loadsOfLighter 65 = .ok (.iconst 1, 1) := by decide +kernel
theorem dX1_loadsOfLighter_66 : decode cX1_loadsOfLighter 66 = .ok (.iadd, 1) := by decide +kernel
theorem dX1_loadsOfLighter_67 : decode cX1_loadsOfLighter 67 = .ok (.istore 4, 2) := by decide +kernel
theorem dX1_loadsOfLighter_69 : decode cX1_loadsOfLighter 69 = .ok (.goto 9, 3) := by decide +kernel
theorem dX1_loadsOfLighter_72 : decode cX1_loadsOfLighter 72 = .ok (.iload 7, 2) := by decide +kernel
theorem dX1_loadsOfLighter_74 : decode cX1_loadsOfLighter 74 = .ok (.iconst 1, 1) := by decide +kernel
theorem dX1_loadsOfLighter_75 : decode cX1_loadsOfLighter 75 = .ok (.isub, 1) := by decide +kernel
theorem dX1_loadsOfLighter_76 : decode cX1_loadsOfLighter 76 = .ok (.istore 5, 2) := by decide +kernel
theorem dX1_loadsOfLighter_78 : decode cX1_loadsOfLighter 78 = .ok (.iinc 6 1, 3) := by decide +kernel
theorem dX1_loadsOfLighter_81 : decode cX1_loadsOfLighter 81 = .ok (.goto (-65), 3) := by decide +kernel
theorem dX1_loadsOfLighter_84 : decode cX1_loadsOfLighter 84 = .ok (.iload_n 3, 1) := by decide +kernel
theorem dX1_loadsOfLighter_85 : decode cX1_loadsOfLighter 85 = .ok (.ireturn, 1) := by decide +kernel
theorem dX1_loadsOneByOne_0 : decode cX1_loadsOneByOne 0 = .ok (.iconst 0, 1) := by decide +kernel
theorem dX1_loadsOneByOne_1 : decode cX1_loadsOneByOne 1 = .ok (.istore_n 3, 1) := by decide +kernel
theorem dX1_loadsOneByOne_2 : decode cX1_loadsOneByOne 2 = .ok (.iconst 0, 1) := by decide +kernel
theorem dX1_loadsOneByOne_3 : decode cX1_loadsOneByOne 3 = .ok (.istore 4, 2) := by decide +kernel
theorem dX1_loadsOneByOne_5 : decode cX1_loadsOneByOne 5 = .ok (.iload 4, 2) := by decide +kernel
theorem dX1_loadsOneByOne_7 : decode cX1_loadsOneByOne 7 = .ok (.aload_n 0, 1) := by decide +kernel
theorem dX1_loadsOneByOne_8 : decode cX1_loadsOneByOne 8 = .ok (.getfield 21, 3) := by decide +kernel
theorem dX1_loadsOneByOne_11 : decode cX1_loadsOneByOne 11 = .ok (.if_icmp .ge 38, 3) := by decide +kernel
theorem dX1_loadsOneByOne_14 : decode cX1_loadsOneByOne 14 = .ok (.aload_n 0, 1) := by decide +kernel
theorem dX1_loadsOneByOne_15 : decode cX1_loadsOneByOne 15 = .ok (.iload 4, 2) := by decide +kernel
theorem dX1_loadsOneByOne_17 : decode cX1_loadsOneByOne 17 = .ok (.invokevirtual 25, 3) := by decide +kernel
theorem dX1_loadsOneByOne_20 : decode cX1_loadsOneByOne 20 = .ok (.iload_n 1, 1) := by decide +kernel
theorem dX1_loadsOneByOne_21 : decode cX1_loadsOneByOne 21 = .ok (.if_icmp .lt 22, 3) := by decide +kernel
theorem dX1_loadsOneByOne_24 : decode cX1_loadsOneByOne 24 = .ok (.aload_n 0, 1) := by decide +kernel
theorem dX1_loadsOneByOne_25 : decode cX1_loadsOneByOne 25 = .ok (.iload 4, 2) := by decide +kernel
theorem dX1_loadsOneByOne_27 : decode cX1_loadsOneByOne 27 = .ok (.invokevirtual 25, 3) := by decide +kernel
theorem dX1_loadsOneByOne_30 : decode cX1_loadsOneByOne 30 = .ok (.iload_n 2, 1) := by decide +kernel
theorem dX1_loadsOneByOne_31 : decode cX1_loadsOneByOne 31 = .ok (.if_icmp .gt 12, 3) := by decide +kernel
theorem dX1_loadsOneByOne_34 : decode cX1_loadsOneByOne 34 = .ok (.iload_n 3, 1) := by decide +kernel
theorem dX1_loadsOneByOne_35 : decode cX1_loadsOneByOne 35 = .ok (.aload_n 0, 1) := by decide +kernel
theorem dX1_loadsOneByOne_36 : decode cX1_loadsOneByOne 36 = .ok (.iload 4, 2) := by decide +kernel
theorem dX1_loadsOneByOne_38 : decode cX1_loadsOneByOne 38 = .ok (.invokevirtual 48, 3) := by decide +kernel
theorem dX1_loadsOneByOne_41 : decode cX1_loadsOneByOne 41 = .ok (.iadd, 1) := by decide +kernel
theorem dX1_loadsOneByOne_42 : decode cX1_loadsOneByOne 42 = .ok (.istore_n 3, 1) := by decide +kernel
theorem dX1_loadsOneByOne_43 : decode cX1_loadsOneByOne 43 = .ok (.iinc 4 1, 3) := by decide +kernel
theorem dX1_loadsOneByOne_46 : decode cX1_loadsOneByOne 46 = .ok (.goto (-41), 3) := by decide +kernel
theorem dX1_loadsOneByOne_49 : decode cX1_loadsOneByOne 49 = .ok (.iload_n 3, 1) := by decide +kernel
theorem dX1_loadsOneByOne_50 : decode cX1_loadsOneByOne 50 = .ok (.ireturn, 1) := by decide +kernel
theorem dX1_isInOrder_0 : decode cX1_isInOrder 0 = .ok (.iconst 1, 1) := by decide +kernel
theorem dX1_isInOrder_1 : decode cX1_isInOrder 1 = .ok (.istore_n 1, 1) := by decide +kernel
theorem dX1_isInOrder_2 : decode cX1_isInOrder 2 = .ok (.iload_n 1, 1) := by decide +kernel
theorem dX1_isInOrder_3 : decode cX1_isInOrder 3 = .ok (.aload_n 0, 1) := by decide +kernel
theorem dX1_isInOrder_4 : decode cX1_isInOrder 4 = .ok (.getfield 21, 3) := by decide +kernel
theorem dX1_isInOrder_7 : decode cX1_isInOrder 7 = .ok (.if_icmp .ge 26, 3) := by decide +kernel
theorem dX1_isInOrder_10 : decode cX1_isInOrder 10 = .ok (.aload_n 0, 1) := by decide +kernel
theorem dX1_isInOrder_11 : decode cX1_isInOrder 11 = .ok (.iload_n 1, 1) := by decide +kernel
theorem dX1_isInOrder_12 : decode cX1_isInOrder 12 = .ok (.iconst 1, 1) := by decide +kernel
theorem dX1_isInOrder_13 : decode cX1_isInOrder 13 = .ok (.isub, 1) := by decide +kernel
theorem dX1_isInOrder_14 : decode cX1_isInOrder 14 = .ok (.invokevirtual 25, 3) := by decide +kernel
theorem dX1_isInOrder_17 : decode cX1_isInOrder 17 = .ok (.aload_n 0, 1) := by decide +kernel
theorem dX1_isInOrder_18 : decode cX1_isInOrder 18 = .ok (.iload_n 1, 1) := by decide +kernel
theorem dX1_isInOrder_19 : decode cX1_isInOrder 19 = .ok (.invokevirtual 25, 3) := by decide +kernel
theorem dX1_isInOrder_22 : decode cX1_isInOrder 22 = .ok (.if_icmp .lt 5, 3) := by decide +kernel
theorem dX1_isInOrder_25 : decode cX1_isInOrder 25 = .ok (.iconst 0, 1) := by decide +kernel
theorem dX1_isInOrder_26 : decode cX1_isInOrder 26 = .ok (.ireturn, 1) := by decide +kernel
theorem dX1_isInOrder_27 : decode cX1_isInOrder 27 = .ok (.iinc 1 1, 3) := by decide +kernel
theorem dX1_isInOrder_30 : decode cX1_isInOrder 30 = .ok (.goto (-28), 3) := by decide +kernel
theorem dX1_isInOrder_33 : decode cX1_isInOrder 33 = .ok (.iconst 1, 1) := by decide +kernel
theorem dX1_isInOrder_34 : decode cX1_isInOrder 34 = .ok (.ireturn, 1) := by decide +kernel
theorem dX1_lay_0 : decode cX1_lay 0 = .ok (.aload_n 0, 1) := by decide +kernel
theorem dX1_lay_1 : decode cX1_lay 1 = .ok (.getfield 21, 3) := by decide +kernel
theorem dX1_lay_4 : decode cX1_lay 4 = .ok (.ifCond .lt 12, 3) := by decide +kernel
theorem dX1_lay_7 : decode cX1_lay 7 = .ok (.aload_n 0, 1) := by decide +kernel
theorem dX1_lay_8 : decode cX1_lay 8 = .ok (.getfield 21, 3) := by decide +kernel
theorem dX1_lay_11 : decode cX1_lay 11 = .ok (.bipush 30, 2) := by decide +kernel
theorem dX1_lay_13 : decode cX1_lay 13 = .ok (.if_icmp .lt 5, 3) := by decide +kernel
theorem dX1_lay_16 : decode cX1_lay 16 = .ok (.iconst (-1), 1) := by decide +kernel
theorem dX1_lay_17 : decode cX1_lay 17 = .ok (.ireturn, 1) := by decide +kernel
theorem dX1_lay_18 : decode cX1_lay 18 = .ok (.aload_n 0, 1) := by decide +kernel
theorem dX1_lay_19 : decode cX1_lay 19 = .ok (.iload_n 1, 1) := by decide +kernel
theorem dX1_lay_20 : decode cX1_lay 20 = .ok (.invokevirtual 65, 3) := by decide +kernel
theorem dX1_lay_23 : decode cX1_lay 23 = .ok (.istore_n 3, 1) := by decide +kernel
theorem dX1_lay_24 : decode cX1_lay 24 = .ok (.aload_n 0, 1) := by decide +kernel
theorem dX1_lay_25 : decode cX1_lay 25 = .ok (.iload_n 3, 1) := by decide +kernel
theorem dX1_lay_26 : decode cX1_lay 26 = .ok (.iconst 1, 1) := by decide +kernel
theorem dX1_lay_27 : decode cX1_lay 27 = .ok (.isub, 1) := by decide +kernel
theorem dX1_lay_28 : decode cX1_lay 28 = .ok (.invokevirtual 29, 3) := by decide +kernel
theorem dX1_lay_31 : decode cX1_lay 31 = .ok (.aload_n 0, 1) := by decide +kernel
theorem dX1_lay_32 : decode cX1_lay 32 = .ok (.iload_n 3, 1) := by decide +kernel
theorem dX1_lay_33 : decode cX1_lay 33 = .ok (.invokevirtual 29, 3) := by decide +kernel
theorem dX1_lay_36 : decode cX1_lay 36 = .ok (.invokestatic 32, 3) := by decide +kernel
theorem dX1_lay_39 : decode cX1_lay 39 = .ok (.iconst 1, 1) := by decide +kernel
theorem dX1_lay_40 : decode cX1_lay 40 = .ok (.iadd, 1) := by decide +kernel
theorem dX1_lay_41 : decode cX1_lay 41 = .ok (.istore 4, 2) := by decide +kernel
theorem dX1_lay_43 : decode cX1_lay 43 = .ok (.aload_n 0, 1) := by decide +kernel
theorem dX1_lay_44 : decode cX1_lay 44 = .ok (.getfield 21, 3) := by decide +kernel
theorem dX1_lay_47 : decode cX1_lay 47 = .ok (.istore 5, 2) := by decide +kernel
theorem dX1_lay_49 : decode cX1_lay 49 = .ok (.iload 5, 2) := by decide +kernel
theorem dX1_lay_51 : decode cX1_lay 51 = .ok (.iload_n 3, 1) := by decide +kernel
theorem dX1_lay_52 : decode cX1_lay 52 = .ok (.if_icmp .le 39, 3) := by decide +kernel
theorem dX1_lay_55 : decode cX1_lay 55 = .ok (.aload_n 0, 1) := by decide +kernel
theorem dX1_lay_56 : decode cX1_lay 56 = .ok (.iload 5, 2) := by decide +kernel
theorem dX1_lay_58 : decode cX1_lay 58 = .ok (.aload_n 0, 1) := by decide +kernel
theorem dX1_lay_59 : decode cX1_lay 59 = .ok (.iload 5, 2) := by decide +kernel
theorem dX1_lay_61 : decode cX1_lay 61 = .ok (.iconst 1, 1) := by decide +kernel
theorem dX1_lay_62 : decode cX1_lay 62 = .ok (.isub, 1) := by decide +kernel
theorem dX1_lay_63 : decode cX1_lay 63 = .ok (.invokevirtual 25, 3) := by decide +kernel
theorem dX1_lay_66 : decode cX1_lay 66 = .ok (.aload_n 0, 1) := by decide +kernel
theorem dX1_lay_67 : decode cX1_lay 67 = .ok (.iload 5, 2) := by decide +kernel
theorem dX1_lay_69 : decode cX1_lay 69 = .ok (.iconst 1, 1) := by decide +kernel
theorem dX1_lay_70 : decode cX1_lay 70 = .ok (.isub, 1) := by decide +kernel
theorem dX1_lay_71 : decode cX1_lay 71 = .ok (.invokevirtual 48, 3) := by decide +kernel
theorem dX1_lay_74 : decode cX1_lay 74 = .ok (.aload_n 0, 1) := by decide +kernel
theorem dX1_lay_75 : decode cX1_lay 75 = .ok (.iload 5, 2) := by decide +kernel
theorem dX1_lay_77 : decode cX1_lay 77 = .ok (.iconst 1, 1) := by decide +kernel
theorem dX1_lay_78 : decode cX1_lay 78 = .ok (.isub, 1) := by decide +kernel
theorem dX1_lay_79 : decode cX1_lay 79 = .ok (.invokevirtual 29, 3) := by decide +kernel
theorem dX1_lay_82 : decode cX1_lay 82 = .ok (.invokevirtual 68, 3) := by decide +kernel
theorem dX1_lay_85 : decode cX1_lay 85 = .ok (.iinc 5 (-1), 3) := by decide +kernel
theorem dX1_lay_88 : decode cX1_lay 88 = .ok (.goto (-39), 3) := by decide +kernel
theorem dX1_lay_91 : decode cX1_lay 91 = .ok (.aload_n 0, 1) := by decide +kernel
theorem dX1_lay_92 : decode cX1_lay 92 = .ok (.iload_n 3, 1) := by decide +kernel
theorem dX1_lay_93 : decode cX1_lay 93 = .ok (.iload_n 1, 1) := by decide +kernel
theorem dX1_lay_94 : decode cX1_lay 94 = .ok (.iload_n 2, 1) := by decide +kernel
theorem dX1_lay_95 : decode cX1_lay 95 = .ok (.iload 4, 2) := by decide +kernel
theorem dX1_lay_97 : decode cX1_lay 97 = .ok (.invokevirtual 68, 3) := by decide +kernel
theorem dX1_lay_100 : decode cX1_lay 100 = .ok (.aload_n 0, 1) := by decide +kernel
theorem dX1_lay_101 : decode cX1_lay 101 = .ok (.dup, 1) := by decide +kernel
theorem dX1_lay_102 : decode cX1_lay 102 = .ok (.getfield 21, 3) := by decide +kernel
theorem dX1_lay_105 : decode cX1_lay 105 = .ok (.iconst 1, 1) := by decide +kernel
theorem dX1_lay_106 : decode cX1_lay 106 = .ok (.iadd, 1) := by decide +kernel
theorem dX1_lay_107 : decode cX1_lay 107 = .ok (.putfield 21, 3) := by decide +kernel
theorem dX1_lay_110 : decode cX1_lay 110 = .ok (.iload_n 3, 1) := by decide +kernel
theorem dX1_lay_111 : decode cX1_lay 111 = .ok (.ireturn, 1) := by decide +kernel
theorem dX1_lift_0 : decode cX1_lift 0 = .ok (.aload_n 0, 1) := by decide +kernel
theorem dX1_lift_1 : decode cX1_lift 1 = .ok (.iload_n 1, 1) := by decide +kernel
theorem dX1_lift_2 : decode cX1_lift 2 = .ok (.invokevirtual 44, 3) := by decide +kernel
theorem dX1_lift_5 : decode cX1_lift 5 = .ok (.ifCond .ne 4, 3) := by decide +kernel
theorem dX1_lift_8 : decode cX1_lift 8 = .ok (.return_, 1) := by decide +kernel
theorem dX1_lift_9 : decode cX1_lift 9 = .ok (.aload_n 0, 1) := by decide +kernel
theorem dX1_lift_10 : decode cX1_lift 10 = .ok (.iload_n 1, 1) := by decide +kernel
theorem dX1_lift_11 : decode cX1_lift 11 = .ok (.invokevirtual 38, 3) := by decide +kernel
theorem dX1_lift_14 : decode cX1_lift 14 = .ok (.istore_n 2, 1) := by decide +kernel
theorem dX1_lift_15 : decode cX1_lift 15 = .ok (.aload_n 0, 1) := by decide +kernel
theorem dX1_lift_16 : decode cX1_lift 16 = .ok (.iload_n 1, 1) := by decide +kernel
theorem dX1_lift_17 : decode cX1_lift 17 = .ok (.invokevirtual 41, 3) := by decide +kernel
theorem dX1_lift_20 : decode cX1_lift 20 = .ok (.istore_n 3, 1) := by decide +kernel
theorem dX1_lift_21 : decode cX1_lift 21 = .ok (.iload_n 2, 1) := by decide +kernel
theorem dX1_lift_22 : decode cX1_lift 22 = .ok (.iload_n 1, 1) := by decide +kernel
theorem dX1_lift_23 : decode cX1_lift 23 = .ok (.if_icmp .ge 41, 3) := by decide +kernel
theorem dX1_lift_26 : decode cX1_lift 26 = .ok (.iload_n 1, 1) := by decide +kernel
theorem dX1_lift_27 : decode cX1_lift 27 = .ok (.iload_n 3, 1) := by decide +kernel
theorem dX1_lift_28 : decode cX1_lift 28 = .ok (.if_icmp .ge 36, 3) := by decide +kernel
theorem dX1_lift_31 : decode cX1_lift 31 = .ok (.iload_n 1, 1) := by decide +kernel
theorem dX1_lift_32 : decode cX1_lift 32 = .ok (.iconst 1, 1) := by decide +kernel
theorem dX1_lift_33 : decode cX1_lift 33 = .ok (.iadd, 1) := by decide +kernel
theorem dX1_lift_34 : decode cX1_lift 34 = .ok (.istore 4, 2) := by decide +kernel
theorem dX1_lift_36 : decode cX1_lift 36 = .ok (.aload_n 0, 1) := by decide +kernel
theorem dX1_lift_37 : decode cX1_lift 37 = .ok (.iload 4, 2) := by decide +kernel
theorem dX1_lift_39 : decode cX1_lift 39 = .ok (.iconst 1, 1) := by decide +kernel
theorem dX1_lift_40 : decode cX1_lift 40 = .ok (.iadd, 1) := by decide +kernel
theorem dX1_lift_41 : decode cX1_lift 41 = .ok (.aload_n 0, 1) := by decide +kernel
theorem dX1_lift_42 : decode cX1_lift 42 = .ok (.iload 4, 2) := by decide +kernel
theorem dX1_lift_44 : decode cX1_lift 44 = .ok (.invokevirtual 41, 3) := by decide +kernel
theorem dX1_lift_47 : decode cX1_lift 47 = .ok (.invokevirtual 72, 3) := by decide +kernel
theorem dX1_lift_50 : decode cX1_lift 50 = .ok (.aload_n 0, 1) := by decide +kernel
theorem dX1_lift_51 : decode cX1_lift 51 = .ok (.iload 4, 2) := by decide +kernel
theorem dX1_lift_53 : decode cX1_lift 53 = .ok (.aload_n 0, 1) := by decide +kernel
theorem dX1_lift_54 : decode cX1_lift 54 = .ok (.iload_n 1, 1) := by decide +kernel
theorem dX1_lift_55 : decode cX1_lift 55 = .ok (.invokevirtual 29, 3) := by decide +kernel
theorem dX1_lift_58 : decode cX1_lift 58 = .ok (.invokevirtual 76, 3) := by decide +kernel
theorem dX1_lift_61 : decode cX1_lift 61 = .ok (.goto 9, 3) := by decide +kernel
theorem dX1_lift_64 : decode cX1_lift 64 = .ok (.aload_n 0, 1) := by decide +kernel
theorem dX1_lift_65 : decode cX1_lift 65 = .ok (.iload_n 2, 1) := by decide +kernel
theorem dX1_lift_66 : decode cX1_lift 66 = .ok (.iload_n 3, 1) := by decide +kernel
theorem dX1_lift_67 : decode cX1_lift 67 = .ok (.invokevirtual 72, 3) := by decide +kernel
theorem dX1_lift_70 : decode cX1_lift 70 = .ok (.iload_n 1, 1) := by decide +kernel
theorem dX1_lift_71 : decode cX1_lift 71 = .ok (.istore 4, 2) := by decide +kernel
theorem dX1_lift_73 : decode cX1_lift 73 = .ok (.iload 4, 2) := by decide +kernel
theorem dX1_lift_75 : decode cX1_lift 75 = .ok (.aload_n 0, 1) := by decide +kernel
theorem dX1_lift_76 : decode cX1_lift 76 = .ok (.getfield 21, 3) := by decide +kernel
theorem dX1_lift_79 : decode cX1_lift 79 = .ok (.iconst 1, 1) := by decide +kernel
theorem dX1_lift_80 : decode cX1_lift 80 = .ok (.isub, 1) := by decide +kernel
theorem dX1_lift_81 : decode cX1_lift 81 = .ok (.if_icmp .ge 39, 3) := by decide +kernel
theorem dX1_lift_84 : decode cX1_lift 84 = .ok (.aload_n 0, 1) := by decide +kernel
theorem dX1_lift_85 : decode cX1_lift 85 = .ok (.iload 4, 2) := by decide +kernel
theorem dX1_lift_87 : decode cX1_lift 87 = .ok (.aload_n 0, 1) := by decide +kernel
theorem dX1_lift_88 : decode cX1_lift 88 = .ok (.iload 4, 2) := by decide +kernel
theorem dX1_lift_90 : decode cX1_lift 90 = .ok (.iconst 1, 1) := by decide +kernel
theorem dX1_lift_91 : decode cX1_lift 91 = .ok (.iadd, 1) := by decide +kernel
theorem dX1_lift_92 : decode cX1_lift 92 = .ok (.invokevirtual 25, 3) := by decide +kernel
theorem dX1_lift_95 : decode cX1_lift 95 = .ok (.aload_n 0, 1) := by decide +kernel
theorem dX1_lift_96 : decode cX1_lift 96 = .ok (.iload 4, 2) := by decide +kernel
theorem dX1_lift_98 : decode cX1_lift 98 = .ok (.iconst 1, 1) := by decide +kernel
theorem dX1_lift_99 : decode cX1_lift 99 = .ok (.iadd, 1) := by decide +kernel
theorem dX1_lift_100 : decode cX1_lift 100 = .ok (.invokevirtual 48, 3) := by decide +kernel
theorem dX1_lift_103 : decode cX1_lift 103 = .ok (.aload_n 0, 1) := by decide +kernel
theorem dX1_lift_104 : decode cX1_lift 104 = .ok (.iload 4, 2) := by decide +kernel
theorem dX1_lift_106 : decode cX1_lift 106 = .ok (.iconst 1, 1) := by decide +kernel
theorem dX1_lift_107 : decode cX1_lift 107 = .ok (.iadd, 1) := by decide +kernel
theorem dX1_lift_108 : decode cX1_lift 108 = .ok (.invokevirtual 29, 3) := by decide +kernel
theorem dX1_lift_111 : decode cX1_lift 111 = .ok (.invokevirtual 68, 3) := by decide +kernel
theorem dX1_lift_114 : decode cX1_lift 114 = .ok (.iinc 4 1, 3) := by decide +kernel
theorem dX1_lift_117 : decode cX1_lift 117 = .ok (.goto (-44), 3) := by decide +kernel
theorem dX1_lift_120 : decode cX1_lift 120 = .ok (.aload_n 0, 1) := by decide +kernel
theorem dX1_lift_121 : decode cX1_lift 121 = .ok (.dup, 1) := by decide +kernel
theorem dX1_lift_122 : decode cX1_lift 122 = .ok (.getfield 21, 3) := by decide +kernel
theorem dX1_lift_125 : decode cX1_lift 125 = .ok (.iconst 1, 1) := by decide +kernel
theorem dX1_lift_126 : decode cX1_lift 126 = .ok (.isub, 1) := by decide +kernel
theorem dX1_lift_127 : decode cX1_lift 127 = .ok (.putfield 21, 3) := by decide +kernel
theorem dX1_lift_130 : decode cX1_lift 130 = .ok (.return_, 1) := by decide +kernel
theorem dX1_buildPartAbove_0 : decode cX1_buildPartAbove 0 = .ok (.aload_n 0, 1) := by decide +kernel
theorem dX1_buildPartAbove_1 : decode cX1_buildPartAbove 1 = .ok (.iload_n 1, 1) := by decide +kernel
theorem dX1_buildPartAbove_2 : decode cX1_buildPartAbove 2 = .ok (.invokevirtual 79, 3) := by decide +kernel
theorem dX1_buildPartAbove_5 : decode cX1_buildPartAbove 5 = .ok (.istore_n 3, 1) := by decide +kernel
theorem dX1_buildPartAbove_6 : decode cX1_buildPartAbove 6 = .ok (.iconst 0, 1) := by decide +kernel
theorem dX1_buildPartAbove_7 : decode cX1_buildPartAbove 7 = .ok (.istore 4, 2) := by decide +kernel
theorem dX1_buildPartAbove_9 : decode cX1_buildPartAbove 9 = .ok (.iload 4, 2) := by decide +kernel
theorem dX1_buildPartAbove_11 : decode cX1_buildPartAbove 11 = .ok (.bipush 30, 2) := by decide +kernel
theorem dX1_buildPartAbove_13 : decode cX1_buildPartAbove 13 = .ok (.if_icmp .ge 68, 3) := by decide +kernel
theorem dX1_buildPartAbove_16 : decode cX1_buildPartAbove 16 = .ok (.aload_n 0, 1) := by decide +kernel
theorem dX1_buildPartAbove_17 : decode cX1_buildPartAbove 17 = .ok (.iload_n 3, 1) := by decide +kernel
theorem dX1_buildPartAbove_18 : decode cX1_buildPartAbove 18 = .ok (.invokevirtual 44, 3) := by decide +kernel
theorem dX1_buildPartAbove_21 : decode cX1_buildPartAbove 21 = .ok (.ifCond .eq 60, 3) := by decide +kernel
theorem dX1_buildPartAbove_24 : decode cX1_buildPartAbove 24 = .ok (.aload_n 0, 1) := by decide +kernel
theorem dX1_buildPartAbove_25 : decode cX1_buildPartAbove 25 = .ok (.iload_n 3, 1) := by decide +kernel
theorem dX1_buildPartAbove_26 : decode cX1_buildPartAbove 26 = .ok (.iload_n 2, 1) := by decide +kernel
theorem dX1_buildPartAbove_27 : decode cX1_buildPartAbove 27 = .ok (.invokevirtual 51, 3) := by decide +kernel
theorem dX1_buildPartAbove_30 : decode cX1_buildPartAbove 30 = .ok (.ifCond .eq 39, 3) := by decide +kernel
theorem dX1_buildPartAbove_33 : decode cX1_buildPartAbove 33 = .ok (.aload_n 0, 1) := by decide +kernel
theorem dX1_buildPartAbove_34 : decode cX1_buildPartAbove 34 = .ok (.iload_n 3, 1) := by decide +kernel
theorem dX1_buildPartAbove_35 : decode cX1_buildPartAbove 35 = .ok (.invokevirtual 38, 3) := by decide +kernel
theorem dX1_buildPartAbove_38 : decode cX1_buildPartAbove 38 = .ok (.istore 5, 2) := by decide +kernel
theorem dX1_buildPartAbove_40 : decode cX1_buildPartAbove 40 = .ok (.aload_n 0, 1) := by decide +kernel
theorem dX1_buildPartAbove_41 : decode cX1_buildPartAbove 41 = .ok (.iload_n 3, 1) := by decide +kernel
theorem dX1_buildPartAbove_42 : decode cX1_buildPartAbove 42 = .ok (.invokevirtual 41, 3) := by decide +kernel
theorem dX1_buildPartAbove_45 : decode cX1_buildPartAbove 45 = .ok (.istore 6, 2) := by decide +kernel
theorem dX1_buildPartAbove_47 : decode cX1_buildPartAbove 47 = .ok (.aload_n 0, 1) := by decide +kernel
theorem dX1_buildPartAbove_48 : decode cX1_buildPartAbove 48 = .ok (.iload 5, 2) := by decide +kernel
theorem dX1_buildPartAbove_50 : decode cX1_buildPartAbove 50 = .ok (.iload 6, 2) := by decide +kernel
theorem dX1_buildPartAbove_52 : decode cX1_buildPartAbove 52 = .ok (.aload_n 0, 1) := by decide +kernel
theorem dX1_buildPartAbove_53 : decode cX1_buildPartAbove 53 = .ok (.iload_n 3, 1) := by decide +kernel
theorem dX1_buildPartAbove_54 : decode cX1_buildPartAbove 54 = .ok (.invokevirtual 29, 3) := by decide +kernel
theorem dX1_buildPartAbove_57 : decode cX1_buildPartAbove 57 = .ok (.invokestatic 82, 3) := by decide +kernel
theorem dX1_buildPartAbove_60 : decode cX1_buildPartAbove 60 = .ok (.pop, 1) := by decide +kernel
theorem dX1_buildPartAbove_61 : decode cX1_buildPartAbove 61 = .ok (.iload 6, 2) := by decide +kernel
theorem dX1_buildPartAbove_63 : decode cX1_buildPartAbove 63 = .ok (.iload 5, 2) := by decide +kernel
theorem dX1_buildPartAbove_65 : decode cX1_buildPartAbove 65 = .ok (.isub, 1) := by decide +kernel
theorem dX1_buildPartAbove_66 : decode cX1_buildPartAbove 66 = .ok (.iconst 1, 1) := by decide +kernel
theorem dX1_buildPartAbove_67 : decode cX1_buildPartAbove 67 = .ok (.iadd, 1) := by decide +kernel
theorem dX1_buildPartAbove_68 : decode cX1_buildPartAbove 68 = .ok (.ireturn, 1) := by decide +kernel
theorem dX1_buildPartAbove_69 : decode cX1_buildPartAbove 69 = .ok (.aload_n 0, 1) := by decide +kernel
theorem dX1_buildPartAbove_70 : decode cX1_buildPartAbove 70 = .ok (.iload_n 3, 1) := by decide +kernel
theorem dX1_buildPartAbove_71 : decode cX1_buildPartAbove 71 = .ok (.invokevirtual 79, 3) := by decide +kernel
theorem dX1_buildPartAbove_74 : decode cX1_buildPartAbove 74 = .ok (.istore_n 3, 1) := by decide +kernel
theorem dX1_buildPartAbove_75 : decode cX1_buildPartAbove 75 = .ok (.iinc 4 1, 3) := by decide +kernel
theorem dX1_buildPartAbove_78 : decode cX1_buildPartAbove 78 = .ok (.goto (-69), 3) := by decide +kernel
theorem dX1_buildPartAbove_81 : decode cX1_buildPartAbove 81 = .ok (.iconst 0, 1) := by decide +kernel
theorem dX1_buildPartAbove_82 : decode cX1_buildPartAbove 82 = .ok (.ireturn, 1) := by decide +kernel
theorem dX1_buildWhole_0 : decode cX1_buildWhole 0 = .ok (.aload_n 0, 1) := by decide +kernel
theorem dX1_buildWhole_1 : decode cX1_buildWhole 1 = .ok (.aload_n 0, 1) := by decide +kernel
theorem dX1_buildWhole_2 : decode cX1_buildWhole 2 = .ok (.getfield 21, 3) := by decide +kernel
theorem dX1_buildWhole_5 : decode cX1_buildWhole 5 = .ok (.putfield 86, 3) := by decide +kernel
theorem dX1_buildWhole_8 : decode cX1_buildWhole 8 = .ok (.aload_n 0, 1) := by decide +kernel
theorem dX1_buildWhole_9 : decode cX1_buildWhole 9 = .ok (.iconst 0, 1) := by decide +kernel
theorem dX1_buildWhole_10 : decode cX1_buildWhole 10 = .ok (.aload_n 0, 1) := by decide +kernel
theorem dX1_buildWhole_11 : decode cX1_buildWhole 11 = .ok (.getfield 21, 3) := by decide +kernel
theorem dX1_buildWhole_14 : decode cX1_buildWhole 14 = .ok (.iconst 1, 1) := by decide +kernel
theorem dX1_buildWhole_15 : decode cX1_buildWhole 15 = .ok (.isub, 1) := by decide +kernel
theorem dX1_buildWhole_16 : decode cX1_buildWhole 16 = .ok (.iconst 0, 1) := by decide +kernel
theorem dX1_buildWhole_17 : decode cX1_buildWhole 17 = .ok (.invokestatic 82, 3) := by decide +kernel
theorem dX1_buildWhole_20 : decode cX1_buildWhole 20 = .ok (.ireturn, 1) := by decide +kernel
theorem dX1_spread_0 : decode cX1_spread 0 = .ok (.iload_n 1, 1) := by decide +kernel
theorem dX1_spread_1 : decode cX1_spread 1 = .ok (.iload_n 2, 1) := by decide +kernel
theorem dX1_spread_2 : decode cX1_spread 2 = .ok (.if_icmp .gt 9, 3) := by decide +kernel
theorem dX1_spread_5 : decode cX1_spread 5 = .ok (.iload_n 3, 1) := by decide +kernel
theorem dX1_spread_6 : decode cX1_spread 6 = .ok (.bipush 30, 2) := by decide +kernel
theorem dX1_spread_8 : decode cX1_spread 8 = .ok (.if_icmp .le 5, 3) := by decide +kernel
theorem dX1_spread_11 : decode cX1_spread 11 = .ok (.iconst 0, 1) := by decide +kernel
theorem dX1_spread_12 : decode cX1_spread 12 = .ok (.ireturn, 1) := by decide +kernel
theorem dX1_spread_13 : decode cX1_spread 13 = .ok (.iload_n 1, 1) := by decide +kernel
theorem dX1_spread_14 : decode cX1_spread 14 = .ok (.iload_n 2, 1) := by decide +kernel
theorem dX1_spread_15 : decode cX1_spread 15 = .ok (.iadd, 1) := by decide +kernel
theorem dX1_spread_16 : decode cX1_spread 16 = .ok (.iconst 2, 1) := by decide +kernel
theorem dX1_spread_17 : decode cX1_spread 17 = .ok (.idiv, 1) := by decide +kernel
theorem dX1_spread_18 : decode cX1_spread 18 = .ok (.istore 4, 2) := by decide +kernel
theorem dX1_spread_20 : decode cX1_spread 20 = .ok (.aload_n 0, 1) := by decide +kernel
theorem dX1_spread_21 : decode cX1_spread 21 = .ok (.iload 4, 2) := by decide +kernel
theorem dX1_spread_23 : decode cX1_spread 23 = .ok (.invokevirtual 29, 3) := by decide +kernel
theorem dX1_spread_26 : decode cX1_spread 26 = .ok (.iload_n 3, 1) := by decide +kernel
theorem dX1_spread_27 : decode cX1_spread 27 = .ok (.if_icmp .ne 7, 3) := by decide +kernel
theorem dX1_spread_30 : decode cX1_spread 30 = .ok (.iconst 0, 1) := by decide +kernel
theorem dX1_spread_31 : decode cX1_spread 31 = .ok (.goto 4, 3) := by decide +kernel
theorem dX1_spread_34 : decode cX1_spread 34 = .ok (.iconst 1, 1) := by decide +kernel
theorem dX1_spread_35 : decode cX1_spread 35 = .ok (.istore 5, 2) := by decide +kernel
theorem dX1_spread_37 : decode cX1_spread 37 = .ok (.aload_n 0, 1) := by decide +kernel
theorem dX1_spread_38 : decode cX1_spread 38 = .ok (.iload 4, 2) := by decide +kernel
theorem dX1_spread_40 : decode cX1_spread 40 = .ok (.iload_n 3, 1) := by decide +kernel
theorem dX1_spread_41 : decode cX1_spread 41 = .ok (.invokevirtual 76, 3) := by decide +kernel
theorem dX1_spread_44 : decode cX1_spread 44 = .ok (.iload 5, 2) := by decide +kernel
theorem dX1_spread_46 : decode cX1_spread 46 = .ok (.aload_n 0, 1) := by decide +kernel
theorem dX1_spread_47 : decode cX1_spread 47 = .ok (.iload_n 1, 1) := by decide +kernel
theorem dX1_spread_48 : decode cX1_spread 48 = .ok (.iload 4, 2) := by decide +kernel
theorem dX1_spread_50 : decode cX1_spread 50 = .ok (.iconst 1, 1) := by decide +kernel
theorem dX1_spread_51 : decode cX1_spread 51 = .ok (.isub, 1) := by decide +kernel
theorem dX1_spread_52 : decode cX1_spread 52 = .ok (.iload_n 3, 1) := by decide +kernel
theorem dX1_spread_53 : decode cX1_spread 53 = .ok (.iconst 1, 1) := by decide +kernel
theorem dX1_spread_54 : decode cX1_spread 54 = .ok (.iadd, 1) := by decide +kernel
theorem dX1_spread_55 : decode cX1_spread 55 = .ok (.invokestatic 82, 3) := by decide +kernel
theorem dX1_spread_58 : decode cX1_spread 58 = .ok (.iadd, 1) := by decide +kernel
theorem dX1_spread_59 : decode cX1_spread 59 = .ok (.aload_n 0, 1) := by decide +kernel
theorem dX1_spread_60 : decode cX1_spread 60 = .ok (.iload 4, 2) := by decide +kernel
theorem dX1_spread_62 : decode cX1_spread 62 = .ok (.iconst 1, 1) := by decide +kernel
theorem dX1_spread_63 : decode cX1_spread 63 = .ok (.iadd, 1) := by decide +kernel
theorem dX1_spread_64 : decode cX1_spread 64 = .ok (.iload_n 2, 1) := by decide +kernel
theorem dX1_spread_65 : decode cX1_spread 65 = .ok (.iload_n 3, 1) := by decide +kernel
theorem dX1_spread_66 : decode cX1_spread 66 = .ok (.iconst 1, 1) := by decide +kernel
theorem dX1_spread_67 : decode cX1_spread 67 = .ok (.iadd, 1) := by decide +kernel
theorem dX1_spread_68 : decode cX1_spread 68 = .ok (.invokestatic 82, 3) := by decide +kernel
theorem dX1_spread_71 : decode cX1_spread 71 = .ok (.iadd, 1) := by decide +kernel
theorem dX1_spread_72 : decode cX1_spread 72 = .ok (.ireturn, 1) := by decide +kernel
theorem dX1_raise_0 : decode cX1_raise 0 = .ok (.iload_n 1, 1) := by decide +kernel
theorem dX1_raise_1 : decode cX1_raise 1 = .ok (.istore_n 3, 1) := by decide +kernel
theorem dX1_raise_2 : decode cX1_raise 2 = .ok (.iload_n 3, 1) := by decide +kernel
theorem dX1_raise_3 : decode cX1_raise 3 = .ok (.iload_n 2, 1) := by decide +kernel
theorem dX1_raise_4 : decode cX1_raise 4 = .ok (.if_icmp .gt 29, 3) := by decide +kernel
theorem dX1_raise_7 : decode cX1_raise 7 = .ok (.iload_n 3, 1) := by decide +kernel
theorem dX1_raise_8 : decode cX1_raise 8 = .ok (.aload_n 0, 1) := by decide +kernel
theorem dX1_raise_9 : decode cX1_raise 9 = .ok (.getfield 21, 3) := by decide +kernel
theorem dX1_raise_12 : decode cX1_raise 12 = .ok (.if_icmp .ge 21, 3) := by decide +kernel
theorem dX1_raise_15 : decode cX1_raise 15 = .ok (.aload_n 0, 1) := by decide +kernel
theorem dX1_raise_16 : decode cX1_raise 16 = .ok (.iload_n 3, 1) := by decide +kernel
theorem dX1_raise_17 : decode cX1_raise 17 = .ok (.aload_n 0, 1) := by decide +kernel
theorem dX1_raise_18 : decode cX1_raise 18 = .ok (.iload_n 3, 1) := by decide +kernel
theorem dX1_raise_19 : decode cX1_raise 19 = .ok (.invokevirtual 29, 3) := by decide +kernel
theorem dX1_raise_22 : decode cX1_raise 22 = .ok (.iconst 1, 1) := by decide +kernel
theorem dX1_raise_23 : decode cX1_raise 23 = .ok (.isub, 1) := by decide +kernel
theorem dX1_raise_24 : decode cX1_raise 24 = .ok (.invokevirtual 76, 3) := by decide +kernel
theorem dX1_raise_27 : decode cX1_raise 27 = .ok (.iinc 3 1, 3) := by decide +kernel
theorem dX1_raise_30 : decode cX1_raise 30 = .ok (.goto (-28), 3) := by decide +kernel
theorem dX1_raise_33 : decode cX1_raise 33 = .ok (.return_, 1) := by decide +kernel
theorem dX1_set_0 : decode cX1_set 0 = .ok (.iload_n 1, 1) := by decide +kernel
theorem dX1_set_1 : decode cX1_set 1 = .ok (.ifCond .lt 31, 3) := by decide +kernel
theorem dX1_set_4 : decode cX1_set 4 = .ok (.iload_n 1, 1) := by decide +kernel
theorem dX1_set_5 : decode cX1_set 5 = .ok (.bipush 30, 2) := by decide +kernel
theorem dX1_set_7 : decode cX1_set 7 = .ok (.if_icmp .ge 25, 3) := by decide +kernel
theorem dX1_set_10 : decode cX1_set 10 = .ok (.aload_n 0, 1) := by decide +kernel
theorem dX1_set_11 : decode cX1_set 11 = .ok (.getfield 9, 3) := by decide +kernel
theorem dX1_set_14 : decode cX1_set 14 = .ok (.iload_n 1, 1) := by decide +kernel
theorem dX1_set_15 : decode cX1_set 15 = .ok (.iload_n 2, 1) := by decide +kernel
theorem dX1_set_16 : decode cX1_set 16 = .ok (.iastore, 1) := by decide +kernel
theorem dX1_set_17 : decode cX1_set 17 = .ok (.aload_n 0, 1) := by decide +kernel
theorem dX1_set_18 : decode cX1_set 18 = .ok (.getfield 15, 3) := by decide +kernel
theorem dX1_set_21 : decode cX1_set 21 = .ok (.iload_n 1, 1) := by decide +kernel
theorem dX1_set_22 : decode cX1_set 22 = .ok (.iload_n 3, 1) := by decide +kernel
theorem dX1_set_23 : decode cX1_set 23 = .ok (.iastore, 1) := by decide +kernel
theorem dX1_set_24 : decode cX1_set 24 = .ok (.aload_n 0, 1) := by decide +kernel
theorem dX1_set_25 : decode cX1_set 25 = .ok (.getfield 18, 3) := by decide +kernel
theorem dX1_set_28 : decode cX1_set 28 = .ok (.iload_n 1, 1) := by decide +kernel
theorem dX1_set_29 : decode cX1_set 29 = .ok (.iload 4, 2) := by decide +kernel
theorem dX1_set_31 : decode cX1_set 31 = .ok (.iastore, 1) := by decide +kernel
theorem dX1_set_32 : decode cX1_set 32 = .ok (.return_, 1) := by decide +kernel
theorem dX1_setDepth_0 : decode cX1_setDepth 0 = .ok (.iload_n 1, 1) := by decide +kernel
theorem dX1_setDepth_1 : decode cX1_setDepth 1 = .ok (.ifCond .lt 16, 3) := by decide +kernel
theorem dX1_setDepth_4 : decode cX1_setDepth 4 = .ok (.iload_n 1, 1) := by decide +kernel
theorem dX1_setDepth_5 : decode cX1_setDepth 5 = .ok (.bipush 30, 2) := by decide +kernel
theorem dX1_setDepth_7 : decode cX1_setDepth 7 = .ok (.if_icmp .ge 10, 3) := by decide +kernel
theorem dX1_setDepth_10 : decode cX1_setDepth 10 = .ok (.aload_n 0, 1) := by decide +kernel
theorem dX1_setDepth_11 : decode cX1_setDepth 11 = .ok (.getfield 18, 3) := by decide +kernel
theorem dX1_setDepth_14 : decode cX1_setDepth 14 = .ok (.iload_n 1, 1) := by decide +kernel
theorem dX1_setDepth_15 : decode cX1_setDepth 15 = .ok (.iload_n 2, 1) := by decide +kernel
theorem dX1_setDepth_16 : decode cX1_setDepth 16 = .ok (.iastore, 1) := by decide +kernel
theorem dX1_setDepth_17 : decode cX1_setDepth 17 = .ok (.return_, 1) := by decide +kernel
theorem dX1_copyFrom_0 : decode cX1_copyFrom 0 = .ok (.aload_n 1, 1) := by decide +kernel
theorem dX1_copyFrom_1 : decode cX1_copyFrom 1 = .ok (.getfield 9, 3) := by decide +kernel
theorem dX1_copyFrom_4 : decode cX1_copyFrom 4 = .ok (.iconst 0, 1) := by decide +kernel
theorem dX1_copyFrom_5 : decode cX1_copyFrom 5 = .ok (.aload_n 0, 1) := by decide +kernel
theorem dX1_copyFrom_6 : decode cX1_copyFrom 6 = .ok (.getfield 9, 3) := by decide +kernel
theorem dX1_copyFrom_9 : decode cX1_copyFrom 9 = .ok (.iconst 0, 1) := by decide +kernel
theorem dX1_copyFrom_10 : decode cX1_copyFrom 10 = .ok (.bipush 30, 2) := by decide +kernel
theorem dX1_copyFrom_12 : decode cX1_copyFrom 12 = .ok (.invokestatic 89, 3) := by decide +kernel
theorem dX1_copyFrom_15 : decode cX1_copyFrom 15 = .ok (.aload_n 1, 1) := by decide +kernel
theorem dX1_copyFrom_16 : decode cX1_copyFrom 16 = .ok (.getfield 15, 3) := by decide +kernel
theorem dX1_copyFrom_19 : decode cX1_copyFrom 19 = .ok (.iconst 0, 1) := by decide +kernel
theorem dX1_copyFrom_20 : decode cX1_copyFrom 20 = .ok (.aload_n 0, 1) := by decide +kernel
theorem dX1_copyFrom_21 : decode cX1_copyFrom 21 = .ok (.getfield 15, 3) := by decide +kernel
theorem dX1_copyFrom_24 : decode cX1_copyFrom 24 = .ok (.iconst 0, 1) := by decide +kernel
theorem dX1_copyFrom_25 : decode cX1_copyFrom 25 = .ok (.bipush 30, 2) := by decide +kernel
theorem dX1_copyFrom_27 : decode cX1_copyFrom 27 = .ok (.invokestatic 89, 3) := by decide +kernel
theorem dX1_copyFrom_30 : decode cX1_copyFrom 30 = .ok (.aload_n 1, 1) := by decide +kernel
theorem dX1_copyFrom_31 : decode cX1_copyFrom 31 = .ok (.getfield 18, 3) := by decide +kernel
theorem dX1_copyFrom_34 : decode cX1_copyFrom 34 = .ok (.iconst 0, 1) := by decide +kernel
theorem dX1_copyFrom_35 : decode cX1_copyFrom 35 = .ok (.aload_n 0, 1) := by decide +kernel
theorem dX1_copyFrom_36 : decode cX1_copyFrom 36 = .ok (.getfield 18, 3) := by decide +kernel
theorem dX1_copyFrom_39 : decode cX1_copyFrom 39 = .ok (.iconst 0, 1) := by decide +kernel
theorem dX1_copyFrom_40 : decode cX1_copyFrom 40 = .ok (.bipush 30, 2) := by decide +kernel
theorem dX1_copyFrom_42 : decode cX1_copyFrom 42 = .ok (.invokestatic 89, 3) := by decide +kernel
theorem dX1_copyFrom_45 : decode cX1_copyFrom 45 = .ok (.aload_n 0, 1) := by decide +kernel
theorem dX1_copyFrom_46 : decode cX1_copyFrom 46 = .ok (.aload_n 1, 1) := by decide +kernel
theorem dX1_copyFrom_47 : decode cX1_copyFrom 47 = .ok (.getfield 21, 3) := by decide +kernel
theorem dX1_copyFrom_50 : decode cX1_copyFrom 50 = .ok (.putfield 21, 3) := by decide +kernel
theorem dX1_copyFrom_53 : decode cX1_copyFrom 53 = .ok (.aload_n 0, 1) := by decide +kernel
theorem dX1_copyFrom_54 : decode cX1_copyFrom 54 = .ok (.aload_n 1, 1) := by decide +kernel
theorem dX1_copyFrom_55 : decode cX1_copyFrom 55 = .ok (.getfield 86, 3) := by decide +kernel
theorem dX1_copyFrom_58 : decode cX1_copyFrom 58 = .ok (.putfield 86, 3) := by decide +kernel
theorem dX1_copyFrom_61 : decode cX1_copyFrom 61 = .ok (.return_, 1) := by decide +kernel
theorem dX2_init_0 : decode cX2_init 0 = .ok (.aload_n 0, 1) := by decide +kernel
theorem dX2_init_1 : decode cX2_init 1 = .ok (.invokespecial 3, 3) := by decide +kernel
theorem dX2_init_4 : decode cX2_init 4 = .ok (.aload_n 0, 1) := by decide +kernel
theorem dX2_init_5 : decode cX2_init 5 = .ok (.bipush 60, 2) := by decide +kernel
theorem dX2_init_7 : decode cX2_init 7 = .ok (.newarray .int, 2) := by decide +kernel
theorem dX2_init_9 : decode cX2_init 9 = .ok (.putfield 9, 3) := by decide +kernel
theorem dX2_init_12 : decode cX2_init 12 = .ok (.return_, 1) := by decide +kernel
theorem dX2_clear_0 : decode cX2_clear 0 = .ok (.aload_n 0, 1) := by decide +kernel
theorem dX2_clear_1 : decode cX2_clear 1 = .ok (.iconst 0, 1) := by decide +kernel
theorem dX2_clear_2 : decode cX2_clear 2 = .ok (.putfield 15, 3) := by decide +kernel
theorem dX2_clear_5 : decode cX2_clear 5 = .ok (.return_, 1) := by decide +kernel
theorem dX2_add_0 : decode cX2_add 0 = .ok (.aload_n 0, 1) := by decide +kernel
theorem dX2_add_1 : decode cX2_add 1 = .ok (.getfield 15, 3) := by decide +kernel
theorem dX2_add_4 : decode cX2_add 4 = .ok (.ifCond .lt 12, 3) := by decide +kernel
theorem dX2_add_7 : decode cX2_add 7 = .ok (.aload_n 0, 1) := by decide +kernel
theorem dX2_add_8 : decode cX2_add 8 = .ok (.getfield 15, 3) := by decide +kernel
theorem dX2_add_11 : decode cX2_add 11 = .ok (.bipush 60, 2) := by decide +kernel
theorem dX2_add_13 : decode cX2_add 13 = .ok (.if_icmp .lt 5, 3) := by decide +kernel
theorem dX2_add_16 : decode cX2_add 16 = .ok (.iconst 0, 1) := by decide +kernel
theorem dX2_add_17 : decode cX2_add 17 = .ok (.ireturn, 1) := by decide +kernel
theorem dX2_add_18 : decode cX2_add 18 = .ok (.aload_n 0, 1) := by decide +kernel
theorem dX2_add_19 : decode cX2_add 19 = .ok (.getfield 9, 3) := by decide +kernel
theorem dX2_add_22 : decode cX2_add 22 = .ok (.aload_n 0, 1) := by decide +kernel
theorem dX2_add_23 : decode cX2_add 23 = .ok (.getfield 15, 3) := by decide +kernel
theorem dX2_add_26 : decode cX2_add 26 = .ok (.iload_n 1, 1) := by decide +kernel
theorem dX2_add_27 : decode cX2_add 27 = .ok (.iastore, 1) := by decide +kernel
theorem dX2_add_28 : decode cX2_add 28 = .ok (.aload_n 0, 1) := by decide +kernel
theorem dX2_add_29 : decode cX2_add 29 = .ok (.dup, 1) := by decide +kernel
theorem dX2_add_30 : decode cX2_add 30 = .ok (.getfield 15, 3) := by decide +kernel
theorem dX2_add_33 : decode cX2_add 33 = .ok (.iconst 1, 1) := by decide +kernel
theorem dX2_add_34 : decode cX2_add 34 = .ok (.iadd, 1) := by decide +kernel
theorem dX2_add_35 : decode cX2_add 35 = .ok (.putfield 15, 3) := by decide +kernel
theorem dX2_add_38 : decode cX2_add 38 = .ok (.iconst 1, 1) := by decide +kernel
theorem dX2_add_39 : decode cX2_add 39 = .ok (.ireturn, 1) := by decide +kernel
theorem dX2_addNumber_0 : decode cX2_addNumber 0 = .ok (.iload_n 1, 1) := by decide +kernel
theorem dX2_addNumber_1 : decode cX2_addNumber 1 = .ok (.bipush 100, 2) := by decide +kernel
theorem dX2_addNumber_3 : decode cX2_addNumber 3 = .ok (.if_icmp .lt 18, 3) := by decide +kernel
theorem dX2_addNumber_6 : decode cX2_addNumber 6 = .ok (.aload_n 0, 1) := by decide +kernel
theorem dX2_addNumber_7 : decode cX2_addNumber 7 = .ok (.bipush 48, 2) := by decide +kernel
theorem dX2_addNumber_9 : decode cX2_addNumber 9 = .ok (.iload_n 1, 1) := by decide +kernel
theorem dX2_addNumber_10 : decode cX2_addNumber 10 = .ok (.bipush 100, 2) := by decide +kernel
theorem dX2_addNumber_12 : decode cX2_addNumber 12 = .ok (.idiv, 1) := by decide +kernel
theorem dX2_addNumber_13 : decode cX2_addNumber 13 = .ok (.bipush 10, 2) := by decide +kernel
theorem dX2_addNumber_15 : decode cX2_addNumber 15 = .ok (.irem, 1) := by decide +kernel
theorem dX2_addNumber_16 : decode cX2_addNumber 16 = .ok (.iadd, 1) := by decide +kernel
theorem dX2_addNumber_17 : decode cX2_addNumber 17 = .ok (.invokevirtual 19, 3) := by decide +kernel
theorem dX2_addNumber_20 : decode cX2_addNumber 20 = .ok (.pop, 1) := by decide +kernel
theorem dX2_addNumber_21 : decode cX2_addNumber 21 = .ok (.iload_n 1, 1) := by decide +kernel
theorem dX2_addNumber_22 : decode cX2_addNumber 22 = .ok (.bipush 10, 2) := by decide +kernel
theorem dX2_addNumber_24 : decode cX2_addNumber 24 = .ok (.if_icmp .lt 18, 3) := by decide +kernel
theorem dX2_addNumber_27 : decode cX2_addNumber 27 = .ok (.aload_n 0, 1) := by decide +kernel
theorem dX2_addNumber_28 : decode cX2_addNumber 28 = .ok (.bipush 48, 2) := by decide +kernel
theorem dX2_addNumber_30 : decode cX2_addNumber 30 = .ok (.iload_n 1, 1) := by decide +kernel
theorem dX2_addNumber_31 : decode cX2_addNumber 31 = .ok (.bipush 10, 2) := by decide +kernel
theorem dX2_addNumber_33 : decode cX2_addNumber 33 = .ok (.idiv, 1) := by decide +kernel
theorem dX2_addNumber_34 : decode cX2_addNumber 34 = .ok (.bipush 10, 2) := by decide +kernel
theorem dX2_addNumber_36 : decode cX2_addNumber 36 = .ok (.irem, 1) := by decide +kernel
theorem dX2_addNumber_37 : decode cX2_addNumber 37 = .ok (.iadd, 1) := by decide +kernel
theorem dX2_addNumber_38 : decode cX2_addNumber 38 = .ok (.invokevirtual 19, 3) := by decide +kernel
theorem dX2_addNumber_41 : decode cX2_addNumber 41 = .ok (.pop, 1) := by decide +kernel
theorem dX2_addNumber_42 : decode cX2_addNumber 42 = .ok (.aload_n 0, 1) := by decide +kernel
theorem dX2_addNumber_43 : decode cX2_addNumber 43 = .ok (.bipush 48, 2) := by decide +kernel
theorem dX2_addNumber_45 : decode cX2_addNumber 45 = .ok (.iload_n 1, 1) := by decide +kernel
theorem dX2_addNumber_46 : decode cX2_addNumber 46 = .ok (.bipush 10, 2) := by decide +kernel
theorem dX2_addNumber_48 : decode cX2_addNumber 48 = .ok (.irem, 1) := by decide +kernel
theorem dX2_addNumber_49 : decode cX2_addNumber 49 = .ok (.iadd, 1) := by decide +kernel
theorem dX2_addNumber_50 : decode cX2_addNumber 50 = .ok (.invokevirtual 19, 3) := by decide +kernel
theorem dX2_addNumber_53 : decode cX2_addNumber 53 = .ok (.pop, 1) := by decide +kernel
theorem dX2_addNumber_54 : decode cX2_addNumber 54 = .ok (.return_, 1) := by decide +kernel
theorem dX2_codeAt_0 : decode cX2_codeAt 0 = .ok (.iload_n 1, 1) := by decide +kernel
theorem dX2_codeAt_1 : decode cX2_codeAt 1 = .ok (.ifCond .lt 26, 3) := by decide +kernel
theorem dX2_codeAt_4 : decode cX2_codeAt 4 = .ok (.iload_n 1, 1) := by decide +kernel
theorem dX2_codeAt_5 : decode cX2_codeAt 5 = .ok (.aload_n 0, 1) := by decide +kernel
theorem dX2_codeAt_6 : decode cX2_codeAt 6 = .ok (.getfield 15, 3) := by decide +kernel
theorem dX2_codeAt_9 : decode cX2_codeAt 9 = .ok (.if_icmp .ge 18, 3) := by decide +kernel
theorem dX2_codeAt_12 : decode cX2_codeAt 12 = .ok (.iload_n 1, 1) := by decide +kernel
theorem dX2_codeAt_13 : decode cX2_codeAt 13 = .ok (.bipush 60, 2) := by decide +kernel
theorem dX2_codeAt_15 : decode cX2_codeAt 15 = .ok (.if_icmp .ge 12, 3) := by decide +kernel
theorem dX2_codeAt_18 : decode cX2_codeAt 18 = .ok (.aload_n 0, 1) := by decide +kernel
theorem dX2_codeAt_19 : decode cX2_codeAt 19 = .ok (.getfield 9, 3) := by decide +kernel
theorem dX2_codeAt_22 : decode cX2_codeAt 22 = .ok (.iload_n 1, 1) := by decide +kernel
theorem dX2_codeAt_23 : decode cX2_codeAt 23 = .ok (.iaload, 1) := by decide +kernel
theorem dX2_codeAt_24 : decode cX2_codeAt 24 = .ok (.goto 5, 3) := by decide +kernel
theorem dX2_codeAt_27 : decode cX2_codeAt 27 = .ok (.bipush (-11), 2) := by decide +kernel
theorem dX2_codeAt_29 : decode cX2_codeAt 29 = .ok (.ireturn, 1) := by decide +kernel
theorem dX3_init_0 : decode cX3_init 0 = .ok (.aload_n 0, 1) := by decide +kernel
theorem dX3_init_1 : decode cX3_init 1 = .ok (.invokespecial 3, 3) := by decide +kernel
theorem dX3_init_4 : decode cX3_init 4 = .ok (.aload_n 0, 1) := by decide +kernel
theorem dX3_init_5 : decode cX3_init 5 = .ok (.iconst 3, 1) := by decide +kernel
theorem dX3_init_6 : decode cX3_init 6 = .ok (.anewarray 9, 3) := by decide +kernel
theorem dX3_init_9 : decode cX3_init 9 = .ok (.putfield 11, 3) := by decide +kernel
theorem dX3_init_12 : decode cX3_init 12 = .ok (.aload_n 0, 1) := by decide +kernel
theorem dX3_init_13 : decode cX3_init 13 = .ok (.bipush 70, 2) := by decide +kernel
theorem dX3_init_15 : decode cX3_init 15 = .ok (.putfield 17, 3) := by decide +kernel
theorem dX3_init_18 : decode cX3_init 18 = .ok (.iconst 0, 1) := by decide +kernel
theorem dX3_init_19 : decode cX3_init 19 = .ok (.istore_n 1, 1) := by decide +kernel
theorem dX3_init_20 : decode cX3_init 20 = .ok (.iload_n 1, 1) := by decide +kernel
theorem dX3_init_21 : decode cX3_init 21 = .ok (.aload_n 0, 1) := by decide +kernel
theorem dX3_init_22 : decode cX3_init 22 = .ok (.getfield 11, 3) := by decide +kernel
theorem dX3_init_25 : decode cX3_init 25 = .ok (.arraylength, 1) := by decide +kernel
theorem dX3_init_26 : decode cX3_init 26 = .ok (.if_icmp .ge 22, 3) := by decide +kernel
theorem dX3_init_29 : decode cX3_init 29 = .ok (.aload_n 0, 1) := by decide +kernel
theorem dX3_init_30 : decode cX3_init 30 = .ok (.getfield 11, 3) := by decide +kernel
theorem dX3_init_33 : decode cX3_init 33 = .ok (.iload_n 1, 1) := by decide +kernel
theorem dX3_init_34 : decode cX3_init 34 = .ok (.new 9, 3) := by decide +kernel
theorem dX3_init_37 : decode cX3_init 37 = .ok (.dup, 1) := by decide +kernel
theorem dX3_init_38 : decode cX3_init 38 = .ok (.invokespecial 21, 3) := by decide +kernel
theorem dX3_init_41 : decode cX3_init 41 = .ok (.aastore, 1) := by decide +kernel
theorem dX3_init_42 : decode cX3_init 42 = .ok (.iinc 1 1, 3) := by decide +kernel
theorem dX3_init_45 : decode cX3_init 45 = .ok (.goto (-25), 3) := by decide +kernel
theorem dX3_init_48 : decode cX3_init 48 = .ok (.return_, 1) := by decide +kernel
theorem dX3_rickAt_0 : decode cX3_rickAt 0 = .ok (.iload_n 1, 1) := by decide +kernel
theorem dX3_rickAt_1 : decode cX3_rickAt 1 = .ok (.ifCond .lt 21, 3) := by decide +kernel
theorem dX3_rickAt_4 : decode cX3_rickAt 4 = .ok (.iload_n 1, 1) := by decide +kernel
theorem dX3_rickAt_5 : decode cX3_rickAt 5 = .ok (.aload_n 0, 1) := by decide +kernel
theorem dX3_rickAt_6 : decode cX3_rickAt 6 = .ok (.getfield 11, 3) := by decide +kernel
theorem dX3_rickAt_9 : decode cX3_rickAt 9 = .ok (.arraylength, 1) := by decide +kernel
theorem dX3_rickAt_10 : decode cX3_rickAt 10 = .ok (.if_icmp .ge 12, 3) := by decide +kernel
theorem dX3_rickAt_13 : decode cX3_rickAt 13 = .ok (.aload_n 0, 1) := by decide +kernel
theorem dX3_rickAt_14 : decode cX3_rickAt 14 = .ok (.getfield 11, 3) := by decide +kernel
theorem dX3_rickAt_17 : decode cX3_rickAt 17 = .ok (.iload_n 1, 1) := by decide +kernel
theorem dX3_rickAt_18 : decode cX3_rickAt 18 = .ok (.aaload, 1) := by decide +kernel
theorem dX3_rickAt_19 : decode cX3_rickAt 19 = .ok (.goto 4, 3) := by decide +kernel
theorem dX3_rickAt_22 : decode cX3_rickAt 22 = .ok (.aconst_null, 1) := by decide +kernel
theorem dX3_rickAt_23 : decode cX3_rickAt 23 = .ok (.areturn, 1) := by decide +kernel
theorem dX3_sheaves_0 : decode cX3_sheaves 0 = .ok (.iconst 0, 1) := by decide +kernel
theorem dX3_sheaves_1 : decode cX3_sheaves 1 = .ok (.istore_n 1, 1) := by decide +kernel
theorem dX3_sheaves_2 : decode cX3_sheaves 2 = .ok (.iconst 0, 1) := by decide +kernel
theorem dX3_sheaves_3 : decode cX3_sheaves 3 = .ok (.istore_n 2, 1) := by decide +kernel
theorem dX3_sheaves_4 : decode cX3_sheaves 4 = .ok (.iload_n 2, 1) := by decide +kernel
theorem dX3_sheaves_5 : decode cX3_sheaves 5 = .ok (.iconst 3, 1) := by decide +kernel
theorem dX3_sheaves_6 : decode cX3_sheaves 6 = .ok (.if_icmp .ge 26, 3) := by decide +kernel
theorem dX3_sheaves_9 : decode cX3_sheaves 9 = .ok (.aload_n 0, 1) := by decide +kernel
theorem dX3_sheaves_10 : decode cX3_sheaves 10 = .ok (.iload_n 2, 1) := by decide +kernel
theorem dX3_sheaves_11 : decode cX3_sheaves 11 = .ok (.invokevirtual 22, 3) := by decide +kernel
theorem dX3_sheaves_14 : decode cX3_sheaves 14 = .ok (.astore_n 3, 1) := by decide +kernel
theorem dX3_sheaves_15 : decode cX3_sheaves 15 = .ok (.aload_n 3, 1) := by decide +kernel
theorem dX3_sheaves_16 : decode cX3_sheaves 16 = .ok (.ifnull 10, 3) := by decide +kernel
theorem dX3_sheaves_19 : decode cX3_sheaves 19 = .ok (.iload_n 1, 1) := by decide +kernel
theorem dX3_sheaves_20 : decode cX3_sheaves 20 = .ok (.aload_n 3, 1) := by decide +kernel
theorem dX3_sheaves_21 : decode cX3_sheaves 21 = .ok (.getfield 26, 3) := by decide +kernel
theorem dX3_sheaves_24 : decode cX3_sheaves 24 = .ok (.iadd, 1) := by decide +kernel
theorem dX3_sheaves_25 : decode cX3_sheaves 25 = .ok (.istore_n 1, 1) := by decide +kernel
theorem dX3_sheaves_26 : decode cX3_sheaves 26 = .ok (.iinc 2 1, 3) := by decide +kernel
theorem dX3_sheaves_29 : decode cX3_sheaves 29 = .ok (.goto (-25), 3) := by decide +kernel
theorem dX3_sheaves_32 : decode cX3_sheaves 32 = .ok (.iload_n 1, 1) := by decide +kernel
theorem dX3_sheaves_33 : decode cX3_sheaves 33 = .ok (.ireturn, 1) := by decide +kernel
theorem dX3_loads_0 : decode cX3_loads 0 = .ok (.iconst 0, 1) := by decide +kernel
theorem dX3_loads_1 : decode cX3_loads 1 = .ok (.istore_n 1, 1) := by decide +kernel
theorem dX3_loads_2 : decode cX3_loads 2 = .ok (.iconst 0, 1) := by decide +kernel
theorem dX3_loads_3 : decode cX3_loads 3 = .ok (.istore_n 2, 1) := by decide +kernel
theorem dX3_loads_4 : decode cX3_loads 4 = .ok (.iload_n 2, 1) := by decide +kernel
theorem dX3_loads_5 : decode cX3_loads 5 = .ok (.iconst 3, 1) := by decide +kernel
theorem dX3_loads_6 : decode cX3_loads 6 = .ok (.if_icmp .ge 33, 3) := by decide +kernel
theorem dX3_loads_9 : decode cX3_loads 9 = .ok (.aload_n 0, 1) := by decide +kernel
theorem dX3_loads_10 : decode cX3_loads 10 = .ok (.iload_n 2, 1) := by decide +kernel
theorem dX3_loads_11 : decode cX3_loads 11 = .ok (.invokevirtual 22, 3) := by decide +kernel
theorem dX3_loads_14 : decode cX3_loads 14 = .ok (.astore_n 3, 1) := by decide +kernel
theorem dX3_loads_15 : decode cX3_loads 15 = .ok (.aload_n 3, 1) := by decide +kernel
theorem dX3_loads_16 : decode cX3_loads 16 = .ok (.ifnull 17, 3) := by decide +kernel
theorem dX3_loads_19 : decode cX3_loads 19 = .ok (.iload_n 1, 1) := by decide +kernel
theorem dX3_loads_20 : decode cX3_loads 20 = .ok (.aload_n 3, 1) := by decide +kernel
theorem dX3_loads_21 : decode cX3_loads 21 = .ok (.iconst 0, 1) := by decide +kernel
theorem dX3_loads_22 : decode cX3_loads 22 = .ok (.aload_n 3, 1) := by decide +kernel
theorem dX3_loads_23 : decode cX3_loads 23 = .ok (.getfield 26, 3) := by decide +kernel
theorem dX3_loads_26 : decode cX3_loads 26 = .ok (.iconst 1, 1) := by decide +kernel
theorem dX3_loads_27 : decode cX3_loads 27 = .ok (.isub, 1) := by decide +kernel
theorem dX3_loads_28 : decode cX3_loads 28 = .ok (.invokevirtual 29, 3) := by decide +kernel
theorem dX3_loads_31 : decode cX3_loads 31 = .ok (.iadd, 1) := by decide +kernel
theorem dX3_loads_32 : decode cX3_loads 32 = .ok (.istore_n 1, 1) := by decide +kernel
theorem dX3_loads_33 : decode cX3_loads 33 = .ok (.iinc 2 1, 3) := by decide +kernel
theorem dX3_loads_36 : decode cX3_loads 36 = .ok (.goto (-32), 3) := by decide +kernel
theorem dX3_loads_39 : decode cX3_loads 39 = .ok (.iload_n 1, 1) := by decide +kernel
theorem dX3_loads_40 : decode cX3_loads 40 = .ok (.ireturn, 1) := by decide +kernel
theorem dX3_keyAfter_0 : decode cX3_keyAfter 0 = .ok (.ldc 35, 2) := by decide +kernel
theorem dX3_keyAfter_2 : decode cX3_keyAfter 2 = .ok (.istore_n 2, 1) := by decide +kernel
theorem dX3_keyAfter_3 : decode cX3_keyAfter 3 = .ok (.iconst 0, 1) := by decide +kernel
theorem dX3_keyAfter_4 : decode cX3_keyAfter 4 = .ok (.istore_n 3, 1) := by decide +kernel
theorem dX3_keyAfter_5 : decode cX3_keyAfter 5 = .ok (.iload_n 3, 1) := by decide +kernel
theorem dX3_keyAfter_6 : decode cX3_keyAfter 6 = .ok (.iconst 3, 1) := by decide +kernel
theorem dX3_keyAfter_7 : decode cX3_keyAfter 7 = .ok (.if_icmp .ge 87, 3) := by decide +kernel
theorem dX3_keyAfter_10 : decode cX3_keyAfter 10 = .ok (.aload_n 0, 1) := by decide +kernel
theorem dX3_keyAfter_11 : decode cX3_keyAfter 11 = .ok (.iload_n 3, 1) := by decide +kernel
theorem dX3_keyAfter_12 : decode cX3_keyAfter 12 = .ok (.invokevirtual 22, 3) := by decide +kernel
theorem dX3_keyAfter_15 : decode cX3_keyAfter 15 = .ok (.astore 4, 2) := by decide +kernel
theorem dX3_keyAfter_17 : decode cX3_keyAfter 17 = .ok (.iconst 0, 1) := by decide +kernel
theorem dX3_keyAfter_18 : decode cX3_keyAfter 18 = .ok (.istore 5, 2) := by decide +kernel
theorem dX3_keyAfter_20 : decode cX3_keyAfter 20 = .ok (.aload 4, 2) := by decide +kernel
theorem dX3_keyAfter_22 : decode cX3_keyAfter 22 = .ok (.ifnull 66, 3) := by decide +kernel
theorem dX3_keyAfter_25 : decode cX3_keyAfter 25 = .ok (.iload 5, 2) := by decide +kernel
theorem dX3_keyAfter_27 : decode cX3_keyAfter 27 = .ok (.aload 4, 2) := by decide +kernel
theorem dX3_keyAfter_29 : decode cX3_keyAfter 29 = .ok (.getfield 26, 3) := by decide +kernel
theorem dX3_keyAfter_32 : decode cX3_keyAfter 32 = .ok (.if_icmp .ge 56, 3) := by decide +kernel
theorem dX3_keyAfter_35 : decode cX3_keyAfter 35 = .ok (.bipush 99, 2) := by decide +kernel
theorem dX3_keyAfter_37 : decode cX3_keyAfter 37 = .ok (.aload 4, 2) := by decide +kernel
theorem dX3_keyAfter_39 : decode cX3_keyAfter 39 = .ok (.iload 5, 2) := by decide +kernel
theorem dX3_keyAfter_41 : decode cX3_keyAfter 41 = .ok (.invokevirtual 36, 3) := by decide +kernel
theorem dX3_keyAfter_44 : decode cX3_keyAfter 44 = .ok (.isub, 1) := by decide +kernel
theorem dX3_keyAfter_45 : decode cX3_keyAfter 45 = .ok (.istore 6, 2) := by decide +kernel
theorem dX3_keyAfter_47 : decode cX3_keyAfter 47 = .ok (.iload 6, 2) := by decide +kernel
theorem dX3_keyAfter_49 : decode cX3_keyAfter 49 = .ok (.sipush 1000, 3) := by decide +kernel
theorem dX3_keyAfter_52 : decode cX3_keyAfter 52 = .ok (.imul, 1) := by decide +kernel
theorem dX3_keyAfter_53 : decode cX3_keyAfter 53 = .ok (.aload 4, 2) := by decide +kernel
theorem dX3_keyAfter_55 : decode cX3_keyAfter 55 = .ok (.iload 5, 2) := by decide +kernel
theorem dX3_keyAfter_57 : decode cX3_keyAfter 57 = .ok (.invokevirtual 40, 3) := by decide +kernel
theorem dX3_keyAfter_60 : decode cX3_keyAfter 60 = .ok (.iadd, 1) := by decide +kernel
theorem dX3_keyAfter_61 : decode cX3_keyAfter 61 = .ok (.iconst 3, 1) := by decide +kernel
theorem dX3_keyAfter_62 : decode cX3_keyAfter 62 = .ok (.imul, 1) := by decide +kernel
theorem dX3_keyAfter_63 : decode cX3_keyAfter 63 = .ok (.iload_n 3, 1) := by decide +kernel
theorem dX3_keyAfter_64 : decode cX3_keyAfter 64 = .ok (.iadd, 1) := by decide +kernel
theorem dX3_keyAfter_65 : decode cX3_keyAfter 65 = .ok (.istore 7, 2) := by decide +kernel
theorem dX3_keyAfter_67 : decode cX3_keyAfter 67 = .ok (.iload 7, 2) := by decide +kernel
theorem dX3_keyAfter_69 : decode cX3_keyAfter 69 = .ok (.iload_n 1, 1) := by decide +kernel
theorem dX3_keyAfter_70 : decode cX3_keyAfter 70 = .ok (.if_icmp .le 12, 3) := by decide +kernel
theorem dX3_keyAfter_73 : decode cX3_keyAfter 73 = .ok (.iload 7, 2) := by decide +kernel
theorem dX3_keyAfter_75 : decode cX3_keyAfter 75 = .ok (.iload_n 2, 1) := by decide +kernel
theorem dX3_keyAfter_76 : decode cX3_keyAfter 76 = .ok (.if_icmp .ge 6, 3) := by decide +kernel
theorem dX3_keyAfter_79 : decode cX3_keyAfter 79 = .ok (.iload 7, 2) := by decide +kernel
theorem dX3_keyAfter_81 : decode cX3_keyAfter 81 = .ok (.istore_n 2, 1) := by decide +kernel
theorem dX3_keyAfter_82 : decode cX3_keyAfter 82 = .ok (.iinc 5 1, 3) := by decide +kernel
theorem dX3_keyAfter_85 : decode cX3_keyAfter 85 = .ok (.goto (-65), 3) := by decide +kernel
theorem dX3_keyAfter_88 : decode cX3_keyAfter 88 = .ok (.iinc 3 1, 3) := by decide +kernel
theorem dX3_keyAfter_91 : decode cX3_keyAfter 91 = .ok (.goto (-86), 3) := by decide +kernel
theorem dX3_keyAfter_94 : decode cX3_keyAfter 94 = .ok (.iload_n 2, 1) := by decide +kernel
theorem dX3_keyAfter_95 : decode cX3_keyAfter 95 = .ok (.ireturn, 1) := by decide +kernel
theorem dX3_copyFrom_0 : decode cX3_copyFrom 0 = .ok (.iconst 0, 1) := by decide +kernel
theorem dX3_copyFrom_1 : decode cX3_copyFrom 1 = .ok (.istore_n 2, 1) := by decide +kernel
theorem dX3_copyFrom_2 : decode cX3_copyFrom 2 = .ok (.iload_n 2, 1) := by decide +kernel
theorem dX3_copyFrom_3 : decode cX3_copyFrom 3 = .ok (.iconst 3, 1) := by decide +kernel
theorem dX3_copyFrom_4 : decode cX3_copyFrom 4 = .ok (.if_icmp .ge 37, 3) := by decide +kernel
theorem dX3_copyFrom_7 : decode cX3_copyFrom 7 = .ok (.aload_n 0, 1) := by decide +kernel
theorem dX3_copyFrom_8 : decode cX3_copyFrom 8 = .ok (.iload_n 2, 1) := by decide +kernel
theorem dX3_copyFrom_9 : decode cX3_copyFrom 9 = .ok (.invokevirtual 22, 3) := by decide +kernel
theorem dX3_copyFrom_12 : decode cX3_copyFrom 12 = .ok (.astore_n 3, 1) := by decide +kernel
theorem dX3_copyFrom_13 : decode cX3_copyFrom 13 = .ok (.aload_n 1, 1) := by decide +kernel
theorem dX3_copyFrom_14 : decode cX3_copyFrom 14 = .ok (.iload_n 2, 1) := by decide +kernel
theorem dX3_copyFrom_15 : decode cX3_copyFrom 15 = .ok (.invokevirtual 22, 3) := by decide +kernel
theorem dX3_copyFrom_18 : decode cX3_copyFrom 18 = .ok (.astore 4, 2) := by decide +kernel
theorem dX3_copyFrom_20 : decode cX3_copyFrom 20 = .ok (.aload_n 3, 1) := by decide +kernel
theorem dX3_copyFrom_21 : decode cX3_copyFrom 21 = .ok (.ifnull 14, 3) := by decide +kernel
theorem dX3_copyFrom_24 : decode cX3_copyFrom 24 = .ok (.aload 4, 2) := by decide +kernel
theorem dX3_copyFrom_26 : decode cX3_copyFrom 26 = .ok (.ifnull 9, 3) := by decide +kernel
theorem dX3_copyFrom_29 : decode cX3_copyFrom 29 = .ok (.aload_n 3, 1) := by decide +kernel
theorem dX3_copyFrom_30 : decode cX3_copyFrom 30 = .ok (.aload 4, 2) := by decide +kernel
theorem dX3_copyFrom_32 : decode cX3_copyFrom 32 = .ok (.invokevirtual 43, 3) := by decide +kernel
theorem dX3_copyFrom_35 : decode cX3_copyFrom 35 = .ok (.iinc 2 1, 3) := by decide +kernel
theorem dX3_copyFrom_38 : decode cX3_copyFrom 38 = .ok (.goto (-36), 3) := by decide +kernel
theorem dX3_copyFrom_41 : decode cX3_copyFrom 41 = .ok (.aload_n 0, 1) := by decide +kernel
theorem dX3_copyFrom_42 : decode cX3_copyFrom 42 = .ok (.aload_n 1, 1) := by decide +kernel
theorem dX3_copyFrom_43 : decode cX3_copyFrom 43 = .ok (.getfield 17, 3) := by decide +kernel
theorem dX3_copyFrom_46 : decode cX3_copyFrom 46 = .ok (.putfield 17, 3) := by decide +kernel
theorem dX3_copyFrom_49 : decode cX3_copyFrom 49 = .ok (.aload_n 0, 1) := by decide +kernel
theorem dX3_copyFrom_50 : decode cX3_copyFrom 50 = .ok (.aload_n 1, 1) := by decide +kernel
theorem dX3_copyFrom_51 : decode cX3_copyFrom 51 = .ok (.getfield 47, 3) := by decide +kernel
theorem dX3_copyFrom_54 : decode cX3_copyFrom 54 = .ok (.putfield 47, 3) := by decide +kernel
theorem dX3_copyFrom_57 : decode cX3_copyFrom 57 = .ok (.aload_n 0, 1) := by decide +kernel
theorem dX3_copyFrom_58 : decode cX3_copyFrom 58 = .ok (.aload_n 1, 1) := by decide +kernel
theorem dX3_copyFrom_59 : decode cX3_copyFrom 59 = .ok (.getfield 50, 3) := by decide +kernel
theorem dX3_copyFrom_62 : decode cX3_copyFrom 62 = .ok (.putfield 50, 3) := by decide +kernel
theorem dX3_copyFrom_65 : decode cX3_copyFrom 65 = .ok (.aload_n 0, 1) := by decide +kernel
theorem dX3_copyFrom_66 : decode cX3_copyFrom 66 = .ok (.aload_n 1, 1) := by decide +kernel
theorem dX3_copyFrom_67 : decode cX3_copyFrom 67 = .ok (.getfield 53, 3) := by decide +kernel
theorem dX3_copyFrom_70 : decode cX3_copyFrom 70 = .ok (.putfield 53, 3) := by decide +kernel
theorem dX3_copyFrom_73 : decode cX3_copyFrom 73 = .ok (.aload_n 0, 1) := by decide +kernel
theorem dX3_copyFrom_74 : decode cX3_copyFrom 74 = .ok (.aload_n 1, 1) := by decide +kernel
theorem dX3_copyFrom_75 : decode cX3_copyFrom 75 = .ok (.getfield 56, 3) := by decide +kernel
theorem dX3_copyFrom_78 : decode cX3_copyFrom 78 = .ok (.putfield 56, 3) := by decide +kernel
theorem dX3_copyFrom_81 : decode cX3_copyFrom 81 = .ok (.aload_n 0, 1) := by decide +kernel
theorem dX3_copyFrom_82 : decode cX3_copyFrom 82 = .ok (.aload_n 1, 1) := by decide +kernel
theorem dX3_copyFrom_83 : decode cX3_copyFrom 83 = .ok (.getfield 59, 3) := by decide +kernel
theorem dX3_copyFrom_86 : decode cX3_copyFrom 86 = .ok (.putfield 59, 3) := by decide +kernel
theorem dX3_copyFrom_89 : decode cX3_copyFrom 89 = .ok (.aload_n 0, 1) := by decide +kernel
theorem dX3_copyFrom_90 : decode cX3_copyFrom 90 = .ok (.aload_n 1, 1) := by decide +kernel
theorem dX3_copyFrom_91 : decode cX3_copyFrom 91 = .ok (.getfield 62, 3) := by decide +kernel
theorem dX3_copyFrom_94 : decode cX3_copyFrom 94 = .ok (.putfield 62, 3) := by decide +kernel
theorem dX3_copyFrom_97 : decode cX3_copyFrom 97 = .ok (.return_, 1) := by decide +kernel
theorem dX4_init_0 : decode cX4_init 0 = .ok (.aload_n 0, 1) := by decide +kernel
theorem dX4_init_1 : decode cX4_init 1 = .ok (.invokespecial 1, 3) := by decide +kernel
theorem dX4_init_4 : decode cX4_init 4 = .ok (.aload_n 0, 1) := by decide +kernel
theorem dX4_init_5 : decode cX4_init 5 = .ok (.new 7, 3) := by decide +kernel
theorem dX4_init_8 : decode cX4_init 8 = .ok (.dup, 1) := by decide +kernel
theorem dX4_init_9 : decode cX4_init 9 = .ok (.invokespecial 9, 3) := by decide +kernel
theorem dX4_init_12 : decode cX4_init 12 = .ok (.putfield 10, 3) := by decide +kernel
theorem dX4_init_15 : decode cX4_init 15 = .ok (.aload_n 0, 1) := by decide +kernel
theorem dX4_init_16 : decode cX4_init 16 = .ok (.new 7, 3) := by decide +kernel
theorem dX4_init_19 : decode cX4_init 19 = .ok (.dup, 1) := by decide +kernel
theorem dX4_init_20 : decode cX4_init 20 = .ok (.invokespecial 9, 3) := by decide +kernel
theorem dX4_init_23 : decode cX4_init 23 = .ok (.putfield 16, 3) := by decide +kernel
theorem dX4_init_26 : decode cX4_init 26 = .ok (.aload_n 0, 1) := by decide +kernel
theorem dX4_init_27 : decode cX4_init 27 = .ok (.bipush 9, 2) := by decide +kernel
theorem dX4_init_29 : decode cX4_init 29 = .ok (.anewarray 7, 3) := by decide +kernel
theorem dX4_init_32 : decode cX4_init 32 = .ok (.putfield 19, 3) := by decide +kernel
theorem dX4_init_35 : decode cX4_init 35 = .ok (.aload_n 0, 1) := by decide +kernel
theorem dX4_init_36 : decode cX4_init 36 = .ok (.new 23, 3) := by decide +kernel
end
section
theorem dX4_init_39 : decode cX4_init 39 = .ok (.dup, 1) := by decide +kernel
theorem dX4_init_40 : decode cX4_init 40 = .ok (.invokespecial 25, 3) := by decide +kernel
theorem dX4_init_43 : decode cX4_init 43 = .ok (.putfield 26, 3) := by decide +kernel
theorem dX4_init_46 : decode cX4_init 46 = .ok (.aload_n 0, 1) := by decide +kernel
theorem dX4_init_47 : decode cX4_init 47 = .ok (.new 23, 3) := by decide +kernel
theorem dX4_init_50 : decode cX4_init 50 = .ok (.dup, 1) := by decide +kernel
theorem dX4_init_51 : decode cX4_init 51 = .ok (.invokespecial 25, 3) := by decide +kernel
theorem dX4_init_54 : decode cX4_init 54 = .ok (.putfield 30, 3) := by decide +kernel
theorem dX4_init_57 : decode cX4_init 57 = .ok (.aload_n 0, 1) := by decide +kernel
theorem dX4_init_58 : decode cX4_init 58 = .ok (.new 33, 3) := by decide +kernel
theorem dX4_init_61 : decode cX4_init 61 = .ok (.dup, 1) := by decide +kernel
theorem dX4_init_62 : decode cX4_init 62 = .ok (.invokespecial 35, 3) := by decide +kernel
theorem dX4_init_65 : decode cX4_init 65 = .ok (.putfield 36, 3) := by decide +kernel
theorem dX4_init_68 : decode cX4_init 68 = .ok (.aload_n 0, 1) := by decide +kernel
theorem dX4_init_69 : decode cX4_init 69 = .ok (.bipush (-15), 2) := by decide +kernel
theorem dX4_init_71 : decode cX4_init 71 = .ok (.putfield 40, 3) := by decide +kernel
theorem dX4_init_74 : decode cX4_init 74 = .ok (.aload_n 0, 1) := by decide +kernel
theorem dX4_init_75 : decode cX4_init 75 = .ok (.bipush (-15), 2) := by decide +kernel
theorem dX4_init_77 : decode cX4_init 77 = .ok (.putfield 44, 3) := by decide +kernel
theorem dX4_init_80 : decode cX4_init 80 = .ok (.iconst 0, 1) := by decide +kernel
theorem dX4_init_81 : decode cX4_init 81 = .ok (.istore_n 1, 1) := by decide +kernel
theorem dX4_init_82 : decode cX4_init 82 = .ok (.iload_n 1, 1) := by decide +kernel
theorem dX4_init_83 : decode cX4_init 83 = .ok (.aload_n 0, 1) := by decide +kernel
theorem dX4_init_84 : decode cX4_init 84 = .ok (.getfield 19, 3) := by decide +kernel
theorem dX4_init_87 : decode cX4_init 87 = .ok (.arraylength, 1) := by decide +kernel
theorem dX4_init_88 : decode cX4_init 88 = .ok (.if_icmp .ge 22, 3) := by decide +kernel
theorem dX4_init_91 : decode cX4_init 91 = .ok (.aload_n 0, 1) := by decide +kernel
theorem dX4_init_92 : decode cX4_init 92 = .ok (.getfield 19, 3) := by decide +kernel
theorem dX4_init_95 : decode cX4_init 95 = .ok (.iload_n 1, 1) := by decide +kernel
theorem dX4_init_96 : decode cX4_init 96 = .ok (.new 7, 3) := by decide +kernel
theorem dX4_init_99 : decode cX4_init 99 = .ok (.dup, 1) := by decide +kernel
theorem dX4_init_100 : decode cX4_init 100 = .ok (.invokespecial 9, 3) := by decide +kernel
theorem dX4_init_103 : decode cX4_init 103 = .ok (.aastore, 1) := by decide +kernel
theorem dX4_init_104 : decode cX4_init 104 = .ok (.iinc 1 1, 3) := by decide +kernel
theorem dX4_init_107 : decode cX4_init 107 = .ok (.goto (-25), 3) := by decide +kernel
theorem dX4_init_110 : decode cX4_init 110 = .ok (.return_, 1) := by decide +kernel
theorem dX4_put_0 : decode cX4_put 0 = .ok (.aload_n 0, 1) := by decide +kernel
theorem dX4_put_1 : decode cX4_put 1 = .ok (.invokevirtual 47, 3) := by decide +kernel
theorem dX4_put_4 : decode cX4_put 4 = .ok (.aload_n 0, 1) := by decide +kernel
theorem dX4_put_5 : decode cX4_put 5 = .ok (.aload_n 0, 1) := by decide +kernel
theorem dX4_put_6 : decode cX4_put 6 = .ok (.iload_n 1, 1) := by decide +kernel
theorem dX4_put_7 : decode cX4_put 7 = .ok (.iload_n 2, 1) := by decide +kernel
theorem dX4_put_8 : decode cX4_put 8 = .ok (.iload_n 3, 1) := by decide +kernel
theorem dX4_put_9 : decode cX4_put 9 = .ok (.invokevirtual 50, 3) := by decide +kernel
theorem dX4_put_12 : decode cX4_put 12 = .ok (.invokevirtual 54, 3) := by decide +kernel
theorem dX4_put_15 : decode cX4_put 15 = .ok (.ireturn, 1) := by decide +kernel
theorem dX4_take_0 : decode cX4_take 0 = .ok (.aload_n 0, 1) := by decide +kernel
theorem dX4_take_1 : decode cX4_take 1 = .ok (.invokevirtual 47, 3) := by decide +kernel
theorem dX4_take_4 : decode cX4_take 4 = .ok (.aload_n 0, 1) := by decide +kernel
theorem dX4_take_5 : decode cX4_take 5 = .ok (.aload_n 0, 1) := by decide +kernel
theorem dX4_take_6 : decode cX4_take 6 = .ok (.iload_n 1, 1) := by decide +kernel
theorem dX4_take_7 : decode cX4_take 7 = .ok (.iload_n 2, 1) := by decide +kernel
theorem dX4_take_8 : decode cX4_take 8 = .ok (.invokevirtual 58, 3) := by decide +kernel
theorem dX4_take_11 : decode cX4_take 11 = .ok (.invokevirtual 54, 3) := by decide +kernel
theorem dX4_take_14 : decode cX4_take 14 = .ok (.ireturn, 1) := by decide +kernel
theorem dX4_build_0 : decode cX4_build 0 = .ok (.aload_n 0, 1) := by decide +kernel
theorem dX4_build_1 : decode cX4_build 1 = .ok (.invokevirtual 47, 3) := by decide +kernel
theorem dX4_build_4 : decode cX4_build 4 = .ok (.aload_n 0, 1) := by decide +kernel
theorem dX4_build_5 : decode cX4_build 5 = .ok (.aload_n 0, 1) := by decide +kernel
theorem dX4_build_6 : decode cX4_build 6 = .ok (.iload_n 1, 1) := by decide +kernel
theorem dX4_build_7 : decode cX4_build 7 = .ok (.invokevirtual 62, 3) := by decide +kernel
theorem dX4_build_10 : decode cX4_build 10 = .ok (.invokevirtual 54, 3) := by decide +kernel
theorem dX4_build_13 : decode cX4_build 13 = .ok (.ireturn, 1) := by decide +kernel
theorem dX4_pour_0 : decode cX4_pour 0 = .ok (.aload_n 0, 1) := by decide +kernel
theorem dX4_pour_1 : decode cX4_pour 1 = .ok (.invokevirtual 47, 3) := by decide +kernel
theorem dX4_pour_4 : decode cX4_pour 4 = .ok (.aload_n 0, 1) := by decide +kernel
theorem dX4_pour_5 : decode cX4_pour 5 = .ok (.aload_n 0, 1) := by decide +kernel
theorem dX4_pour_6 : decode cX4_pour 6 = .ok (.iload_n 1, 1) := by decide +kernel
theorem dX4_pour_7 : decode cX4_pour 7 = .ok (.iload_n 2, 1) := by decide +kernel
theorem dX4_pour_8 : decode cX4_pour 8 = .ok (.invokevirtual 65, 3) := by decide +kernel
theorem dX4_pour_11 : decode cX4_pour 11 = .ok (.invokevirtual 54, 3) := by decide +kernel
theorem dX4_pour_14 : decode cX4_pour 14 = .ok (.ireturn, 1) := by decide +kernel
theorem dX4_limit_0 : decode cX4_limit 0 = .ok (.aload_n 0, 1) := by decide +kernel
theorem dX4_limit_1 : decode cX4_limit 1 = .ok (.invokevirtual 47, 3) := by decide +kernel
theorem dX4_limit_4 : decode cX4_limit 4 = .ok (.aload_n 0, 1) := by decide +kernel
theorem dX4_limit_5 : decode cX4_limit 5 = .ok (.aload_n 0, 1) := by decide +kernel
theorem dX4_limit_6 : decode cX4_limit 6 = .ok (.iload_n 1, 1) := by decide +kernel
theorem dX4_limit_7 : decode cX4_limit 7 = .ok (.invokevirtual 68, 3) := by decide +kernel
theorem dX4_limit_10 : decode cX4_limit 10 = .ok (.invokevirtual 54, 3) := by decide +kernel
theorem dX4_limit_13 : decode cX4_limit 13 = .ok (.ireturn, 1) := by decide +kernel
theorem dX4_sheafOf_0 : decode cX4_sheafOf 0 = .ok (.aload_n 0, 1) := by decide +kernel
theorem dX4_sheafOf_1 : decode cX4_sheafOf 1 = .ok (.getfield 10, 3) := by decide +kernel
theorem dX4_sheafOf_4 : decode cX4_sheafOf 4 = .ok (.iload_n 1, 1) := by decide +kernel
theorem dX4_sheafOf_5 : decode cX4_sheafOf 5 = .ok (.invokevirtual 71, 3) := by decide +kernel
theorem dX4_sheafOf_8 : decode cX4_sheafOf 8 = .ok (.astore 4, 2) := by decide +kernel
theorem dX4_sheafOf_10 : decode cX4_sheafOf 10 = .ok (.aload 4, 2) := by decide +kernel
theorem dX4_sheafOf_12 : decode cX4_sheafOf 12 = .ok (.ifnonnull 6, 3) := by decide +kernel
theorem dX4_sheafOf_15 : decode cX4_sheafOf 15 = .ok (.bipush (-11), 2) := by decide +kernel
theorem dX4_sheafOf_17 : decode cX4_sheafOf 17 = .ok (.ireturn, 1) := by decide +kernel
theorem dX4_sheafOf_18 : decode cX4_sheafOf 18 = .ok (.aload 4, 2) := by decide +kernel
theorem dX4_sheafOf_20 : decode cX4_sheafOf 20 = .ok (.iload_n 2, 1) := by decide +kernel
theorem dX4_sheafOf_21 : decode cX4_sheafOf 21 = .ok (.invokevirtual 75, 3) := by decide +kernel
theorem dX4_sheafOf_24 : decode cX4_sheafOf 24 = .ok (.istore 5, 2) := by decide +kernel
theorem dX4_sheafOf_26 : decode cX4_sheafOf 26 = .ok (.iload 5, 2) := by decide +kernel
theorem dX4_sheafOf_28 : decode cX4_sheafOf 28 = .ok (.iconst (-1), 1) := by decide +kernel
theorem dX4_sheafOf_29 : decode cX4_sheafOf 29 = .ok (.if_icmp .ne 6, 3) := by decide +kernel
theorem dX4_sheafOf_32 : decode cX4_sheafOf 32 = .ok (.bipush (-11), 2) := by decide +kernel
theorem dX4_sheafOf_34 : decode cX4_sheafOf 34 = .ok (.ireturn, 1) := by decide +kernel
theorem dX4_sheafOf_35 : decode cX4_sheafOf 35 = .ok (.aload 4, 2) := by decide +kernel
theorem dX4_sheafOf_37 : decode cX4_sheafOf 37 = .ok (.iload 5, 2) := by decide +kernel
theorem dX4_sheafOf_39 : decode cX4_sheafOf 39 = .ok (.invokevirtual 80, 3) := by decide +kernel
theorem dX4_sheafOf_42 : decode cX4_sheafOf 42 = .ok (.istore 6, 2) := by decide +kernel
theorem dX4_sheafOf_44 : decode cX4_sheafOf 44 = .ok (.aload 4, 2) := by decide +kernel
theorem dX4_sheafOf_46 : decode cX4_sheafOf 46 = .ok (.iload 5, 2) := by decide +kernel
theorem dX4_sheafOf_48 : decode cX4_sheafOf 48 = .ok (.invokevirtual 83, 3) := by decide +kernel
theorem dX4_sheafOf_51 : decode cX4_sheafOf 51 = .ok (.istore 7, 2) := by decide +kernel
theorem dX4_sheafOf_53 : decode cX4_sheafOf 53 = .ok (.iload_n 3, 1) := by decide +kernel
theorem dX4_sheafOf_54 : decode cX4_sheafOf 54 = .ok (.tableswitch 150 0 7 #[46, 54, 62, 70, 80, 103, 116, 133], 46) := by decide +kernel
theorem dX4_sheafOf_100 : decode cX4_sheafOf 100 = .ok (.aload 4, 2) := by decide +kernel
theorem dX4_sheafOf_102 : decode cX4_sheafOf 102 = .ok (.iload 5, 2) := by decide +kernel
theorem dX4_sheafOf_104 : decode cX4_sheafOf 104 = .ok (.invokevirtual 86, 3) := by decide +kernel
theorem dX4_sheafOf_107 : decode cX4_sheafOf 107 = .ok (.ireturn, 1) := by decide +kernel
theorem dX4_sheafOf_108 : decode cX4_sheafOf 108 = .ok (.aload 4, 2) := by decide +kernel
theorem dX4_sheafOf_110 : decode cX4_sheafOf 110 = .ok (.iload 5, 2) := by decide +kernel
theorem dX4_sheafOf_112 : decode cX4_sheafOf 112 = .ok (.invokevirtual 89, 3) := by decide +kernel
theorem dX4_sheafOf_115 : decode cX4_sheafOf 115 = .ok (.ireturn, 1) := by decide +kernel
theorem dX4_sheafOf_116 : decode cX4_sheafOf 116 = .ok (.iload 7, 2) := by decide +kernel
theorem dX4_sheafOf_118 : decode cX4_sheafOf 118 = .ok (.iload 6, 2) := by decide +kernel
theorem dX4_sheafOf_120 : decode cX4_sheafOf 120 = .ok (.isub, 1) := by decide +kernel
theorem dX4_sheafOf_121 : decode cX4_sheafOf 121 = .ok (.iconst 1, 1) := by decide +kernel
theorem dX4_sheafOf_122 : decode cX4_sheafOf 122 = .ok (.iadd, 1) := by decide +kernel
theorem dX4_sheafOf_123 : decode cX4_sheafOf 123 = .ok (.ireturn, 1) := by decide +kernel
theorem dX4_sheafOf_124 : decode cX4_sheafOf 124 = .ok (.aload 4, 2) := by decide +kernel
theorem dX4_sheafOf_126 : decode cX4_sheafOf 126 = .ok (.iload 6, 2) := by decide +kernel
theorem dX4_sheafOf_128 : decode cX4_sheafOf 128 = .ok (.iload 7, 2) := by decide +kernel
theorem dX4_sheafOf_130 : decode cX4_sheafOf 130 = .ok (.invokevirtual 92, 3) := by decide +kernel
theorem dX4_sheafOf_133 : decode cX4_sheafOf 133 = .ok (.ireturn, 1) := by decide +kernel
theorem dX4_sheafOf_134 : decode cX4_sheafOf 134 = .ok (.aload 4, 2) := by decide +kernel
theorem dX4_sheafOf_136 : decode cX4_sheafOf 136 = .ok (.iload 5, 2) := by decide +kernel
theorem dX4_sheafOf_138 : decode cX4_sheafOf 138 = .ok (.aload_n 0, 1) := by decide +kernel
theorem dX4_sheafOf_139 : decode cX4_sheafOf 139 = .ok (.getfield 10, 3) := by decide +kernel
theorem dX4_sheafOf_142 : decode cX4_sheafOf 142 = .ok (.getfield 95, 3) := by decide +kernel
theorem dX4_sheafOf_145 : decode cX4_sheafOf 145 = .ok (.invokevirtual 98, 3) := by decide +kernel
theorem dX4_sheafOf_148 : decode cX4_sheafOf 148 = .ok (.ifCond .eq 7, 3) := by decide +kernel
theorem dX4_sheafOf_151 : decode cX4_sheafOf 151 = .ok (.iconst 1, 1) := by decide +kernel
theorem dX4_sheafOf_152 : decode cX4_sheafOf 152 = .ok (.goto 4, 3) := by decide +kernel
theorem dX4_sheafOf_155 : decode cX4_sheafOf 155 = .ok (.iconst 0, 1) := by decide +kernel
theorem dX4_sheafOf_156 : decode cX4_sheafOf 156 = .ok (.ireturn, 1) := by decide +kernel
theorem dX4_sheafOf_157 : decode cX4_sheafOf 157 = .ok (.aload 4, 2) := by decide +kernel
theorem dX4_sheafOf_159 : decode cX4_sheafOf 159 = .ok (.aload 4, 2) := by decide +kernel
theorem dX4_sheafOf_161 : decode cX4_sheafOf 161 = .ok (.iload 5, 2) := by decide +kernel
theorem dX4_sheafOf_163 : decode cX4_sheafOf 163 = .ok (.invokevirtual 102, 3) := by decide +kernel
theorem dX4_sheafOf_166 : decode cX4_sheafOf 166 = .ok (.invokevirtual 105, 3) := by decide +kernel
theorem dX4_sheafOf_169 : decode cX4_sheafOf 169 = .ok (.ireturn, 1) := by decide +kernel
theorem dX4_sheafOf_170 : decode cX4_sheafOf 170 = .ok (.aload 4, 2) := by decide +kernel
theorem dX4_sheafOf_172 : decode cX4_sheafOf 172 = .ok (.aload 4, 2) := by decide +kernel
theorem dX4_sheafOf_174 : decode cX4_sheafOf 174 = .ok (.iload 6, 2) := by decide +kernel
theorem dX4_sheafOf_176 : decode cX4_sheafOf 176 = .ok (.iload 5, 2) := by decide +kernel
theorem dX4_sheafOf_178 : decode cX4_sheafOf 178 = .ok (.iconst 1, 1) := by decide +kernel
theorem dX4_sheafOf_179 : decode cX4_sheafOf 179 = .ok (.isub, 1) := by decide +kernel
theorem dX4_sheafOf_180 : decode cX4_sheafOf 180 = .ok (.invokevirtual 108, 3) := by decide +kernel
theorem dX4_sheafOf_183 : decode cX4_sheafOf 183 = .ok (.invokevirtual 105, 3) := by decide +kernel
theorem dX4_sheafOf_186 : decode cX4_sheafOf 186 = .ok (.ireturn, 1) := by decide +kernel
theorem dX4_sheafOf_187 : decode cX4_sheafOf 187 = .ok (.aload 4, 2) := by decide +kernel
theorem dX4_sheafOf_189 : decode cX4_sheafOf 189 = .ok (.aload 4, 2) := by decide +kernel
theorem dX4_sheafOf_191 : decode cX4_sheafOf 191 = .ok (.iload 5, 2) := by decide +kernel
theorem dX4_sheafOf_193 : decode cX4_sheafOf 193 = .ok (.iconst 1, 1) := by decide +kernel
theorem dX4_sheafOf_194 : decode cX4_sheafOf 194 = .ok (.iadd, 1) := by decide +kernel
theorem dX4_sheafOf_195 : decode cX4_sheafOf 195 = .ok (.iload 7, 2) := by decide +kernel
theorem dX4_sheafOf_197 : decode cX4_sheafOf 197 = .ok (.invokevirtual 108, 3) := by decide +kernel
theorem dX4_sheafOf_200 : decode cX4_sheafOf 200 = .ok (.invokevirtual 105, 3) := by decide +kernel
theorem dX4_sheafOf_203 : decode cX4_sheafOf 203 = .ok (.ireturn, 1) := by decide +kernel
theorem dX4_sheafOf_204 : decode cX4_sheafOf 204 = .ok (.bipush (-12), 2) := by decide +kernel
theorem dX4_sheafOf_206 : decode cX4_sheafOf 206 = .ok (.ireturn, 1) := by decide +kernel
theorem dX4_rickOf_0 : decode cX4_rickOf 0 = .ok (.aload_n 0, 1) := by decide +kernel
theorem dX4_rickOf_1 : decode cX4_rickOf 1 = .ok (.getfield 10, 3) := by decide +kernel
theorem dX4_rickOf_4 : decode cX4_rickOf 4 = .ok (.iload_n 1, 1) := by decide +kernel
theorem dX4_rickOf_5 : decode cX4_rickOf 5 = .ok (.invokevirtual 71, 3) := by decide +kernel
theorem dX4_rickOf_8 : decode cX4_rickOf 8 = .ok (.astore_n 3, 1) := by decide +kernel
theorem dX4_rickOf_9 : decode cX4_rickOf 9 = .ok (.aload_n 3, 1) := by decide +kernel
theorem dX4_rickOf_10 : decode cX4_rickOf 10 = .ok (.ifnonnull 6, 3) := by decide +kernel
theorem dX4_rickOf_13 : decode cX4_rickOf 13 = .ok (.bipush (-11), 2) := by decide +kernel
theorem dX4_rickOf_15 : decode cX4_rickOf 15 = .ok (.ireturn, 1) := by decide +kernel
theorem dX4_rickOf_16 : decode cX4_rickOf 16 = .ok (.iload_n 2, 1) := by decide +kernel
theorem dX4_rickOf_17 : decode cX4_rickOf 17 = .ok (.tableswitch 131 0 8 #[51, 56, 68, 84, 89, 104, 109, 121, 126], 51) := by decide +kernel
theorem dX4_rickOf_68 : decode cX4_rickOf 68 = .ok (.aload_n 3, 1) := by decide +kernel
theorem dX4_rickOf_69 : decode cX4_rickOf 69 = .ok (.getfield 111, 3) := by decide +kernel
theorem dX4_rickOf_72 : decode cX4_rickOf 72 = .ok (.ireturn, 1) := by decide +kernel
theorem dX4_rickOf_73 : decode cX4_rickOf 73 = .ok (.aload_n 3, 1) := by decide +kernel
theorem dX4_rickOf_74 : decode cX4_rickOf 74 = .ok (.iconst 0, 1) := by decide +kernel
theorem dX4_rickOf_75 : decode cX4_rickOf 75 = .ok (.aload_n 3, 1) := by decide +kernel
theorem dX4_rickOf_76 : decode cX4_rickOf 76 = .ok (.getfield 111, 3) := by decide +kernel
theorem dX4_rickOf_79 : decode cX4_rickOf 79 = .ok (.iconst 1, 1) := by decide +kernel
theorem dX4_rickOf_80 : decode cX4_rickOf 80 = .ok (.isub, 1) := by decide +kernel
theorem dX4_rickOf_81 : decode cX4_rickOf 81 = .ok (.invokevirtual 92, 3) := by decide +kernel
theorem dX4_rickOf_84 : decode cX4_rickOf 84 = .ok (.ireturn, 1) := by decide +kernel
theorem dX4_rickOf_85 : decode cX4_rickOf 85 = .ok (.aload_n 3, 1) := by decide +kernel
theorem dX4_rickOf_86 : decode cX4_rickOf 86 = .ok (.aload_n 3, 1) := by decide +kernel
theorem dX4_rickOf_87 : decode cX4_rickOf 87 = .ok (.iconst 0, 1) := by decide +kernel
theorem dX4_rickOf_88 : decode cX4_rickOf 88 = .ok (.aload_n 3, 1) := by decide +kernel
theorem dX4_rickOf_89 : decode cX4_rickOf 89 = .ok (.getfield 111, 3) := by decide +kernel
theorem dX4_rickOf_92 : decode cX4_rickOf 92 = .ok (.iconst 1, 1) := by decide +kernel
theorem dX4_rickOf_93 : decode cX4_rickOf 93 = .ok (.isub, 1) := by decide +kernel
theorem dX4_rickOf_94 : decode cX4_rickOf 94 = .ok (.invokevirtual 108, 3) := by decide +kernel
theorem dX4_rickOf_97 : decode cX4_rickOf 97 = .ok (.invokevirtual 105, 3) := by decide +kernel
theorem dX4_rickOf_100 : decode cX4_rickOf 100 = .ok (.ireturn, 1) := by decide +kernel
theorem dX4_rickOf_101 : decode cX4_rickOf 101 = .ok (.aload_n 3, 1) := by decide +kernel
theorem dX4_rickOf_102 : decode cX4_rickOf 102 = .ok (.invokevirtual 114, 3) := by decide +kernel
theorem dX4_rickOf_105 : decode cX4_rickOf 105 = .ok (.ireturn, 1) := by decide +kernel
theorem dX4_rickOf_106 : decode cX4_rickOf 106 = .ok (.aload_n 3, 1) := by decide +kernel
theorem dX4_rickOf_107 : decode cX4_rickOf 107 = .ok (.getfield 111, 3) := by decide +kernel
theorem dX4_rickOf_110 : decode cX4_rickOf 110 = .ok (.aload_n 0, 1) := by decide +kernel
theorem dX4_rickOf_111 : decode cX4_rickOf 111 = .ok (.getfield 10, 3) := by decide +kernel
theorem dX4_rickOf_114 : decode cX4_rickOf 114 = .ok (.getfield 95, 3) := by decide +kernel
theorem dX4_rickOf_117 : decode cX4_rickOf 117 = .ok (.invokestatic 118, 3) := by decide +kernel
theorem dX4_rickOf_120 : decode cX4_rickOf 120 = .ok (.ireturn, 1) := by decide +kernel
theorem dX4_rickOf_121 : decode cX4_rickOf 121 = .ok (.aload_n 3, 1) := by decide +kernel
theorem dX4_rickOf_122 : decode cX4_rickOf 122 = .ok (.getfield 121, 3) := by decide +kernel
theorem dX4_rickOf_125 : decode cX4_rickOf 125 = .ok (.ireturn, 1) := by decide +kernel
theorem dX4_rickOf_126 : decode cX4_rickOf 126 = .ok (.aload_n 3, 1) := by decide +kernel
theorem dX4_rickOf_127 : decode cX4_rickOf 127 = .ok (.aload_n 0, 1) := by decide +kernel
theorem dX4_rickOf_128 : decode cX4_rickOf 128 = .ok (.getfield 10, 3) := by decide +kernel
theorem dX4_rickOf_131 : decode cX4_rickOf 131 = .ok (.getfield 95, 3) := by decide +kernel
theorem dX4_rickOf_134 : decode cX4_rickOf 134 = .ok (.invokevirtual 124, 3) := by decide +kernel
theorem dX4_rickOf_137 : decode cX4_rickOf 137 = .ok (.ireturn, 1) := by decide +kernel
theorem dX4_rickOf_138 : decode cX4_rickOf 138 = .ok (.aload_n 3, 1) := by decide +kernel
theorem dX4_rickOf_139 : decode cX4_rickOf 139 = .ok (.invokevirtual 127, 3) := by decide +kernel
theorem dX4_rickOf_142 : decode cX4_rickOf 142 = .ok (.ireturn, 1) := by decide +kernel
theorem dX4_rickOf_143 : decode cX4_rickOf 143 = .ok (.aload_n 3, 1) := by decide +kernel
theorem dX4_rickOf_144 : decode cX4_rickOf 144 = .ok (.invokevirtual 130, 3) := by decide +kernel
theorem dX4_rickOf_147 : decode cX4_rickOf 147 = .ok (.ireturn, 1) := by decide +kernel
theorem dX4_rickOf_148 : decode cX4_rickOf 148 = .ok (.bipush (-12), 2) := by decide +kernel
theorem dX4_rickOf_150 : decode cX4_rickOf 150 = .ok (.ireturn, 1) := by decide +kernel
theorem dX4_rank_0 : decode cX4_rank 0 = .ok (.aload_n 0, 1) := by decide +kernel
theorem dX4_rank_1 : decode cX4_rank 1 = .ok (.getfield 10, 3) := by decide +kernel
theorem dX4_rank_4 : decode cX4_rank 4 = .ok (.iload_n 1, 1) := by decide +kernel
theorem dX4_rank_5 : decode cX4_rank 5 = .ok (.invokevirtual 71, 3) := by decide +kernel
theorem dX4_rank_8 : decode cX4_rank 8 = .ok (.astore_n 3, 1) := by decide +kernel
theorem dX4_rank_9 : decode cX4_rank 9 = .ok (.aload_n 3, 1) := by decide +kernel
theorem dX4_rank_10 : decode cX4_rank 10 = .ok (.ifnonnull 8, 3) := by decide +kernel
theorem dX4_rank_13 : decode cX4_rank 13 = .ok (.bipush (-11), 2) := by decide +kernel
theorem dX4_rank_15 : decode cX4_rank 15 = .ok (.goto 8, 3) := by decide +kernel
theorem dX4_rank_18 : decode cX4_rank 18 = .ok (.aload_n 3, 1) := by decide +kernel
theorem dX4_rank_19 : decode cX4_rank 19 = .ok (.iload_n 2, 1) := by decide +kernel
theorem dX4_rank_20 : decode cX4_rank 20 = .ok (.invokevirtual 133, 3) := by decide +kernel
theorem dX4_rank_23 : decode cX4_rank 23 = .ok (.ireturn, 1) := by decide +kernel
theorem dX4_rankAgain_0 : decode cX4_rankAgain 0 = .ok (.aload_n 0, 1) := by decide +kernel
theorem dX4_rankAgain_1 : decode cX4_rankAgain 1 = .ok (.getfield 10, 3) := by decide +kernel
theorem dX4_rankAgain_4 : decode cX4_rankAgain 4 = .ok (.iload_n 1, 1) := by decide +kernel
theorem dX4_rankAgain_5 : decode cX4_rankAgain 5 = .ok (.invokevirtual 71, 3) := by decide +kernel
theorem dX4_rankAgain_8 : decode cX4_rankAgain 8 = .ok (.astore_n 3, 1) := by decide +kernel
theorem dX4_rankAgain_9 : decode cX4_rankAgain 9 = .ok (.aload_n 3, 1) := by decide +kernel
theorem dX4_rankAgain_10 : decode cX4_rankAgain 10 = .ok (.ifnonnull 8, 3) := by decide +kernel
theorem dX4_rankAgain_13 : decode cX4_rankAgain 13 = .ok (.bipush (-11), 2) := by decide +kernel
theorem dX4_rankAgain_15 : decode cX4_rankAgain 15 = .ok (.goto 8, 3) := by decide +kernel
theorem dX4_rankAgain_18 : decode cX4_rankAgain 18 = .ok (.aload_n 3, 1) := by decide +kernel
theorem dX4_rankAgain_19 : decode cX4_rankAgain 19 = .ok (.iload_n 2, 1) := by decide +kernel
theorem dX4_rankAgain_20 : decode cX4_rankAgain 20 = .ok (.invokevirtual 136, 3) := by decide +kernel
theorem dX4_rankAgain_23 : decode cX4_rankAgain 23 = .ok (.ireturn, 1) := by decide +kernel
theorem dX4_at_0 : decode cX4_at 0 = .ok (.aload_n 0, 1) := by decide +kernel
theorem dX4_at_1 : decode cX4_at 1 = .ok (.getfield 10, 3) := by decide +kernel
theorem dX4_at_4 : decode cX4_at 4 = .ok (.iload_n 1, 1) := by decide +kernel
theorem dX4_at_5 : decode cX4_at 5 = .ok (.invokevirtual 71, 3) := by decide +kernel
theorem dX4_at_8 : decode cX4_at 8 = .ok (.astore_n 3, 1) := by decide +kernel
theorem dX4_at_9 : decode cX4_at 9 = .ok (.aload_n 3, 1) := by decide +kernel
theorem dX4_at_10 : decode cX4_at 10 = .ok (.ifnull 11, 3) := by decide +kernel
theorem dX4_at_13 : decode cX4_at 13 = .ok (.aload_n 3, 1) := by decide +kernel
theorem dX4_at_14 : decode cX4_at 14 = .ok (.iload_n 2, 1) := by decide +kernel
theorem dX4_at_15 : decode cX4_at 15 = .ok (.invokevirtual 139, 3) := by decide +kernel
theorem dX4_at_18 : decode cX4_at 18 = .ok (.ifCond .ne 8, 3) := by decide +kernel
theorem dX4_at_21 : decode cX4_at 21 = .ok (.bipush (-11), 2) := by decide +kernel
theorem dX4_at_23 : decode cX4_at 23 = .ok (.goto 8, 3) := by decide +kernel
theorem dX4_at_26 : decode cX4_at 26 = .ok (.aload_n 3, 1) := by decide +kernel
theorem dX4_at_27 : decode cX4_at 27 = .ok (.iload_n 2, 1) := by decide +kernel
theorem dX4_at_28 : decode cX4_at 28 = .ok (.invokevirtual 105, 3) := by decide +kernel
theorem dX4_at_31 : decode cX4_at 31 = .ok (.ireturn, 1) := by decide +kernel
theorem dX4_between_0 : decode cX4_between 0 = .ok (.aload_n 0, 1) := by decide +kernel
theorem dX4_between_1 : decode cX4_between 1 = .ok (.getfield 10, 3) := by decide +kernel
theorem dX4_between_4 : decode cX4_between 4 = .ok (.iload_n 1, 1) := by decide +kernel
theorem dX4_between_5 : decode cX4_between 5 = .ok (.invokevirtual 71, 3) := by decide +kernel
theorem dX4_between_8 : decode cX4_between 8 = .ok (.astore 4, 2) := by decide +kernel
theorem dX4_between_10 : decode cX4_between 10 = .ok (.aload 4, 2) := by decide +kernel
theorem dX4_between_12 : decode cX4_between 12 = .ok (.ifnonnull 8, 3) := by decide +kernel
theorem dX4_between_15 : decode cX4_between 15 = .ok (.bipush (-11), 2) := by decide +kernel
theorem dX4_between_17 : decode cX4_between 17 = .ok (.goto 10, 3) := by decide +kernel
theorem dX4_between_20 : decode cX4_between 20 = .ok (.aload 4, 2) := by decide +kernel
theorem dX4_between_22 : decode cX4_between 22 = .ok (.iload_n 2, 1) := by decide +kernel
theorem dX4_between_23 : decode cX4_between 23 = .ok (.iload_n 3, 1) := by decide +kernel
theorem dX4_between_24 : decode cX4_between 24 = .ok (.invokevirtual 143, 3) := by decide +kernel
theorem dX4_between_27 : decode cX4_between 27 = .ok (.ireturn, 1) := by decide +kernel
theorem dX4_betweenAgain_0 : decode cX4_betweenAgain 0 = .ok (.aload_n 0, 1) := by decide +kernel
theorem dX4_betweenAgain_1 : decode cX4_betweenAgain 1 = .ok (.getfield 10, 3) := by decide +kernel
theorem dX4_betweenAgain_4 : decode cX4_betweenAgain 4 = .ok (.iload_n 1, 1) := by decide +kernel
theorem dX4_betweenAgain_5 : decode cX4_betweenAgain 5 = .ok (.invokevirtual 71, 3) := by decide +kernel
theorem dX4_betweenAgain_8 : decode cX4_betweenAgain 8 = .ok (.astore 4, 2) := by decide +kernel
theorem dX4_betweenAgain_10 : decode cX4_betweenAgain 10 = .ok (.aload 4, 2) := by decide +kernel
theorem dX4_betweenAgain_12 : decode cX4_betweenAgain 12 = .ok (.ifnonnull 8, 3) := by decide +kernel
theorem dX4_betweenAgain_15 : decode cX4_betweenAgain 15 = .ok (.bipush (-11), 2) := by decide +kernel
theorem dX4_betweenAgain_17 : decode cX4_betweenAgain 17 = .ok (.goto 10, 3) := by decide +kernel
theorem dX4_betweenAgain_20 : decode cX4_betweenAgain 20 = .ok (.aload 4, 2) := by decide +kernel
theorem dX4_betweenAgain_22 : decode cX4_betweenAgain 22 = .ok (.iload_n 2, 1) := by decide +kernel
theorem dX4_betweenAgain_23 : decode cX4_betweenAgain 23 = .ok (.iload_n 3, 1) := by decide +kernel
theorem dX4_betweenAgain_24 : decode cX4_betweenAgain 24 = .ok (.invokevirtual 146, 3) := by decide +kernel
theorem dX4_betweenAgain_27 : decode cX4_betweenAgain 27 = .ok (.ireturn, 1) := by decide +kernel
theorem dX4_heaviest_0 : decode cX4_heaviest 0 = .ok (.iload_n 1, 1) := by decide +kernel
theorem dX4_heaviest_1 : decode cX4_heaviest 1 = .ok (.ifCond .lt 14, 3) := by decide +kernel
theorem dX4_heaviest_4 : decode cX4_heaviest 4 = .ok (.iload_n 1, 1) := by decide +kernel
theorem dX4_heaviest_5 : decode cX4_heaviest 5 = .ok (.aload_n 0, 1) := by decide +kernel
theorem dX4_heaviest_6 : decode cX4_heaviest 6 = .ok (.getfield 10, 3) := by decide +kernel
theorem dX4_heaviest_9 : decode cX4_heaviest 9 = .ok (.invokevirtual 149, 3) := by decide +kernel
theorem dX4_heaviest_12 : decode cX4_heaviest 12 = .ok (.if_icmp .lt 6, 3) := by decide +kernel
theorem dX4_heaviest_15 : decode cX4_heaviest 15 = .ok (.bipush (-11), 2) := by decide +kernel
theorem dX4_heaviest_17 : decode cX4_heaviest 17 = .ok (.ireturn, 1) := by decide +kernel
theorem dX4_heaviest_18 : decode cX4_heaviest 18 = .ok (.iconst (-1), 1) := by decide +kernel
theorem dX4_heaviest_19 : decode cX4_heaviest 19 = .ok (.istore_n 2, 1) := by decide +kernel
theorem dX4_heaviest_20 : decode cX4_heaviest 20 = .ok (.iconst 0, 1) := by decide +kernel
theorem dX4_heaviest_21 : decode cX4_heaviest 21 = .ok (.istore_n 3, 1) := by decide +kernel
theorem dX4_heaviest_22 : decode cX4_heaviest 22 = .ok (.iload_n 3, 1) := by decide +kernel
theorem dX4_heaviest_23 : decode cX4_heaviest 23 = .ok (.iload_n 1, 1) := by decide +kernel
theorem dX4_heaviest_24 : decode cX4_heaviest 24 = .ok (.if_icmp .gt 18, 3) := by decide +kernel
theorem dX4_heaviest_27 : decode cX4_heaviest 27 = .ok (.aload_n 0, 1) := by decide +kernel
theorem dX4_heaviest_28 : decode cX4_heaviest 28 = .ok (.getfield 10, 3) := by decide +kernel
theorem dX4_heaviest_31 : decode cX4_heaviest 31 = .ok (.iload_n 2, 1) := by decide +kernel
theorem dX4_heaviest_32 : decode cX4_heaviest 32 = .ok (.invokevirtual 152, 3) := by decide +kernel
theorem dX4_heaviest_35 : decode cX4_heaviest 35 = .ok (.istore_n 2, 1) := by decide +kernel
theorem dX4_heaviest_36 : decode cX4_heaviest 36 = .ok (.iinc 3 1, 3) := by decide +kernel
theorem dX4_heaviest_39 : decode cX4_heaviest 39 = .ok (.goto (-17), 3) := by decide +kernel
theorem dX4_heaviest_42 : decode cX4_heaviest 42 = .ok (.iload_n 2, 1) := by decide +kernel
theorem dX4_heaviest_43 : decode cX4_heaviest 43 = .ok (.iconst 3, 1) := by decide +kernel
theorem dX4_heaviest_44 : decode cX4_heaviest 44 = .ok (.irem, 1) := by decide +kernel
theorem dX4_heaviest_45 : decode cX4_heaviest 45 = .ok (.sipush 1000, 3) := by decide +kernel
theorem dX4_heaviest_48 : decode cX4_heaviest 48 = .ok (.imul, 1) := by decide +kernel
theorem dX4_heaviest_49 : decode cX4_heaviest 49 = .ok (.iload_n 2, 1) := by decide +kernel
theorem dX4_heaviest_50 : decode cX4_heaviest 50 = .ok (.iconst 3, 1) := by decide +kernel
theorem dX4_heaviest_51 : decode cX4_heaviest 51 = .ok (.idiv, 1) := by decide +kernel
theorem dX4_heaviest_52 : decode cX4_heaviest 52 = .ok (.sipush 1000, 3) := by decide +kernel
theorem dX4_heaviest_55 : decode cX4_heaviest 55 = .ok (.irem, 1) := by decide +kernel
theorem dX4_heaviest_56 : decode cX4_heaviest 56 = .ok (.iadd, 1) := by decide +kernel
theorem dX4_heaviest_57 : decode cX4_heaviest 57 = .ok (.ireturn, 1) := by decide +kernel
theorem dX4_carts_0 : decode cX4_carts 0 = .ok (.aload_n 0, 1) := by decide +kernel
theorem dX4_carts_1 : decode cX4_carts 1 = .ok (.getfield 10, 3) := by decide +kernel
theorem dX4_carts_4 : decode cX4_carts 4 = .ok (.iload_n 1, 1) := by decide +kernel
theorem dX4_carts_5 : decode cX4_carts 5 = .ok (.invokevirtual 71, 3) := by decide +kernel
theorem dX4_carts_8 : decode cX4_carts 8 = .ok (.astore_n 3, 1) := by decide +kernel
theorem dX4_carts_9 : decode cX4_carts 9 = .ok (.aload_n 3, 1) := by decide +kernel
theorem dX4_carts_10 : decode cX4_carts 10 = .ok (.ifnonnull 6, 3) := by decide +kernel
theorem dX4_carts_13 : decode cX4_carts 13 = .ok (.bipush (-11), 2) := by decide +kernel
theorem dX4_carts_15 : decode cX4_carts 15 = .ok (.ireturn, 1) := by decide +kernel
theorem dX4_carts_16 : decode cX4_carts 16 = .ok (.iload_n 2, 1) := by decide +kernel
theorem dX4_carts_17 : decode cX4_carts 17 = .ok (.invokestatic 155, 3) := by decide +kernel
theorem dX4_carts_20 : decode cX4_carts 20 = .ok (.ifCond .eq 17, 3) := by decide +kernel
theorem dX4_carts_23 : decode cX4_carts 23 = .ok (.aload_n 3, 1) := by decide +kernel
theorem dX4_carts_24 : decode cX4_carts 24 = .ok (.aload_n 3, 1) := by decide +kernel
theorem dX4_carts_25 : decode cX4_carts 25 = .ok (.getfield 111, 3) := by decide +kernel
theorem dX4_carts_28 : decode cX4_carts 28 = .ok (.iconst 1, 1) := by decide +kernel
theorem dX4_carts_29 : decode cX4_carts 29 = .ok (.isub, 1) := by decide +kernel
theorem dX4_carts_30 : decode cX4_carts 30 = .ok (.iload_n 2, 1) := by decide +kernel
theorem dX4_carts_31 : decode cX4_carts 31 = .ok (.invokevirtual 158, 3) := by decide +kernel
theorem dX4_carts_34 : decode cX4_carts 34 = .ok (.goto 5, 3) := by decide +kernel
theorem dX4_carts_37 : decode cX4_carts 37 = .ok (.bipush (-12), 2) := by decide +kernel
theorem dX4_carts_39 : decode cX4_carts 39 = .ok (.ireturn, 1) := by decide +kernel
theorem dX4_cartOf_0 : decode cX4_cartOf 0 = .ok (.aload_n 0, 1) := by decide +kernel
theorem dX4_cartOf_1 : decode cX4_cartOf 1 = .ok (.getfield 10, 3) := by decide +kernel
theorem dX4_cartOf_4 : decode cX4_cartOf 4 = .ok (.iload_n 1, 1) := by decide +kernel
theorem dX4_cartOf_5 : decode cX4_cartOf 5 = .ok (.invokevirtual 71, 3) := by decide +kernel
theorem dX4_cartOf_8 : decode cX4_cartOf 8 = .ok (.astore 4, 2) := by decide +kernel
theorem dX4_cartOf_10 : decode cX4_cartOf 10 = .ok (.aload 4, 2) := by decide +kernel
theorem dX4_cartOf_12 : decode cX4_cartOf 12 = .ok (.ifnonnull 6, 3) := by decide +kernel
theorem dX4_cartOf_15 : decode cX4_cartOf 15 = .ok (.bipush (-11), 2) := by decide +kernel
theorem dX4_cartOf_17 : decode cX4_cartOf 17 = .ok (.ireturn, 1) := by decide +kernel
theorem dX4_cartOf_18 : decode cX4_cartOf 18 = .ok (.aload 4, 2) := by decide +kernel
theorem dX4_cartOf_20 : decode cX4_cartOf 20 = .ok (.iload_n 2, 1) := by decide +kernel
theorem dX4_cartOf_21 : decode cX4_cartOf 21 = .ok (.invokevirtual 75, 3) := by decide +kernel
theorem dX4_cartOf_24 : decode cX4_cartOf 24 = .ok (.istore 5, 2) := by decide +kernel
theorem dX4_cartOf_26 : decode cX4_cartOf 26 = .ok (.iload 5, 2) := by decide +kernel
theorem dX4_cartOf_28 : decode cX4_cartOf 28 = .ok (.iconst (-1), 1) := by decide +kernel
theorem dX4_cartOf_29 : decode cX4_cartOf 29 = .ok (.if_icmp .ne 6, 3) := by decide +kernel
theorem dX4_cartOf_32 : decode cX4_cartOf 32 = .ok (.bipush (-11), 2) := by decide +kernel
theorem dX4_cartOf_34 : decode cX4_cartOf 34 = .ok (.ireturn, 1) := by decide +kernel
theorem dX4_cartOf_35 : decode cX4_cartOf 35 = .ok (.iload_n 3, 1) := by decide +kernel
theorem dX4_cartOf_36 : decode cX4_cartOf 36 = .ok (.invokestatic 155, 3) := by decide +kernel
theorem dX4_cartOf_39 : decode cX4_cartOf 39 = .ok (.ifCond .eq 16, 3) := by decide +kernel
theorem dX4_cartOf_42 : decode cX4_cartOf 42 = .ok (.aload 4, 2) := by decide +kernel
theorem dX4_cartOf_44 : decode cX4_cartOf 44 = .ok (.iload 5, 2) := by decide +kernel
theorem dX4_cartOf_46 : decode cX4_cartOf 46 = .ok (.iload_n 3, 1) := by decide +kernel
theorem dX4_cartOf_47 : decode cX4_cartOf 47 = .ok (.invokevirtual 158, 3) := by decide +kernel
theorem dX4_cartOf_50 : decode cX4_cartOf 50 = .ok (.iconst 1, 1) := by decide +kernel
theorem dX4_cartOf_51 : decode cX4_cartOf 51 = .ok (.isub, 1) := by decide +kernel
theorem dX4_cartOf_52 : decode cX4_cartOf 52 = .ok (.goto 5, 3) := by decide +kernel
theorem dX4_cartOf_55 : decode cX4_cartOf 55 = .ok (.bipush (-12), 2) := by decide +kernel
theorem dX4_cartOf_57 : decode cX4_cartOf 57 = .ok (.ireturn, 1) := by decide +kernel
theorem dX4_shape_0 : decode cX4_shape 0 = .ok (.aload_n 0, 1) := by decide +kernel
theorem dX4_shape_1 : decode cX4_shape 1 = .ok (.getfield 10, 3) := by decide +kernel
theorem dX4_shape_4 : decode cX4_shape 4 = .ok (.iload_n 1, 1) := by decide +kernel
theorem dX4_shape_5 : decode cX4_shape 5 = .ok (.invokevirtual 71, 3) := by decide +kernel
theorem dX4_shape_8 : decode cX4_shape 8 = .ok (.astore_n 2, 1) := by decide +kernel
theorem dX4_shape_9 : decode cX4_shape 9 = .ok (.aload_n 2, 1) := by decide +kernel
theorem dX4_shape_10 : decode cX4_shape 10 = .ok (.ifnonnull 9, 3) := by decide +kernel
theorem dX4_shape_13 : decode cX4_shape 13 = .ok (.ldc2_w 161, 3) := by decide +kernel
theorem dX4_shape_16 : decode cX4_shape 16 = .ok (.goto 16, 3) := by decide +kernel
theorem dX4_shape_19 : decode cX4_shape 19 = .ok (.aload_n 2, 1) := by decide +kernel
theorem dX4_shape_20 : decode cX4_shape 20 = .ok (.iconst 0, 1) := by decide +kernel
theorem dX4_shape_21 : decode cX4_shape 21 = .ok (.aload_n 2, 1) := by decide +kernel
theorem dX4_shape_22 : decode cX4_shape 22 = .ok (.getfield 111, 3) := by decide +kernel
theorem dX4_shape_25 : decode cX4_shape 25 = .ok (.iconst 1, 1) := by decide +kernel
theorem dX4_shape_26 : decode cX4_shape 26 = .ok (.isub, 1) := by decide +kernel
theorem dX4_shape_27 : decode cX4_shape 27 = .ok (.lconst 0, 1) := by decide +kernel
theorem dX4_shape_28 : decode cX4_shape 28 = .ok (.iconst 0, 1) := by decide +kernel
theorem dX4_shape_29 : decode cX4_shape 29 = .ok (.invokestatic 163, 3) := by decide +kernel
theorem dX4_shape_32 : decode cX4_shape 32 = .ok (.lreturn, 1) := by decide +kernel
theorem dX4_weights_0 : decode cX4_weights 0 = .ok (.aload_n 0, 1) := by decide +kernel
theorem dX4_weights_1 : decode cX4_weights 1 = .ok (.getfield 10, 3) := by decide +kernel
theorem dX4_weights_4 : decode cX4_weights 4 = .ok (.iload_n 1, 1) := by decide +kernel
theorem dX4_weights_5 : decode cX4_weights 5 = .ok (.invokevirtual 71, 3) := by decide +kernel
theorem dX4_weights_8 : decode cX4_weights 8 = .ok (.astore_n 3, 1) := by decide +kernel
theorem dX4_weights_9 : decode cX4_weights 9 = .ok (.aload_n 3, 1) := by decide +kernel
theorem dX4_weights_10 : decode cX4_weights 10 = .ok (.ifnull 14, 3) := by decide +kernel
theorem dX4_weights_13 : decode cX4_weights 13 = .ok (.iload_n 2, 1) := by decide +kernel
theorem dX4_weights_14 : decode cX4_weights 14 = .ok (.ifCond .lt 10, 3) := by decide +kernel
theorem dX4_weights_17 : decode cX4_weights 17 = .ok (.iload_n 2, 1) := by decide +kernel
theorem dX4_weights_18 : decode cX4_weights 18 = .ok (.sipush 936, 3) := by decide +kernel
theorem dX4_weights_21 : decode cX4_weights 21 = .ok (.if_icmp .le 5, 3) := by decide +kernel
theorem dX4_weights_24 : decode cX4_weights 24 = .ok (.lconst 0, 1) := by decide +kernel
theorem dX4_weights_25 : decode cX4_weights 25 = .ok (.lreturn, 1) := by decide +kernel
theorem dX4_weights_26 : decode cX4_weights 26 = .ok (.lconst 0, 1) := by decide +kernel
theorem dX4_weights_27 : decode cX4_weights 27 = .ok (.lstore 4, 2) := by decide +kernel
theorem dX4_weights_29 : decode cX4_weights 29 = .ok (.iconst 0, 1) := by decide +kernel
theorem dX4_weights_30 : decode cX4_weights 30 = .ok (.istore 6, 2) := by decide +kernel
theorem dX4_weights_32 : decode cX4_weights 32 = .ok (.iload 6, 2) := by decide +kernel
theorem dX4_weights_34 : decode cX4_weights 34 = .ok (.aload_n 3, 1) := by decide +kernel
theorem dX4_weights_35 : decode cX4_weights 35 = .ok (.getfield 111, 3) := by decide +kernel
theorem dX4_weights_38 : decode cX4_weights 38 = .ok (.if_icmp .ge 40, 3) := by decide +kernel
theorem dX4_weights_41 : decode cX4_weights 41 = .ok (.aload_n 3, 1) := by decide +kernel
theorem dX4_weights_42 : decode cX4_weights 42 = .ok (.iload 6, 2) := by decide +kernel
theorem dX4_weights_44 : decode cX4_weights 44 = .ok (.invokevirtual 105, 3) := by decide +kernel
theorem dX4_weights_47 : decode cX4_weights 47 = .ok (.iload_n 2, 1) := by decide +kernel
theorem dX4_weights_48 : decode cX4_weights 48 = .ok (.isub, 1) := by decide +kernel
theorem dX4_weights_49 : decode cX4_weights 49 = .ok (.istore 7, 2) := by decide +kernel
theorem dX4_weights_51 : decode cX4_weights 51 = .ok (.iload 7, 2) := by decide +kernel
theorem dX4_weights_53 : decode cX4_weights 53 = .ok (.ifCond .lt 19, 3) := by decide +kernel
theorem dX4_weights_56 : decode cX4_weights 56 = .ok (.iload 7, 2) := by decide +kernel
theorem dX4_weights_58 : decode cX4_weights 58 = .ok (.bipush 64, 2) := by decide +kernel
theorem dX4_weights_60 : decode cX4_weights 60 = .ok (.if_icmp .ge 12, 3) := by decide +kernel
theorem dX4_weights_63 : decode cX4_weights 63 = .ok (.lload 4, 2) := by decide +kernel
theorem dX4_weights_65 : decode cX4_weights 65 = .ok (.lconst 1, 1) := by decide +kernel
theorem dX4_weights_66 : decode cX4_weights 66 = .ok (.iload 7, 2) := by decide +kernel
theorem dX4_weights_68 : decode cX4_weights 68 = .ok (.lshl, 1) := by decide +kernel
theorem dX4_weights_69 : decode cX4_weights 69 = .ok (.lor, 1) := by decide +kernel
theorem dX4_weights_70 : decode cX4_weights 70 = .ok (.lstore 4, 2) := by decide +kernel
theorem dX4_weights_72 : decode cX4_weights 72 = .ok (.iinc 6 1, 3) := by decide +kernel
theorem dX4_weights_75 : decode cX4_weights 75 = .ok (.goto (-43), 3) := by decide +kernel
theorem dX4_weights_78 : decode cX4_weights 78 = .ok (.lload 4, 2) := by decide +kernel
theorem dX4_weights_80 : decode cX4_weights 80 = .ok (.lreturn, 1) := by decide +kernel
theorem dX4_leaningShare_0 : decode cX4_leaningShare 0 = .ok (.aload_n 0, 1) := by decide +kernel
theorem dX4_leaningShare_1 : decode cX4_leaningShare 1 = .ok (.getfield 10, 3) := by decide +kernel
theorem dX4_leaningShare_4 : decode cX4_leaningShare 4 = .ok (.iload_n 1, 1) := by decide +kernel
theorem dX4_leaningShare_5 : decode cX4_leaningShare 5 = .ok (.invokevirtual 71, 3) := by decide +kernel
theorem dX4_leaningShare_8 : decode cX4_leaningShare 8 = .ok (.astore_n 2, 1) := by decide +kernel
theorem dX4_leaningShare_9 : decode cX4_leaningShare 9 = .ok (.aload_n 2, 1) := by decide +kernel
theorem dX4_leaningShare_10 : decode cX4_leaningShare 10 = .ok (.ifnonnull 6, 3) := by decide +kernel
theorem dX4_leaningShare_13 : decode cX4_leaningShare 13 = .ok (.bipush (-11), 2) := by decide +kernel
theorem dX4_leaningShare_15 : decode cX4_leaningShare 15 = .ok (.ireturn, 1) := by decide +kernel
theorem dX4_leaningShare_16 : decode cX4_leaningShare 16 = .ok (.aload_n 2, 1) := by decide +kernel
theorem dX4_leaningShare_17 : decode cX4_leaningShare 17 = .ok (.getfield 111, 3) := by decide +kernel
theorem dX4_leaningShare_20 : decode cX4_leaningShare 20 = .ok (.ifCond .gt 6, 3) := by decide +kernel
theorem dX4_leaningShare_23 : decode cX4_leaningShare 23 = .ok (.bipush (-15), 2) := by decide +kernel
theorem dX4_leaningShare_25 : decode cX4_leaningShare 25 = .ok (.ireturn, 1) := by decide +kernel
theorem dX4_leaningShare_26 : decode cX4_leaningShare 26 = .ok (.aload_n 2, 1) := by decide +kernel
theorem dX4_leaningShare_27 : decode cX4_leaningShare 27 = .ok (.aload_n 0, 1) := by decide +kernel
theorem dX4_leaningShare_28 : decode cX4_leaningShare 28 = .ok (.getfield 10, 3) := by decide +kernel
theorem dX4_leaningShare_31 : decode cX4_leaningShare 31 = .ok (.getfield 95, 3) := by decide +kernel
theorem dX4_leaningShare_34 : decode cX4_leaningShare 34 = .ok (.invokevirtual 124, 3) := by decide +kernel
theorem dX4_leaningShare_37 : decode cX4_leaningShare 37 = .ok (.i2f, 1) := by decide +kernel
theorem dX4_leaningShare_38 : decode cX4_leaningShare 38 = .ok (.aload_n 2, 1) := by decide +kernel
theorem dX4_leaningShare_39 : decode cX4_leaningShare 39 = .ok (.getfield 111, 3) := by decide +kernel
theorem dX4_leaningShare_42 : decode cX4_leaningShare 42 = .ok (.i2f, 1) := by decide +kernel
theorem dX4_leaningShare_43 : decode cX4_leaningShare 43 = .ok (.fdiv, 1) := by decide +kernel
theorem dX4_leaningShare_44 : decode cX4_leaningShare 44 = .ok (.invokestatic 167, 3) := by decide +kernel
theorem dX4_leaningShare_47 : decode cX4_leaningShare 47 = .ok (.ireturn, 1) := by decide +kernel
theorem dX4_meanDepth_0 : decode cX4_meanDepth 0 = .ok (.aload_n 0, 1) := by decide +kernel
theorem dX4_meanDepth_1 : decode cX4_meanDepth 1 = .ok (.getfield 10, 3) := by decide +kernel
theorem dX4_meanDepth_4 : decode cX4_meanDepth 4 = .ok (.iload_n 1, 1) := by decide +kernel
theorem dX4_meanDepth_5 : decode cX4_meanDepth 5 = .ok (.invokevirtual 71, 3) := by decide +kernel
theorem dX4_meanDepth_8 : decode cX4_meanDepth 8 = .ok (.astore_n 2, 1) := by decide +kernel
theorem dX4_meanDepth_9 : decode cX4_meanDepth 9 = .ok (.aload_n 2, 1) := by decide +kernel
theorem dX4_meanDepth_10 : decode cX4_meanDepth 10 = .ok (.ifnonnull 7, 3) := by decide +kernel
theorem dX4_meanDepth_13 : decode cX4_meanDepth 13 = .ok (.ldc2_w 161, 3) := by decide +kernel
theorem dX4_meanDepth_16 : decode cX4_meanDepth 16 = .ok (.lreturn, 1) := by decide +kernel
theorem dX4_meanDepth_17 : decode cX4_meanDepth 17 = .ok (.aload_n 2, 1) := by decide +kernel
theorem dX4_meanDepth_18 : decode cX4_meanDepth 18 = .ok (.getfield 111, 3) := by decide +kernel
theorem dX4_meanDepth_21 : decode cX4_meanDepth 21 = .ok (.ifCond .gt 7, 3) := by decide +kernel
theorem dX4_meanDepth_24 : decode cX4_meanDepth 24 = .ok (.ldc2_w 171, 3) := by decide +kernel
theorem dX4_meanDepth_27 : decode cX4_meanDepth 27 = .ok (.lreturn, 1) := by decide +kernel
theorem dX4_meanDepth_28 : decode cX4_meanDepth 28 = .ok (.aload_n 2, 1) := by decide +kernel
theorem dX4_meanDepth_29 : decode cX4_meanDepth 29 = .ok (.invokevirtual 127, 3) := by decide +kernel
theorem dX4_meanDepth_32 : decode cX4_meanDepth 32 = .ok (.i2d, 1) := by decide +kernel
theorem dX4_meanDepth_33 : decode cX4_meanDepth 33 = .ok (.aload_n 2, 1) := by decide +kernel
theorem dX4_meanDepth_34 : decode cX4_meanDepth 34 = .ok (.getfield 111, 3) := by decide +kernel
theorem dX4_meanDepth_37 : decode cX4_meanDepth 37 = .ok (.i2d, 1) := by decide +kernel
theorem dX4_meanDepth_38 : decode cX4_meanDepth 38 = .ok (.ddiv, 1) := by decide +kernel
theorem dX4_meanDepth_39 : decode cX4_meanDepth 39 = .ok (.invokestatic 173, 3) := by decide +kernel
theorem dX4_meanDepth_42 : decode cX4_meanDepth 42 = .ok (.lreturn, 1) := by decide +kernel
theorem dX4_append_0 : decode cX4_append 0 = .ok (.iload_n 1, 1) := by decide +kernel
theorem dX4_append_1 : decode cX4_append 1 = .ok (.bipush 32, 2) := by decide +kernel
theorem dX4_append_3 : decode cX4_append 3 = .ok (.if_icmp .lt 9, 3) := by decide +kernel
theorem dX4_append_6 : decode cX4_append 6 = .ok (.iload_n 1, 1) := by decide +kernel
theorem dX4_append_7 : decode cX4_append 7 = .ok (.bipush 126, 2) := by decide +kernel
theorem dX4_append_9 : decode cX4_append 9 = .ok (.if_icmp .le 6, 3) := by decide +kernel
theorem dX4_append_12 : decode cX4_append 12 = .ok (.bipush (-12), 2) := by decide +kernel
theorem dX4_append_14 : decode cX4_append 14 = .ok (.ireturn, 1) := by decide +kernel
theorem dX4_append_15 : decode cX4_append 15 = .ok (.aload_n 0, 1) := by decide +kernel
theorem dX4_append_16 : decode cX4_append 16 = .ok (.getfield 26, 3) := by decide +kernel
theorem dX4_append_19 : decode cX4_append 19 = .ok (.iload_n 1, 1) := by decide +kernel
theorem dX4_append_20 : decode cX4_append 20 = .ok (.invokevirtual 177, 3) := by decide +kernel
theorem dX4_append_23 : decode cX4_append 23 = .ok (.ifCond .eq 13, 3) := by decide +kernel
theorem dX4_append_26 : decode cX4_append 26 = .ok (.aload_n 0, 1) := by decide +kernel
theorem dX4_append_27 : decode cX4_append 27 = .ok (.getfield 26, 3) := by decide +kernel
theorem dX4_append_30 : decode cX4_append 30 = .ok (.getfield 180, 3) := by decide +kernel
theorem dX4_append_33 : decode cX4_append 33 = .ok (.goto 5, 3) := by decide +kernel
theorem dX4_append_36 : decode cX4_append 36 = .ok (.bipush (-13), 2) := by decide +kernel
theorem dX4_append_38 : decode cX4_append 38 = .ok (.ireturn, 1) := by decide +kernel
theorem dX4_run_0 : decode cX4_run 0 = .ok (.aload_n 0, 1) := by decide +kernel
theorem dX4_run_1 : decode cX4_run 1 = .ok (.getfield 36, 3) := by decide +kernel
theorem dX4_run_4 : decode cX4_run 4 = .ok (.aload_n 0, 1) := by decide +kernel
theorem dX4_run_5 : decode cX4_run 5 = .ok (.getfield 26, 3) := by decide +kernel
theorem dX4_run_8 : decode cX4_run 8 = .ok (.invokevirtual 183, 3) := by decide +kernel
theorem dX4_run_11 : decode cX4_run 11 = .ok (.istore_n 1, 1) := by decide +kernel
theorem dX4_run_12 : decode cX4_run 12 = .ok (.aload_n 0, 1) := by decide +kernel
theorem dX4_run_13 : decode cX4_run 13 = .ok (.getfield 26, 3) := by decide +kernel
theorem dX4_run_16 : decode cX4_run 16 = .ok (.invokevirtual 187, 3) := by decide +kernel
theorem dX4_run_19 : decode cX4_run 19 = .ok (.iload_n 1, 1) := by decide +kernel
theorem dX4_run_20 : decode cX4_run 20 = .ok (.ifCond .ge 5, 3) := by decide +kernel
theorem dX4_run_23 : decode cX4_run 23 = .ok (.iload_n 1, 1) := by decide +kernel
theorem dX4_run_24 : decode cX4_run 24 = .ok (.ireturn, 1) := by decide +kernel
theorem dX4_run_25 : decode cX4_run 25 = .ok (.aload_n 0, 1) := by decide +kernel
theorem dX4_run_26 : decode cX4_run 26 = .ok (.invokevirtual 47, 3) := by decide +kernel
theorem dX4_run_29 : decode cX4_run 29 = .ok (.iconst 0, 1) := by decide +kernel
theorem dX4_run_30 : decode cX4_run 30 = .ok (.istore_n 2, 1) := by decide +kernel
theorem dX4_run_31 : decode cX4_run 31 = .ok (.iload_n 2, 1) := by decide +kernel
theorem dX4_run_32 : decode cX4_run 32 = .ok (.iload_n 1, 1) := by decide +kernel
theorem dX4_run_33 : decode cX4_run 33 = .ok (.if_icmp .ge 35, 3) := by decide +kernel
theorem dX4_run_36 : decode cX4_run 36 = .ok (.iload_n 2, 1) := by decide +kernel
theorem dX4_run_37 : decode cX4_run 37 = .ok (.bipush 20, 2) := by decide +kernel
theorem dX4_run_39 : decode cX4_run 39 = .ok (.if_icmp .ge 29, 3) := by decide +kernel
theorem dX4_run_42 : decode cX4_run 42 = .ok (.aload_n 0, 1) := by decide +kernel
theorem dX4_run_43 : decode cX4_run 43 = .ok (.iload_n 2, 1) := by decide +kernel
theorem dX4_run_44 : decode cX4_run 44 = .ok (.invokevirtual 190, 3) := by decide +kernel
theorem dX4_run_47 : decode cX4_run 47 = .ok (.ifCond .ge 15, 3) := by decide +kernel
theorem dX4_run_50 : decode cX4_run 50 = .ok (.aload_n 0, 1) := by decide +kernel
theorem dX4_run_51 : decode cX4_run 51 = .ok (.invokevirtual 193, 3) := by decide +kernel
theorem dX4_run_54 : decode cX4_run 54 = .ok (.aload_n 0, 1) := by decide +kernel
theorem dX4_run_55 : decode cX4_run 55 = .ok (.bipush 6, 2) := by decide +kernel
theorem dX4_run_57 : decode cX4_run 57 = .ok (.iload_n 2, 1) := by decide +kernel
theorem dX4_run_58 : decode cX4_run 58 = .ok (.invokevirtual 196, 3) := by decide +kernel
theorem dX4_run_61 : decode cX4_run 61 = .ok (.ireturn, 1) := by decide +kernel
theorem dX4_run_62 : decode cX4_run 62 = .ok (.iinc 2 1, 3) := by decide +kernel
theorem dX4_run_65 : decode cX4_run 65 = .ok (.goto (-34), 3) := by decide +kernel
theorem dX4_run_68 : decode cX4_run 68 = .ok (.aload_n 0, 1) := by decide +kernel
theorem dX4_run_69 : decode cX4_run 69 = .ok (.iload_n 1, 1) := by decide +kernel
theorem dX4_run_70 : decode cX4_run 70 = .ok (.invokevirtual 54, 3) := by decide +kernel
theorem dX4_run_73 : decode cX4_run 73 = .ok (.ireturn, 1) := by decide +kernel
theorem dX4_tell_0 : decode cX4_tell 0 = .ok (.aload_n 0, 1) := by decide +kernel
theorem dX4_tell_1 : decode cX4_tell 1 = .ok (.getfield 10, 3) := by decide +kernel
theorem dX4_tell_4 : decode cX4_tell 4 = .ok (.iload_n 1, 1) := by decide +kernel
theorem dX4_tell_5 : decode cX4_tell 5 = .ok (.invokevirtual 71, 3) := by decide +kernel
theorem dX4_tell_8 : decode cX4_tell 8 = .ok (.astore_n 2, 1) := by decide +kernel
theorem dX4_tell_9 : decode cX4_tell 9 = .ok (.aload_n 2, 1) := by decide +kernel
theorem dX4_tell_10 : decode cX4_tell 10 = .ok (.ifnonnull 6, 3) := by decide +kernel
theorem dX4_tell_13 : decode cX4_tell 13 = .ok (.bipush (-11), 2) := by decide +kernel
theorem dX4_tell_15 : decode cX4_tell 15 = .ok (.ireturn, 1) := by decide +kernel
theorem dX4_tell_16 : decode cX4_tell 16 = .ok (.aload_n 0, 1) := by decide +kernel
theorem dX4_tell_17 : decode cX4_tell 17 = .ok (.getfield 30, 3) := by decide +kernel
theorem dX4_tell_20 : decode cX4_tell 20 = .ok (.invokevirtual 187, 3) := by decide +kernel
theorem dX4_tell_23 : decode cX4_tell 23 = .ok (.aload_n 0, 1) := by decide +kernel
theorem dX4_tell_24 : decode cX4_tell 24 = .ok (.getfield 30, 3) := by decide +kernel
theorem dX4_tell_27 : decode cX4_tell 27 = .ok (.aload_n 2, 1) := by decide +kernel
theorem dX4_tell_28 : decode cX4_tell 28 = .ok (.iconst 0, 1) := by decide +kernel
theorem dX4_tell_29 : decode cX4_tell 29 = .ok (.aload_n 2, 1) := by decide +kernel
theorem dX4_tell_30 : decode cX4_tell 30 = .ok (.getfield 111, 3) := by decide +kernel
theorem dX4_tell_33 : decode cX4_tell 33 = .ok (.iconst 1, 1) := by decide +kernel
theorem dX4_tell_34 : decode cX4_tell 34 = .ok (.isub, 1) := by decide +kernel
theorem dX4_tell_35 : decode cX4_tell 35 = .ok (.aload_n 0, 1) := by decide +kernel
theorem dX4_tell_36 : decode cX4_tell 36 = .ok (.getfield 10, 3) := by decide +kernel
theorem dX4_tell_39 : decode cX4_tell 39 = .ok (.getfield 95, 3) := by decide +kernel
theorem dX4_tell_42 : decode cX4_tell 42 = .ok (.iconst 0, 1) := by decide +kernel
theorem dX4_tell_43 : decode cX4_tell 43 = .ok (.invokestatic 199, 3) := by decide +kernel
theorem dX4_tell_46 : decode cX4_tell 46 = .ok (.aload_n 0, 1) := by decide +kernel
theorem dX4_tell_47 : decode cX4_tell 47 = .ok (.getfield 30, 3) := by decide +kernel
theorem dX4_tell_50 : decode cX4_tell 50 = .ok (.getfield 180, 3) := by decide +kernel
theorem dX4_tell_53 : decode cX4_tell 53 = .ok (.ireturn, 1) := by decide +kernel
theorem dX4_reason_0 : decode cX4_reason 0 = .ok (.iload_n 1, 1) := by decide +kernel
theorem dX4_reason_1 : decode cX4_reason 1 = .ok (.ifCond .eq 10, 3) := by decide +kernel
theorem dX4_reason_4 : decode cX4_reason 4 = .ok (.aload_n 0, 1) := by decide +kernel
theorem dX4_reason_5 : decode cX4_reason 5 = .ok (.getfield 44, 3) := by decide +kernel
theorem dX4_reason_8 : decode cX4_reason 8 = .ok (.goto 7, 3) := by decide +kernel
theorem dX4_reason_11 : decode cX4_reason 11 = .ok (.aload_n 0, 1) := by decide +kernel
theorem dX4_reason_12 : decode cX4_reason 12 = .ok (.getfield 40, 3) := by decide +kernel
theorem dX4_reason_15 : decode cX4_reason 15 = .ok (.ireturn, 1) := by decide +kernel
theorem dX4_account_0 : decode cX4_account 0 = .ok (.iload_n 1, 1) := by decide +kernel
theorem dX4_account_1 : decode cX4_account 1 = .ok (.tableswitch 144 0 10 #[59, 67, 75, 83, 91, 99, 107, 115, 123, 131, 139], 59) := by decide +kernel
theorem dX4_account_60 : decode cX4_account 60 = .ok (.aload_n 0, 1) := by decide +kernel
theorem dX4_account_61 : decode cX4_account 61 = .ok (.getfield 10, 3) := by decide +kernel
theorem dX4_account_64 : decode cX4_account 64 = .ok (.invokevirtual 149, 3) := by decide +kernel
theorem dX4_account_67 : decode cX4_account 67 = .ok (.ireturn, 1) := by decide +kernel
theorem dX4_account_68 : decode cX4_account 68 = .ok (.aload_n 0, 1) := by decide +kernel
theorem dX4_account_69 : decode cX4_account 69 = .ok (.getfield 10, 3) := by decide +kernel
theorem dX4_account_72 : decode cX4_account 72 = .ok (.invokevirtual 206, 3) := by decide +kernel
theorem dX4_account_75 : decode cX4_account 75 = .ok (.ireturn, 1) := by decide +kernel
theorem dX4_account_76 : decode cX4_account 76 = .ok (.aload_n 0, 1) := by decide +kernel
theorem dX4_account_77 : decode cX4_account 77 = .ok (.getfield 10, 3) := by decide +kernel
theorem dX4_account_80 : decode cX4_account 80 = .ok (.getfield 209, 3) := by decide +kernel
theorem dX4_account_83 : decode cX4_account 83 = .ok (.ireturn, 1) := by decide +kernel
theorem dX4_account_84 : decode cX4_account 84 = .ok (.aload_n 0, 1) := by decide +kernel
theorem dX4_account_85 : decode cX4_account 85 = .ok (.getfield 10, 3) := by decide +kernel
theorem dX4_account_88 : decode cX4_account 88 = .ok (.getfield 212, 3) := by decide +kernel
theorem dX4_account_91 : decode cX4_account 91 = .ok (.ireturn, 1) := by decide +kernel
theorem dX4_account_92 : decode cX4_account 92 = .ok (.aload_n 0, 1) := by decide +kernel
theorem dX4_account_93 : decode cX4_account 93 = .ok (.getfield 10, 3) := by decide +kernel
theorem dX4_account_96 : decode cX4_account 96 = .ok (.getfield 215, 3) := by decide +kernel
theorem dX4_account_99 : decode cX4_account 99 = .ok (.ireturn, 1) := by decide +kernel
theorem dX4_account_100 : decode cX4_account 100 = .ok (.aload_n 0, 1) := by decide +kernel
theorem dX4_account_101 : decode cX4_account 101 = .ok (.getfield 10, 3) := by decide +kernel
theorem dX4_account_104 : decode cX4_account 104 = .ok (.getfield 218, 3) := by decide +kernel
theorem dX4_account_107 : decode cX4_account 107 = .ok (.ireturn, 1) := by decide +kernel
theorem dX4_account_108 : decode cX4_account 108 = .ok (.aload_n 0, 1) := by decide +kernel
theorem dX4_account_109 : decode cX4_account 109 = .ok (.getfield 10, 3) := by decide +kernel
theorem dX4_account_112 : decode cX4_account 112 = .ok (.getfield 221, 3) := by decide +kernel
theorem dX4_account_115 : decode cX4_account 115 = .ok (.ireturn, 1) := by decide +kernel
theorem dX4_account_116 : decode cX4_account 116 = .ok (.aload_n 0, 1) := by decide +kernel
theorem dX4_account_117 : decode cX4_account 117 = .ok (.getfield 10, 3) := by decide +kernel
theorem dX4_account_120 : decode cX4_account 120 = .ok (.getfield 224, 3) := by decide +kernel
theorem dX4_account_123 : decode cX4_account 123 = .ok (.ireturn, 1) := by decide +kernel
theorem dX4_account_124 : decode cX4_account 124 = .ok (.aload_n 0, 1) := by decide +kernel
theorem dX4_account_125 : decode cX4_account 125 = .ok (.getfield 10, 3) := by decide +kernel
theorem dX4_account_128 : decode cX4_account 128 = .ok (.getfield 95, 3) := by decide +kernel
theorem dX4_account_131 : decode cX4_account 131 = .ok (.ireturn, 1) := by decide +kernel
theorem dX4_account_132 : decode cX4_account 132 = .ok (.aload_n 0, 1) := by decide +kernel
theorem dX4_account_133 : decode cX4_account 133 = .ok (.getfield 26, 3) := by decide +kernel
theorem dX4_account_136 : decode cX4_account 136 = .ok (.getfield 180, 3) := by decide +kernel
theorem dX4_account_139 : decode cX4_account 139 = .ok (.ireturn, 1) := by decide +kernel
theorem dX4_account_140 : decode cX4_account 140 = .ok (.aload_n 0, 1) := by decide +kernel
theorem dX4_account_141 : decode cX4_account 141 = .ok (.getfield 227, 3) := by decide +kernel
theorem dX4_account_144 : decode cX4_account 144 = .ok (.ireturn, 1) := by decide +kernel
theorem dX4_account_145 : decode cX4_account 145 = .ok (.bipush (-12), 2) := by decide +kernel
theorem dX4_account_147 : decode cX4_account 147 = .ok (.ireturn, 1) := by decide +kernel
theorem dX4_isBalanced_0 : decode cX4_isBalanced 0 = .ok (.aload_n 0, 1) := by decide +kernel
theorem dX4_isBalanced_1 : decode cX4_isBalanced 1 = .ok (.getfield 10, 3) := by decide +kernel
theorem dX4_isBalanced_4 : decode cX4_isBalanced 4 = .ok (.invokevirtual 149, 3) := by decide +kernel
theorem dX4_isBalanced_7 : decode cX4_isBalanced 7 = .ok (.aload_n 0, 1) := by decide +kernel
theorem dX4_isBalanced_8 : decode cX4_isBalanced 8 = .ok (.getfield 10, 3) := by decide +kernel
theorem dX4_isBalanced_11 : decode cX4_isBalanced 11 = .ok (.getfield 209, 3) := by decide +kernel
theorem dX4_isBalanced_14 : decode cX4_isBalanced 14 = .ok (.aload_n 0, 1) := by decide +kernel
theorem dX4_isBalanced_15 : decode cX4_isBalanced 15 = .ok (.getfield 10, 3) := by decide +kernel
theorem dX4_isBalanced_18 : decode cX4_isBalanced 18 = .ok (.getfield 212, 3) := by decide +kernel
theorem dX4_isBalanced_21 : decode cX4_isBalanced 21 = .ok (.isub, 1) := by decide +kernel
theorem dX4_isBalanced_22 : decode cX4_isBalanced 22 = .ok (.if_icmp .eq 5, 3) := by decide +kernel
theorem dX4_isBalanced_25 : decode cX4_isBalanced 25 = .ok (.iconst 0, 1) := by decide +kernel
theorem dX4_isBalanced_26 : decode cX4_isBalanced 26 = .ok (.ireturn, 1) := by decide +kernel
theorem dX4_isBalanced_27 : decode cX4_isBalanced 27 = .ok (.iconst 0, 1) := by decide +kernel
theorem dX4_isBalanced_28 : decode cX4_isBalanced 28 = .ok (.istore_n 1, 1) := by decide +kernel
theorem dX4_isBalanced_29 : decode cX4_isBalanced 29 = .ok (.iload_n 1, 1) := by decide +kernel
theorem dX4_isBalanced_30 : decode cX4_isBalanced 30 = .ok (.iconst 3, 1) := by decide +kernel
theorem dX4_isBalanced_31 : decode cX4_isBalanced 31 = .ok (.if_icmp .ge 31, 3) := by decide +kernel
theorem dX4_isBalanced_34 : decode cX4_isBalanced 34 = .ok (.aload_n 0, 1) := by decide +kernel
theorem dX4_isBalanced_35 : decode cX4_isBalanced 35 = .ok (.getfield 10, 3) := by decide +kernel
theorem dX4_isBalanced_38 : decode cX4_isBalanced 38 = .ok (.iload_n 1, 1) := by decide +kernel
theorem dX4_isBalanced_39 : decode cX4_isBalanced 39 = .ok (.invokevirtual 71, 3) := by decide +kernel
theorem dX4_isBalanced_42 : decode cX4_isBalanced 42 = .ok (.astore_n 2, 1) := by decide +kernel
theorem dX4_isBalanced_43 : decode cX4_isBalanced 43 = .ok (.aload_n 2, 1) := by decide +kernel
theorem dX4_isBalanced_44 : decode cX4_isBalanced 44 = .ok (.ifnull 10, 3) := by decide +kernel
theorem dX4_isBalanced_47 : decode cX4_isBalanced 47 = .ok (.aload_n 2, 1) := by decide +kernel
theorem dX4_isBalanced_48 : decode cX4_isBalanced 48 = .ok (.invokestatic 230, 3) := by decide +kernel
theorem dX4_isBalanced_51 : decode cX4_isBalanced 51 = .ok (.ifCond .ne 5, 3) := by decide +kernel
theorem dX4_isBalanced_54 : decode cX4_isBalanced 54 = .ok (.iconst 0, 1) := by decide +kernel
theorem dX4_isBalanced_55 : decode cX4_isBalanced 55 = .ok (.ireturn, 1) := by decide +kernel
theorem dX4_isBalanced_56 : decode cX4_isBalanced 56 = .ok (.iinc 1 1, 3) := by decide +kernel
theorem dX4_isBalanced_59 : decode cX4_isBalanced 59 = .ok (.goto (-30), 3) := by decide +kernel
theorem dX4_isBalanced_62 : decode cX4_isBalanced 62 = .ok (.iconst 1, 1) := by decide +kernel
theorem dX4_isBalanced_63 : decode cX4_isBalanced 63 = .ok (.ireturn, 1) := by decide +kernel
theorem dX4_undo_0 : decode cX4_undo 0 = .ok (.aload_n 0, 1) := by decide +kernel
theorem dX4_undo_1 : decode cX4_undo 1 = .ok (.getfield 227, 3) := by decide +kernel
theorem dX4_undo_4 : decode cX4_undo 4 = .ok (.ifCond .gt 6, 3) := by decide +kernel
theorem dX4_undo_7 : decode cX4_undo 7 = .ok (.bipush (-15), 2) := by decide +kernel
theorem dX4_undo_9 : decode cX4_undo 9 = .ok (.ireturn, 1) := by decide +kernel
theorem dX4_undo_10 : decode cX4_undo 10 = .ok (.aload_n 0, 1) := by decide +kernel
theorem dX4_undo_11 : decode cX4_undo 11 = .ok (.aload_n 0, 1) := by decide +kernel
theorem dX4_undo_12 : decode cX4_undo 12 = .ok (.getfield 234, 3) := by decide +kernel
theorem dX4_undo_15 : decode cX4_undo 15 = .ok (.bipush 8, 2) := by decide +kernel
theorem dX4_undo_17 : decode cX4_undo 17 = .ok (.iadd, 1) := by decide +kernel
theorem dX4_undo_18 : decode cX4_undo 18 = .ok (.bipush 9, 2) := by decide +kernel
theorem dX4_undo_20 : decode cX4_undo 20 = .ok (.irem, 1) := by decide +kernel
theorem dX4_undo_21 : decode cX4_undo 21 = .ok (.putfield 234, 3) := by decide +kernel
theorem dX4_undo_24 : decode cX4_undo 24 = .ok (.aload_n 0, 1) := by decide +kernel
theorem dX4_undo_25 : decode cX4_undo 25 = .ok (.dup, 1) := by decide +kernel
theorem dX4_undo_26 : decode cX4_undo 26 = .ok (.getfield 227, 3) := by decide +kernel
theorem dX4_undo_29 : decode cX4_undo 29 = .ok (.iconst 1, 1) := by decide +kernel
theorem dX4_undo_30 : decode cX4_undo 30 = .ok (.isub, 1) := by decide +kernel
theorem dX4_undo_31 : decode cX4_undo 31 = .ok (.putfield 227, 3) := by decide +kernel
theorem dX4_undo_34 : decode cX4_undo 34 = .ok (.aload_n 0, 1) := by decide +kernel
theorem dX4_undo_35 : decode cX4_undo 35 = .ok (.invokevirtual 193, 3) := by decide +kernel
theorem dX4_undo_38 : decode cX4_undo 38 = .ok (.aload_n 0, 1) := by decide +kernel
theorem dX4_undo_39 : decode cX4_undo 39 = .ok (.getfield 227, 3) := by decide +kernel
theorem dX4_undo_42 : decode cX4_undo 42 = .ok (.ireturn, 1) := by decide +kernel
theorem dX4_save_0 : decode cX4_save 0 = .ok (.aload_n 0, 1) := by decide +kernel
theorem dX4_save_1 : decode cX4_save 1 = .ok (.getfield 16, 3) := by decide +kernel
theorem dX4_save_4 : decode cX4_save 4 = .ok (.aload_n 0, 1) := by decide +kernel
theorem dX4_save_5 : decode cX4_save 5 = .ok (.getfield 10, 3) := by decide +kernel
theorem dX4_save_8 : decode cX4_save 8 = .ok (.invokevirtual 237, 3) := by decide +kernel
theorem dX4_save_11 : decode cX4_save 11 = .ok (.aload_n 0, 1) := by decide +kernel
theorem dX4_save_12 : decode cX4_save 12 = .ok (.iconst 1, 1) := by decide +kernel
theorem dX4_save_13 : decode cX4_save 13 = .ok (.putfield 241, 3) := by decide +kernel
theorem dX4_save_16 : decode cX4_save 16 = .ok (.aload_n 0, 1) := by decide +kernel
theorem dX4_save_17 : decode cX4_save 17 = .ok (.getfield 10, 3) := by decide +kernel
theorem dX4_save_20 : decode cX4_save 20 = .ok (.invokevirtual 149, 3) := by decide +kernel
theorem dX4_save_23 : decode cX4_save 23 = .ok (.ireturn, 1) := by decide +kernel
theorem dX4_restore_0 : decode cX4_restore 0 = .ok (.aload_n 0, 1) := by decide +kernel
theorem dX4_restore_1 : decode cX4_restore 1 = .ok (.getfield 241, 3) := by decide +kernel
theorem dX4_restore_4 : decode cX4_restore 4 = .ok (.ifCond .ne 6, 3) := by decide +kernel
theorem dX4_restore_7 : decode cX4_restore 7 = .ok (.bipush (-15), 2) := by decide +kernel
theorem dX4_restore_9 : decode cX4_restore 9 = .ok (.ireturn, 1) := by decide +kernel
theorem dX4_restore_10 : decode cX4_restore 10 = .ok (.aload_n 0, 1) := by decide +kernel
theorem dX4_restore_11 : decode cX4_restore 11 = .ok (.getfield 10, 3) := by decide +kernel
theorem dX4_restore_14 : decode cX4_restore 14 = .ok (.aload_n 0, 1) := by decide +kernel
theorem dX4_restore_15 : decode cX4_restore 15 = .ok (.getfield 16, 3) := by decide +kernel
theorem dX4_restore_18 : decode cX4_restore 18 = .ok (.invokevirtual 237, 3) := by decide +kernel
theorem dX4_restore_21 : decode cX4_restore 21 = .ok (.aload_n 0, 1) := by decide +kernel
theorem dX4_restore_22 : decode cX4_restore 22 = .ok (.iconst 0, 1) := by decide +kernel
theorem dX4_restore_23 : decode cX4_restore 23 = .ok (.putfield 227, 3) := by decide +kernel
theorem dX4_restore_26 : decode cX4_restore 26 = .ok (.aload_n 0, 1) := by decide +kernel
theorem dX4_restore_27 : decode cX4_restore 27 = .ok (.getfield 10, 3) := by decide +kernel
theorem dX4_restore_30 : decode cX4_restore 30 = .ok (.invokevirtual 149, 3) := by decide +kernel
theorem dX4_restore_33 : decode cX4_restore 33 = .ok (.ireturn, 1) := by decide +kernel
theorem dX4_putNow_0 : decode cX4_putNow 0 = .ok (.aload_n 0, 1) := by decide +kernel
theorem dX4_putNow_1 : decode cX4_putNow 1 = .ok (.getfield 10, 3) := by decide +kernel
theorem dX4_putNow_4 : decode cX4_putNow 4 = .ok (.iload_n 1, 1) := by decide +kernel
theorem dX4_putNow_5 : decode cX4_putNow 5 = .ok (.invokevirtual 71, 3) := by decide +kernel
theorem dX4_putNow_8 : decode cX4_putNow 8 = .ok (.astore 4, 2) := by decide +kernel
theorem dX4_putNow_10 : decode cX4_putNow 10 = .ok (.aload 4, 2) := by decide +kernel
theorem dX4_putNow_12 : decode cX4_putNow 12 = .ok (.ifnonnull 6, 3) := by decide +kernel
theorem dX4_putNow_15 : decode cX4_putNow 15 = .ok (.bipush (-11), 2) := by decide +kernel
theorem dX4_putNow_17 : decode cX4_putNow 17 = .ok (.ireturn, 1) := by decide +kernel
theorem dX4_putNow_18 : decode cX4_putNow 18 = .ok (.iload_n 2, 1) := by decide +kernel
theorem dX4_putNow_19 : decode cX4_putNow 19 = .ok (.ifCond .lt 21, 3) := by decide +kernel
theorem dX4_putNow_22 : decode cX4_putNow 22 = .ok (.iload_n 2, 1) := by decide +kernel
theorem dX4_putNow_23 : decode cX4_putNow 23 = .ok (.sipush 1000, 3) := by decide +kernel
theorem dX4_putNow_26 : decode cX4_putNow 26 = .ok (.if_icmp .ge 14, 3) := by decide +kernel
theorem dX4_putNow_29 : decode cX4_putNow 29 = .ok (.iload_n 3, 1) := by decide +kernel
theorem dX4_putNow_30 : decode cX4_putNow 30 = .ok (.iconst 1, 1) := by decide +kernel
theorem dX4_putNow_31 : decode cX4_putNow 31 = .ok (.if_icmp .lt 9, 3) := by decide +kernel
theorem dX4_putNow_34 : decode cX4_putNow 34 = .ok (.iload_n 3, 1) := by decide +kernel
theorem dX4_putNow_35 : decode cX4_putNow 35 = .ok (.bipush 99, 2) := by decide +kernel
theorem dX4_putNow_37 : decode cX4_putNow 37 = .ok (.if_icmp .le 6, 3) := by decide +kernel
theorem dX4_putNow_40 : decode cX4_putNow 40 = .ok (.bipush (-12), 2) := by decide +kernel
theorem dX4_putNow_42 : decode cX4_putNow 42 = .ok (.ireturn, 1) := by decide +kernel
theorem dX4_putNow_43 : decode cX4_putNow 43 = .ok (.aload 4, 2) := by decide +kernel
theorem dX4_putNow_45 : decode cX4_putNow 45 = .ok (.iload_n 2, 1) := by decide +kernel
theorem dX4_putNow_46 : decode cX4_putNow 46 = .ok (.invokevirtual 75, 3) := by decide +kernel
theorem dX4_putNow_49 : decode cX4_putNow 49 = .ok (.iconst (-1), 1) := by decide +kernel
theorem dX4_putNow_50 : decode cX4_putNow 50 = .ok (.if_icmp .eq 10, 3) := by decide +kernel
theorem dX4_putNow_53 : decode cX4_putNow 53 = .ok (.aload_n 0, 1) := by decide +kernel
theorem dX4_putNow_54 : decode cX4_putNow 54 = .ok (.iconst 2, 1) := by decide +kernel
theorem dX4_putNow_55 : decode cX4_putNow 55 = .ok (.iload_n 2, 1) := by decide +kernel
theorem dX4_putNow_56 : decode cX4_putNow 56 = .ok (.invokevirtual 196, 3) := by decide +kernel
theorem dX4_putNow_59 : decode cX4_putNow 59 = .ok (.ireturn, 1) := by decide +kernel
theorem dX4_putNow_60 : decode cX4_putNow 60 = .ok (.aload 4, 2) := by decide +kernel
theorem dX4_putNow_62 : decode cX4_putNow 62 = .ok (.getfield 111, 3) := by decide +kernel
theorem dX4_putNow_65 : decode cX4_putNow 65 = .ok (.bipush 30, 2) := by decide +kernel
theorem dX4_putNow_67 : decode cX4_putNow 67 = .ok (.if_icmp .lt 14, 3) := by decide +kernel
theorem dX4_putNow_70 : decode cX4_putNow 70 = .ok (.aload_n 0, 1) := by decide +kernel
theorem dX4_putNow_71 : decode cX4_putNow 71 = .ok (.iconst 1, 1) := by decide +kernel
theorem dX4_putNow_72 : decode cX4_putNow 72 = .ok (.aload 4, 2) := by decide +kernel
theorem dX4_putNow_74 : decode cX4_putNow 74 = .ok (.getfield 111, 3) := by decide +kernel
theorem dX4_putNow_77 : decode cX4_putNow 77 = .ok (.invokevirtual 196, 3) := by decide +kernel
theorem dX4_putNow_80 : decode cX4_putNow 80 = .ok (.ireturn, 1) := by decide +kernel
theorem dX4_putNow_81 : decode cX4_putNow 81 = .ok (.aload 4, 2) := by decide +kernel
theorem dX4_putNow_83 : decode cX4_putNow 83 = .ok (.iload_n 2, 1) := by decide +kernel
theorem dX4_putNow_84 : decode cX4_putNow 84 = .ok (.iload_n 3, 1) := by decide +kernel
theorem dX4_putNow_85 : decode cX4_putNow 85 = .ok (.invokevirtual 245, 3) := by decide +kernel
theorem dX4_putNow_88 : decode cX4_putNow 88 = .ok (.istore 5, 2) := by decide +kernel
theorem dX4_putNow_90 : decode cX4_putNow 90 = .ok (.aload 4, 2) := by decide +kernel
theorem dX4_putNow_92 : decode cX4_putNow 92 = .ok (.aload 4, 2) := by decide +kernel
theorem dX4_putNow_94 : decode cX4_putNow 94 = .ok (.getfield 121, 3) := by decide +kernel
theorem dX4_putNow_97 : decode cX4_putNow 97 = .ok (.aload 4, 2) := by decide +kernel
theorem dX4_putNow_99 : decode cX4_putNow 99 = .ok (.getfield 111, 3) := by decide +kernel
theorem dX4_putNow_102 : decode cX4_putNow 102 = .ok (.invokestatic 248, 3) := by decide +kernel
theorem dX4_putNow_105 : decode cX4_putNow 105 = .ok (.putfield 121, 3) := by decide +kernel
theorem dX4_putNow_108 : decode cX4_putNow 108 = .ok (.aload_n 0, 1) := by decide +kernel
theorem dX4_putNow_109 : decode cX4_putNow 109 = .ok (.getfield 10, 3) := by decide +kernel
theorem dX4_putNow_112 : decode cX4_putNow 112 = .ok (.dup, 1) := by decide +kernel
theorem dX4_putNow_113 : decode cX4_putNow 113 = .ok (.getfield 209, 3) := by decide +kernel
theorem dX4_putNow_116 : decode cX4_putNow 116 = .ok (.iconst 1, 1) := by decide +kernel
theorem dX4_putNow_117 : decode cX4_putNow 117 = .ok (.iadd, 1) := by decide +kernel
theorem dX4_putNow_118 : decode cX4_putNow 118 = .ok (.putfield 209, 3) := by decide +kernel
theorem dX4_putNow_121 : decode cX4_putNow 121 = .ok (.aload 4, 2) := by decide +kernel
theorem dX4_putNow_123 : decode cX4_putNow 123 = .ok (.iload 5, 2) := by decide +kernel
theorem dX4_putNow_125 : decode cX4_putNow 125 = .ok (.invokevirtual 89, 3) := by decide +kernel
theorem dX4_putNow_128 : decode cX4_putNow 128 = .ok (.aload 4, 2) := by decide +kernel
theorem dX4_putNow_130 : decode cX4_putNow 130 = .ok (.getfield 111, 3) := by decide +kernel
theorem dX4_putNow_133 : decode cX4_putNow 133 = .ok (.aload_n 0, 1) := by decide +kernel
theorem dX4_putNow_134 : decode cX4_putNow 134 = .ok (.getfield 10, 3) := by decide +kernel
theorem dX4_putNow_137 : decode cX4_putNow 137 = .ok (.getfield 95, 3) := by decide +kernel
theorem dX4_putNow_140 : decode cX4_putNow 140 = .ok (.invokestatic 118, 3) := by decide +kernel
theorem dX4_putNow_143 : decode cX4_putNow 143 = .ok (.if_icmp .gt 5, 3) := by decide +kernel
theorem dX4_putNow_146 : decode cX4_putNow 146 = .ok (.iconst 0, 1) := by decide +kernel
theorem dX4_putNow_147 : decode cX4_putNow 147 = .ok (.ireturn, 1) := by decide +kernel
theorem dX4_putNow_148 : decode cX4_putNow 148 = .ok (.aload 4, 2) := by decide +kernel
theorem dX4_putNow_150 : decode cX4_putNow 150 = .ok (.iload 5, 2) := by decide +kernel
theorem dX4_putNow_152 : decode cX4_putNow 152 = .ok (.aload_n 0, 1) := by decide +kernel
theorem dX4_putNow_153 : decode cX4_putNow 153 = .ok (.getfield 10, 3) := by decide +kernel
theorem dX4_putNow_156 : decode cX4_putNow 156 = .ok (.getfield 95, 3) := by decide +kernel
theorem dX4_putNow_159 : decode cX4_putNow 159 = .ok (.invokevirtual 253, 3) := by decide +kernel
theorem dX4_putNow_162 : decode cX4_putNow 162 = .ok (.istore 6, 2) := by decide +kernel
theorem dX4_putNow_164 : decode cX4_putNow 164 = .ok (.iload 6, 2) := by decide +kernel
theorem dX4_putNow_166 : decode cX4_putNow 166 = .ok (.ifCond .le 30, 3) := by decide +kernel
theorem dX4_putNow_169 : decode cX4_putNow 169 = .ok (.aload_n 0, 1) := by decide +kernel
theorem dX4_putNow_170 : decode cX4_putNow 170 = .ok (.getfield 10, 3) := by decide +kernel
theorem dX4_putNow_173 : decode cX4_putNow 173 = .ok (.dup, 1) := by decide +kernel
theorem dX4_putNow_174 : decode cX4_putNow 174 = .ok (.getfield 215, 3) := by decide +kernel
theorem dX4_putNow_177 : decode cX4_putNow 177 = .ok (.iconst 1, 1) := by decide +kernel
theorem dX4_putNow_178 : decode cX4_putNow 178 = .ok (.iadd, 1) := by decide +kernel
theorem dX4_putNow_179 : decode cX4_putNow 179 = .ok (.putfield 215, 3) := by decide +kernel
theorem dX4_putNow_182 : decode cX4_putNow 182 = .ok (.aload_n 0, 1) := by decide +kernel
theorem dX4_putNow_183 : decode cX4_putNow 183 = .ok (.getfield 10, 3) := by decide +kernel
theorem dX4_putNow_186 : decode cX4_putNow 186 = .ok (.dup, 1) := by decide +kernel
theorem dX4_putNow_187 : decode cX4_putNow 187 = .ok (.getfield 221, 3) := by decide +kernel
theorem dX4_putNow_190 : decode cX4_putNow 190 = .ok (.iload 6, 2) := by decide +kernel
theorem dX4_putNow_192 : decode cX4_putNow 192 = .ok (.iadd, 1) := by decide +kernel
theorem dX4_putNow_193 : decode cX4_putNow 193 = .ok (.putfield 221, 3) := by decide +kernel
theorem dX4_putNow_196 : decode cX4_putNow 196 = .ok (.iload 6, 2) := by decide +kernel
theorem dX4_putNow_198 : decode cX4_putNow 198 = .ok (.ireturn, 1) := by decide +kernel
theorem dX4_takeNow_0 : decode cX4_takeNow 0 = .ok (.aload_n 0, 1) := by decide +kernel
theorem dX4_takeNow_1 : decode cX4_takeNow 1 = .ok (.getfield 10, 3) := by decide +kernel
theorem dX4_takeNow_4 : decode cX4_takeNow 4 = .ok (.iload_n 1, 1) := by decide +kernel
theorem dX4_takeNow_5 : decode cX4_takeNow 5 = .ok (.invokevirtual 71, 3) := by decide +kernel
theorem dX4_takeNow_8 : decode cX4_takeNow 8 = .ok (.astore_n 3, 1) := by decide +kernel
theorem dX4_takeNow_9 : decode cX4_takeNow 9 = .ok (.aload_n 3, 1) := by decide +kernel
theorem dX4_takeNow_10 : decode cX4_takeNow 10 = .ok (.ifnonnull 6, 3) := by decide +kernel
theorem dX4_takeNow_13 : decode cX4_takeNow 13 = .ok (.bipush (-11), 2) := by decide +kernel
theorem dX4_takeNow_15 : decode cX4_takeNow 15 = .ok (.ireturn, 1) := by decide +kernel
theorem dX4_takeNow_16 : decode cX4_takeNow 16 = .ok (.aload_n 3, 1) := by decide +kernel
theorem dX4_takeNow_17 : decode cX4_takeNow 17 = .ok (.iload_n 2, 1) := by decide +kernel
theorem dX4_takeNow_18 : decode cX4_takeNow 18 = .ok (.invokevirtual 75, 3) := by decide +kernel
theorem dX4_takeNow_21 : decode cX4_takeNow 21 = .ok (.istore 4, 2) := by decide +kernel
theorem dX4_takeNow_23 : decode cX4_takeNow 23 = .ok (.iload 4, 2) := by decide +kernel
theorem dX4_takeNow_25 : decode cX4_takeNow 25 = .ok (.iconst (-1), 1) := by decide +kernel
theorem dX4_takeNow_26 : decode cX4_takeNow 26 = .ok (.if_icmp .ne 6, 3) := by decide +kernel
theorem dX4_takeNow_29 : decode cX4_takeNow 29 = .ok (.bipush (-11), 2) := by decide +kernel
theorem dX4_takeNow_31 : decode cX4_takeNow 31 = .ok (.ireturn, 1) := by decide +kernel
theorem dX4_takeNow_32 : decode cX4_takeNow 32 = .ok (.aload_n 3, 1) := by decide +kernel
theorem dX4_takeNow_33 : decode cX4_takeNow 33 = .ok (.iload 4, 2) := by decide +kernel
theorem dX4_takeNow_35 : decode cX4_takeNow 35 = .ok (.invokevirtual 86, 3) := by decide +kernel
theorem dX4_takeNow_38 : decode cX4_takeNow 38 = .ok (.istore 5, 2) := by decide +kernel
theorem dX4_takeNow_40 : decode cX4_takeNow 40 = .ok (.aload_n 3, 1) := by decide +kernel
theorem dX4_takeNow_41 : decode cX4_takeNow 41 = .ok (.iload 4, 2) := by decide +kernel
theorem dX4_takeNow_43 : decode cX4_takeNow 43 = .ok (.invokevirtual 256, 3) := by decide +kernel
theorem dX4_takeNow_46 : decode cX4_takeNow 46 = .ok (.aload_n 0, 1) := by decide +kernel
theorem dX4_takeNow_47 : decode cX4_takeNow 47 = .ok (.getfield 10, 3) := by decide +kernel
theorem dX4_takeNow_50 : decode cX4_takeNow 50 = .ok (.dup, 1) := by decide +kernel
theorem dX4_takeNow_51 : decode cX4_takeNow 51 = .ok (.getfield 212, 3) := by decide +kernel
theorem dX4_takeNow_54 : decode cX4_takeNow 54 = .ok (.iconst 1, 1) := by decide +kernel
theorem dX4_takeNow_55 : decode cX4_takeNow 55 = .ok (.iadd, 1) := by decide +kernel
theorem dX4_takeNow_56 : decode cX4_takeNow 56 = .ok (.putfield 212, 3) := by decide +kernel
theorem dX4_takeNow_59 : decode cX4_takeNow 59 = .ok (.bipush 100, 2) := by decide +kernel
theorem dX4_takeNow_61 : decode cX4_takeNow 61 = .ok (.aload_n 3, 1) := by decide +kernel
theorem dX4_takeNow_62 : decode cX4_takeNow 62 = .ok (.getfield 111, 3) := by decide +kernel
theorem dX4_takeNow_65 : decode cX4_takeNow 65 = .ok (.imul, 1) := by decide +kernel
theorem dX4_takeNow_66 : decode cX4_takeNow 66 = .ok (.aload_n 0, 1) := by decide +kernel
theorem dX4_takeNow_67 : decode cX4_takeNow 67 = .ok (.getfield 10, 3) := by decide +kernel
theorem dX4_takeNow_70 : decode cX4_takeNow 70 = .ok (.getfield 95, 3) := by decide +kernel
theorem dX4_takeNow_73 : decode cX4_takeNow 73 = .ok (.aload_n 3, 1) := by decide +kernel
theorem dX4_takeNow_74 : decode cX4_takeNow 74 = .ok (.getfield 121, 3) := by decide +kernel
theorem dX4_takeNow_77 : decode cX4_takeNow 77 = .ok (.imul, 1) := by decide +kernel
theorem dX4_takeNow_78 : decode cX4_takeNow 78 = .ok (.if_icmp .ge 9, 3) := by decide +kernel
theorem dX4_takeNow_81 : decode cX4_takeNow 81 = .ok (.aload_n 0, 1) := by decide +kernel
theorem dX4_takeNow_82 : decode cX4_takeNow 82 = .ok (.aload_n 3, 1) := by decide +kernel
theorem dX4_takeNow_83 : decode cX4_takeNow 83 = .ok (.invokevirtual 260, 3) := by decide +kernel
theorem dX4_takeNow_86 : decode cX4_takeNow 86 = .ok (.pop, 1) := by decide +kernel
theorem dX4_takeNow_87 : decode cX4_takeNow 87 = .ok (.iload 5, 2) := by decide +kernel
theorem dX4_takeNow_89 : decode cX4_takeNow 89 = .ok (.ireturn, 1) := by decide +kernel
theorem dX4_buildNow_0 : decode cX4_buildNow 0 = .ok (.aload_n 0, 1) := by decide +kernel
theorem dX4_buildNow_1 : decode cX4_buildNow 1 = .ok (.getfield 10, 3) := by decide +kernel
theorem dX4_buildNow_4 : decode cX4_buildNow 4 = .ok (.iload_n 1, 1) := by decide +kernel
theorem dX4_buildNow_5 : decode cX4_buildNow 5 = .ok (.invokevirtual 71, 3) := by decide +kernel
theorem dX4_buildNow_8 : decode cX4_buildNow 8 = .ok (.astore_n 2, 1) := by decide +kernel
theorem dX4_buildNow_9 : decode cX4_buildNow 9 = .ok (.aload_n 2, 1) := by decide +kernel
theorem dX4_buildNow_10 : decode cX4_buildNow 10 = .ok (.ifnonnull 6, 3) := by decide +kernel
theorem dX4_buildNow_13 : decode cX4_buildNow 13 = .ok (.bipush (-11), 2) := by decide +kernel
theorem dX4_buildNow_15 : decode cX4_buildNow 15 = .ok (.ireturn, 1) := by decide +kernel
theorem dX4_buildNow_16 : decode cX4_buildNow 16 = .ok (.aload_n 2, 1) := by decide +kernel
theorem dX4_buildNow_17 : decode cX4_buildNow 17 = .ok (.getfield 111, 3) := by decide +kernel
theorem dX4_buildNow_20 : decode cX4_buildNow 20 = .ok (.ifCond .gt 10, 3) := by decide +kernel
theorem dX4_buildNow_23 : decode cX4_buildNow 23 = .ok (.aload_n 0, 1) := by decide +kernel
theorem dX4_buildNow_24 : decode cX4_buildNow 24 = .ok (.iconst 5, 1) := by decide +kernel
theorem dX4_buildNow_25 : decode cX4_buildNow 25 = .ok (.iload_n 1, 1) := by decide +kernel
theorem dX4_buildNow_26 : decode cX4_buildNow 26 = .ok (.invokevirtual 196, 3) := by decide +kernel
theorem dX4_buildNow_29 : decode cX4_buildNow 29 = .ok (.ireturn, 1) := by decide +kernel
theorem dX4_buildNow_30 : decode cX4_buildNow 30 = .ok (.aload_n 0, 1) := by decide +kernel
theorem dX4_buildNow_31 : decode cX4_buildNow 31 = .ok (.aload_n 2, 1) := by decide +kernel
theorem dX4_buildNow_32 : decode cX4_buildNow 32 = .ok (.invokevirtual 260, 3) := by decide +kernel
theorem dX4_buildNow_35 : decode cX4_buildNow 35 = .ok (.ireturn, 1) := by decide +kernel
theorem dX4_pourNow_0 : decode cX4_pourNow 0 = .ok (.aload_n 0, 1) := by decide +kernel
theorem dX4_pourNow_1 : decode cX4_pourNow 1 = .ok (.getfield 10, 3) := by decide +kernel
theorem dX4_pourNow_4 : decode cX4_pourNow 4 = .ok (.iload_n 1, 1) := by decide +kernel
theorem dX4_pourNow_5 : decode cX4_pourNow 5 = .ok (.invokevirtual 71, 3) := by decide +kernel
theorem dX4_pourNow_8 : decode cX4_pourNow 8 = .ok (.astore_n 3, 1) := by decide +kernel
theorem dX4_pourNow_9 : decode cX4_pourNow 9 = .ok (.aload_n 0, 1) := by decide +kernel
theorem dX4_pourNow_10 : decode cX4_pourNow 10 = .ok (.getfield 10, 3) := by decide +kernel
theorem dX4_pourNow_13 : decode cX4_pourNow 13 = .ok (.iload_n 2, 1) := by decide +kernel
theorem dX4_pourNow_14 : decode cX4_pourNow 14 = .ok (.invokevirtual 71, 3) := by decide +kernel
theorem dX4_pourNow_17 : decode cX4_pourNow 17 = .ok (.astore 4, 2) := by decide +kernel
theorem dX4_pourNow_19 : decode cX4_pourNow 19 = .ok (.aload_n 3, 1) := by decide +kernel
theorem dX4_pourNow_20 : decode cX4_pourNow 20 = .ok (.ifnull 8, 3) := by decide +kernel
theorem dX4_pourNow_23 : decode cX4_pourNow 23 = .ok (.aload 4, 2) := by decide +kernel
theorem dX4_pourNow_25 : decode cX4_pourNow 25 = .ok (.ifnonnull 6, 3) := by decide +kernel
theorem dX4_pourNow_28 : decode cX4_pourNow 28 = .ok (.bipush (-11), 2) := by decide +kernel
theorem dX4_pourNow_30 : decode cX4_pourNow 30 = .ok (.ireturn, 1) := by decide +kernel
theorem dX4_pourNow_31 : decode cX4_pourNow 31 = .ok (.iload_n 1, 1) := by decide +kernel
theorem dX4_pourNow_32 : decode cX4_pourNow 32 = .ok (.iload_n 2, 1) := by decide +kernel
theorem dX4_pourNow_33 : decode cX4_pourNow 33 = .ok (.if_icmp .ne 10, 3) := by decide +kernel
theorem dX4_pourNow_36 : decode cX4_pourNow 36 = .ok (.aload_n 0, 1) := by decide +kernel
theorem dX4_pourNow_37 : decode cX4_pourNow 37 = .ok (.iconst 3, 1) := by decide +kernel
theorem dX4_pourNow_38 : decode cX4_pourNow 38 = .ok (.iload_n 1, 1) := by decide +kernel
theorem dX4_pourNow_39 : decode cX4_pourNow 39 = .ok (.invokevirtual 196, 3) := by decide +kernel
theorem dX4_pourNow_42 : decode cX4_pourNow 42 = .ok (.ireturn, 1) := by decide +kernel
theorem dX4_pourNow_43 : decode cX4_pourNow 43 = .ok (.aload_n 3, 1) := by decide +kernel
theorem dX4_pourNow_44 : decode cX4_pourNow 44 = .ok (.getfield 111, 3) := by decide +kernel
theorem dX4_pourNow_47 : decode cX4_pourNow 47 = .ok (.ifCond .gt 10, 3) := by decide +kernel
theorem dX4_pourNow_50 : decode cX4_pourNow 50 = .ok (.aload_n 0, 1) := by decide +kernel
theorem dX4_pourNow_51 : decode cX4_pourNow 51 = .ok (.iconst 5, 1) := by decide +kernel
theorem dX4_pourNow_52 : decode cX4_pourNow 52 = .ok (.iload_n 1, 1) := by decide +kernel
theorem dX4_pourNow_53 : decode cX4_pourNow 53 = .ok (.invokevirtual 196, 3) := by decide +kernel
theorem dX4_pourNow_56 : decode cX4_pourNow 56 = .ok (.ireturn, 1) := by decide +kernel
theorem dX4_pourNow_57 : decode cX4_pourNow 57 = .ok (.aload_n 3, 1) := by decide +kernel
theorem dX4_pourNow_58 : decode cX4_pourNow 58 = .ok (.getfield 111, 3) := by decide +kernel
theorem dX4_pourNow_61 : decode cX4_pourNow 61 = .ok (.aload 4, 2) := by decide +kernel
theorem dX4_pourNow_63 : decode cX4_pourNow 63 = .ok (.getfield 111, 3) := by decide +kernel
theorem dX4_pourNow_66 : decode cX4_pourNow 66 = .ok (.iadd, 1) := by decide +kernel
theorem dX4_pourNow_67 : decode cX4_pourNow 67 = .ok (.bipush 30, 2) := by decide +kernel
theorem dX4_pourNow_69 : decode cX4_pourNow 69 = .ok (.if_icmp .le 19, 3) := by decide +kernel
theorem dX4_pourNow_72 : decode cX4_pourNow 72 = .ok (.aload_n 0, 1) := by decide +kernel
theorem dX4_pourNow_73 : decode cX4_pourNow 73 = .ok (.iconst 1, 1) := by decide +kernel
theorem dX4_pourNow_74 : decode cX4_pourNow 74 = .ok (.aload_n 3, 1) := by decide +kernel
theorem dX4_pourNow_75 : decode cX4_pourNow 75 = .ok (.getfield 111, 3) := by decide +kernel
theorem dX4_pourNow_78 : decode cX4_pourNow 78 = .ok (.aload 4, 2) := by decide +kernel
theorem dX4_pourNow_80 : decode cX4_pourNow 80 = .ok (.getfield 111, 3) := by decide +kernel
theorem dX4_pourNow_83 : decode cX4_pourNow 83 = .ok (.iadd, 1) := by decide +kernel
theorem dX4_pourNow_84 : decode cX4_pourNow 84 = .ok (.invokevirtual 196, 3) := by decide +kernel
theorem dX4_pourNow_87 : decode cX4_pourNow 87 = .ok (.ireturn, 1) := by decide +kernel
theorem dX4_pourNow_88 : decode cX4_pourNow 88 = .ok (.iconst 0, 1) := by decide +kernel
theorem dX4_pourNow_89 : decode cX4_pourNow 89 = .ok (.istore 5, 2) := by decide +kernel
theorem dX4_pourNow_91 : decode cX4_pourNow 91 = .ok (.iload 5, 2) := by decide +kernel
theorem dX4_pourNow_93 : decode cX4_pourNow 93 = .ok (.aload_n 3, 1) := by decide +kernel
theorem dX4_pourNow_94 : decode cX4_pourNow 94 = .ok (.getfield 111, 3) := by decide +kernel
theorem dX4_pourNow_97 : decode cX4_pourNow 97 = .ok (.if_icmp .ge 36, 3) := by decide +kernel
theorem dX4_pourNow_100 : decode cX4_pourNow 100 = .ok (.aload 4, 2) := by decide +kernel
theorem dX4_pourNow_102 : decode cX4_pourNow 102 = .ok (.aload_n 3, 1) := by decide +kernel
theorem dX4_pourNow_103 : decode cX4_pourNow 103 = .ok (.iload 5, 2) := by decide +kernel
theorem dX4_pourNow_105 : decode cX4_pourNow 105 = .ok (.invokevirtual 105, 3) := by decide +kernel
theorem dX4_pourNow_108 : decode cX4_pourNow 108 = .ok (.invokevirtual 75, 3) := by decide +kernel
theorem dX4_pourNow_111 : decode cX4_pourNow 111 = .ok (.iconst (-1), 1) := by decide +kernel
theorem dX4_pourNow_112 : decode cX4_pourNow 112 = .ok (.if_icmp .eq 15, 3) := by decide +kernel
theorem dX4_pourNow_115 : decode cX4_pourNow 115 = .ok (.aload_n 0, 1) := by decide +kernel
theorem dX4_pourNow_116 : decode cX4_pourNow 116 = .ok (.iconst 2, 1) := by decide +kernel
theorem dX4_pourNow_117 : decode cX4_pourNow 117 = .ok (.aload_n 3, 1) := by decide +kernel
theorem dX4_pourNow_118 : decode cX4_pourNow 118 = .ok (.iload 5, 2) := by decide +kernel
theorem dX4_pourNow_120 : decode cX4_pourNow 120 = .ok (.invokevirtual 105, 3) := by decide +kernel
theorem dX4_pourNow_123 : decode cX4_pourNow 123 = .ok (.invokevirtual 196, 3) := by decide +kernel
theorem dX4_pourNow_126 : decode cX4_pourNow 126 = .ok (.ireturn, 1) := by decide +kernel
theorem dX4_pourNow_127 : decode cX4_pourNow 127 = .ok (.iinc 5 1, 3) := by decide +kernel
theorem dX4_pourNow_130 : decode cX4_pourNow 130 = .ok (.goto (-39), 3) := by decide +kernel
theorem dX4_pourNow_133 : decode cX4_pourNow 133 = .ok (.iconst 0, 1) := by decide +kernel
theorem dX4_pourNow_134 : decode cX4_pourNow 134 = .ok (.istore 5, 2) := by decide +kernel
theorem dX4_pourNow_136 : decode cX4_pourNow 136 = .ok (.iload 5, 2) := by decide +kernel
theorem dX4_pourNow_138 : decode cX4_pourNow 138 = .ok (.aload_n 3, 1) := by decide +kernel
theorem dX4_pourNow_139 : decode cX4_pourNow 139 = .ok (.getfield 111, 3) := by decide +kernel
theorem dX4_pourNow_142 : decode cX4_pourNow 142 = .ok (.if_icmp .ge 27, 3) := by decide +kernel
theorem dX4_pourNow_145 : decode cX4_pourNow 145 = .ok (.aload 4, 2) := by decide +kernel
theorem dX4_pourNow_147 : decode cX4_pourNow 147 = .ok (.aload_n 3, 1) := by decide +kernel
theorem dX4_pourNow_148 : decode cX4_pourNow 148 = .ok (.iload 5, 2) := by decide +kernel
theorem dX4_pourNow_150 : decode cX4_pourNow 150 = .ok (.invokevirtual 105, 3) := by decide +kernel
theorem dX4_pourNow_153 : decode cX4_pourNow 153 = .ok (.aload_n 3, 1) := by decide +kernel
theorem dX4_pourNow_154 : decode cX4_pourNow 154 = .ok (.iload 5, 2) := by decide +kernel
theorem dX4_pourNow_156 : decode cX4_pourNow 156 = .ok (.invokevirtual 86, 3) := by decide +kernel
theorem dX4_pourNow_159 : decode cX4_pourNow 159 = .ok (.invokevirtual 245, 3) := by decide +kernel
theorem dX4_pourNow_162 : decode cX4_pourNow 162 = .ok (.pop, 1) := by decide +kernel
theorem dX4_pourNow_163 : decode cX4_pourNow 163 = .ok (.iinc 5 1, 3) := by decide +kernel
theorem dX4_pourNow_166 : decode cX4_pourNow 166 = .ok (.goto (-30), 3) := by decide +kernel
theorem dX4_pourNow_169 : decode cX4_pourNow 169 = .ok (.aload_n 3, 1) := by decide +kernel
theorem dX4_pourNow_170 : decode cX4_pourNow 170 = .ok (.iconst 0, 1) := by decide +kernel
theorem dX4_pourNow_171 : decode cX4_pourNow 171 = .ok (.putfield 111, 3) := by decide +kernel
theorem dX4_pourNow_174 : decode cX4_pourNow 174 = .ok (.aload_n 3, 1) := by decide +kernel
theorem dX4_pourNow_175 : decode cX4_pourNow 175 = .ok (.iconst 0, 1) := by decide +kernel
theorem dX4_pourNow_176 : decode cX4_pourNow 176 = .ok (.putfield 121, 3) := by decide +kernel
theorem dX4_pourNow_179 : decode cX4_pourNow 179 = .ok (.aload_n 0, 1) := by decide +kernel
theorem dX4_pourNow_180 : decode cX4_pourNow 180 = .ok (.aload 4, 2) := by decide +kernel
theorem dX4_pourNow_182 : decode cX4_pourNow 182 = .ok (.invokevirtual 260, 3) := by decide +kernel
theorem dX4_pourNow_185 : decode cX4_pourNow 185 = .ok (.pop, 1) := by decide +kernel
theorem dX4_pourNow_186 : decode cX4_pourNow 186 = .ok (.aload_n 0, 1) := by decide +kernel
theorem dX4_pourNow_187 : decode cX4_pourNow 187 = .ok (.getfield 10, 3) := by decide +kernel
theorem dX4_pourNow_190 : decode cX4_pourNow 190 = .ok (.dup, 1) := by decide +kernel
theorem dX4_pourNow_191 : decode cX4_pourNow 191 = .ok (.getfield 224, 3) := by decide +kernel
theorem dX4_pourNow_194 : decode cX4_pourNow 194 = .ok (.iconst 1, 1) := by decide +kernel
theorem dX4_pourNow_195 : decode cX4_pourNow 195 = .ok (.iadd, 1) := by decide +kernel
theorem dX4_pourNow_196 : decode cX4_pourNow 196 = .ok (.putfield 224, 3) := by decide +kernel
theorem dX4_pourNow_199 : decode cX4_pourNow 199 = .ok (.aload 4, 2) := by decide +kernel
theorem dX4_pourNow_201 : decode cX4_pourNow 201 = .ok (.getfield 111, 3) := by decide +kernel
theorem dX4_pourNow_204 : decode cX4_pourNow 204 = .ok (.ireturn, 1) := by decide +kernel
theorem dX4_limitNow_0 : decode cX4_limitNow 0 = .ok (.iload_n 1, 1) := by decide +kernel
theorem dX4_limitNow_1 : decode cX4_limitNow 1 = .ok (.bipush 55, 2) := by decide +kernel
theorem dX4_limitNow_3 : decode cX4_limitNow 3 = .ok (.if_icmp .lt 9, 3) := by decide +kernel
theorem dX4_limitNow_6 : decode cX4_limitNow 6 = .ok (.iload_n 1, 1) := by decide +kernel
theorem dX4_limitNow_7 : decode cX4_limitNow 7 = .ok (.bipush 90, 2) := by decide +kernel
theorem dX4_limitNow_9 : decode cX4_limitNow 9 = .ok (.if_icmp .le 6, 3) := by decide +kernel
theorem dX4_limitNow_12 : decode cX4_limitNow 12 = .ok (.bipush (-12), 2) := by decide +kernel
theorem dX4_limitNow_14 : decode cX4_limitNow 14 = .ok (.ireturn, 1) := by decide +kernel
theorem dX4_limitNow_15 : decode cX4_limitNow 15 = .ok (.iload_n 1, 1) := by decide +kernel
theorem dX4_limitNow_16 : decode cX4_limitNow 16 = .ok (.aload_n 0, 1) := by decide +kernel
theorem dX4_limitNow_17 : decode cX4_limitNow 17 = .ok (.getfield 10, 3) := by decide +kernel
theorem dX4_limitNow_20 : decode cX4_limitNow 20 = .ok (.getfield 95, 3) := by decide +kernel
theorem dX4_limitNow_23 : decode cX4_limitNow 23 = .ok (.if_icmp .ne 10, 3) := by decide +kernel
theorem dX4_limitNow_26 : decode cX4_limitNow 26 = .ok (.aload_n 0, 1) := by decide +kernel
theorem dX4_limitNow_27 : decode cX4_limitNow 27 = .ok (.iconst 4, 1) := by decide +kernel
theorem dX4_limitNow_28 : decode cX4_limitNow 28 = .ok (.iload_n 1, 1) := by decide +kernel
theorem dX4_limitNow_29 : decode cX4_limitNow 29 = .ok (.invokevirtual 196, 3) := by decide +kernel
theorem dX4_limitNow_32 : decode cX4_limitNow 32 = .ok (.ireturn, 1) := by decide +kernel
theorem dX4_limitNow_33 : decode cX4_limitNow 33 = .ok (.aload_n 0, 1) := by decide +kernel
theorem dX4_limitNow_34 : decode cX4_limitNow 34 = .ok (.getfield 10, 3) := by decide +kernel
theorem dX4_limitNow_37 : decode cX4_limitNow 37 = .ok (.getfield 95, 3) := by decide +kernel
theorem dX4_limitNow_40 : decode cX4_limitNow 40 = .ok (.istore_n 2, 1) := by decide +kernel
theorem dX4_limitNow_41 : decode cX4_limitNow 41 = .ok (.aload_n 0, 1) := by decide +kernel
theorem dX4_limitNow_42 : decode cX4_limitNow 42 = .ok (.getfield 10, 3) := by decide +kernel
theorem dX4_limitNow_45 : decode cX4_limitNow 45 = .ok (.iload_n 1, 1) := by decide +kernel
theorem dX4_limitNow_46 : decode cX4_limitNow 46 = .ok (.putfield 95, 3) := by decide +kernel
theorem dX4_limitNow_49 : decode cX4_limitNow 49 = .ok (.iload_n 2, 1) := by decide +kernel
theorem dX4_limitNow_50 : decode cX4_limitNow 50 = .ok (.ireturn, 1) := by decide +kernel
theorem dX4_buildWhole_0 : decode cX4_buildWhole 0 = .ok (.aload_n 1, 1) := by decide +kernel
theorem dX4_buildWhole_1 : decode cX4_buildWhole 1 = .ok (.invokevirtual 264, 3) := by decide +kernel
theorem dX4_buildWhole_4 : decode cX4_buildWhole 4 = .ok (.istore_n 2, 1) := by decide +kernel
theorem dX4_buildWhole_5 : decode cX4_buildWhole 5 = .ok (.aload_n 0, 1) := by decide +kernel
theorem dX4_buildWhole_6 : decode cX4_buildWhole 6 = .ok (.getfield 10, 3) := by decide +kernel
theorem dX4_buildWhole_9 : decode cX4_buildWhole 9 = .ok (.dup, 1) := by decide +kernel
theorem dX4_buildWhole_10 : decode cX4_buildWhole 10 = .ok (.getfield 218, 3) := by decide +kernel
theorem dX4_buildWhole_13 : decode cX4_buildWhole 13 = .ok (.iconst 1, 1) := by decide +kernel
theorem dX4_buildWhole_14 : decode cX4_buildWhole 14 = .ok (.iadd, 1) := by decide +kernel
theorem dX4_buildWhole_15 : decode cX4_buildWhole 15 = .ok (.putfield 218, 3) := by decide +kernel
theorem dX4_buildWhole_18 : decode cX4_buildWhole 18 = .ok (.aload_n 0, 1) := by decide +kernel
theorem dX4_buildWhole_19 : decode cX4_buildWhole 19 = .ok (.getfield 10, 3) := by decide +kernel
theorem dX4_buildWhole_22 : decode cX4_buildWhole 22 = .ok (.dup, 1) := by decide +kernel
theorem dX4_buildWhole_23 : decode cX4_buildWhole 23 = .ok (.getfield 221, 3) := by decide +kernel
theorem dX4_buildWhole_26 : decode cX4_buildWhole 26 = .ok (.aload_n 1, 1) := by decide +kernel
theorem dX4_buildWhole_27 : decode cX4_buildWhole 27 = .ok (.getfield 111, 3) := by decide +kernel
theorem dX4_buildWhole_30 : decode cX4_buildWhole 30 = .ok (.iadd, 1) := by decide +kernel
theorem dX4_buildWhole_31 : decode cX4_buildWhole 31 = .ok (.putfield 221, 3) := by decide +kernel
theorem dX4_buildWhole_34 : decode cX4_buildWhole 34 = .ok (.iload_n 2, 1) := by decide +kernel
theorem dX4_buildWhole_35 : decode cX4_buildWhole 35 = .ok (.ireturn, 1) := by decide +kernel
theorem dX4_carryOut_0 : decode cX4_carryOut 0 = .ok (.aload_n 0, 1) := by decide +kernel
theorem dX4_carryOut_1 : decode cX4_carryOut 1 = .ok (.getfield 36, 3) := by decide +kernel
theorem dX4_carryOut_4 : decode cX4_carryOut 4 = .ok (.iload_n 1, 1) := by decide +kernel
theorem dX4_carryOut_5 : decode cX4_carryOut 5 = .ok (.iconst 0, 1) := by decide +kernel
theorem dX4_carryOut_6 : decode cX4_carryOut 6 = .ok (.invokevirtual 266, 3) := by decide +kernel
theorem dX4_carryOut_9 : decode cX4_carryOut 9 = .ok (.istore_n 2, 1) := by decide +kernel
theorem dX4_carryOut_10 : decode cX4_carryOut 10 = .ok (.aload_n 0, 1) := by decide +kernel
theorem dX4_carryOut_11 : decode cX4_carryOut 11 = .ok (.getfield 36, 3) := by decide +kernel
theorem dX4_carryOut_14 : decode cX4_carryOut 14 = .ok (.iload_n 1, 1) := by decide +kernel
theorem dX4_carryOut_15 : decode cX4_carryOut 15 = .ok (.iconst 1, 1) := by decide +kernel
theorem dX4_carryOut_16 : decode cX4_carryOut 16 = .ok (.invokevirtual 266, 3) := by decide +kernel
theorem dX4_carryOut_19 : decode cX4_carryOut 19 = .ok (.istore_n 3, 1) := by decide +kernel
theorem dX4_carryOut_20 : decode cX4_carryOut 20 = .ok (.aload_n 0, 1) := by decide +kernel
theorem dX4_carryOut_21 : decode cX4_carryOut 21 = .ok (.getfield 36, 3) := by decide +kernel
theorem dX4_carryOut_24 : decode cX4_carryOut 24 = .ok (.iload_n 1, 1) := by decide +kernel
theorem dX4_carryOut_25 : decode cX4_carryOut 25 = .ok (.invokevirtual 269, 3) := by decide +kernel
theorem dX4_carryOut_28 : decode cX4_carryOut 28 = .ok (.lookupswitch 80 #[(43, 44), (45, 60), (61, 67), (62, 73)], 44) := by decide +kernel
theorem dX4_carryOut_72 : decode cX4_carryOut 72 = .ok (.aload_n 0, 1) := by decide +kernel
theorem dX4_carryOut_73 : decode cX4_carryOut 73 = .ok (.iload_n 2, 1) := by decide +kernel
theorem dX4_carryOut_74 : decode cX4_carryOut 74 = .ok (.iload_n 3, 1) := by decide +kernel
theorem dX4_carryOut_75 : decode cX4_carryOut 75 = .ok (.aload_n 0, 1) := by decide +kernel
theorem dX4_carryOut_76 : decode cX4_carryOut 76 = .ok (.getfield 36, 3) := by decide +kernel
theorem dX4_carryOut_79 : decode cX4_carryOut 79 = .ok (.iload_n 1, 1) := by decide +kernel
theorem dX4_carryOut_80 : decode cX4_carryOut 80 = .ok (.iconst 2, 1) := by decide +kernel
theorem dX4_carryOut_81 : decode cX4_carryOut 81 = .ok (.invokevirtual 266, 3) := by decide +kernel
theorem dX4_carryOut_84 : decode cX4_carryOut 84 = .ok (.invokevirtual 50, 3) := by decide +kernel
theorem dX4_carryOut_87 : decode cX4_carryOut 87 = .ok (.ireturn, 1) := by decide +kernel
theorem dX4_carryOut_88 : decode cX4_carryOut 88 = .ok (.aload_n 0, 1) := by decide +kernel
theorem dX4_carryOut_89 : decode cX4_carryOut 89 = .ok (.iload_n 2, 1) := by decide +kernel
theorem dX4_carryOut_90 : decode cX4_carryOut 90 = .ok (.iload_n 3, 1) := by decide +kernel
theorem dX4_carryOut_91 : decode cX4_carryOut 91 = .ok (.invokevirtual 58, 3) := by decide +kernel
theorem dX4_carryOut_94 : decode cX4_carryOut 94 = .ok (.ireturn, 1) := by decide +kernel
theorem dX4_carryOut_95 : decode cX4_carryOut 95 = .ok (.aload_n 0, 1) := by decide +kernel
theorem dX4_carryOut_96 : decode cX4_carryOut 96 = .ok (.iload_n 2, 1) := by decide +kernel
theorem dX4_carryOut_97 : decode cX4_carryOut 97 = .ok (.invokevirtual 62, 3) := by decide +kernel
theorem dX4_carryOut_100 : decode cX4_carryOut 100 = .ok (.ireturn, 1) := by decide +kernel
theorem dX4_carryOut_101 : decode cX4_carryOut 101 = .ok (.aload_n 0, 1) := by decide +kernel
theorem dX4_carryOut_102 : decode cX4_carryOut 102 = .ok (.iload_n 2, 1) := by decide +kernel
theorem dX4_carryOut_103 : decode cX4_carryOut 103 = .ok (.iload_n 3, 1) := by decide +kernel
theorem dX4_carryOut_104 : decode cX4_carryOut 104 = .ok (.invokevirtual 65, 3) := by decide +kernel
theorem dX4_carryOut_107 : decode cX4_carryOut 107 = .ok (.ireturn, 1) := by decide +kernel
theorem dX4_carryOut_108 : decode cX4_carryOut 108 = .ok (.aload_n 0, 1) := by decide +kernel
theorem dX4_carryOut_109 : decode cX4_carryOut 109 = .ok (.iload_n 2, 1) := by decide +kernel
theorem dX4_carryOut_110 : decode cX4_carryOut 110 = .ok (.invokevirtual 68, 3) := by decide +kernel
theorem dX4_carryOut_113 : decode cX4_carryOut 113 = .ok (.ireturn, 1) := by decide +kernel
theorem dX4_refuse_0 : decode cX4_refuse 0 = .ok (.aload_n 0, 1) := by decide +kernel
theorem dX4_refuse_1 : decode cX4_refuse 1 = .ok (.iload_n 1, 1) := by decide +kernel
theorem dX4_refuse_2 : decode cX4_refuse 2 = .ok (.putfield 40, 3) := by decide +kernel
theorem dX4_refuse_5 : decode cX4_refuse 5 = .ok (.aload_n 0, 1) := by decide +kernel
theorem dX4_refuse_6 : decode cX4_refuse 6 = .ok (.iload_n 2, 1) := by decide +kernel
theorem dX4_refuse_7 : decode cX4_refuse 7 = .ok (.putfield 44, 3) := by decide +kernel
theorem dX4_refuse_10 : decode cX4_refuse 10 = .ok (.bipush (-14), 2) := by decide +kernel
theorem dX4_refuse_12 : decode cX4_refuse 12 = .ok (.ireturn, 1) := by decide +kernel
theorem dX4_hold_0 : decode cX4_hold 0 = .ok (.aload_n 0, 1) := by decide +kernel
theorem dX4_hold_1 : decode cX4_hold 1 = .ok (.invokevirtual 272, 3) := by decide +kernel
theorem dX4_hold_4 : decode cX4_hold 4 = .ok (.astore_n 1, 1) := by decide +kernel
theorem dX4_hold_5 : decode cX4_hold 5 = .ok (.aload_n 1, 1) := by decide +kernel
theorem dX4_hold_6 : decode cX4_hold 6 = .ok (.ifnull 11, 3) := by decide +kernel
theorem dX4_hold_9 : decode cX4_hold 9 = .ok (.aload_n 1, 1) := by decide +kernel
theorem dX4_hold_10 : decode cX4_hold 10 = .ok (.aload_n 0, 1) := by decide +kernel
theorem dX4_hold_11 : decode cX4_hold 11 = .ok (.getfield 10, 3) := by decide +kernel
theorem dX4_hold_14 : decode cX4_hold 14 = .ok (.invokevirtual 237, 3) := by decide +kernel
theorem dX4_hold_17 : decode cX4_hold 17 = .ok (.return_, 1) := by decide +kernel
theorem dX4_keep_0 : decode cX4_keep 0 = .ok (.iload_n 1, 1) := by decide +kernel
theorem dX4_keep_1 : decode cX4_keep 1 = .ok (.ifCond .lt 31, 3) := by decide +kernel
theorem dX4_keep_4 : decode cX4_keep 4 = .ok (.aload_n 0, 1) := by decide +kernel
theorem dX4_keep_5 : decode cX4_keep 5 = .ok (.aload_n 0, 1) := by decide +kernel
theorem dX4_keep_6 : decode cX4_keep 6 = .ok (.getfield 234, 3) := by decide +kernel
theorem dX4_keep_9 : decode cX4_keep 9 = .ok (.iconst 1, 1) := by decide +kernel
theorem dX4_keep_10 : decode cX4_keep 10 = .ok (.iadd, 1) := by decide +kernel
theorem dX4_keep_11 : decode cX4_keep 11 = .ok (.bipush 9, 2) := by decide +kernel
theorem dX4_keep_13 : decode cX4_keep 13 = .ok (.irem, 1) := by decide +kernel
theorem dX4_keep_14 : decode cX4_keep 14 = .ok (.putfield 234, 3) := by decide +kernel
theorem dX4_keep_17 : decode cX4_keep 17 = .ok (.aload_n 0, 1) := by decide +kernel
theorem dX4_keep_18 : decode cX4_keep 18 = .ok (.aload_n 0, 1) := by decide +kernel
theorem dX4_keep_19 : decode cX4_keep 19 = .ok (.getfield 227, 3) := by decide +kernel
theorem dX4_keep_22 : decode cX4_keep 22 = .ok (.iconst 1, 1) := by decide +kernel
theorem dX4_keep_23 : decode cX4_keep 23 = .ok (.iadd, 1) := by decide +kernel
theorem dX4_keep_24 : decode cX4_keep 24 = .ok (.bipush 8, 2) := by decide +kernel
theorem dX4_keep_26 : decode cX4_keep 26 = .ok (.invokestatic 276, 3) := by decide +kernel
theorem dX4_keep_29 : decode cX4_keep 29 = .ok (.putfield 227, 3) := by decide +kernel
theorem dX4_keep_32 : decode cX4_keep 32 = .ok (.iload_n 1, 1) := by decide +kernel
theorem dX4_keep_33 : decode cX4_keep 33 = .ok (.ireturn, 1) := by decide +kernel
theorem dX4_giveBack_0 : decode cX4_giveBack 0 = .ok (.aload_n 0, 1) := by decide +kernel
theorem dX4_giveBack_1 : decode cX4_giveBack 1 = .ok (.invokevirtual 272, 3) := by decide +kernel
theorem dX4_giveBack_4 : decode cX4_giveBack 4 = .ok (.astore_n 1, 1) := by decide +kernel
theorem dX4_giveBack_5 : decode cX4_giveBack 5 = .ok (.aload_n 1, 1) := by decide +kernel
theorem dX4_giveBack_6 : decode cX4_giveBack 6 = .ok (.ifnull 11, 3) := by decide +kernel
theorem dX4_giveBack_9 : decode cX4_giveBack 9 = .ok (.aload_n 0, 1) := by decide +kernel
theorem dX4_giveBack_10 : decode cX4_giveBack 10 = .ok (.getfield 10, 3) := by decide +kernel
theorem dX4_giveBack_13 : decode cX4_giveBack 13 = .ok (.aload_n 1, 1) := by decide +kernel
theorem dX4_giveBack_14 : decode cX4_giveBack 14 = .ok (.invokevirtual 237, 3) := by decide +kernel
theorem dX4_giveBack_17 : decode cX4_giveBack 17 = .ok (.return_, 1) := by decide +kernel
theorem dX4_beforeNow_0 : decode cX4_beforeNow 0 = .ok (.aload_n 0, 1) := by decide +kernel
theorem dX4_beforeNow_1 : decode cX4_beforeNow 1 = .ok (.getfield 234, 3) := by decide +kernel
theorem dX4_beforeNow_4 : decode cX4_beforeNow 4 = .ok (.ifCond .lt 27, 3) := by decide +kernel
theorem dX4_beforeNow_7 : decode cX4_beforeNow 7 = .ok (.aload_n 0, 1) := by decide +kernel
theorem dX4_beforeNow_8 : decode cX4_beforeNow 8 = .ok (.getfield 234, 3) := by decide +kernel
theorem dX4_beforeNow_11 : decode cX4_beforeNow 11 = .ok (.aload_n 0, 1) := by decide +kernel
theorem dX4_beforeNow_12 : decode cX4_beforeNow 12 = .ok (.getfield 19, 3) := by decide +kernel
theorem dX4_beforeNow_15 : decode cX4_beforeNow 15 = .ok (.arraylength, 1) := by decide +kernel
theorem dX4_beforeNow_16 : decode cX4_beforeNow 16 = .ok (.if_icmp .ge 15, 3) := by decide +kernel
theorem dX4_beforeNow_19 : decode cX4_beforeNow 19 = .ok (.aload_n 0, 1) := by decide +kernel
theorem dX4_beforeNow_20 : decode cX4_beforeNow 20 = .ok (.getfield 19, 3) := by decide +kernel
theorem dX4_beforeNow_23 : decode cX4_beforeNow 23 = .ok (.aload_n 0, 1) := by decide +kernel
theorem dX4_beforeNow_24 : decode cX4_beforeNow 24 = .ok (.getfield 234, 3) := by decide +kernel
theorem dX4_beforeNow_27 : decode cX4_beforeNow 27 = .ok (.aaload, 1) := by decide +kernel
theorem dX4_beforeNow_28 : decode cX4_beforeNow 28 = .ok (.goto 4, 3) := by decide +kernel
theorem dX4_beforeNow_31 : decode cX4_beforeNow 31 = .ok (.aconst_null, 1) := by decide +kernel
theorem dX4_beforeNow_32 : decode cX4_beforeNow 32 = .ok (.areturn, 1) := by decide +kernel
theorem dX4_isBears_0 : decode cX4_isBears 0 = .ok (.iload_n 0, 1) := by decide +kernel
theorem dX4_isBears_1 : decode cX4_isBears 1 = .ok (.bipush 99, 2) := by decide +kernel
theorem dX4_isBears_3 : decode cX4_isBears 3 = .ok (.if_icmp .lt 14, 3) := by decide +kernel
theorem dX4_isBears_6 : decode cX4_isBears 6 = .ok (.iload_n 0, 1) := by decide +kernel
theorem dX4_isBears_7 : decode cX4_isBears 7 = .ok (.sipush 999, 3) := by decide +kernel
theorem dX4_isBears_10 : decode cX4_isBears 10 = .ok (.if_icmp .gt 7, 3) := by decide +kernel
theorem dX4_isBears_13 : decode cX4_isBears 13 = .ok (.iconst 1, 1) := by decide +kernel
theorem dX4_isBears_14 : decode cX4_isBears 14 = .ok (.goto 4, 3) := by decide +kernel
theorem dX4_isBears_17 : decode cX4_isBears 17 = .ok (.iconst 0, 1) := by decide +kernel
theorem dX4_isBears_18 : decode cX4_isBears 18 = .ok (.ireturn, 1) := by decide +kernel
theorem dX4_depthFor_0 : decode cX4_depthFor 0 = .ok (.iconst (-1), 1) := by decide +kernel
theorem dX4_depthFor_1 : decode cX4_depthFor 1 = .ok (.istore_n 2, 1) := by decide +kernel
theorem dX4_depthFor_2 : decode cX4_depthFor 2 = .ok (.iload_n 0, 1) := by decide +kernel
theorem dX4_depthFor_3 : decode cX4_depthFor 3 = .ok (.istore_n 3, 1) := by decide +kernel
theorem dX4_depthFor_4 : decode cX4_depthFor 4 = .ok (.iconst 0, 1) := by decide +kernel
theorem dX4_depthFor_5 : decode cX4_depthFor 5 = .ok (.istore 4, 2) := by decide +kernel
theorem dX4_depthFor_7 : decode cX4_depthFor 7 = .ok (.iload 4, 2) := by decide +kernel
theorem dX4_depthFor_9 : decode cX4_depthFor 9 = .ok (.bipush 30, 2) := by decide +kernel
theorem dX4_depthFor_11 : decode cX4_depthFor 11 = .ok (.if_icmp .ge 23, 3) := by decide +kernel
theorem dX4_depthFor_14 : decode cX4_depthFor 14 = .ok (.iload_n 3, 1) := by decide +kernel
theorem dX4_depthFor_15 : decode cX4_depthFor 15 = .ok (.ifCond .le 19, 3) := by decide +kernel
theorem dX4_depthFor_18 : decode cX4_depthFor 18 = .ok (.iload_n 3, 1) := by decide +kernel
theorem dX4_depthFor_19 : decode cX4_depthFor 19 = .ok (.iload_n 1, 1) := by decide +kernel
theorem dX4_depthFor_20 : decode cX4_depthFor 20 = .ok (.imul, 1) := by decide +kernel
theorem dX4_depthFor_21 : decode cX4_depthFor 21 = .ok (.bipush 100, 2) := by decide +kernel
theorem dX4_depthFor_23 : decode cX4_depthFor 23 = .ok (.idiv, 1) := by decide +kernel
theorem dX4_depthFor_24 : decode cX4_depthFor 24 = .ok (.istore_n 3, 1) := by decide +kernel
theorem dX4_depthFor_25 : decode cX4_depthFor 25 = .ok (.iinc 2 1, 3) := by decide +kernel
theorem dX4_depthFor_28 : decode cX4_depthFor 28 = .ok (.iinc 4 1, 3) := by decide +kernel
theorem dX4_depthFor_31 : decode cX4_depthFor 31 = .ok (.goto (-24), 3) := by decide +kernel
theorem dX4_depthFor_34 : decode cX4_depthFor 34 = .ok (.iload_n 2, 1) := by decide +kernel
theorem dX4_depthFor_35 : decode cX4_depthFor 35 = .ok (.iconst 0, 1) := by decide +kernel
theorem dX4_depthFor_36 : decode cX4_depthFor 36 = .ok (.invokestatic 248, 3) := by decide +kernel
theorem dX4_depthFor_39 : decode cX4_depthFor 39 = .ok (.ireturn, 1) := by decide +kernel
theorem dX4_shapeOf_0 : decode cX4_shapeOf 0 = .ok (.aload_n 0, 1) := by decide +kernel
theorem dX4_shapeOf_1 : decode cX4_shapeOf 1 = .ok (.iload_n 1, 1) := by decide +kernel
theorem dX4_shapeOf_2 : decode cX4_shapeOf 2 = .ok (.iload_n 2, 1) := by decide +kernel
theorem dX4_shapeOf_3 : decode cX4_shapeOf 3 = .ok (.invokevirtual 108, 3) := by decide +kernel
theorem dX4_shapeOf_6 : decode cX4_shapeOf 6 = .ok (.istore 6, 2) := by decide +kernel
theorem dX4_shapeOf_8 : decode cX4_shapeOf 8 = .ok (.iload 6, 2) := by decide +kernel
theorem dX4_shapeOf_10 : decode cX4_shapeOf 10 = .ok (.iconst (-1), 1) := by decide +kernel
theorem dX4_shapeOf_11 : decode cX4_shapeOf 11 = .ok (.if_icmp .eq 10, 3) := by decide +kernel
theorem dX4_shapeOf_14 : decode cX4_shapeOf 14 = .ok (.iload 5, 2) := by decide +kernel
theorem dX4_shapeOf_16 : decode cX4_shapeOf 16 = .ok (.bipush 30, 2) := by decide +kernel
theorem dX4_shapeOf_18 : decode cX4_shapeOf 18 = .ok (.if_icmp .le 7, 3) := by decide +kernel
theorem dX4_shapeOf_21 : decode cX4_shapeOf 21 = .ok (.lload_n 3, 1) := by decide +kernel
theorem dX4_shapeOf_22 : decode cX4_shapeOf 22 = .ok (.iconst 1, 1) := by decide +kernel
theorem dX4_shapeOf_23 : decode cX4_shapeOf 23 = .ok (.lshl, 1) := by decide +kernel
theorem dX4_shapeOf_24 : decode cX4_shapeOf 24 = .ok (.lreturn, 1) := by decide +kernel
theorem dX4_shapeOf_25 : decode cX4_shapeOf 25 = .ok (.aload_n 0, 1) := by decide +kernel
theorem dX4_shapeOf_26 : decode cX4_shapeOf 26 = .ok (.iload_n 1, 1) := by decide +kernel
theorem dX4_shapeOf_27 : decode cX4_shapeOf 27 = .ok (.iload 6, 2) := by decide +kernel
theorem dX4_shapeOf_29 : decode cX4_shapeOf 29 = .ok (.iconst 1, 1) := by decide +kernel
theorem dX4_shapeOf_30 : decode cX4_shapeOf 30 = .ok (.isub, 1) := by decide +kernel
theorem dX4_shapeOf_31 : decode cX4_shapeOf 31 = .ok (.lload_n 3, 1) := by decide +kernel
theorem dX4_shapeOf_32 : decode cX4_shapeOf 32 = .ok (.iconst 1, 1) := by decide +kernel
theorem dX4_shapeOf_33 : decode cX4_shapeOf 33 = .ok (.lshl, 1) := by decide +kernel
theorem dX4_shapeOf_34 : decode cX4_shapeOf 34 = .ok (.lconst 1, 1) := by decide +kernel
theorem dX4_shapeOf_35 : decode cX4_shapeOf 35 = .ok (.lor, 1) := by decide +kernel
theorem dX4_shapeOf_36 : decode cX4_shapeOf 36 = .ok (.iload 5, 2) := by decide +kernel
theorem dX4_shapeOf_38 : decode cX4_shapeOf 38 = .ok (.iconst 1, 1) := by decide +kernel
theorem dX4_shapeOf_39 : decode cX4_shapeOf 39 = .ok (.iadd, 1) := by decide +kernel
theorem dX4_shapeOf_40 : decode cX4_shapeOf 40 = .ok (.invokestatic 163, 3) := by decide +kernel
theorem dX4_shapeOf_43 : decode cX4_shapeOf 43 = .ok (.lstore 7, 2) := by decide +kernel
theorem dX4_shapeOf_45 : decode cX4_shapeOf 45 = .ok (.aload_n 0, 1) := by decide +kernel
theorem dX4_shapeOf_46 : decode cX4_shapeOf 46 = .ok (.iload 6, 2) := by decide +kernel
theorem dX4_shapeOf_48 : decode cX4_shapeOf 48 = .ok (.iconst 1, 1) := by decide +kernel
theorem dX4_shapeOf_49 : decode cX4_shapeOf 49 = .ok (.iadd, 1) := by decide +kernel
theorem dX4_shapeOf_50 : decode cX4_shapeOf 50 = .ok (.iload_n 2, 1) := by decide +kernel
theorem dX4_shapeOf_51 : decode cX4_shapeOf 51 = .ok (.lload 7, 2) := by decide +kernel
theorem dX4_shapeOf_53 : decode cX4_shapeOf 53 = .ok (.iload 5, 2) := by decide +kernel
theorem dX4_shapeOf_55 : decode cX4_shapeOf 55 = .ok (.iconst 1, 1) := by decide +kernel
theorem dX4_shapeOf_56 : decode cX4_shapeOf 56 = .ok (.iadd, 1) := by decide +kernel
theorem dX4_shapeOf_57 : decode cX4_shapeOf 57 = .ok (.invokestatic 163, 3) := by decide +kernel
theorem dX4_shapeOf_60 : decode cX4_shapeOf 60 = .ok (.lreturn, 1) := by decide +kernel
theorem dX4_write_0 : decode cX4_write 0 = .ok (.aload_n 1, 1) := by decide +kernel
theorem dX4_write_1 : decode cX4_write 1 = .ok (.iload_n 2, 1) := by decide +kernel
theorem dX4_write_2 : decode cX4_write 2 = .ok (.iload_n 3, 1) := by decide +kernel
theorem dX4_write_3 : decode cX4_write 3 = .ok (.invokevirtual 108, 3) := by decide +kernel
theorem dX4_write_6 : decode cX4_write 6 = .ok (.istore 6, 2) := by decide +kernel
theorem dX4_write_8 : decode cX4_write 8 = .ok (.iload 6, 2) := by decide +kernel
theorem dX4_write_10 : decode cX4_write 10 = .ok (.iconst (-1), 1) := by decide +kernel
theorem dX4_write_11 : decode cX4_write 11 = .ok (.if_icmp .eq 10, 3) := by decide +kernel
theorem dX4_write_14 : decode cX4_write 14 = .ok (.iload 5, 2) := by decide +kernel
theorem dX4_write_16 : decode cX4_write 16 = .ok (.bipush 30, 2) := by decide +kernel
theorem dX4_write_18 : decode cX4_write 18 = .ok (.if_icmp .le 4, 3) := by decide +kernel
theorem dX4_write_21 : decode cX4_write 21 = .ok (.return_, 1) := by decide +kernel
theorem dX4_write_22 : decode cX4_write 22 = .ok (.aload_n 0, 1) := by decide +kernel
theorem dX4_write_23 : decode cX4_write 23 = .ok (.bipush 40, 2) := by decide +kernel
theorem dX4_write_25 : decode cX4_write 25 = .ok (.invokevirtual 177, 3) := by decide +kernel
theorem dX4_write_28 : decode cX4_write 28 = .ok (.pop, 1) := by decide +kernel
theorem dX4_write_29 : decode cX4_write 29 = .ok (.aload_n 0, 1) := by decide +kernel
theorem dX4_write_30 : decode cX4_write 30 = .ok (.aload_n 1, 1) := by decide +kernel
theorem dX4_write_31 : decode cX4_write 31 = .ok (.iload_n 2, 1) := by decide +kernel
theorem dX4_write_32 : decode cX4_write 32 = .ok (.iload 6, 2) := by decide +kernel
theorem dX4_write_34 : decode cX4_write 34 = .ok (.iconst 1, 1) := by decide +kernel
theorem dX4_write_35 : decode cX4_write 35 = .ok (.isub, 1) := by decide +kernel
theorem dX4_write_36 : decode cX4_write 36 = .ok (.iload 4, 2) := by decide +kernel
theorem dX4_write_38 : decode cX4_write 38 = .ok (.iload 5, 2) := by decide +kernel
theorem dX4_write_40 : decode cX4_write 40 = .ok (.iconst 1, 1) := by decide +kernel
theorem dX4_write_41 : decode cX4_write 41 = .ok (.iadd, 1) := by decide +kernel
theorem dX4_write_42 : decode cX4_write 42 = .ok (.invokestatic 199, 3) := by decide +kernel
theorem dX4_write_45 : decode cX4_write 45 = .ok (.aload_n 0, 1) := by decide +kernel
theorem dX4_write_46 : decode cX4_write 46 = .ok (.aload_n 1, 1) := by decide +kernel
theorem dX4_write_47 : decode cX4_write 47 = .ok (.iload 6, 2) := by decide +kernel
theorem dX4_write_49 : decode cX4_write 49 = .ok (.invokevirtual 105, 3) := by decide +kernel
theorem dX4_write_52 : decode cX4_write 52 = .ok (.invokevirtual 279, 3) := by decide +kernel
theorem dX4_write_55 : decode cX4_write 55 = .ok (.aload_n 1, 1) := by decide +kernel
theorem dX4_write_56 : decode cX4_write 56 = .ok (.iload 6, 2) := by decide +kernel
theorem dX4_write_58 : decode cX4_write 58 = .ok (.iload 4, 2) := by decide +kernel
theorem dX4_write_60 : decode cX4_write 60 = .ok (.invokevirtual 98, 3) := by decide +kernel
theorem dX4_write_63 : decode cX4_write 63 = .ok (.ifCond .eq 10, 3) := by decide +kernel
theorem dX4_write_66 : decode cX4_write 66 = .ok (.aload_n 0, 1) := by decide +kernel
theorem dX4_write_67 : decode cX4_write 67 = .ok (.bipush 33, 2) := by decide +kernel
theorem dX4_write_69 : decode cX4_write 69 = .ok (.invokevirtual 177, 3) := by decide +kernel
theorem dX4_write_72 : decode cX4_write 72 = .ok (.pop, 1) := by decide +kernel
theorem dX4_write_73 : decode cX4_write 73 = .ok (.aload_n 0, 1) := by decide +kernel
theorem dX4_write_74 : decode cX4_write 74 = .ok (.aload_n 1, 1) := by decide +kernel
theorem dX4_write_75 : decode cX4_write 75 = .ok (.iload 6, 2) := by decide +kernel
theorem dX4_write_77 : decode cX4_write 77 = .ok (.iconst 1, 1) := by decide +kernel
theorem dX4_write_78 : decode cX4_write 78 = .ok (.iadd, 1) := by decide +kernel
theorem dX4_write_79 : decode cX4_write 79 = .ok (.iload_n 3, 1) := by decide +kernel
theorem dX4_write_80 : decode cX4_write 80 = .ok (.iload 4, 2) := by decide +kernel
theorem dX4_write_82 : decode cX4_write 82 = .ok (.iload 5, 2) := by decide +kernel
theorem dX4_write_84 : decode cX4_write 84 = .ok (.iconst 1, 1) := by decide +kernel
theorem dX4_write_85 : decode cX4_write 85 = .ok (.iadd, 1) := by decide +kernel
theorem dX4_write_86 : decode cX4_write 86 = .ok (.invokestatic 199, 3) := by decide +kernel
theorem dX4_write_89 : decode cX4_write 89 = .ok (.aload_n 0, 1) := by decide +kernel
theorem dX4_write_90 : decode cX4_write 90 = .ok (.bipush 41, 2) := by decide +kernel
theorem dX4_write_92 : decode cX4_write 92 = .ok (.invokevirtual 177, 3) := by decide +kernel
theorem dX4_write_95 : decode cX4_write 95 = .ok (.pop, 1) := by decide +kernel
theorem dX4_write_96 : decode cX4_write 96 = .ok (.return_, 1) := by decide +kernel
theorem dX4_isSound_0 : decode cX4_isSound 0 = .ok (.aload_n 0, 1) := by decide +kernel
theorem dX4_isSound_1 : decode cX4_isSound 1 = .ok (.invokevirtual 282, 3) := by decide +kernel
theorem dX4_isSound_4 : decode cX4_isSound 4 = .ok (.ifCond .eq 18, 3) := by decide +kernel
theorem dX4_isSound_7 : decode cX4_isSound 7 = .ok (.aload_n 0, 1) := by decide +kernel
theorem dX4_isSound_8 : decode cX4_isSound 8 = .ok (.iconst 0, 1) := by decide +kernel
theorem dX4_isSound_9 : decode cX4_isSound 9 = .ok (.aload_n 0, 1) := by decide +kernel
theorem dX4_isSound_10 : decode cX4_isSound 10 = .ok (.getfield 111, 3) := by decide +kernel
theorem dX4_isSound_13 : decode cX4_isSound 13 = .ok (.iconst 1, 1) := by decide +kernel
theorem dX4_isSound_14 : decode cX4_isSound 14 = .ok (.isub, 1) := by decide +kernel
theorem dX4_isSound_15 : decode cX4_isSound 15 = .ok (.iconst 0, 1) := by decide +kernel
theorem dX4_isSound_16 : decode cX4_isSound 16 = .ok (.invokestatic 286, 3) := by decide +kernel
theorem dX4_isSound_19 : decode cX4_isSound 19 = .ok (.ifCond .ne 5, 3) := by decide +kernel
theorem dX4_isSound_22 : decode cX4_isSound 22 = .ok (.iconst 0, 1) := by decide +kernel
theorem dX4_isSound_23 : decode cX4_isSound 23 = .ok (.ireturn, 1) := by decide +kernel
theorem dX4_isSound_24 : decode cX4_isSound 24 = .ok (.iconst 0, 1) := by decide +kernel
theorem dX4_isSound_25 : decode cX4_isSound 25 = .ok (.istore_n 1, 1) := by decide +kernel
theorem dX4_isSound_26 : decode cX4_isSound 26 = .ok (.iload_n 1, 1) := by decide +kernel
theorem dX4_isSound_27 : decode cX4_isSound 27 = .ok (.aload_n 0, 1) := by decide +kernel
theorem dX4_isSound_28 : decode cX4_isSound 28 = .ok (.getfield 111, 3) := by decide +kernel
theorem dX4_isSound_31 : decode cX4_isSound 31 = .ok (.if_icmp .ge 45, 3) := by decide +kernel
theorem dX4_isSound_34 : decode cX4_isSound 34 = .ok (.aload_n 0, 1) := by decide +kernel
theorem dX4_isSound_35 : decode cX4_isSound 35 = .ok (.iload_n 1, 1) := by decide +kernel
theorem dX4_isSound_36 : decode cX4_isSound 36 = .ok (.invokevirtual 105, 3) := by decide +kernel
theorem dX4_isSound_39 : decode cX4_isSound 39 = .ok (.istore_n 2, 1) := by decide +kernel
theorem dX4_isSound_40 : decode cX4_isSound 40 = .ok (.aload_n 0, 1) := by decide +kernel
theorem dX4_isSound_41 : decode cX4_isSound 41 = .ok (.iload_n 2, 1) := by decide +kernel
theorem dX4_isSound_42 : decode cX4_isSound 42 = .ok (.invokevirtual 133, 3) := by decide +kernel
theorem dX4_isSound_45 : decode cX4_isSound 45 = .ok (.aload_n 0, 1) := by decide +kernel
theorem dX4_isSound_46 : decode cX4_isSound 46 = .ok (.iload_n 2, 1) := by decide +kernel
theorem dX4_isSound_47 : decode cX4_isSound 47 = .ok (.invokevirtual 136, 3) := by decide +kernel
theorem dX4_isSound_50 : decode cX4_isSound 50 = .ok (.if_icmp .ne 18, 3) := by decide +kernel
theorem dX4_isSound_53 : decode cX4_isSound 53 = .ok (.aload_n 0, 1) := by decide +kernel
theorem dX4_isSound_54 : decode cX4_isSound 54 = .ok (.iconst 0, 1) := by decide +kernel
theorem dX4_isSound_55 : decode cX4_isSound 55 = .ok (.iload_n 2, 1) := by decide +kernel
theorem dX4_isSound_56 : decode cX4_isSound 56 = .ok (.invokevirtual 143, 3) := by decide +kernel
theorem dX4_isSound_59 : decode cX4_isSound 59 = .ok (.aload_n 0, 1) := by decide +kernel
theorem dX4_isSound_60 : decode cX4_isSound 60 = .ok (.iconst 0, 1) := by decide +kernel
theorem dX4_isSound_61 : decode cX4_isSound 61 = .ok (.iload_n 2, 1) := by decide +kernel
theorem dX4_isSound_62 : decode cX4_isSound 62 = .ok (.invokevirtual 146, 3) := by decide +kernel
theorem dX4_isSound_65 : decode cX4_isSound 65 = .ok (.if_icmp .eq 5, 3) := by decide +kernel
theorem dX4_isSound_68 : decode cX4_isSound 68 = .ok (.iconst 0, 1) := by decide +kernel
theorem dX4_isSound_69 : decode cX4_isSound 69 = .ok (.ireturn, 1) := by decide +kernel
theorem dX4_isSound_70 : decode cX4_isSound 70 = .ok (.iinc 1 1, 3) := by decide +kernel
theorem dX4_isSound_73 : decode cX4_isSound 73 = .ok (.goto (-47), 3) := by decide +kernel
theorem dX4_isSound_76 : decode cX4_isSound 76 = .ok (.iconst 1, 1) := by decide +kernel
theorem dX4_isSound_77 : decode cX4_isSound 77 = .ok (.ireturn, 1) := by decide +kernel
theorem dX4_isTree_0 : decode cX4_isTree 0 = .ok (.iload_n 1, 1) := by decide +kernel
theorem dX4_isTree_1 : decode cX4_isTree 1 = .ok (.iload_n 2, 1) := by decide +kernel
theorem dX4_isTree_2 : decode cX4_isTree 2 = .ok (.if_icmp .le 5, 3) := by decide +kernel
theorem dX4_isTree_5 : decode cX4_isTree 5 = .ok (.iconst 1, 1) := by decide +kernel
theorem dX4_isTree_6 : decode cX4_isTree 6 = .ok (.ireturn, 1) := by decide +kernel
theorem dX4_isTree_7 : decode cX4_isTree 7 = .ok (.aload_n 0, 1) := by decide +kernel
theorem dX4_isTree_8 : decode cX4_isTree 8 = .ok (.iload_n 1, 1) := by decide +kernel
theorem dX4_isTree_9 : decode cX4_isTree 9 = .ok (.iload_n 2, 1) := by decide +kernel
theorem dX4_isTree_10 : decode cX4_isTree 10 = .ok (.invokevirtual 108, 3) := by decide +kernel
theorem dX4_isTree_13 : decode cX4_isTree 13 = .ok (.istore 4, 2) := by decide +kernel
theorem dX4_isTree_15 : decode cX4_isTree 15 = .ok (.iload_n 3, 1) := by decide +kernel
theorem dX4_isTree_16 : decode cX4_isTree 16 = .ok (.bipush 30, 2) := by decide +kernel
theorem dX4_isTree_18 : decode cX4_isTree 18 = .ok (.if_icmp .gt 47, 3) := by decide +kernel
theorem dX4_isTree_21 : decode cX4_isTree 21 = .ok (.aload_n 0, 1) := by decide +kernel
theorem dX4_isTree_22 : decode cX4_isTree 22 = .ok (.iload 4, 2) := by decide +kernel
theorem dX4_isTree_24 : decode cX4_isTree 24 = .ok (.invokevirtual 89, 3) := by decide +kernel
theorem dX4_isTree_27 : decode cX4_isTree 27 = .ok (.iload_n 3, 1) := by decide +kernel
theorem dX4_isTree_28 : decode cX4_isTree 28 = .ok (.if_icmp .ne 37, 3) := by decide +kernel
theorem dX4_isTree_31 : decode cX4_isTree 31 = .ok (.aload_n 0, 1) := by decide +kernel
theorem dX4_isTree_32 : decode cX4_isTree 32 = .ok (.iload_n 1, 1) := by decide +kernel
theorem dX4_isTree_33 : decode cX4_isTree 33 = .ok (.iload 4, 2) := by decide +kernel
theorem dX4_isTree_35 : decode cX4_isTree 35 = .ok (.iconst 1, 1) := by decide +kernel
theorem dX4_isTree_36 : decode cX4_isTree 36 = .ok (.isub, 1) := by decide +kernel
theorem dX4_isTree_37 : decode cX4_isTree 37 = .ok (.iload_n 3, 1) := by decide +kernel
theorem dX4_isTree_38 : decode cX4_isTree 38 = .ok (.iconst 1, 1) := by decide +kernel
theorem dX4_isTree_39 : decode cX4_isTree 39 = .ok (.iadd, 1) := by decide +kernel
theorem dX4_isTree_40 : decode cX4_isTree 40 = .ok (.invokestatic 286, 3) := by decide +kernel
theorem dX4_isTree_43 : decode cX4_isTree 43 = .ok (.ifCond .eq 22, 3) := by decide +kernel
theorem dX4_isTree_46 : decode cX4_isTree 46 = .ok (.aload_n 0, 1) := by decide +kernel
theorem dX4_isTree_47 : decode cX4_isTree 47 = .ok (.iload 4, 2) := by decide +kernel
theorem dX4_isTree_49 : decode cX4_isTree 49 = .ok (.iconst 1, 1) := by decide +kernel
theorem dX4_isTree_50 : decode cX4_isTree 50 = .ok (.iadd, 1) := by decide +kernel
theorem dX4_isTree_51 : decode cX4_isTree 51 = .ok (.iload_n 2, 1) := by decide +kernel
theorem dX4_isTree_52 : decode cX4_isTree 52 = .ok (.iload_n 3, 1) := by decide +kernel
theorem dX4_isTree_53 : decode cX4_isTree 53 = .ok (.iconst 1, 1) := by decide +kernel
theorem dX4_isTree_54 : decode cX4_isTree 54 = .ok (.iadd, 1) := by decide +kernel
theorem dX4_isTree_55 : decode cX4_isTree 55 = .ok (.invokestatic 286, 3) := by decide +kernel
theorem dX4_isTree_58 : decode cX4_isTree 58 = .ok (.ifCond .eq 7, 3) := by decide +kernel
theorem dX4_isTree_61 : decode cX4_isTree 61 = .ok (.iconst 1, 1) := by decide +kernel
theorem dX4_isTree_62 : decode cX4_isTree 62 = .ok (.goto 4, 3) := by decide +kernel
theorem dX4_isTree_65 : decode cX4_isTree 65 = .ok (.iconst 0, 1) := by decide +kernel
theorem dX4_isTree_66 : decode cX4_isTree 66 = .ok (.ireturn, 1) := by decide +kernel
theorem dX4_shareBits_0 : decode cX4_shareBits 0 = .ok (.fload_n 0, 1) := by decide +kernel
theorem dX4_shareBits_1 : decode cX4_shareBits 1 = .ok (.fconst 0, 1) := by decide +kernel
theorem dX4_shareBits_2 : decode cX4_shareBits 2 = .ok (.fcmp .l, 1) := by decide +kernel
theorem dX4_shareBits_3 : decode cX4_shareBits 3 = .ok (.ifCond .gt 5, 3) := by decide +kernel
theorem dX4_shareBits_6 : decode cX4_shareBits 6 = .ok (.iconst 0, 1) := by decide +kernel
theorem dX4_shareBits_7 : decode cX4_shareBits 7 = .ok (.ireturn, 1) := by decide +kernel
theorem dX4_shareBits_8 : decode cX4_shareBits 8 = .ok (.fload_n 0, 1) := by decide +kernel
theorem dX4_shareBits_9 : decode cX4_shareBits 9 = .ok (.fstore_n 1, 1) := by decide +kernel
theorem dX4_shareBits_10 : decode cX4_shareBits 10 = .ok (.bipush 127, 2) := by decide +kernel
theorem dX4_shareBits_12 : decode cX4_shareBits 12 = .ok (.istore_n 2, 1) := by decide +kernel
theorem dX4_shareBits_13 : decode cX4_shareBits 13 = .ok (.iconst 0, 1) := by decide +kernel
theorem dX4_shareBits_14 : decode cX4_shareBits 14 = .ok (.istore_n 3, 1) := by decide +kernel
theorem dX4_shareBits_15 : decode cX4_shareBits 15 = .ok (.iload_n 3, 1) := by decide +kernel
theorem dX4_shareBits_16 : decode cX4_shareBits 16 = .ok (.bipush 64, 2) := by decide +kernel
theorem dX4_shareBits_18 : decode cX4_shareBits 18 = .ok (.if_icmp .ge 22, 3) := by decide +kernel
theorem dX4_shareBits_21 : decode cX4_shareBits 21 = .ok (.fload_n 1, 1) := by decide +kernel
theorem dX4_shareBits_22 : decode cX4_shareBits 22 = .ok (.fconst 1, 1) := by decide +kernel
theorem dX4_shareBits_23 : decode cX4_shareBits 23 = .ok (.fcmp .g, 1) := by decide +kernel
theorem dX4_shareBits_24 : decode cX4_shareBits 24 = .ok (.ifCond .ge 16, 3) := by decide +kernel
theorem dX4_shareBits_27 : decode cX4_shareBits 27 = .ok (.fload_n 1, 1) := by decide +kernel
theorem dX4_shareBits_28 : decode cX4_shareBits 28 = .ok (.fconst 2, 1) := by decide +kernel
theorem dX4_shareBits_29 : decode cX4_shareBits 29 = .ok (.fmul, 1) := by decide +kernel
theorem dX4_shareBits_30 : decode cX4_shareBits 30 = .ok (.fstore_n 1, 1) := by decide +kernel
theorem dX4_shareBits_31 : decode cX4_shareBits 31 = .ok (.iinc 2 (-1), 3) := by decide +kernel
theorem dX4_shareBits_34 : decode cX4_shareBits 34 = .ok (.iinc 3 1, 3) := by decide +kernel
theorem dX4_shareBits_37 : decode cX4_shareBits 37 = .ok (.goto (-22), 3) := by decide +kernel
theorem dX4_shareBits_40 : decode cX4_shareBits 40 = .ok (.iload_n 2, 1) := by decide +kernel
theorem dX4_shareBits_41 : decode cX4_shareBits 41 = .ok (.bipush 23, 2) := by decide +kernel
theorem dX4_shareBits_43 : decode cX4_shareBits 43 = .ok (.ishl, 1) := by decide +kernel
theorem dX4_shareBits_44 : decode cX4_shareBits 44 = .ok (.fload_n 1, 1) := by decide +kernel
theorem dX4_shareBits_45 : decode cX4_shareBits 45 = .ok (.fconst 1, 1) := by decide +kernel
theorem dX4_shareBits_46 : decode cX4_shareBits 46 = .ok (.fsub, 1) := by decide +kernel
theorem dX4_shareBits_47 : decode cX4_shareBits 47 = .ok (.ldc_w 290, 3) := by decide +kernel
theorem dX4_shareBits_50 : decode cX4_shareBits 50 = .ok (.fmul, 1) := by decide +kernel
theorem dX4_shareBits_51 : decode cX4_shareBits 51 = .ok (.f2i, 1) := by decide +kernel
theorem dX4_shareBits_52 : decode cX4_shareBits 52 = .ok (.iadd, 1) := by decide +kernel
theorem dX4_shareBits_53 : decode cX4_shareBits 53 = .ok (.ireturn, 1) := by decide +kernel
theorem dX4_meanBits_0 : decode cX4_meanBits 0 = .ok (.dload_n 0, 1) := by decide +kernel
theorem dX4_meanBits_1 : decode cX4_meanBits 1 = .ok (.dconst 0, 1) := by decide +kernel
theorem dX4_meanBits_2 : decode cX4_meanBits 2 = .ok (.dcmp .l, 1) := by decide +kernel
theorem dX4_meanBits_3 : decode cX4_meanBits 3 = .ok (.ifCond .gt 5, 3) := by decide +kernel
theorem dX4_meanBits_6 : decode cX4_meanBits 6 = .ok (.lconst 0, 1) := by decide +kernel
theorem dX4_meanBits_7 : decode cX4_meanBits 7 = .ok (.lreturn, 1) := by decide +kernel
theorem dX4_meanBits_8 : decode cX4_meanBits 8 = .ok (.dload_n 0, 1) := by decide +kernel
theorem dX4_meanBits_9 : decode cX4_meanBits 9 = .ok (.dstore_n 2, 1) := by decide +kernel
theorem dX4_meanBits_10 : decode cX4_meanBits 10 = .ok (.ldc2_w 291, 3) := by decide +kernel
theorem dX4_meanBits_13 : decode cX4_meanBits 13 = .ok (.lstore 4, 2) := by decide +kernel
theorem dX4_meanBits_15 : decode cX4_meanBits 15 = .ok (.iconst 0, 1) := by decide +kernel
theorem dX4_meanBits_16 : decode cX4_meanBits 16 = .ok (.istore 6, 2) := by decide +kernel
theorem dX4_meanBits_18 : decode cX4_meanBits 18 = .ok (.iload 6, 2) := by decide +kernel
theorem dX4_meanBits_20 : decode cX4_meanBits 20 = .ok (.bipush 64, 2) := by decide +kernel
theorem dX4_meanBits_22 : decode cX4_meanBits 22 = .ok (.if_icmp .ge 27, 3) := by decide +kernel
theorem dX4_meanBits_25 : decode cX4_meanBits 25 = .ok (.dload_n 2, 1) := by decide +kernel
theorem dX4_meanBits_26 : decode cX4_meanBits 26 = .ok (.dconst 1, 1) := by decide +kernel
theorem dX4_meanBits_27 : decode cX4_meanBits 27 = .ok (.dcmp .g, 1) := by decide +kernel
theorem dX4_meanBits_28 : decode cX4_meanBits 28 = .ok (.ifCond .ge 21, 3) := by decide +kernel
theorem dX4_meanBits_31 : decode cX4_meanBits 31 = .ok (.dload_n 2, 1) := by decide +kernel
theorem dX4_meanBits_32 : decode cX4_meanBits 32 = .ok (.ldc2_w 293, 3) := by decide +kernel
theorem dX4_meanBits_35 : decode cX4_meanBits 35 = .ok (.dmul, 1) := by decide +kernel
theorem dX4_meanBits_36 : decode cX4_meanBits 36 = .ok (.dstore_n 2, 1) := by decide +kernel
theorem dX4_meanBits_37 : decode cX4_meanBits 37 = .ok (.lload 4, 2) := by decide +kernel
theorem dX4_meanBits_39 : decode cX4_meanBits 39 = .ok (.lconst 1, 1) := by decide +kernel
theorem dX4_meanBits_40 : decode cX4_meanBits 40 = .ok (.lsub, 1) := by decide +kernel
theorem dX4_meanBits_41 : decode cX4_meanBits 41 = .ok (.lstore 4, 2) := by decide +kernel
theorem dX4_meanBits_43 : decode cX4_meanBits 43 = .ok (.iinc 6 1, 3) := by decide +kernel
theorem dX4_meanBits_46 : decode cX4_meanBits 46 = .ok (.goto (-28), 3) := by decide +kernel
theorem dX4_meanBits_49 : decode cX4_meanBits 49 = .ok (.iconst 0, 1) := by decide +kernel
theorem dX4_meanBits_50 : decode cX4_meanBits 50 = .ok (.istore 6, 2) := by decide +kernel
theorem dX4_meanBits_52 : decode cX4_meanBits 52 = .ok (.iload 6, 2) := by decide +kernel
theorem dX4_meanBits_54 : decode cX4_meanBits 54 = .ok (.bipush 64, 2) := by decide +kernel
theorem dX4_meanBits_56 : decode cX4_meanBits 56 = .ok (.if_icmp .ge 29, 3) := by decide +kernel
theorem dX4_meanBits_59 : decode cX4_meanBits 59 = .ok (.dload_n 2, 1) := by decide +kernel
theorem dX4_meanBits_60 : decode cX4_meanBits 60 = .ok (.ldc2_w 293, 3) := by decide +kernel
theorem dX4_meanBits_63 : decode cX4_meanBits 63 = .ok (.dcmp .l, 1) := by decide +kernel
theorem dX4_meanBits_64 : decode cX4_meanBits 64 = .ok (.ifCond .lt 21, 3) := by decide +kernel
theorem dX4_meanBits_67 : decode cX4_meanBits 67 = .ok (.dload_n 2, 1) := by decide +kernel
theorem dX4_meanBits_68 : decode cX4_meanBits 68 = .ok (.ldc2_w 293, 3) := by decide +kernel
theorem dX4_meanBits_71 : decode cX4_meanBits 71 = .ok (.ddiv, 1) := by decide +kernel
theorem dX4_meanBits_72 : decode cX4_meanBits 72 = .ok (.dstore_n 2, 1) := by decide +kernel
theorem dX4_meanBits_73 : decode cX4_meanBits 73 = .ok (.lload 4, 2) := by decide +kernel
theorem dX4_meanBits_75 : decode cX4_meanBits 75 = .ok (.lconst 1, 1) := by decide +kernel
theorem dX4_meanBits_76 : decode cX4_meanBits 76 = .ok (.ladd, 1) := by decide +kernel
theorem dX4_meanBits_77 : decode cX4_meanBits 77 = .ok (.lstore 4, 2) := by decide +kernel
theorem dX4_meanBits_79 : decode cX4_meanBits 79 = .ok (.iinc 6 1, 3) := by decide +kernel
theorem dX4_meanBits_82 : decode cX4_meanBits 82 = .ok (.goto (-30), 3) := by decide +kernel
theorem dX4_meanBits_85 : decode cX4_meanBits 85 = .ok (.lload 4, 2) := by decide +kernel
theorem dX4_meanBits_87 : decode cX4_meanBits 87 = .ok (.bipush 52, 2) := by decide +kernel
theorem dX4_meanBits_89 : decode cX4_meanBits 89 = .ok (.lshl, 1) := by decide +kernel
theorem dX4_meanBits_90 : decode cX4_meanBits 90 = .ok (.dload_n 2, 1) := by decide +kernel
theorem dX4_meanBits_91 : decode cX4_meanBits 91 = .ok (.dconst 1, 1) := by decide +kernel
theorem dX4_meanBits_92 : decode cX4_meanBits 92 = .ok (.dsub, 1) := by decide +kernel
theorem dX4_meanBits_93 : decode cX4_meanBits 93 = .ok (.ldc2_w 295, 3) := by decide +kernel
theorem dX4_meanBits_96 : decode cX4_meanBits 96 = .ok (.dmul, 1) := by decide +kernel
theorem dX4_meanBits_97 : decode cX4_meanBits 97 = .ok (.d2l, 1) := by decide +kernel
theorem dX4_meanBits_98 : decode cX4_meanBits 98 = .ok (.ladd, 1) := by decide +kernel
theorem dX4_meanBits_99 : decode cX4_meanBits 99 = .ok (.lreturn, 1) := by decide +kernel
theorem dJxe99ae_isNaN_b9ae7_0 : decode cJxe99ae_isNaN_b9ae7 0 = .ok (.dload_n 0, 1) := by decide +kernel
theorem dJxe99ae_isNaN_b9ae7_1 : decode cJxe99ae_isNaN_b9ae7 1 = .ok (.dload_n 0, 1) := by decide +kernel
theorem dJxe99ae_isNaN_b9ae7_2 : decode cJxe99ae_isNaN_b9ae7 2 = .ok (.dcmp .l, 1) := by decide +kernel
theorem dJxe99ae_isNaN_b9ae7_3 : decode cJxe99ae_isNaN_b9ae7 3 = .ok (.ifCond .eq 7, 3) := by decide +kernel
theorem dJxe99ae_isNaN_b9ae7_6 : decode cJxe99ae_isNaN_b9ae7 6 = .ok (.iconst 1, 1) := by decide +kernel
theorem dJxe99ae_isNaN_b9ae7_7 : decode cJxe99ae_isNaN_b9ae7 7 = .ok (.goto 4, 3) := by decide +kernel
theorem dJxe99ae_isNaN_b9ae7_10 : decode cJxe99ae_isNaN_b9ae7 10 = .ok (.iconst 0, 1) := by decide +kernel
theorem dJxe99ae_isNaN_b9ae7_11 : decode cJxe99ae_isNaN_b9ae7 11 = .ok (.ireturn, 1) := by decide +kernel
theorem dJxe99ae_doubleToLongBits_ccdee_0 : decode cJxe99ae_doubleToLongBits_ccdee 0 = .ok (.dload_n 0, 1) := by decide +kernel
theorem dJxe99ae_doubleToLongBits_ccdee_1 : decode cJxe99ae_doubleToLongBits_ccdee 1 = .ok (.invokestatic 122, 3) := by decide +kernel
theorem dJxe99ae_doubleToLongBits_ccdee_4 : decode cJxe99ae_doubleToLongBits_ccdee 4 = .ok (.ifCond .ne 8, 3) := by decide +kernel
theorem dJxe99ae_doubleToLongBits_ccdee_7 : decode cJxe99ae_doubleToLongBits_ccdee 7 = .ok (.dload_n 0, 1) := by decide +kernel
theorem dJxe99ae_doubleToLongBits_ccdee_8 : decode cJxe99ae_doubleToLongBits_ccdee 8 = .ok (.invokestatic 134, 3) := by decide +kernel
theorem dJxe99ae_doubleToLongBits_ccdee_11 : decode cJxe99ae_doubleToLongBits_ccdee 11 = .ok (.lreturn, 1) := by decide +kernel
theorem dJxe99ae_doubleToLongBits_ccdee_12 : decode cJxe99ae_doubleToLongBits_ccdee 12 = .ok (.ldc2_w 137, 3) := by decide +kernel
theorem dJxe99ae_doubleToLongBits_ccdee_15 : decode cJxe99ae_doubleToLongBits_ccdee 15 = .ok (.lreturn, 1) := by decide +kernel
theorem dJxf58ca_isNaN_12338_0 : decode cJxf58ca_isNaN_12338 0 = .ok (.fload_n 0, 1) := by decide +kernel
theorem dJxf58ca_isNaN_12338_1 : decode cJxf58ca_isNaN_12338 1 = .ok (.fload_n 0, 1) := by decide +kernel
theorem dJxf58ca_isNaN_12338_2 : decode cJxf58ca_isNaN_12338 2 = .ok (.fcmp .l, 1) := by decide +kernel
theorem dJxf58ca_isNaN_12338_3 : decode cJxf58ca_isNaN_12338 3 = .ok (.ifCond .eq 7, 3) := by decide +kernel
theorem dJxf58ca_isNaN_12338_6 : decode cJxf58ca_isNaN_12338 6 = .ok (.iconst 1, 1) := by decide +kernel
theorem dJxf58ca_isNaN_12338_7 : decode cJxf58ca_isNaN_12338 7 = .ok (.goto 4, 3) := by decide +kernel
theorem dJxf58ca_isNaN_12338_10 : decode cJxf58ca_isNaN_12338 10 = .ok (.iconst 0, 1) := by decide +kernel
theorem dJxf58ca_isNaN_12338_11 : decode cJxf58ca_isNaN_12338 11 = .ok (.ireturn, 1) := by decide +kernel
theorem dJxf58ca_floatToIntBits_5c35a_0 : decode cJxf58ca_floatToIntBits_5c35a 0 = .ok (.fload_n 0, 1) := by decide +kernel
theorem dJxf58ca_floatToIntBits_5c35a_1 : decode cJxf58ca_floatToIntBits_5c35a 1 = .ok (.invokestatic 59, 3) := by decide +kernel
theorem dJxf58ca_floatToIntBits_5c35a_4 : decode cJxf58ca_floatToIntBits_5c35a 4 = .ok (.ifCond .ne 8, 3) := by decide +kernel
theorem dJxf58ca_floatToIntBits_5c35a_7 : decode cJxf58ca_floatToIntBits_5c35a 7 = .ok (.fload_n 0, 1) := by decide +kernel
theorem dJxf58ca_floatToIntBits_5c35a_8 : decode cJxf58ca_floatToIntBits_5c35a 8 = .ok (.invokestatic 74, 3) := by decide +kernel
end
section
theorem dJxf58ca_floatToIntBits_5c35a_11 : decode cJxf58ca_floatToIntBits_5c35a 11 = .ok (.ireturn, 1) := by decide +kernel
theorem dJxf58ca_floatToIntBits_5c35a_12 : decode cJxf58ca_floatToIntBits_5c35a 12 = .ok (.ldc 77, 2) := by decide +kernel
theorem dJxf58ca_floatToIntBits_5c35a_14 : decode cJxf58ca_floatToIntBits_5c35a 14 = .ok (.ireturn, 1) := by decide +kernel
theorem dJ13_bitCount_95d88_0 : decode cJ13_bitCount_95d88 0 = .ok (.lload_n 0, 1) := by decide +kernel
theorem dJ13_bitCount_95d88_1 : decode cJ13_bitCount_95d88 1 = .ok (.lload_n 0, 1) := by decide +kernel
theorem dJ13_bitCount_95d88_2 : decode cJ13_bitCount_95d88 2 = .ok (.iconst 1, 1) := by decide +kernel
theorem dJ13_bitCount_95d88_3 : decode cJ13_bitCount_95d88 3 = .ok (.lushr, 1) := by decide +kernel
theorem dJ13_bitCount_95d88_4 : decode cJ13_bitCount_95d88 4 = .ok (.ldc2_w 314, 3) := by decide +kernel
theorem dJ13_bitCount_95d88_7 : decode cJ13_bitCount_95d88 7 = .ok (.land, 1) := by decide +kernel
theorem dJ13_bitCount_95d88_8 : decode cJ13_bitCount_95d88 8 = .ok (.lsub, 1) := by decide +kernel
theorem dJ13_bitCount_95d88_9 : decode cJ13_bitCount_95d88 9 = .ok (.lstore_n 0, 1) := by decide +kernel
theorem dJ13_bitCount_95d88_10 : decode cJ13_bitCount_95d88 10 = .ok (.lload_n 0, 1) := by decide +kernel
theorem dJ13_bitCount_95d88_11 : decode cJ13_bitCount_95d88 11 = .ok (.ldc2_w 316, 3) := by decide +kernel
theorem dJ13_bitCount_95d88_14 : decode cJ13_bitCount_95d88 14 = .ok (.land, 1) := by decide +kernel
theorem dJ13_bitCount_95d88_15 : decode cJ13_bitCount_95d88 15 = .ok (.lload_n 0, 1) := by decide +kernel
theorem dJ13_bitCount_95d88_16 : decode cJ13_bitCount_95d88 16 = .ok (.iconst 2, 1) := by decide +kernel
theorem dJ13_bitCount_95d88_17 : decode cJ13_bitCount_95d88 17 = .ok (.lushr, 1) := by decide +kernel
theorem dJ13_bitCount_95d88_18 : decode cJ13_bitCount_95d88 18 = .ok (.ldc2_w 316, 3) := by decide +kernel
theorem dJ13_bitCount_95d88_21 : decode cJ13_bitCount_95d88 21 = .ok (.land, 1) := by decide +kernel
theorem dJ13_bitCount_95d88_22 : decode cJ13_bitCount_95d88 22 = .ok (.ladd, 1) := by decide +kernel
theorem dJ13_bitCount_95d88_23 : decode cJ13_bitCount_95d88 23 = .ok (.lstore_n 0, 1) := by decide +kernel
theorem dJ13_bitCount_95d88_24 : decode cJ13_bitCount_95d88 24 = .ok (.lload_n 0, 1) := by decide +kernel
theorem dJ13_bitCount_95d88_25 : decode cJ13_bitCount_95d88 25 = .ok (.lload_n 0, 1) := by decide +kernel
theorem dJ13_bitCount_95d88_26 : decode cJ13_bitCount_95d88 26 = .ok (.iconst 4, 1) := by decide +kernel
theorem dJ13_bitCount_95d88_27 : decode cJ13_bitCount_95d88 27 = .ok (.lushr, 1) := by decide +kernel
theorem dJ13_bitCount_95d88_28 : decode cJ13_bitCount_95d88 28 = .ok (.ladd, 1) := by decide +kernel
theorem dJ13_bitCount_95d88_29 : decode cJ13_bitCount_95d88 29 = .ok (.ldc2_w 318, 3) := by decide +kernel
theorem dJ13_bitCount_95d88_32 : decode cJ13_bitCount_95d88 32 = .ok (.land, 1) := by decide +kernel
theorem dJ13_bitCount_95d88_33 : decode cJ13_bitCount_95d88 33 = .ok (.lstore_n 0, 1) := by decide +kernel
theorem dJ13_bitCount_95d88_34 : decode cJ13_bitCount_95d88 34 = .ok (.lload_n 0, 1) := by decide +kernel
theorem dJ13_bitCount_95d88_35 : decode cJ13_bitCount_95d88 35 = .ok (.lload_n 0, 1) := by decide +kernel
theorem dJ13_bitCount_95d88_36 : decode cJ13_bitCount_95d88 36 = .ok (.bipush 8, 2) := by decide +kernel
theorem dJ13_bitCount_95d88_38 : decode cJ13_bitCount_95d88 38 = .ok (.lushr, 1) := by decide +kernel
theorem dJ13_bitCount_95d88_39 : decode cJ13_bitCount_95d88 39 = .ok (.ladd, 1) := by decide +kernel
theorem dJ13_bitCount_95d88_40 : decode cJ13_bitCount_95d88 40 = .ok (.lstore_n 0, 1) := by decide +kernel
theorem dJ13_bitCount_95d88_41 : decode cJ13_bitCount_95d88 41 = .ok (.lload_n 0, 1) := by decide +kernel
theorem dJ13_bitCount_95d88_42 : decode cJ13_bitCount_95d88 42 = .ok (.lload_n 0, 1) := by decide +kernel
theorem dJ13_bitCount_95d88_43 : decode cJ13_bitCount_95d88 43 = .ok (.bipush 16, 2) := by decide +kernel
theorem dJ13_bitCount_95d88_45 : decode cJ13_bitCount_95d88 45 = .ok (.lushr, 1) := by decide +kernel
theorem dJ13_bitCount_95d88_46 : decode cJ13_bitCount_95d88 46 = .ok (.ladd, 1) := by decide +kernel
theorem dJ13_bitCount_95d88_47 : decode cJ13_bitCount_95d88 47 = .ok (.lstore_n 0, 1) := by decide +kernel
theorem dJ13_bitCount_95d88_48 : decode cJ13_bitCount_95d88 48 = .ok (.lload_n 0, 1) := by decide +kernel
theorem dJ13_bitCount_95d88_49 : decode cJ13_bitCount_95d88 49 = .ok (.lload_n 0, 1) := by decide +kernel
theorem dJ13_bitCount_95d88_50 : decode cJ13_bitCount_95d88 50 = .ok (.bipush 32, 2) := by decide +kernel
theorem dJ13_bitCount_95d88_52 : decode cJ13_bitCount_95d88 52 = .ok (.lushr, 1) := by decide +kernel
theorem dJ13_bitCount_95d88_53 : decode cJ13_bitCount_95d88 53 = .ok (.ladd, 1) := by decide +kernel
theorem dJ13_bitCount_95d88_54 : decode cJ13_bitCount_95d88 54 = .ok (.lstore_n 0, 1) := by decide +kernel
theorem dJ13_bitCount_95d88_55 : decode cJ13_bitCount_95d88 55 = .ok (.lload_n 0, 1) := by decide +kernel
theorem dJ13_bitCount_95d88_56 : decode cJ13_bitCount_95d88 56 = .ok (.l2i, 1) := by decide +kernel
theorem dJ13_bitCount_95d88_57 : decode cJ13_bitCount_95d88 57 = .ok (.bipush 127, 2) := by decide +kernel
theorem dJ13_bitCount_95d88_59 : decode cJ13_bitCount_95d88 59 = .ok (.iand, 1) := by decide +kernel
theorem dJ13_bitCount_95d88_60 : decode cJ13_bitCount_95d88 60 = .ok (.ireturn, 1) := by decide +kernel
theorem dJ9_max_7cf53_0 : decode cJ9_max_7cf53 0 = .ok (.iload_n 0, 1) := by decide +kernel
theorem dJ9_max_7cf53_1 : decode cJ9_max_7cf53 1 = .ok (.iload_n 1, 1) := by decide +kernel
theorem dJ9_max_7cf53_2 : decode cJ9_max_7cf53 2 = .ok (.if_icmp .lt 7, 3) := by decide +kernel
theorem dJ9_max_7cf53_5 : decode cJ9_max_7cf53 5 = .ok (.iload_n 0, 1) := by decide +kernel
theorem dJ9_max_7cf53_6 : decode cJ9_max_7cf53 6 = .ok (.goto 4, 3) := by decide +kernel
theorem dJ9_max_7cf53_9 : decode cJ9_max_7cf53 9 = .ok (.iload_n 1, 1) := by decide +kernel
theorem dJ9_max_7cf53_10 : decode cJ9_max_7cf53 10 = .ok (.ireturn, 1) := by decide +kernel
theorem dJ9_min_7cf53_0 : decode cJ9_min_7cf53 0 = .ok (.iload_n 0, 1) := by decide +kernel
theorem dJ9_min_7cf53_1 : decode cJ9_min_7cf53 1 = .ok (.iload_n 1, 1) := by decide +kernel
theorem dJ9_min_7cf53_2 : decode cJ9_min_7cf53 2 = .ok (.if_icmp .gt 7, 3) := by decide +kernel
theorem dJ9_min_7cf53_5 : decode cJ9_min_7cf53 5 = .ok (.iload_n 0, 1) := by decide +kernel
theorem dJ9_min_7cf53_6 : decode cJ9_min_7cf53 6 = .ok (.goto 4, 3) := by decide +kernel
theorem dJ9_min_7cf53_9 : decode cJ9_min_7cf53 9 = .ok (.iload_n 1, 1) := by decide +kernel
theorem dJ9_min_7cf53_10 : decode cJ9_min_7cf53 10 = .ok (.ireturn, 1) := by decide +kernel
theorem dJ0_length_8abf5_0 : decode cJ0_length_8abf5 0 = .ok (.aload_n 0, 1) := by decide +kernel
theorem dJ0_length_8abf5_1 : decode cJ0_length_8abf5 1 = .ok (.getfield 9, 3) := by decide +kernel
theorem dJ0_length_8abf5_4 : decode cJ0_length_8abf5 4 = .ok (.arraylength, 1) := by decide +kernel
theorem dJ0_length_8abf5_5 : decode cJ0_length_8abf5 5 = .ok (.aload_n 0, 1) := by decide +kernel
theorem dJ0_length_8abf5_6 : decode cJ0_length_8abf5 6 = .ok (.invokevirtual 335, 3) := by decide +kernel
theorem dJ0_length_8abf5_9 : decode cJ0_length_8abf5 9 = .ok (.ishr, 1) := by decide +kernel
theorem dJ0_length_8abf5_10 : decode cJ0_length_8abf5 10 = .ok (.ireturn, 1) := by decide +kernel
theorem dJ0_charAt_5068e_0 : decode cJ0_charAt_5068e 0 = .ok (.aload_n 0, 1) := by decide +kernel
theorem dJ0_charAt_5068e_1 : decode cJ0_charAt_5068e 1 = .ok (.invokevirtual 492, 3) := by decide +kernel
theorem dJ0_charAt_5068e_4 : decode cJ0_charAt_5068e 4 = .ok (.ifCond .eq 12, 3) := by decide +kernel
theorem dJ0_charAt_5068e_7 : decode cJ0_charAt_5068e 7 = .ok (.aload_n 0, 1) := by decide +kernel
theorem dJ0_charAt_5068e_8 : decode cJ0_charAt_5068e 8 = .ok (.getfield 9, 3) := by decide +kernel
theorem dJ0_charAt_5068e_11 : decode cJ0_charAt_5068e 11 = .ok (.iload_n 1, 1) := by decide +kernel
theorem dJ0_charAt_5068e_12 : decode cJ0_charAt_5068e 12 = .ok (.invokestatic 495, 3) := by decide +kernel
theorem dJ0_charAt_5068e_15 : decode cJ0_charAt_5068e 15 = .ok (.ireturn, 1) := by decide +kernel
theorem dJ0_charAt_5068e_16 : decode cJ0_charAt_5068e 16 = .ok (.aload_n 0, 1) := by decide +kernel
theorem dJ0_charAt_5068e_17 : decode cJ0_charAt_5068e 17 = .ok (.getfield 9, 3) := by decide +kernel
theorem dJ0_charAt_5068e_20 : decode cJ0_charAt_5068e 20 = .ok (.iload_n 1, 1) := by decide +kernel
theorem dJ0_charAt_5068e_21 : decode cJ0_charAt_5068e 21 = .ok (.invokestatic 498, 3) := by decide +kernel
theorem dJ0_charAt_5068e_24 : decode cJ0_charAt_5068e 24 = .ok (.ireturn, 1) := by decide +kernel
theorem dJ0_coder_7d493_0 : decode cJ0_coder_7d493 0 = .ok (.getstatic 38, 3) := by decide +kernel
theorem dJ0_coder_7d493_3 : decode cJ0_coder_7d493 3 = .ok (.ifCond .eq 10, 3) := by decide +kernel
theorem dJ0_coder_7d493_6 : decode cJ0_coder_7d493 6 = .ok (.aload_n 0, 1) := by decide +kernel
theorem dJ0_coder_7d493_7 : decode cJ0_coder_7d493 7 = .ok (.getfield 15, 3) := by decide +kernel
theorem dJ0_coder_7d493_10 : decode cJ0_coder_7d493 10 = .ok (.goto 4, 3) := by decide +kernel
theorem dJ0_coder_7d493_13 : decode cJ0_coder_7d493 13 = .ok (.iconst 1, 1) := by decide +kernel
theorem dJ0_coder_7d493_14 : decode cJ0_coder_7d493 14 = .ok (.ireturn, 1) := by decide +kernel
theorem dJ0_isLatin1_aae02_0 : decode cJ0_isLatin1_aae02 0 = .ok (.getstatic 38, 3) := by decide +kernel
theorem dJ0_isLatin1_aae02_3 : decode cJ0_isLatin1_aae02 3 = .ok (.ifCond .eq 14, 3) := by decide +kernel
theorem dJ0_isLatin1_aae02_6 : decode cJ0_isLatin1_aae02 6 = .ok (.aload_n 0, 1) := by decide +kernel
theorem dJ0_isLatin1_aae02_7 : decode cJ0_isLatin1_aae02 7 = .ok (.getfield 15, 3) := by decide +kernel
theorem dJ0_isLatin1_aae02_10 : decode cJ0_isLatin1_aae02 10 = .ok (.ifCond .ne 7, 3) := by decide +kernel
theorem dJ0_isLatin1_aae02_13 : decode cJ0_isLatin1_aae02 13 = .ok (.iconst 1, 1) := by decide +kernel
theorem dJ0_isLatin1_aae02_14 : decode cJ0_isLatin1_aae02 14 = .ok (.goto 4, 3) := by decide +kernel
theorem dJ0_isLatin1_aae02_17 : decode cJ0_isLatin1_aae02 17 = .ok (.iconst 0, 1) := by decide +kernel
theorem dJ0_isLatin1_aae02_18 : decode cJ0_isLatin1_aae02 18 = .ok (.ireturn, 1) := by decide +kernel
theorem dJ0_checkIndex_df160_0 : decode cJ0_checkIndex_df160 0 = .ok (.iload_n 0, 1) := by decide +kernel
theorem dJ0_checkIndex_df160_1 : decode cJ0_checkIndex_df160 1 = .ok (.iload_n 1, 1) := by decide +kernel
theorem dJ0_checkIndex_df160_2 : decode cJ0_checkIndex_df160 2 = .ok (.getstatic 1053, 3) := by decide +kernel
theorem dJ0_checkIndex_df160_5 : decode cJ0_checkIndex_df160 5 = .ok (.invokestatic 1059, 3) := by decide +kernel
theorem dJ0_checkIndex_df160_8 : decode cJ0_checkIndex_df160 8 = .ok (.pop, 1) := by decide +kernel
theorem dJ0_checkIndex_df160_9 : decode cJ0_checkIndex_df160 9 = .ok (.return_, 1) := by decide +kernel
theorem dJ1_charAt_3b067_0 : decode cJ1_charAt_3b067 0 = .ok (.iload_n 1, 1) := by decide +kernel
theorem dJ1_charAt_3b067_1 : decode cJ1_charAt_3b067 1 = .ok (.aload_n 0, 1) := by decide +kernel
theorem dJ1_charAt_3b067_2 : decode cJ1_charAt_3b067 2 = .ok (.arraylength, 1) := by decide +kernel
theorem dJ1_charAt_3b067_3 : decode cJ1_charAt_3b067 3 = .ok (.invokestatic 9, 3) := by decide +kernel
theorem dJ1_charAt_3b067_6 : decode cJ1_charAt_3b067 6 = .ok (.aload_n 0, 1) := by decide +kernel
theorem dJ1_charAt_3b067_7 : decode cJ1_charAt_3b067 7 = .ok (.iload_n 1, 1) := by decide +kernel
theorem dJ1_charAt_3b067_8 : decode cJ1_charAt_3b067 8 = .ok (.baload, 1) := by decide +kernel
theorem dJ1_charAt_3b067_9 : decode cJ1_charAt_3b067 9 = .ok (.sipush 255, 3) := by decide +kernel
theorem dJ1_charAt_3b067_12 : decode cJ1_charAt_3b067 12 = .ok (.iand, 1) := by decide +kernel
theorem dJ1_charAt_3b067_13 : decode cJ1_charAt_3b067 13 = .ok (.i2c, 1) := by decide +kernel
theorem dJ1_charAt_3b067_14 : decode cJ1_charAt_3b067 14 = .ok (.ireturn, 1) := by decide +kernel
theorem dJ2_getChar_3b067_0 : decode cJ2_getChar_3b067 0 = .ok (.getstatic 44, 3) := by decide +kernel
theorem dJ2_getChar_3b067_3 : decode cJ2_getChar_3b067 3 = .ok (.ifCond .ne 25, 3) := by decide +kernel
theorem dJ2_getChar_3b067_6 : decode cJ2_getChar_3b067 6 = .ok (.iload_n 1, 1) := by decide +kernel
theorem dJ2_getChar_3b067_7 : decode cJ2_getChar_3b067 7 = .ok (.ifCond .lt 11, 3) := by decide +kernel
theorem dJ2_getChar_3b067_10 : decode cJ2_getChar_3b067 10 = .ok (.iload_n 1, 1) := by decide +kernel
theorem dJ2_getChar_3b067_11 : decode cJ2_getChar_3b067 11 = .ok (.aload_n 0, 1) := by decide +kernel
theorem dJ2_getChar_3b067_12 : decode cJ2_getChar_3b067 12 = .ok (.invokestatic 48, 3) := by decide +kernel
theorem dJ2_getChar_3b067_15 : decode cJ2_getChar_3b067 15 = .ok (.if_icmp .lt 13, 3) := by decide +kernel
theorem dJ2_getChar_3b067_18 : decode cJ2_getChar_3b067 18 = .ok (.new 52, 3) := by decide +kernel
theorem dJ2_getChar_3b067_21 : decode cJ2_getChar_3b067 21 = .ok (.dup, 1) := by decide +kernel
theorem dJ2_getChar_3b067_22 : decode cJ2_getChar_3b067 22 = .ok (.ldc 54, 2) := by decide +kernel
theorem dJ2_getChar_3b067_24 : decode cJ2_getChar_3b067 24 = .ok (.invokespecial 56, 3) := by decide +kernel
theorem dJ2_getChar_3b067_27 : decode cJ2_getChar_3b067 27 = .ok (.athrow, 1) := by decide +kernel
theorem dJ2_getChar_3b067_28 : decode cJ2_getChar_3b067 28 = .ok (.iload_n 1, 1) := by decide +kernel
theorem dJ2_getChar_3b067_29 : decode cJ2_getChar_3b067 29 = .ok (.iconst 1, 1) := by decide +kernel
theorem dJ2_getChar_3b067_30 : decode cJ2_getChar_3b067 30 = .ok (.ishl, 1) := by decide +kernel
theorem dJ2_getChar_3b067_31 : decode cJ2_getChar_3b067 31 = .ok (.istore_n 1, 1) := by decide +kernel
theorem dJ2_getChar_3b067_32 : decode cJ2_getChar_3b067 32 = .ok (.aload_n 0, 1) := by decide +kernel
theorem dJ2_getChar_3b067_33 : decode cJ2_getChar_3b067 33 = .ok (.iload_n 1, 1) := by decide +kernel
theorem dJ2_getChar_3b067_34 : decode cJ2_getChar_3b067 34 = .ok (.iinc 1 1, 3) := by decide +kernel
theorem dJ2_getChar_3b067_37 : decode cJ2_getChar_3b067 37 = .ok (.baload, 1) := by decide +kernel
theorem dJ2_getChar_3b067_38 : decode cJ2_getChar_3b067 38 = .ok (.sipush 255, 3) := by decide +kernel
theorem dJ2_getChar_3b067_41 : decode cJ2_getChar_3b067 41 = .ok (.iand, 1) := by decide +kernel
theorem dJ2_getChar_3b067_42 : decode cJ2_getChar_3b067 42 = .ok (.getstatic 59, 3) := by decide +kernel
theorem dJ2_getChar_3b067_45 : decode cJ2_getChar_3b067 45 = .ok (.ishl, 1) := by decide +kernel
theorem dJ2_getChar_3b067_46 : decode cJ2_getChar_3b067 46 = .ok (.aload_n 0, 1) := by decide +kernel
theorem dJ2_getChar_3b067_47 : decode cJ2_getChar_3b067 47 = .ok (.iload_n 1, 1) := by decide +kernel
theorem dJ2_getChar_3b067_48 : decode cJ2_getChar_3b067 48 = .ok (.baload, 1) := by decide +kernel
theorem dJ2_getChar_3b067_49 : decode cJ2_getChar_3b067 49 = .ok (.sipush 255, 3) := by decide +kernel
theorem dJ2_getChar_3b067_52 : decode cJ2_getChar_3b067 52 = .ok (.iand, 1) := by decide +kernel
theorem dJ2_getChar_3b067_53 : decode cJ2_getChar_3b067 53 = .ok (.getstatic 63, 3) := by decide +kernel
theorem dJ2_getChar_3b067_56 : decode cJ2_getChar_3b067 56 = .ok (.ishl, 1) := by decide +kernel
theorem dJ2_getChar_3b067_57 : decode cJ2_getChar_3b067 57 = .ok (.ior, 1) := by decide +kernel
theorem dJ2_getChar_3b067_58 : decode cJ2_getChar_3b067 58 = .ok (.i2c, 1) := by decide +kernel
theorem dJ2_getChar_3b067_59 : decode cJ2_getChar_3b067 59 = .ok (.ireturn, 1) := by decide +kernel
theorem dJ2_length_9d52b_0 : decode cJ2_length_9d52b 0 = .ok (.aload_n 0, 1) := by decide +kernel
theorem dJ2_length_9d52b_1 : decode cJ2_length_9d52b 1 = .ok (.arraylength, 1) := by decide +kernel
theorem dJ2_length_9d52b_2 : decode cJ2_length_9d52b 2 = .ok (.iconst 1, 1) := by decide +kernel
theorem dJ2_length_9d52b_3 : decode cJ2_length_9d52b 3 = .ok (.ishr, 1) := by decide +kernel
theorem dJ2_length_9d52b_4 : decode cJ2_length_9d52b 4 = .ok (.ireturn, 1) := by decide +kernel
theorem dJ2_charAt_3b067_0 : decode cJ2_charAt_3b067 0 = .ok (.iload_n 1, 1) := by decide +kernel
theorem dJ2_charAt_3b067_1 : decode cJ2_charAt_3b067 1 = .ok (.aload_n 0, 1) := by decide +kernel
theorem dJ2_charAt_3b067_2 : decode cJ2_charAt_3b067 2 = .ok (.invokestatic 67, 3) := by decide +kernel
theorem dJ2_charAt_3b067_5 : decode cJ2_charAt_3b067 5 = .ok (.aload_n 0, 1) := by decide +kernel
theorem dJ2_charAt_3b067_6 : decode cJ2_charAt_3b067 6 = .ok (.iload_n 1, 1) := by decide +kernel
theorem dJ2_charAt_3b067_7 : decode cJ2_charAt_3b067 7 = .ok (.invokestatic 71, 3) := by decide +kernel
theorem dJ2_charAt_3b067_10 : decode cJ2_charAt_3b067 10 = .ok (.ireturn, 1) := by decide +kernel
theorem dJ2_checkIndex_2214a_0 : decode cJ2_checkIndex_2214a 0 = .ok (.iload_n 0, 1) := by decide +kernel
theorem dJ2_checkIndex_2214a_1 : decode cJ2_checkIndex_2214a 1 = .ok (.aload_n 1, 1) := by decide +kernel
theorem dJ2_checkIndex_2214a_2 : decode cJ2_checkIndex_2214a 2 = .ok (.invokestatic 48, 3) := by decide +kernel
theorem dJ2_checkIndex_2214a_5 : decode cJ2_checkIndex_2214a 5 = .ok (.invokestatic 414, 3) := by decide +kernel
theorem dJ2_checkIndex_2214a_8 : decode cJ2_checkIndex_2214a 8 = .ok (.return_, 1) := by decide +kernel
theorem dJ3_checkIndex_8e157_0 : decode cJ3_checkIndex_8e157 0 = .ok (.iload_n 0, 1) := by decide +kernel
theorem dJ3_checkIndex_8e157_1 : decode cJ3_checkIndex_8e157 1 = .ok (.ifCond .lt 8, 3) := by decide +kernel
theorem dJ3_checkIndex_8e157_4 : decode cJ3_checkIndex_8e157 4 = .ok (.iload_n 0, 1) := by decide +kernel
theorem dJ3_checkIndex_8e157_5 : decode cJ3_checkIndex_8e157 5 = .ok (.iload_n 1, 1) := by decide +kernel
theorem dJ3_checkIndex_8e157_6 : decode cJ3_checkIndex_8e157 6 = .ok (.if_icmp .lt 10, 3) := by decide +kernel
theorem dJ3_checkIndex_8e157_9 : decode cJ3_checkIndex_8e157 9 = .ok (.aload_n 2, 1) := by decide +kernel
theorem dJ3_checkIndex_8e157_10 : decode cJ3_checkIndex_8e157 10 = .ok (.iload_n 0, 1) := by decide +kernel
theorem dJ3_checkIndex_8e157_11 : decode cJ3_checkIndex_8e157 11 = .ok (.iload_n 1, 1) := by decide +kernel
theorem dJ3_checkIndex_8e157_12 : decode cJ3_checkIndex_8e157 12 = .ok (.invokestatic 95, 3) := by decide +kernel
theorem dJ3_checkIndex_8e157_15 : decode cJ3_checkIndex_8e157 15 = .ok (.athrow, 1) := by decide +kernel
theorem dJ3_checkIndex_8e157_16 : decode cJ3_checkIndex_8e157 16 = .ok (.iload_n 0, 1) := by decide +kernel
theorem dJ3_checkIndex_8e157_17 : decode cJ3_checkIndex_8e157 17 = .ok (.ireturn, 1) := by decide +kernel
end
section
theorem dL_cell_0 : decode cL_cell 0 = .ok (.aload_n 0, 1) := by decide +kernel
theorem dL_cell_1 : decode cL_cell 1 = .ok (.arraylength, 1) := by decide +kernel
theorem dL_cell_2 : decode cL_cell 2 = .ok (.ifCond .ne 11, 3) := by decide +kernel
theorem dL_cell_5 : decode cL_cell 5 = .ok (.sipush 577, 3) := by decide +kernel
theorem dL_cell_8 : decode cL_cell 8 = .ok (.iload_n 1, 1) := by decide +kernel
theorem dL_cell_9 : decode cL_cell 9 = .ok (.imul, 1) := by decide +kernel
theorem dL_cell_10 : decode cL_cell 10 = .ok (.goto 12, 3) := by decide +kernel
theorem dL_cell_13 : decode cL_cell 13 = .ok (.aload_n 0, 1) := by decide +kernel
theorem dL_cell_14 : decode cL_cell 14 = .ok (.iload_n 1, 1) := by decide +kernel
theorem dL_cell_15 : decode cL_cell 15 = .ok (.ldc 9, 2) := by decide +kernel
theorem dL_cell_17 : decode cL_cell 17 = .ok (.iand, 1) := by decide +kernel
theorem dL_cell_18 : decode cL_cell 18 = .ok (.aload_n 0, 1) := by decide +kernel
theorem dL_cell_19 : decode cL_cell 19 = .ok (.arraylength, 1) := by decide +kernel
theorem dL_cell_20 : decode cL_cell 20 = .ok (.irem, 1) := by decide +kernel
theorem dL_cell_21 : decode cL_cell 21 = .ok (.iaload, 1) := by decide +kernel
theorem dL_cell_22 : decode cL_cell 22 = .ok (.ireturn, 1) := by decide +kernel
theorem dL_write_0 : decode cL_write 0 = .ok (.iconst 0, 1) := by decide +kernel
theorem dL_write_1 : decode cL_write 1 = .ok (.istore_n 2, 1) := by decide +kernel
theorem dL_write_2 : decode cL_write 2 = .ok (.iload_n 2, 1) := by decide +kernel
theorem dL_write_3 : decode cL_write 3 = .ok (.aload_n 1, 1) := by decide +kernel
theorem dL_write_4 : decode cL_write 4 = .ok (.invokevirtual 10, 3) := by decide +kernel
theorem dL_write_7 : decode cL_write 7 = .ok (.if_icmp .ge 19, 3) := by decide +kernel
theorem dL_write_10 : decode cL_write 10 = .ok (.aload_n 0, 1) := by decide +kernel
theorem dL_write_11 : decode cL_write 11 = .ok (.aload_n 1, 1) := by decide +kernel
theorem dL_write_12 : decode cL_write 12 = .ok (.iload_n 2, 1) := by decide +kernel
theorem dL_write_13 : decode cL_write 13 = .ok (.invokevirtual 16, 3) := by decide +kernel
theorem dL_write_16 : decode cL_write 16 = .ok (.invokevirtual 20, 3) := by decide +kernel
theorem dL_write_19 : decode cL_write 19 = .ok (.pop, 1) := by decide +kernel
theorem dL_write_20 : decode cL_write 20 = .ok (.iinc 2 1, 3) := by decide +kernel
theorem dL_write_23 : decode cL_write 23 = .ok (.goto (-21), 3) := by decide +kernel
theorem dL_write_26 : decode cL_write 26 = .ok (.aload_n 0, 1) := by decide +kernel
theorem dL_write_27 : decode cL_write 27 = .ok (.areturn, 1) := by decide +kernel
theorem dL_act_0 : decode cL_act 0 = .ok (.iload_n 1, 1) := by decide +kernel
theorem dL_act_1 : decode cL_act 1 = .ok (.iconst 4, 1) := by decide +kernel
theorem dL_act_2 : decode cL_act 2 = .ok (.ishr, 1) := by decide +kernel
theorem dL_act_3 : decode cL_act 3 = .ok (.ldc 9, 2) := by decide +kernel
theorem dL_act_5 : decode cL_act 5 = .ok (.iand, 1) := by decide +kernel
theorem dL_act_6 : decode cL_act 6 = .ok (.istore_n 2, 1) := by decide +kernel
theorem dL_act_7 : decode cL_act 7 = .ok (.iload_n 2, 1) := by decide +kernel
theorem dL_act_8 : decode cL_act 8 = .ok (.iconst 3, 1) := by decide +kernel
theorem dL_act_9 : decode cL_act 9 = .ok (.iand, 1) := by decide +kernel
theorem dL_act_10 : decode cL_act 10 = .ok (.ifCond .ne 11, 3) := by decide +kernel
theorem dL_act_13 : decode cL_act 13 = .ok (.iload_n 2, 1) := by decide +kernel
theorem dL_act_14 : decode cL_act 14 = .ok (.iconst 2, 1) := by decide +kernel
theorem dL_act_15 : decode cL_act 15 = .ok (.ishr, 1) := by decide +kernel
theorem dL_act_16 : decode cL_act 16 = .ok (.iconst 4, 1) := by decide +kernel
theorem dL_act_17 : decode cL_act 17 = .ok (.irem, 1) := by decide +kernel
theorem dL_act_18 : decode cL_act 18 = .ok (.goto 4, 3) := by decide +kernel
theorem dL_act_21 : decode cL_act 21 = .ok (.iconst 0, 1) := by decide +kernel
theorem dL_act_22 : decode cL_act 22 = .ok (.istore_n 3, 1) := by decide +kernel
theorem dL_act_23 : decode cL_act 23 = .ok (.iload_n 2, 1) := by decide +kernel
theorem dL_act_24 : decode cL_act 24 = .ok (.iconst 4, 1) := by decide +kernel
theorem dL_act_25 : decode cL_act 25 = .ok (.ishr, 1) := by decide +kernel
theorem dL_act_26 : decode cL_act 26 = .ok (.iconst 3, 1) := by decide +kernel
theorem dL_act_27 : decode cL_act 27 = .ok (.irem, 1) := by decide +kernel
theorem dL_act_28 : decode cL_act 28 = .ok (.ifCond .ne 13, 3) := by decide +kernel
theorem dL_act_31 : decode cL_act 31 = .ok (.iload_n 2, 1) := by decide +kernel
theorem dL_act_32 : decode cL_act 32 = .ok (.iconst 3, 1) := by decide +kernel
theorem dL_act_33 : decode cL_act 33 = .ok (.ishr, 1) := by decide +kernel
theorem dL_act_34 : decode cL_act 34 = .ok (.sipush 1001, 3) := by decide +kernel
theorem dL_act_37 : decode cL_act 37 = .ok (.irem, 1) := by decide +kernel
theorem dL_act_38 : decode cL_act 38 = .ok (.goto 12, 3) := by decide +kernel
theorem dL_act_41 : decode cL_act 41 = .ok (.bipush 100, 2) := by decide +kernel
theorem dL_act_43 : decode cL_act 43 = .ok (.iload_n 2, 1) := by decide +kernel
theorem dL_act_44 : decode cL_act 44 = .ok (.iconst 3, 1) := by decide +kernel
theorem dL_act_45 : decode cL_act 45 = .ok (.ishr, 1) := by decide +kernel
theorem dL_act_46 : decode cL_act 46 = .ok (.bipush 60, 2) := by decide +kernel
theorem dL_act_48 : decode cL_act 48 = .ok (.irem, 1) := by decide +kernel
theorem dL_act_49 : decode cL_act 49 = .ok (.iadd, 1) := by decide +kernel
theorem dL_act_50 : decode cL_act 50 = .ok (.istore 4, 2) := by decide +kernel
theorem dL_act_52 : decode cL_act 52 = .ok (.iload_n 1, 1) := by decide +kernel
theorem dL_act_53 : decode cL_act 53 = .ok (.bipush 15, 2) := by decide +kernel
theorem dL_act_55 : decode cL_act 55 = .ok (.iand, 1) := by decide +kernel
theorem dL_act_56 : decode cL_act 56 = .ok (.tableswitch 260 0 14 #[76, 76, 76, 76, 76, 90, 90, 123, 123, 161, 169, 193, 228, 242, 242], 76) := by decide +kernel
theorem dL_act_132 : decode cL_act 132 = .ok (.aload_n 0, 1) := by decide +kernel
theorem dL_act_133 : decode cL_act 133 = .ok (.iload_n 3, 1) := by decide +kernel
theorem dL_act_134 : decode cL_act 134 = .ok (.iload 4, 2) := by decide +kernel
theorem dL_act_136 : decode cL_act 136 = .ok (.iload_n 2, 1) := by decide +kernel
theorem dL_act_137 : decode cL_act 137 = .ok (.iconst 5, 1) := by decide +kernel
theorem dL_act_138 : decode cL_act 138 = .ok (.ishr, 1) := by decide +kernel
theorem dL_act_139 : decode cL_act 139 = .ok (.bipush 101, 2) := by decide +kernel
theorem dL_act_141 : decode cL_act 141 = .ok (.irem, 1) := by decide +kernel
theorem dL_act_142 : decode cL_act 142 = .ok (.invokevirtual 24, 3) := by decide +kernel
theorem dL_act_145 : decode cL_act 145 = .ok (.ireturn, 1) := by decide +kernel
theorem dL_act_146 : decode cL_act 146 = .ok (.aload_n 0, 1) := by decide +kernel
theorem dL_act_147 : decode cL_act 147 = .ok (.iload_n 3, 1) := by decide +kernel
theorem dL_act_148 : decode cL_act 148 = .ok (.sipush 999, 3) := by decide +kernel
theorem dL_act_151 : decode cL_act 151 = .ok (.aload_n 0, 1) := by decide +kernel
theorem dL_act_152 : decode cL_act 152 = .ok (.iload_n 3, 1) := by decide +kernel
theorem dL_act_153 : decode cL_act 153 = .ok (.iconst 0, 1) := by decide +kernel
theorem dL_act_154 : decode cL_act 154 = .ok (.invokevirtual 28, 3) := by decide +kernel
theorem dL_act_157 : decode cL_act 157 = .ok (.bipush 20, 2) := by decide +kernel
theorem dL_act_159 : decode cL_act 159 = .ok (.imul, 1) := by decide +kernel
theorem dL_act_160 : decode cL_act 160 = .ok (.sipush 200, 3) := by decide +kernel
theorem dL_act_163 : decode cL_act 163 = .ok (.iadd, 1) := by decide +kernel
theorem dL_act_164 : decode cL_act 164 = .ok (.invokestatic 32, 3) := by decide +kernel
theorem dL_act_167 : decode cL_act 167 = .ok (.iconst 1, 1) := by decide +kernel
theorem dL_act_168 : decode cL_act 168 = .ok (.iload_n 2, 1) := by decide +kernel
theorem dL_act_169 : decode cL_act 169 = .ok (.iconst 5, 1) := by decide +kernel
theorem dL_act_170 : decode cL_act 170 = .ok (.ishr, 1) := by decide +kernel
theorem dL_act_171 : decode cL_act 171 = .ok (.bipush 99, 2) := by decide +kernel
theorem dL_act_173 : decode cL_act 173 = .ok (.irem, 1) := by decide +kernel
theorem dL_act_174 : decode cL_act 174 = .ok (.iadd, 1) := by decide +kernel
theorem dL_act_175 : decode cL_act 175 = .ok (.invokevirtual 24, 3) := by decide +kernel
theorem dL_act_178 : decode cL_act 178 = .ok (.ireturn, 1) := by decide +kernel
theorem dL_act_179 : decode cL_act 179 = .ok (.aload_n 0, 1) := by decide +kernel
theorem dL_act_180 : decode cL_act 180 = .ok (.iload_n 3, 1) := by decide +kernel
theorem dL_act_181 : decode cL_act 181 = .ok (.iconst 0, 1) := by decide +kernel
theorem dL_act_182 : decode cL_act 182 = .ok (.invokevirtual 28, 3) := by decide +kernel
theorem dL_act_185 : decode cL_act 185 = .ok (.ifCond .le 16, 3) := by decide +kernel
theorem dL_act_188 : decode cL_act 188 = .ok (.iload_n 2, 1) := by decide +kernel
theorem dL_act_189 : decode cL_act 189 = .ok (.iconst 4, 1) := by decide +kernel
theorem dL_act_190 : decode cL_act 190 = .ok (.ishr, 1) := by decide +kernel
theorem dL_act_191 : decode cL_act 191 = .ok (.aload_n 0, 1) := by decide +kernel
theorem dL_act_192 : decode cL_act 192 = .ok (.iload_n 3, 1) := by decide +kernel
theorem dL_act_193 : decode cL_act 193 = .ok (.iconst 0, 1) := by decide +kernel
theorem dL_act_194 : decode cL_act 194 = .ok (.invokevirtual 28, 3) := by decide +kernel
theorem dL_act_197 : decode cL_act 197 = .ok (.irem, 1) := by decide +kernel
theorem dL_act_198 : decode cL_act 198 = .ok (.goto 4, 3) := by decide +kernel
theorem dL_act_201 : decode cL_act 201 = .ok (.iconst 0, 1) := by decide +kernel
theorem dL_act_202 : decode cL_act 202 = .ok (.istore 5, 2) := by decide +kernel
theorem dL_act_204 : decode cL_act 204 = .ok (.aload_n 0, 1) := by decide +kernel
theorem dL_act_205 : decode cL_act 205 = .ok (.iload_n 3, 1) := by decide +kernel
theorem dL_act_206 : decode cL_act 206 = .ok (.aload_n 0, 1) := by decide +kernel
theorem dL_act_207 : decode cL_act 207 = .ok (.iload_n 3, 1) := by decide +kernel
theorem dL_act_208 : decode cL_act 208 = .ok (.iload 5, 2) := by decide +kernel
theorem dL_act_210 : decode cL_act 210 = .ok (.invokevirtual 37, 3) := by decide +kernel
theorem dL_act_213 : decode cL_act 213 = .ok (.invokevirtual 40, 3) := by decide +kernel
theorem dL_act_216 : decode cL_act 216 = .ok (.ireturn, 1) := by decide +kernel
theorem dL_act_217 : decode cL_act 217 = .ok (.aload_n 0, 1) := by decide +kernel
theorem dL_act_218 : decode cL_act 218 = .ok (.iload_n 3, 1) := by decide +kernel
theorem dL_act_219 : decode cL_act 219 = .ok (.iload 4, 2) := by decide +kernel
theorem dL_act_221 : decode cL_act 221 = .ok (.invokevirtual 40, 3) := by decide +kernel
theorem dL_act_224 : decode cL_act 224 = .ok (.ireturn, 1) := by decide +kernel
theorem dL_act_225 : decode cL_act 225 = .ok (.iload_n 2, 1) := by decide +kernel
theorem dL_act_226 : decode cL_act 226 = .ok (.bipush 12, 2) := by decide +kernel
theorem dL_act_228 : decode cL_act 228 = .ok (.iand, 1) := by decide +kernel
theorem dL_act_229 : decode cL_act 229 = .ok (.ifCond .ne 11, 3) := by decide +kernel
theorem dL_act_232 : decode cL_act 232 = .ok (.aload_n 0, 1) := by decide +kernel
theorem dL_act_233 : decode cL_act 233 = .ok (.iload_n 3, 1) := by decide +kernel
theorem dL_act_234 : decode cL_act 234 = .ok (.invokevirtual 43, 3) := by decide +kernel
theorem dL_act_237 : decode cL_act 237 = .ok (.goto 11, 3) := by decide +kernel
theorem dL_act_240 : decode cL_act 240 = .ok (.aload_n 0, 1) := by decide +kernel
theorem dL_act_241 : decode cL_act 241 = .ok (.iconst 1, 1) := by decide +kernel
theorem dL_act_242 : decode cL_act 242 = .ok (.iload 4, 2) := by decide +kernel
theorem dL_act_244 : decode cL_act 244 = .ok (.iconst 5, 1) := by decide +kernel
theorem dL_act_245 : decode cL_act 245 = .ok (.invokevirtual 24, 3) := by decide +kernel
theorem dL_act_248 : decode cL_act 248 = .ok (.ireturn, 1) := by decide +kernel
theorem dL_act_249 : decode cL_act 249 = .ok (.iload_n 2, 1) := by decide +kernel
theorem dL_act_250 : decode cL_act 250 = .ok (.bipush 28, 2) := by decide +kernel
theorem dL_act_252 : decode cL_act 252 = .ok (.iand, 1) := by decide +kernel
theorem dL_act_253 : decode cL_act 253 = .ok (.ifCond .ne 21, 3) := by decide +kernel
theorem dL_act_256 : decode cL_act 256 = .ok (.aload_n 0, 1) := by decide +kernel
theorem dL_act_257 : decode cL_act 257 = .ok (.iload_n 2, 1) := by decide +kernel
theorem dL_act_258 : decode cL_act 258 = .ok (.iconst 5, 1) := by decide +kernel
theorem dL_act_259 : decode cL_act 259 = .ok (.ishr, 1) := by decide +kernel
theorem dL_act_260 : decode cL_act 260 = .ok (.iconst 3, 1) := by decide +kernel
theorem dL_act_261 : decode cL_act 261 = .ok (.irem, 1) := by decide +kernel
theorem dL_act_262 : decode cL_act 262 = .ok (.iload_n 2, 1) := by decide +kernel
theorem dL_act_263 : decode cL_act 263 = .ok (.bipush 7, 2) := by decide +kernel
theorem dL_act_265 : decode cL_act 265 = .ok (.ishr, 1) := by decide +kernel
theorem dL_act_266 : decode cL_act 266 = .ok (.iconst 3, 1) := by decide +kernel
theorem dL_act_267 : decode cL_act 267 = .ok (.irem, 1) := by decide +kernel
theorem dL_act_268 : decode cL_act 268 = .ok (.invokevirtual 46, 3) := by decide +kernel
theorem dL_act_271 : decode cL_act 271 = .ok (.goto 12, 3) := by decide +kernel
theorem dL_act_274 : decode cL_act 274 = .ok (.aload_n 0, 1) := by decide +kernel
theorem dL_act_275 : decode cL_act 275 = .ok (.iconst 2, 1) := by decide +kernel
theorem dL_act_276 : decode cL_act 276 = .ok (.iload 4, 2) := by decide +kernel
theorem dL_act_278 : decode cL_act 278 = .ok (.bipush 9, 2) := by decide +kernel
theorem dL_act_280 : decode cL_act 280 = .ok (.invokevirtual 24, 3) := by decide +kernel
theorem dL_act_283 : decode cL_act 283 = .ok (.ireturn, 1) := by decide +kernel
theorem dL_act_284 : decode cL_act 284 = .ok (.aload_n 0, 1) := by decide +kernel
theorem dL_act_285 : decode cL_act 285 = .ok (.bipush 54, 2) := by decide +kernel
theorem dL_act_287 : decode cL_act 287 = .ok (.iload_n 2, 1) := by decide +kernel
theorem dL_act_288 : decode cL_act 288 = .ok (.iconst 4, 1) := by decide +kernel
theorem dL_act_289 : decode cL_act 289 = .ok (.ishr, 1) := by decide +kernel
theorem dL_act_290 : decode cL_act 290 = .ok (.bipush 38, 2) := by decide +kernel
theorem dL_act_292 : decode cL_act 292 = .ok (.irem, 1) := by decide +kernel
theorem dL_act_293 : decode cL_act 293 = .ok (.iadd, 1) := by decide +kernel
theorem dL_act_294 : decode cL_act 294 = .ok (.invokevirtual 49, 3) := by decide +kernel
theorem dL_act_297 : decode cL_act 297 = .ok (.ireturn, 1) := by decide +kernel
theorem dL_act_298 : decode cL_act 298 = .ok (.aload_n 0, 1) := by decide +kernel
theorem dL_act_299 : decode cL_act 299 = .ok (.getstatic 52, 3) := by decide +kernel
theorem dL_act_302 : decode cL_act 302 = .ok (.iload_n 2, 1) := by decide +kernel
theorem dL_act_303 : decode cL_act 303 = .ok (.getstatic 52, 3) := by decide +kernel
theorem dL_act_306 : decode cL_act 306 = .ok (.arraylength, 1) := by decide +kernel
theorem dL_act_307 : decode cL_act 307 = .ok (.irem, 1) := by decide +kernel
theorem dL_act_308 : decode cL_act 308 = .ok (.aaload, 1) := by decide +kernel
theorem dL_act_309 : decode cL_act 309 = .ok (.invokestatic 58, 3) := by decide +kernel
theorem dL_act_312 : decode cL_act 312 = .ok (.invokevirtual 62, 3) := by decide +kernel
theorem dL_act_315 : decode cL_act 315 = .ok (.ireturn, 1) := by decide +kernel
theorem dL_act_316 : decode cL_act 316 = .ok (.iload_n 2, 1) := by decide +kernel
theorem dL_act_317 : decode cL_act 317 = .ok (.iconst 3, 1) := by decide +kernel
theorem dL_act_318 : decode cL_act 318 = .ok (.iand, 1) := by decide +kernel
theorem dL_act_319 : decode cL_act 319 = .ok (.ifCond .ne 10, 3) := by decide +kernel
theorem dL_act_322 : decode cL_act 322 = .ok (.aload_n 0, 1) := by decide +kernel
theorem dL_act_323 : decode cL_act 323 = .ok (.invokevirtual 65, 3) := by decide +kernel
theorem dL_act_326 : decode cL_act 326 = .ok (.goto 21, 3) := by decide +kernel
theorem dL_act_329 : decode cL_act 329 = .ok (.iload_n 2, 1) := by decide +kernel
theorem dL_act_330 : decode cL_act 330 = .ok (.iconst 3, 1) := by decide +kernel
theorem dL_act_331 : decode cL_act 331 = .ok (.iand, 1) := by decide +kernel
theorem dL_act_332 : decode cL_act 332 = .ok (.iconst 1, 1) := by decide +kernel
theorem dL_act_333 : decode cL_act 333 = .ok (.if_icmp .ne 10, 3) := by decide +kernel
theorem dL_act_336 : decode cL_act 336 = .ok (.aload_n 0, 1) := by decide +kernel
theorem dL_act_337 : decode cL_act 337 = .ok (.invokevirtual 68, 3) := by decide +kernel
theorem dL_act_340 : decode cL_act 340 = .ok (.goto 7, 3) := by decide +kernel
theorem dL_act_343 : decode cL_act 343 = .ok (.aload_n 0, 1) := by decide +kernel
theorem dL_act_344 : decode cL_act 344 = .ok (.invokevirtual 71, 3) := by decide +kernel
theorem dL_act_347 : decode cL_act 347 = .ok (.ireturn, 1) := by decide +kernel
theorem dL_digest_0 : decode cL_digest 0 = .ok (.ldc2_w 74, 3) := by decide +kernel
theorem dL_digest_3 : decode cL_digest 3 = .ok (.lstore_n 1, 1) := by decide +kernel
theorem dL_digest_4 : decode cL_digest 4 = .ok (.iconst 0, 1) := by decide +kernel
theorem dL_digest_5 : decode cL_digest 5 = .ok (.istore_n 3, 1) := by decide +kernel
theorem dL_digest_6 : decode cL_digest 6 = .ok (.iload_n 3, 1) := by decide +kernel
theorem dL_digest_7 : decode cL_digest 7 = .ok (.bipush 9, 2) := by decide +kernel
theorem dL_digest_9 : decode cL_digest 9 = .ok (.if_icmp .ge 22, 3) := by decide +kernel
theorem dL_digest_12 : decode cL_digest 12 = .ok (.ldc2_w 76, 3) := by decide +kernel
theorem dL_digest_15 : decode cL_digest 15 = .ok (.lload_n 1, 1) := by decide +kernel
theorem dL_digest_16 : decode cL_digest 16 = .ok (.lmul, 1) := by decide +kernel
theorem dL_digest_17 : decode cL_digest 17 = .ok (.aload_n 0, 1) := by decide +kernel
theorem dL_digest_18 : decode cL_digest 18 = .ok (.iload_n 3, 1) := by decide +kernel
theorem dL_digest_19 : decode cL_digest 19 = .ok (.invokevirtual 78, 3) := by decide +kernel
theorem dL_digest_22 : decode cL_digest 22 = .ok (.i2l, 1) := by decide +kernel
theorem dL_digest_23 : decode cL_digest 23 = .ok (.ladd, 1) := by decide +kernel
theorem dL_digest_24 : decode cL_digest 24 = .ok (.lstore_n 1, 1) := by decide +kernel
theorem dL_digest_25 : decode cL_digest 25 = .ok (.iinc 3 1, 3) := by decide +kernel
theorem dL_digest_28 : decode cL_digest 28 = .ok (.goto (-22), 3) := by decide +kernel
theorem dL_digest_31 : decode cL_digest 31 = .ok (.iconst 0, 1) := by decide +kernel
theorem dL_digest_32 : decode cL_digest 32 = .ok (.istore_n 3, 1) := by decide +kernel
theorem dL_digest_33 : decode cL_digest 33 = .ok (.iload_n 3, 1) := by decide +kernel
theorem dL_digest_34 : decode cL_digest 34 = .ok (.iconst 3, 1) := by decide +kernel
theorem dL_digest_35 : decode cL_digest 35 = .ok (.if_icmp .ge 86, 3) := by decide +kernel
theorem dL_digest_38 : decode cL_digest 38 = .ok (.ldc2_w 76, 3) := by decide +kernel
theorem dL_digest_41 : decode cL_digest 41 = .ok (.ldc2_w 76, 3) := by decide +kernel
theorem dL_digest_44 : decode cL_digest 44 = .ok (.lload_n 1, 1) := by decide +kernel
theorem dL_digest_45 : decode cL_digest 45 = .ok (.lmul, 1) := by decide +kernel
theorem dL_digest_46 : decode cL_digest 46 = .ok (.aload_n 0, 1) := by decide +kernel
theorem dL_digest_47 : decode cL_digest 47 = .ok (.iload_n 3, 1) := by decide +kernel
theorem dL_digest_48 : decode cL_digest 48 = .ok (.invokevirtual 81, 3) := by decide +kernel
theorem dL_digest_51 : decode cL_digest 51 = .ok (.ladd, 1) := by decide +kernel
theorem dL_digest_52 : decode cL_digest 52 = .ok (.lmul, 1) := by decide +kernel
theorem dL_digest_53 : decode cL_digest 53 = .ok (.aload_n 0, 1) := by decide +kernel
theorem dL_digest_54 : decode cL_digest 54 = .ok (.iload_n 3, 1) := by decide +kernel
theorem dL_digest_55 : decode cL_digest 55 = .ok (.iconst 5, 1) := by decide +kernel
theorem dL_digest_56 : decode cL_digest 56 = .ok (.invokevirtual 28, 3) := by decide +kernel
theorem dL_digest_59 : decode cL_digest 59 = .ok (.i2l, 1) := by decide +kernel
theorem dL_digest_60 : decode cL_digest 60 = .ok (.ladd, 1) := by decide +kernel
theorem dL_digest_61 : decode cL_digest 61 = .ok (.lstore_n 1, 1) := by decide +kernel
theorem dL_digest_62 : decode cL_digest 62 = .ok (.iconst 0, 1) := by decide +kernel
theorem dL_digest_63 : decode cL_digest 63 = .ok (.istore 4, 2) := by decide +kernel
theorem dL_digest_65 : decode cL_digest 65 = .ok (.iload 4, 2) := by decide +kernel
theorem dL_digest_67 : decode cL_digest 67 = .ok (.aload_n 0, 1) := by decide +kernel
theorem dL_digest_68 : decode cL_digest 68 = .ok (.iload_n 3, 1) := by decide +kernel
theorem dL_digest_69 : decode cL_digest 69 = .ok (.iconst 0, 1) := by decide +kernel
theorem dL_digest_70 : decode cL_digest 70 = .ok (.invokevirtual 28, 3) := by decide +kernel
theorem dL_digest_73 : decode cL_digest 73 = .ok (.if_icmp .ge 42, 3) := by decide +kernel
theorem dL_digest_76 : decode cL_digest 76 = .ok (.aload_n 0, 1) := by decide +kernel
theorem dL_digest_77 : decode cL_digest 77 = .ok (.iload_n 3, 1) := by decide +kernel
theorem dL_digest_78 : decode cL_digest 78 = .ok (.iload 4, 2) := by decide +kernel
theorem dL_digest_80 : decode cL_digest 80 = .ok (.invokevirtual 37, 3) := by decide +kernel
theorem dL_digest_83 : decode cL_digest 83 = .ok (.istore 5, 2) := by decide +kernel
theorem dL_digest_85 : decode cL_digest 85 = .ok (.ldc2_w 76, 3) := by decide +kernel
theorem dL_digest_88 : decode cL_digest 88 = .ok (.ldc2_w 76, 3) := by decide +kernel
theorem dL_digest_91 : decode cL_digest 91 = .ok (.lload_n 1, 1) := by decide +kernel
theorem dL_digest_92 : decode cL_digest 92 = .ok (.lmul, 1) := by decide +kernel
theorem dL_digest_93 : decode cL_digest 93 = .ok (.iload 5, 2) := by decide +kernel
theorem dL_digest_95 : decode cL_digest 95 = .ok (.i2l, 1) := by decide +kernel
theorem dL_digest_96 : decode cL_digest 96 = .ok (.ladd, 1) := by decide +kernel
theorem dL_digest_97 : decode cL_digest 97 = .ok (.lmul, 1) := by decide +kernel
theorem dL_digest_98 : decode cL_digest 98 = .ok (.aload_n 0, 1) := by decide +kernel
theorem dL_digest_99 : decode cL_digest 99 = .ok (.iload_n 3, 1) := by decide +kernel
theorem dL_digest_100 : decode cL_digest 100 = .ok (.iload 5, 2) := by decide +kernel
theorem dL_digest_102 : decode cL_digest 102 = .ok (.iconst 0, 1) := by decide +kernel
theorem dL_digest_103 : decode cL_digest 103 = .ok (.invokevirtual 85, 3) := by decide +kernel
theorem dL_digest_106 : decode cL_digest 106 = .ok (.i2l, 1) := by decide +kernel
theorem dL_digest_107 : decode cL_digest 107 = .ok (.ladd, 1) := by decide +kernel
theorem dL_digest_108 : decode cL_digest 108 = .ok (.lstore_n 1, 1) := by decide +kernel
theorem dL_digest_109 : decode cL_digest 109 = .ok (.iinc 4 1, 3) := by decide +kernel
theorem dL_digest_112 : decode cL_digest 112 = .ok (.goto (-47), 3) := by decide +kernel
theorem dL_digest_115 : decode cL_digest 115 = .ok (.iinc 3 1, 3) := by decide +kernel
theorem dL_digest_118 : decode cL_digest 118 = .ok (.goto (-85), 3) := by decide +kernel
theorem dL_digest_121 : decode cL_digest 121 = .ok (.lload_n 1, 1) := by decide +kernel
theorem dL_digest_122 : decode cL_digest 122 = .ok (.lreturn, 1) := by decide +kernel
theorem dL_isSheaf_0 : decode cL_isSheaf 0 = .ok (.aload_n 0, 1) := by decide +kernel
theorem dL_isSheaf_1 : decode cL_isSheaf 1 = .ok (.iload_n 1, 1) := by decide +kernel
theorem dL_isSheaf_2 : decode cL_isSheaf 2 = .ok (.iload_n 2, 1) := by decide +kernel
theorem dL_isSheaf_3 : decode cL_isSheaf 3 = .ok (.invokevirtual 37, 3) := by decide +kernel
theorem dL_isSheaf_6 : decode cL_isSheaf 6 = .ok (.istore_n 3, 1) := by decide +kernel
theorem dL_isSheaf_7 : decode cL_isSheaf 7 = .ok (.aload_n 0, 1) := by decide +kernel
theorem dL_isSheaf_8 : decode cL_isSheaf 8 = .ok (.iload_n 1, 1) := by decide +kernel
theorem dL_isSheaf_9 : decode cL_isSheaf 9 = .ok (.iload_n 3, 1) := by decide +kernel
theorem dL_isSheaf_10 : decode cL_isSheaf 10 = .ok (.bipush 6, 2) := by decide +kernel
theorem dL_isSheaf_12 : decode cL_isSheaf 12 = .ok (.invokevirtual 85, 3) := by decide +kernel
theorem dL_isSheaf_15 : decode cL_isSheaf 15 = .ok (.istore 4, 2) := by decide +kernel
theorem dL_isSheaf_17 : decode cL_isSheaf 17 = .ok (.aload_n 0, 1) := by decide +kernel
theorem dL_isSheaf_18 : decode cL_isSheaf 18 = .ok (.iload_n 1, 1) := by decide +kernel
theorem dL_isSheaf_19 : decode cL_isSheaf 19 = .ok (.iload_n 3, 1) := by decide +kernel
theorem dL_isSheaf_20 : decode cL_isSheaf 20 = .ok (.bipush 7, 2) := by decide +kernel
theorem dL_isSheaf_22 : decode cL_isSheaf 22 = .ok (.invokevirtual 85, 3) := by decide +kernel
theorem dL_isSheaf_25 : decode cL_isSheaf 25 = .ok (.istore 5, 2) := by decide +kernel
theorem dL_isSheaf_27 : decode cL_isSheaf 27 = .ok (.aload_n 0, 1) := by decide +kernel
theorem dL_isSheaf_28 : decode cL_isSheaf 28 = .ok (.iload_n 1, 1) := by decide +kernel
theorem dL_isSheaf_29 : decode cL_isSheaf 29 = .ok (.iload_n 3, 1) := by decide +kernel
theorem dL_isSheaf_30 : decode cL_isSheaf 30 = .ok (.iconst 5, 1) := by decide +kernel
theorem dL_isSheaf_31 : decode cL_isSheaf 31 = .ok (.invokevirtual 85, 3) := by decide +kernel
theorem dL_isSheaf_34 : decode cL_isSheaf 34 = .ok (.istore 6, 2) := by decide +kernel
theorem dL_isSheaf_36 : decode cL_isSheaf 36 = .ok (.iload 4, 2) := by decide +kernel
theorem dL_isSheaf_38 : decode cL_isSheaf 38 = .ok (.bipush (-15), 2) := by decide +kernel
theorem dL_isSheaf_40 : decode cL_isSheaf 40 = .ok (.if_icmp .ne 7, 3) := by decide +kernel
theorem dL_isSheaf_43 : decode cL_isSheaf 43 = .ok (.iconst 0, 1) := by decide +kernel
theorem dL_isSheaf_44 : decode cL_isSheaf 44 = .ok (.goto 11, 3) := by decide +kernel
theorem dL_isSheaf_47 : decode cL_isSheaf 47 = .ok (.aload_n 0, 1) := by decide +kernel
theorem dL_isSheaf_48 : decode cL_isSheaf 48 = .ok (.iload_n 1, 1) := by decide +kernel
theorem dL_isSheaf_49 : decode cL_isSheaf 49 = .ok (.iload 4, 2) := by decide +kernel
theorem dL_isSheaf_51 : decode cL_isSheaf 51 = .ok (.iconst 2, 1) := by decide +kernel
theorem dL_isSheaf_52 : decode cL_isSheaf 52 = .ok (.invokevirtual 85, 3) := by decide +kernel
theorem dL_isSheaf_55 : decode cL_isSheaf 55 = .ok (.istore 7, 2) := by decide +kernel
theorem dL_isSheaf_57 : decode cL_isSheaf 57 = .ok (.iload 5, 2) := by decide +kernel
theorem dL_isSheaf_59 : decode cL_isSheaf 59 = .ok (.bipush (-15), 2) := by decide +kernel
theorem dL_isSheaf_61 : decode cL_isSheaf 61 = .ok (.if_icmp .ne 7, 3) := by decide +kernel
theorem dL_isSheaf_64 : decode cL_isSheaf 64 = .ok (.iconst 0, 1) := by decide +kernel
theorem dL_isSheaf_65 : decode cL_isSheaf 65 = .ok (.goto 11, 3) := by decide +kernel
theorem dL_isSheaf_68 : decode cL_isSheaf 68 = .ok (.aload_n 0, 1) := by decide +kernel
theorem dL_isSheaf_69 : decode cL_isSheaf 69 = .ok (.iload_n 1, 1) := by decide +kernel
theorem dL_isSheaf_70 : decode cL_isSheaf 70 = .ok (.iload 5, 2) := by decide +kernel
theorem dL_isSheaf_72 : decode cL_isSheaf 72 = .ok (.iconst 2, 1) := by decide +kernel
theorem dL_isSheaf_73 : decode cL_isSheaf 73 = .ok (.invokevirtual 85, 3) := by decide +kernel
theorem dL_isSheaf_76 : decode cL_isSheaf 76 = .ok (.istore 8, 2) := by decide +kernel
theorem dL_isSheaf_78 : decode cL_isSheaf 78 = .ok (.aload_n 0, 1) := by decide +kernel
theorem dL_isSheaf_79 : decode cL_isSheaf 79 = .ok (.iload_n 1, 1) := by decide +kernel
theorem dL_isSheaf_80 : decode cL_isSheaf 80 = .ok (.iload_n 3, 1) := by decide +kernel
theorem dL_isSheaf_81 : decode cL_isSheaf 81 = .ok (.iconst 2, 1) := by decide +kernel
theorem dL_isSheaf_82 : decode cL_isSheaf 82 = .ok (.invokevirtual 85, 3) := by decide +kernel
theorem dL_isSheaf_85 : decode cL_isSheaf 85 = .ok (.istore 9, 2) := by decide +kernel
theorem dL_isSheaf_87 : decode cL_isSheaf 87 = .ok (.bipush 100, 2) := by decide +kernel
theorem dL_isSheaf_89 : decode cL_isSheaf 89 = .ok (.iload 7, 2) := by decide +kernel
theorem dL_isSheaf_91 : decode cL_isSheaf 91 = .ok (.iload 8, 2) := by decide +kernel
theorem dL_isSheaf_93 : decode cL_isSheaf 93 = .ok (.invokestatic 88, 3) := by decide +kernel
theorem dL_isSheaf_96 : decode cL_isSheaf 96 = .ok (.imul, 1) := by decide +kernel
theorem dL_isSheaf_97 : decode cL_isSheaf 97 = .ok (.istore 10, 2) := by decide +kernel
theorem dL_isSheaf_99 : decode cL_isSheaf 99 = .ok (.iload 9, 2) := by decide +kernel
theorem dL_isSheaf_101 : decode cL_isSheaf 101 = .ok (.iconst 1, 1) := by decide +kernel
theorem dL_isSheaf_102 : decode cL_isSheaf 102 = .ok (.iload 7, 2) := by decide +kernel
theorem dL_isSheaf_104 : decode cL_isSheaf 104 = .ok (.iadd, 1) := by decide +kernel
theorem dL_isSheaf_105 : decode cL_isSheaf 105 = .ok (.iload 8, 2) := by decide +kernel
theorem dL_isSheaf_107 : decode cL_isSheaf 107 = .ok (.iadd, 1) := by decide +kernel
theorem dL_isSheaf_108 : decode cL_isSheaf 108 = .ok (.if_icmp .ne 64, 3) := by decide +kernel
theorem dL_isSheaf_111 : decode cL_isSheaf 111 = .ok (.aload_n 0, 1) := by decide +kernel
theorem dL_isSheaf_112 : decode cL_isSheaf 112 = .ok (.iload_n 1, 1) := by decide +kernel
theorem dL_isSheaf_113 : decode cL_isSheaf 113 = .ok (.iload_n 3, 1) := by decide +kernel
theorem dL_isSheaf_114 : decode cL_isSheaf 114 = .ok (.iconst 3, 1) := by decide +kernel
theorem dL_isSheaf_115 : decode cL_isSheaf 115 = .ok (.invokevirtual 85, 3) := by decide +kernel
theorem dL_isSheaf_118 : decode cL_isSheaf 118 = .ok (.aload_n 0, 1) := by decide +kernel
theorem dL_isSheaf_119 : decode cL_isSheaf 119 = .ok (.iload_n 1, 1) := by decide +kernel
theorem dL_isSheaf_120 : decode cL_isSheaf 120 = .ok (.iload_n 3, 1) := by decide +kernel
theorem dL_isSheaf_121 : decode cL_isSheaf 121 = .ok (.iconst 0, 1) := by decide +kernel
theorem dL_isSheaf_122 : decode cL_isSheaf 122 = .ok (.invokevirtual 85, 3) := by decide +kernel
theorem dL_isSheaf_125 : decode cL_isSheaf 125 = .ok (.iload 4, 2) := by decide +kernel
theorem dL_isSheaf_127 : decode cL_isSheaf 127 = .ok (.bipush (-15), 2) := by decide +kernel
theorem dL_isSheaf_129 : decode cL_isSheaf 129 = .ok (.if_icmp .ne 7, 3) := by decide +kernel
theorem dL_isSheaf_132 : decode cL_isSheaf 132 = .ok (.iconst 0, 1) := by decide +kernel
theorem dL_isSheaf_133 : decode cL_isSheaf 133 = .ok (.goto 11, 3) := by decide +kernel
theorem dL_isSheaf_136 : decode cL_isSheaf 136 = .ok (.aload_n 0, 1) := by decide +kernel
theorem dL_isSheaf_137 : decode cL_isSheaf 137 = .ok (.iload_n 1, 1) := by decide +kernel
theorem dL_isSheaf_138 : decode cL_isSheaf 138 = .ok (.iload 4, 2) := by decide +kernel
theorem dL_isSheaf_140 : decode cL_isSheaf 140 = .ok (.iconst 3, 1) := by decide +kernel
theorem dL_isSheaf_141 : decode cL_isSheaf 141 = .ok (.invokevirtual 85, 3) := by decide +kernel
theorem dL_isSheaf_144 : decode cL_isSheaf 144 = .ok (.iadd, 1) := by decide +kernel
theorem dL_isSheaf_145 : decode cL_isSheaf 145 = .ok (.iload 5, 2) := by decide +kernel
theorem dL_isSheaf_147 : decode cL_isSheaf 147 = .ok (.bipush (-15), 2) := by decide +kernel
theorem dL_isSheaf_149 : decode cL_isSheaf 149 = .ok (.if_icmp .ne 7, 3) := by decide +kernel
theorem dL_isSheaf_152 : decode cL_isSheaf 152 = .ok (.iconst 0, 1) := by decide +kernel
theorem dL_isSheaf_153 : decode cL_isSheaf 153 = .ok (.goto 11, 3) := by decide +kernel
theorem dL_isSheaf_156 : decode cL_isSheaf 156 = .ok (.aload_n 0, 1) := by decide +kernel
theorem dL_isSheaf_157 : decode cL_isSheaf 157 = .ok (.iload_n 1, 1) := by decide +kernel
theorem dL_isSheaf_158 : decode cL_isSheaf 158 = .ok (.iload 5, 2) := by decide +kernel
theorem dL_isSheaf_160 : decode cL_isSheaf 160 = .ok (.iconst 3, 1) := by decide +kernel
theorem dL_isSheaf_161 : decode cL_isSheaf 161 = .ok (.invokevirtual 85, 3) := by decide +kernel
theorem dL_isSheaf_164 : decode cL_isSheaf 164 = .ok (.iadd, 1) := by decide +kernel
theorem dL_isSheaf_165 : decode cL_isSheaf 165 = .ok (.if_icmp .ne 7, 3) := by decide +kernel
theorem dL_isSheaf_168 : decode cL_isSheaf 168 = .ok (.iconst 1, 1) := by decide +kernel
theorem dL_isSheaf_169 : decode cL_isSheaf 169 = .ok (.goto 4, 3) := by decide +kernel
theorem dL_isSheaf_172 : decode cL_isSheaf 172 = .ok (.iconst 0, 1) := by decide +kernel
theorem dL_isSheaf_173 : decode cL_isSheaf 173 = .ok (.istore 11, 2) := by decide +kernel
theorem dL_isSheaf_175 : decode cL_isSheaf 175 = .ok (.iload 11, 2) := by decide +kernel
theorem dL_isSheaf_177 : decode cL_isSheaf 177 = .ok (.ifCond .eq 95, 3) := by decide +kernel
theorem dL_isSheaf_180 : decode cL_isSheaf 180 = .ok (.iload 4, 2) := by decide +kernel
theorem dL_isSheaf_182 : decode cL_isSheaf 182 = .ok (.bipush (-15), 2) := by decide +kernel
theorem dL_isSheaf_184 : decode cL_isSheaf 184 = .ok (.if_icmp .eq 21, 3) := by decide +kernel
theorem dL_isSheaf_187 : decode cL_isSheaf 187 = .ok (.iload 4, 2) := by decide +kernel
theorem dL_isSheaf_189 : decode cL_isSheaf 189 = .ok (.iload_n 3, 1) := by decide +kernel
theorem dL_isSheaf_190 : decode cL_isSheaf 190 = .ok (.if_icmp .ge 82, 3) := by decide +kernel
theorem dL_isSheaf_193 : decode cL_isSheaf 193 = .ok (.aload_n 0, 1) := by decide +kernel
theorem dL_isSheaf_194 : decode cL_isSheaf 194 = .ok (.iload_n 1, 1) := by decide +kernel
theorem dL_isSheaf_195 : decode cL_isSheaf 195 = .ok (.iload 4, 2) := by decide +kernel
theorem dL_isSheaf_197 : decode cL_isSheaf 197 = .ok (.iconst 5, 1) := by decide +kernel
theorem dL_isSheaf_198 : decode cL_isSheaf 198 = .ok (.invokevirtual 85, 3) := by decide +kernel
theorem dL_isSheaf_201 : decode cL_isSheaf 201 = .ok (.iload_n 3, 1) := by decide +kernel
theorem dL_isSheaf_202 : decode cL_isSheaf 202 = .ok (.if_icmp .ne 70, 3) := by decide +kernel
theorem dL_isSheaf_205 : decode cL_isSheaf 205 = .ok (.iload 5, 2) := by decide +kernel
theorem dL_isSheaf_207 : decode cL_isSheaf 207 = .ok (.bipush (-15), 2) := by decide +kernel
theorem dL_isSheaf_209 : decode cL_isSheaf 209 = .ok (.if_icmp .eq 21, 3) := by decide +kernel
theorem dL_isSheaf_212 : decode cL_isSheaf 212 = .ok (.iload 5, 2) := by decide +kernel
theorem dL_isSheaf_214 : decode cL_isSheaf 214 = .ok (.iload_n 3, 1) := by decide +kernel
theorem dL_isSheaf_215 : decode cL_isSheaf 215 = .ok (.if_icmp .le 57, 3) := by decide +kernel
theorem dL_isSheaf_218 : decode cL_isSheaf 218 = .ok (.aload_n 0, 1) := by decide +kernel
theorem dL_isSheaf_219 : decode cL_isSheaf 219 = .ok (.iload_n 1, 1) := by decide +kernel
theorem dL_isSheaf_220 : decode cL_isSheaf 220 = .ok (.iload 5, 2) := by decide +kernel
theorem dL_isSheaf_222 : decode cL_isSheaf 222 = .ok (.iconst 5, 1) := by decide +kernel
theorem dL_isSheaf_223 : decode cL_isSheaf 223 = .ok (.invokevirtual 85, 3) := by decide +kernel
theorem dL_isSheaf_226 : decode cL_isSheaf 226 = .ok (.iload_n 3, 1) := by decide +kernel
theorem dL_isSheaf_227 : decode cL_isSheaf 227 = .ok (.if_icmp .ne 45, 3) := by decide +kernel
theorem dL_isSheaf_230 : decode cL_isSheaf 230 = .ok (.aload_n 0, 1) := by decide +kernel
theorem dL_isSheaf_231 : decode cL_isSheaf 231 = .ok (.iload_n 1, 1) := by decide +kernel
theorem dL_isSheaf_232 : decode cL_isSheaf 232 = .ok (.iload_n 3, 1) := by decide +kernel
theorem dL_isSheaf_233 : decode cL_isSheaf 233 = .ok (.iconst 4, 1) := by decide +kernel
theorem dL_isSheaf_234 : decode cL_isSheaf 234 = .ok (.invokevirtual 85, 3) := by decide +kernel
theorem dL_isSheaf_237 : decode cL_isSheaf 237 = .ok (.iconst 1, 1) := by decide +kernel
theorem dL_isSheaf_238 : decode cL_isSheaf 238 = .ok (.if_icmp .ne 7, 3) := by decide +kernel
theorem dL_isSheaf_241 : decode cL_isSheaf 241 = .ok (.iconst 1, 1) := by decide +kernel
theorem dL_isSheaf_242 : decode cL_isSheaf 242 = .ok (.goto 4, 3) := by decide +kernel
theorem dL_isSheaf_245 : decode cL_isSheaf 245 = .ok (.iconst 0, 1) := by decide +kernel
theorem dL_isSheaf_246 : decode cL_isSheaf 246 = .ok (.iload 10, 2) := by decide +kernel
theorem dL_isSheaf_248 : decode cL_isSheaf 248 = .ok (.aload_n 0, 1) := by decide +kernel
theorem dL_isSheaf_249 : decode cL_isSheaf 249 = .ok (.bipush 8, 2) := by decide +kernel
theorem dL_isSheaf_251 : decode cL_isSheaf 251 = .ok (.invokevirtual 78, 3) := by decide +kernel
theorem dL_isSheaf_254 : decode cL_isSheaf 254 = .ok (.iload 9, 2) := by decide +kernel
theorem dL_isSheaf_256 : decode cL_isSheaf 256 = .ok (.imul, 1) := by decide +kernel
theorem dL_isSheaf_257 : decode cL_isSheaf 257 = .ok (.if_icmp .le 7, 3) := by decide +kernel
theorem dL_isSheaf_260 : decode cL_isSheaf 260 = .ok (.iconst 1, 1) := by decide +kernel
theorem dL_isSheaf_261 : decode cL_isSheaf 261 = .ok (.goto 4, 3) := by decide +kernel
theorem dL_isSheaf_264 : decode cL_isSheaf 264 = .ok (.iconst 0, 1) := by decide +kernel
theorem dL_isSheaf_265 : decode cL_isSheaf 265 = .ok (.if_icmp .ne 7, 3) := by decide +kernel
theorem dL_isSheaf_268 : decode cL_isSheaf 268 = .ok (.iconst 1, 1) := by decide +kernel
theorem dL_isSheaf_269 : decode cL_isSheaf 269 = .ok (.goto 4, 3) := by decide +kernel
theorem dL_isSheaf_272 : decode cL_isSheaf 272 = .ok (.iconst 0, 1) := by decide +kernel
theorem dL_isSheaf_273 : decode cL_isSheaf 273 = .ok (.istore 11, 2) := by decide +kernel
theorem dL_isSheaf_275 : decode cL_isSheaf 275 = .ok (.iload 11, 2) := by decide +kernel
theorem dL_isSheaf_277 : decode cL_isSheaf 277 = .ok (.ifCond .eq 57, 3) := by decide +kernel
theorem dL_isSheaf_280 : decode cL_isSheaf 280 = .ok (.iload 6, 2) := by decide +kernel
theorem dL_isSheaf_282 : decode cL_isSheaf 282 = .ok (.bipush (-15), 2) := by decide +kernel
theorem dL_isSheaf_284 : decode cL_isSheaf 284 = .ok (.if_icmp .ne 26, 3) := by decide +kernel
theorem dL_isSheaf_287 : decode cL_isSheaf 287 = .ok (.aload_n 0, 1) := by decide +kernel
theorem dL_isSheaf_288 : decode cL_isSheaf 288 = .ok (.iload_n 1, 1) := by decide +kernel
theorem dL_isSheaf_289 : decode cL_isSheaf 289 = .ok (.iload_n 3, 1) := by decide +kernel
theorem dL_isSheaf_290 : decode cL_isSheaf 290 = .ok (.iconst 1, 1) := by decide +kernel
theorem dL_isSheaf_291 : decode cL_isSheaf 291 = .ok (.invokevirtual 85, 3) := by decide +kernel
theorem dL_isSheaf_294 : decode cL_isSheaf 294 = .ok (.ifCond .ne 40, 3) := by decide +kernel
theorem dL_isSheaf_297 : decode cL_isSheaf 297 = .ok (.aload_n 0, 1) := by decide +kernel
theorem dL_isSheaf_298 : decode cL_isSheaf 298 = .ok (.iload_n 1, 1) := by decide +kernel
theorem dL_isSheaf_299 : decode cL_isSheaf 299 = .ok (.iconst 2, 1) := by decide +kernel
theorem dL_isSheaf_300 : decode cL_isSheaf 300 = .ok (.invokevirtual 28, 3) := by decide +kernel
theorem dL_isSheaf_303 : decode cL_isSheaf 303 = .ok (.iload_n 3, 1) := by decide +kernel
theorem dL_isSheaf_304 : decode cL_isSheaf 304 = .ok (.if_icmp .ne 30, 3) := by decide +kernel
theorem dL_isSheaf_307 : decode cL_isSheaf 307 = .ok (.goto 23, 3) := by decide +kernel
theorem dL_isSheaf_310 : decode cL_isSheaf 310 = .ok (.aload_n 0, 1) := by decide +kernel
theorem dL_isSheaf_311 : decode cL_isSheaf 311 = .ok (.iload_n 1, 1) := by decide +kernel
theorem dL_isSheaf_312 : decode cL_isSheaf 312 = .ok (.iload_n 3, 1) := by decide +kernel
theorem dL_isSheaf_313 : decode cL_isSheaf 313 = .ok (.iconst 1, 1) := by decide +kernel
theorem dL_isSheaf_314 : decode cL_isSheaf 314 = .ok (.invokevirtual 85, 3) := by decide +kernel
theorem dL_isSheaf_317 : decode cL_isSheaf 317 = .ok (.aload_n 0, 1) := by decide +kernel
theorem dL_isSheaf_318 : decode cL_isSheaf 318 = .ok (.iload_n 1, 1) := by decide +kernel
theorem dL_isSheaf_319 : decode cL_isSheaf 319 = .ok (.iload 6, 2) := by decide +kernel
theorem dL_isSheaf_321 : decode cL_isSheaf 321 = .ok (.iconst 1, 1) := by decide +kernel
theorem dL_isSheaf_322 : decode cL_isSheaf 322 = .ok (.invokevirtual 85, 3) := by decide +kernel
theorem dL_isSheaf_325 : decode cL_isSheaf 325 = .ok (.iconst 1, 1) := by decide +kernel
theorem dL_isSheaf_326 : decode cL_isSheaf 326 = .ok (.iadd, 1) := by decide +kernel
theorem dL_isSheaf_327 : decode cL_isSheaf 327 = .ok (.if_icmp .ne 7, 3) := by decide +kernel
theorem dL_isSheaf_330 : decode cL_isSheaf 330 = .ok (.iconst 1, 1) := by decide +kernel
theorem dL_isSheaf_331 : decode cL_isSheaf 331 = .ok (.goto 4, 3) := by decide +kernel
theorem dL_isSheaf_334 : decode cL_isSheaf 334 = .ok (.iconst 0, 1) := by decide +kernel
theorem dL_isSheaf_335 : decode cL_isSheaf 335 = .ok (.istore 11, 2) := by decide +kernel
theorem dL_isSheaf_337 : decode cL_isSheaf 337 = .ok (.iload 11, 2) := by decide +kernel
theorem dL_isSheaf_339 : decode cL_isSheaf 339 = .ok (.ifCond .eq 57, 3) := by decide +kernel
theorem dL_isSheaf_342 : decode cL_isSheaf 342 = .ok (.aload_n 0, 1) := by decide +kernel
theorem dL_isSheaf_343 : decode cL_isSheaf 343 = .ok (.iload_n 1, 1) := by decide +kernel
theorem dL_isSheaf_344 : decode cL_isSheaf 344 = .ok (.iload_n 3, 1) := by decide +kernel
theorem dL_isSheaf_345 : decode cL_isSheaf 345 = .ok (.invokevirtual 91, 3) := by decide +kernel
theorem dL_isSheaf_348 : decode cL_isSheaf 348 = .ok (.iload_n 2, 1) := by decide +kernel
theorem dL_isSheaf_349 : decode cL_isSheaf 349 = .ok (.if_icmp .ne 47, 3) := by decide +kernel
theorem dL_isSheaf_352 : decode cL_isSheaf 352 = .ok (.aload_n 0, 1) := by decide +kernel
theorem dL_isSheaf_353 : decode cL_isSheaf 353 = .ok (.iload_n 1, 1) := by decide +kernel
theorem dL_isSheaf_354 : decode cL_isSheaf 354 = .ok (.iload_n 3, 1) := by decide +kernel
theorem dL_isSheaf_355 : decode cL_isSheaf 355 = .ok (.invokevirtual 94, 3) := by decide +kernel
theorem dL_isSheaf_358 : decode cL_isSheaf 358 = .ok (.iload_n 2, 1) := by decide +kernel
theorem dL_isSheaf_359 : decode cL_isSheaf 359 = .ok (.if_icmp .ne 37, 3) := by decide +kernel
theorem dL_isSheaf_362 : decode cL_isSheaf 362 = .ok (.aload_n 0, 1) := by decide +kernel
theorem dL_isSheaf_363 : decode cL_isSheaf 363 = .ok (.iload_n 1, 1) := by decide +kernel
theorem dL_isSheaf_364 : decode cL_isSheaf 364 = .ok (.iload_n 3, 1) := by decide +kernel
theorem dL_isSheaf_365 : decode cL_isSheaf 365 = .ok (.iconst 1, 1) := by decide +kernel
theorem dL_isSheaf_366 : decode cL_isSheaf 366 = .ok (.iadd, 1) := by decide +kernel
theorem dL_isSheaf_367 : decode cL_isSheaf 367 = .ok (.invokevirtual 91, 3) := by decide +kernel
theorem dL_isSheaf_370 : decode cL_isSheaf 370 = .ok (.iload_n 2, 1) := by decide +kernel
theorem dL_isSheaf_371 : decode cL_isSheaf 371 = .ok (.iconst 1, 1) := by decide +kernel
theorem dL_isSheaf_372 : decode cL_isSheaf 372 = .ok (.iadd, 1) := by decide +kernel
theorem dL_isSheaf_373 : decode cL_isSheaf 373 = .ok (.if_icmp .ne 23, 3) := by decide +kernel
theorem dL_isSheaf_376 : decode cL_isSheaf 376 = .ok (.iload_n 2, 1) := by decide +kernel
theorem dL_isSheaf_377 : decode cL_isSheaf 377 = .ok (.ifCond .eq 15, 3) := by decide +kernel
theorem dL_isSheaf_380 : decode cL_isSheaf 380 = .ok (.aload_n 0, 1) := by decide +kernel
theorem dL_isSheaf_381 : decode cL_isSheaf 381 = .ok (.iload_n 1, 1) := by decide +kernel
theorem dL_isSheaf_382 : decode cL_isSheaf 382 = .ok (.iload_n 2, 1) := by decide +kernel
theorem dL_isSheaf_383 : decode cL_isSheaf 383 = .ok (.iconst 1, 1) := by decide +kernel
theorem dL_isSheaf_384 : decode cL_isSheaf 384 = .ok (.isub, 1) := by decide +kernel
theorem dL_isSheaf_385 : decode cL_isSheaf 385 = .ok (.invokevirtual 37, 3) := by decide +kernel
theorem dL_isSheaf_388 : decode cL_isSheaf 388 = .ok (.iload_n 3, 1) := by decide +kernel
theorem dL_isSheaf_389 : decode cL_isSheaf 389 = .ok (.if_icmp .ge 7, 3) := by decide +kernel
theorem dL_isSheaf_392 : decode cL_isSheaf 392 = .ok (.iconst 1, 1) := by decide +kernel
theorem dL_isSheaf_393 : decode cL_isSheaf 393 = .ok (.goto 4, 3) := by decide +kernel
theorem dL_isSheaf_396 : decode cL_isSheaf 396 = .ok (.iconst 0, 1) := by decide +kernel
theorem dL_isSheaf_397 : decode cL_isSheaf 397 = .ok (.ireturn, 1) := by decide +kernel
theorem dL_isRick_0 : decode cL_isRick 0 = .ok (.aload_n 0, 1) := by decide +kernel
theorem dL_isRick_1 : decode cL_isRick 1 = .ok (.iload_n 1, 1) := by decide +kernel
theorem dL_isRick_2 : decode cL_isRick 2 = .ok (.iconst 0, 1) := by decide +kernel
theorem dL_isRick_3 : decode cL_isRick 3 = .ok (.invokevirtual 28, 3) := by decide +kernel
theorem dL_isRick_6 : decode cL_isRick 6 = .ok (.istore_n 2, 1) := by decide +kernel
theorem dL_isRick_7 : decode cL_isRick 7 = .ok (.iconst 0, 1) := by decide +kernel
theorem dL_isRick_8 : decode cL_isRick 8 = .ok (.istore_n 3, 1) := by decide +kernel
theorem dL_isRick_9 : decode cL_isRick 9 = .ok (.iconst 0, 1) := by decide +kernel
theorem dL_isRick_10 : decode cL_isRick 10 = .ok (.istore 4, 2) := by decide +kernel
theorem dL_isRick_12 : decode cL_isRick 12 = .ok (.iconst 0, 1) := by decide +kernel
theorem dL_isRick_13 : decode cL_isRick 13 = .ok (.istore 5, 2) := by decide +kernel
theorem dL_isRick_15 : decode cL_isRick 15 = .ok (.iconst 0, 1) := by decide +kernel
theorem dL_isRick_16 : decode cL_isRick 16 = .ok (.istore 6, 2) := by decide +kernel
theorem dL_isRick_18 : decode cL_isRick 18 = .ok (.iconst (-1), 1) := by decide +kernel
theorem dL_isRick_19 : decode cL_isRick 19 = .ok (.istore 7, 2) := by decide +kernel
theorem dL_isRick_21 : decode cL_isRick 21 = .ok (.aload_n 0, 1) := by decide +kernel
theorem dL_isRick_22 : decode cL_isRick 22 = .ok (.iload_n 1, 1) := by decide +kernel
theorem dL_isRick_23 : decode cL_isRick 23 = .ok (.iload_n 2, 1) := by decide +kernel
theorem dL_isRick_24 : decode cL_isRick 24 = .ok (.invokevirtual 37, 3) := by decide +kernel
theorem dL_isRick_27 : decode cL_isRick 27 = .ok (.bipush (-11), 2) := by decide +kernel
theorem dL_isRick_29 : decode cL_isRick 29 = .ok (.if_icmp .ne 50, 3) := by decide +kernel
theorem dL_isRick_32 : decode cL_isRick 32 = .ok (.aload_n 0, 1) := by decide +kernel
theorem dL_isRick_33 : decode cL_isRick 33 = .ok (.iload_n 1, 1) := by decide +kernel
theorem dL_isRick_34 : decode cL_isRick 34 = .ok (.iconst (-1), 1) := by decide +kernel
theorem dL_isRick_35 : decode cL_isRick 35 = .ok (.invokevirtual 37, 3) := by decide +kernel
theorem dL_isRick_38 : decode cL_isRick 38 = .ok (.bipush (-11), 2) := by decide +kernel
theorem dL_isRick_40 : decode cL_isRick 40 = .ok (.if_icmp .ne 39, 3) := by decide +kernel
theorem dL_isRick_43 : decode cL_isRick 43 = .ok (.iload_n 2, 1) := by decide +kernel
theorem dL_isRick_44 : decode cL_isRick 44 = .ok (.aload_n 0, 1) := by decide +kernel
theorem dL_isRick_45 : decode cL_isRick 45 = .ok (.iload_n 1, 1) := by decide +kernel
theorem dL_isRick_46 : decode cL_isRick 46 = .ok (.iconst 5, 1) := by decide +kernel
theorem dL_isRick_47 : decode cL_isRick 47 = .ok (.invokevirtual 28, 3) := by decide +kernel
theorem dL_isRick_50 : decode cL_isRick 50 = .ok (.if_icmp .gt 29, 3) := by decide +kernel
theorem dL_isRick_53 : decode cL_isRick 53 = .ok (.aload_n 0, 1) := by decide +kernel
theorem dL_isRick_54 : decode cL_isRick 54 = .ok (.iload_n 1, 1) := by decide +kernel
theorem dL_isRick_55 : decode cL_isRick 55 = .ok (.invokevirtual 81, 3) := by decide +kernel
theorem dL_isRick_58 : decode cL_isRick 58 = .ok (.invokestatic 97, 3) := by decide +kernel
theorem dL_isRick_61 : decode cL_isRick 61 = .ok (.iload_n 2, 1) := by decide +kernel
theorem dL_isRick_62 : decode cL_isRick 62 = .ok (.if_icmp .ne 17, 3) := by decide +kernel
theorem dL_isRick_65 : decode cL_isRick 65 = .ok (.aload_n 0, 1) := by decide +kernel
theorem dL_isRick_66 : decode cL_isRick 66 = .ok (.iload_n 1, 1) := by decide +kernel
theorem dL_isRick_67 : decode cL_isRick 67 = .ok (.invokevirtual 103, 3) := by decide +kernel
theorem dL_isRick_70 : decode cL_isRick 70 = .ok (.bipush 60, 2) := by decide +kernel
theorem dL_isRick_72 : decode cL_isRick 72 = .ok (.if_icmp .gt 7, 3) := by decide +kernel
theorem dL_isRick_75 : decode cL_isRick 75 = .ok (.iconst 1, 1) := by decide +kernel
theorem dL_isRick_76 : decode cL_isRick 76 = .ok (.goto 4, 3) := by decide +kernel
theorem dL_isRick_79 : decode cL_isRick 79 = .ok (.iconst 0, 1) := by decide +kernel
theorem dL_isRick_80 : decode cL_isRick 80 = .ok (.istore 8, 2) := by decide +kernel
theorem dL_isRick_82 : decode cL_isRick 82 = .ok (.iconst 0, 1) := by decide +kernel
theorem dL_isRick_83 : decode cL_isRick 83 = .ok (.istore 9, 2) := by decide +kernel
theorem dL_isRick_85 : decode cL_isRick 85 = .ok (.iload 8, 2) := by decide +kernel
theorem dL_isRick_87 : decode cL_isRick 87 = .ok (.ifCond .eq 182, 3) := by decide +kernel
theorem dL_isRick_90 : decode cL_isRick 90 = .ok (.iload 9, 2) := by decide +kernel
theorem dL_isRick_92 : decode cL_isRick 92 = .ok (.iload_n 2, 1) := by decide +kernel
theorem dL_isRick_93 : decode cL_isRick 93 = .ok (.if_icmp .ge 176, 3) := by decide +kernel
theorem dL_isRick_96 : decode cL_isRick 96 = .ok (.aload_n 0, 1) := by decide +kernel
theorem dL_isRick_97 : decode cL_isRick 97 = .ok (.iload_n 1, 1) := by decide +kernel
theorem dL_isRick_98 : decode cL_isRick 98 = .ok (.iload 9, 2) := by decide +kernel
theorem dL_isRick_100 : decode cL_isRick 100 = .ok (.invokevirtual 37, 3) := by decide +kernel
theorem dL_isRick_103 : decode cL_isRick 103 = .ok (.istore 10, 2) := by decide +kernel
theorem dL_isRick_105 : decode cL_isRick 105 = .ok (.iload_n 3, 1) := by decide +kernel
theorem dL_isRick_106 : decode cL_isRick 106 = .ok (.aload_n 0, 1) := by decide +kernel
theorem dL_isRick_107 : decode cL_isRick 107 = .ok (.iload_n 1, 1) := by decide +kernel
theorem dL_isRick_108 : decode cL_isRick 108 = .ok (.iload 10, 2) := by decide +kernel
theorem dL_isRick_110 : decode cL_isRick 110 = .ok (.iconst 0, 1) := by decide +kernel
theorem dL_isRick_111 : decode cL_isRick 111 = .ok (.invokevirtual 85, 3) := by decide +kernel
theorem dL_isRick_114 : decode cL_isRick 114 = .ok (.iadd, 1) := by decide +kernel
theorem dL_isRick_115 : decode cL_isRick 115 = .ok (.istore_n 3, 1) := by decide +kernel
theorem dL_isRick_116 : decode cL_isRick 116 = .ok (.iload 4, 2) := by decide +kernel
theorem dL_isRick_118 : decode cL_isRick 118 = .ok (.aload_n 0, 1) := by decide +kernel
theorem dL_isRick_119 : decode cL_isRick 119 = .ok (.iload_n 1, 1) := by decide +kernel
theorem dL_isRick_120 : decode cL_isRick 120 = .ok (.iload 10, 2) := by decide +kernel
theorem dL_isRick_122 : decode cL_isRick 122 = .ok (.iconst 1, 1) := by decide +kernel
theorem dL_isRick_123 : decode cL_isRick 123 = .ok (.invokevirtual 85, 3) := by decide +kernel
theorem dL_isRick_126 : decode cL_isRick 126 = .ok (.iadd, 1) := by decide +kernel
theorem dL_isRick_127 : decode cL_isRick 127 = .ok (.istore 4, 2) := by decide +kernel
theorem dL_isRick_129 : decode cL_isRick 129 = .ok (.iload 5, 2) := by decide +kernel
theorem dL_isRick_131 : decode cL_isRick 131 = .ok (.aload_n 0, 1) := by decide +kernel
theorem dL_isRick_132 : decode cL_isRick 132 = .ok (.iload_n 1, 1) := by decide +kernel
theorem dL_isRick_133 : decode cL_isRick 133 = .ok (.iload 10, 2) := by decide +kernel
theorem dL_isRick_135 : decode cL_isRick 135 = .ok (.iconst 4, 1) := by decide +kernel
theorem dL_isRick_136 : decode cL_isRick 136 = .ok (.invokevirtual 85, 3) := by decide +kernel
theorem dL_isRick_139 : decode cL_isRick 139 = .ok (.iadd, 1) := by decide +kernel
theorem dL_isRick_140 : decode cL_isRick 140 = .ok (.istore 5, 2) := by decide +kernel
theorem dL_isRick_142 : decode cL_isRick 142 = .ok (.iload 6, 2) := by decide +kernel
theorem dL_isRick_144 : decode cL_isRick 144 = .ok (.aload_n 0, 1) := by decide +kernel
theorem dL_isRick_145 : decode cL_isRick 145 = .ok (.iload_n 1, 1) := by decide +kernel
theorem dL_isRick_146 : decode cL_isRick 146 = .ok (.iload 10, 2) := by decide +kernel
theorem dL_isRick_148 : decode cL_isRick 148 = .ok (.iconst 2, 1) := by decide +kernel
theorem dL_isRick_149 : decode cL_isRick 149 = .ok (.invokevirtual 85, 3) := by decide +kernel
theorem dL_isRick_152 : decode cL_isRick 152 = .ok (.iconst 1, 1) := by decide +kernel
theorem dL_isRick_153 : decode cL_isRick 153 = .ok (.if_icmp .ne 7, 3) := by decide +kernel
theorem dL_isRick_156 : decode cL_isRick 156 = .ok (.iconst 1, 1) := by decide +kernel
theorem dL_isRick_157 : decode cL_isRick 157 = .ok (.goto 4, 3) := by decide +kernel
theorem dL_isRick_160 : decode cL_isRick 160 = .ok (.iconst 0, 1) := by decide +kernel
theorem dL_isRick_161 : decode cL_isRick 161 = .ok (.iadd, 1) := by decide +kernel
theorem dL_isRick_162 : decode cL_isRick 162 = .ok (.istore 6, 2) := by decide +kernel
theorem dL_isRick_164 : decode cL_isRick 164 = .ok (.iload 7, 2) := by decide +kernel
theorem dL_isRick_166 : decode cL_isRick 166 = .ok (.aload_n 0, 1) := by decide +kernel
theorem dL_isRick_167 : decode cL_isRick 167 = .ok (.iload_n 1, 1) := by decide +kernel
theorem dL_isRick_168 : decode cL_isRick 168 = .ok (.iload 10, 2) := by decide +kernel
theorem dL_isRick_170 : decode cL_isRick 170 = .ok (.iconst 1, 1) := by decide +kernel
theorem dL_isRick_171 : decode cL_isRick 171 = .ok (.invokevirtual 85, 3) := by decide +kernel
theorem dL_isRick_174 : decode cL_isRick 174 = .ok (.invokestatic 88, 3) := by decide +kernel
theorem dL_isRick_177 : decode cL_isRick 177 = .ok (.istore 7, 2) := by decide +kernel
theorem dL_isRick_179 : decode cL_isRick 179 = .ok (.aload_n 0, 1) := by decide +kernel
theorem dL_isRick_180 : decode cL_isRick 180 = .ok (.iload_n 1, 1) := by decide +kernel
theorem dL_isRick_181 : decode cL_isRick 181 = .ok (.iload 9, 2) := by decide +kernel
theorem dL_isRick_183 : decode cL_isRick 183 = .ok (.invokestatic 106, 3) := by decide +kernel
theorem dL_isRick_186 : decode cL_isRick 186 = .ok (.ifCond .eq 74, 3) := by decide +kernel
theorem dL_isRick_189 : decode cL_isRick 189 = .ok (.aload_n 0, 1) := by decide +kernel
theorem dL_isRick_190 : decode cL_isRick 190 = .ok (.iload_n 1, 1) := by decide +kernel
theorem dL_isRick_191 : decode cL_isRick 191 = .ok (.iload 10, 2) := by decide +kernel
theorem dL_isRick_193 : decode cL_isRick 193 = .ok (.sipush 999, 3) := by decide +kernel
theorem dL_isRick_196 : decode cL_isRick 196 = .ok (.invokevirtual 110, 3) := by decide +kernel
theorem dL_isRick_199 : decode cL_isRick 199 = .ok (.aload_n 0, 1) := by decide +kernel
theorem dL_isRick_200 : decode cL_isRick 200 = .ok (.iload_n 1, 1) := by decide +kernel
theorem dL_isRick_201 : decode cL_isRick 201 = .ok (.iload 10, 2) := by decide +kernel
theorem dL_isRick_203 : decode cL_isRick 203 = .ok (.sipush 999, 3) := by decide +kernel
theorem dL_isRick_206 : decode cL_isRick 206 = .ok (.invokevirtual 113, 3) := by decide +kernel
theorem dL_isRick_209 : decode cL_isRick 209 = .ok (.if_icmp .ne 51, 3) := by decide +kernel
theorem dL_isRick_212 : decode cL_isRick 212 = .ok (.aload_n 0, 1) := by decide +kernel
theorem dL_isRick_213 : decode cL_isRick 213 = .ok (.iload_n 1, 1) := by decide +kernel
theorem dL_isRick_214 : decode cL_isRick 214 = .ok (.iconst 0, 1) := by decide +kernel
theorem dL_isRick_215 : decode cL_isRick 215 = .ok (.iload 10, 2) := by decide +kernel
theorem dL_isRick_217 : decode cL_isRick 217 = .ok (.invokevirtual 110, 3) := by decide +kernel
theorem dL_isRick_220 : decode cL_isRick 220 = .ok (.iload_n 3, 1) := by decide +kernel
theorem dL_isRick_221 : decode cL_isRick 221 = .ok (.if_icmp .ne 39, 3) := by decide +kernel
theorem dL_isRick_224 : decode cL_isRick 224 = .ok (.aload_n 0, 1) := by decide +kernel
theorem dL_isRick_225 : decode cL_isRick 225 = .ok (.iload_n 1, 1) := by decide +kernel
theorem dL_isRick_226 : decode cL_isRick 226 = .ok (.sipush 936, 3) := by decide +kernel
theorem dL_isRick_229 : decode cL_isRick 229 = .ok (.iload 10, 2) := by decide +kernel
theorem dL_isRick_231 : decode cL_isRick 231 = .ok (.invokestatic 32, 3) := by decide +kernel
theorem dL_isRick_234 : decode cL_isRick 234 = .ok (.invokevirtual 116, 3) := by decide +kernel
theorem dL_isRick_237 : decode cL_isRick 237 = .ok (.iload 10, 2) := by decide +kernel
theorem dL_isRick_239 : decode cL_isRick 239 = .ok (.sipush 936, 3) := by decide +kernel
theorem dL_isRick_242 : decode cL_isRick 242 = .ok (.iload 10, 2) := by decide +kernel
theorem dL_isRick_244 : decode cL_isRick 244 = .ok (.invokestatic 32, 3) := by decide +kernel
theorem dL_isRick_247 : decode cL_isRick 247 = .ok (.isub, 1) := by decide +kernel
theorem dL_isRick_248 : decode cL_isRick 248 = .ok (.lshr, 1) := by decide +kernel
theorem dL_isRick_249 : decode cL_isRick 249 = .ok (.lconst 1, 1) := by decide +kernel
theorem dL_isRick_250 : decode cL_isRick 250 = .ok (.land, 1) := by decide +kernel
theorem dL_isRick_251 : decode cL_isRick 251 = .ok (.lconst 1, 1) := by decide +kernel
theorem dL_isRick_252 : decode cL_isRick 252 = .ok (.lcmp, 1) := by decide +kernel
theorem dL_isRick_253 : decode cL_isRick 253 = .ok (.ifCond .ne 7, 3) := by decide +kernel
theorem dL_isRick_256 : decode cL_isRick 256 = .ok (.iconst 1, 1) := by decide +kernel
theorem dL_isRick_257 : decode cL_isRick 257 = .ok (.goto 4, 3) := by decide +kernel
theorem dL_isRick_260 : decode cL_isRick 260 = .ok (.iconst 0, 1) := by decide +kernel
theorem dL_isRick_261 : decode cL_isRick 261 = .ok (.istore 8, 2) := by decide +kernel
theorem dL_isRick_263 : decode cL_isRick 263 = .ok (.iinc 9 1, 3) := by decide +kernel
theorem dL_isRick_266 : decode cL_isRick 266 = .ok (.goto (-181), 3) := by decide +kernel
theorem dL_isRick_269 : decode cL_isRick 269 = .ok (.iload_n 2, 1) := by decide +kernel
theorem dL_isRick_270 : decode cL_isRick 270 = .ok (.ifCond .ne 7, 3) := by decide +kernel
theorem dL_isRick_273 : decode cL_isRick 273 = .ok (.iconst 1, 1) := by decide +kernel
theorem dL_isRick_274 : decode cL_isRick 274 = .ok (.goto 4, 3) := by decide +kernel
theorem dL_isRick_277 : decode cL_isRick 277 = .ok (.iconst 0, 1) := by decide +kernel
theorem dL_isRick_278 : decode cL_isRick 278 = .ok (.istore 9, 2) := by decide +kernel
theorem dL_isRick_280 : decode cL_isRick 280 = .ok (.iload 8, 2) := by decide +kernel
theorem dL_isRick_282 : decode cL_isRick 282 = .ok (.ifCond .eq 120, 3) := by decide +kernel
theorem dL_isRick_285 : decode cL_isRick 285 = .ok (.iload_n 3, 1) := by decide +kernel
theorem dL_isRick_286 : decode cL_isRick 286 = .ok (.aload_n 0, 1) := by decide +kernel
theorem dL_isRick_287 : decode cL_isRick 287 = .ok (.iload_n 1, 1) := by decide +kernel
theorem dL_isRick_288 : decode cL_isRick 288 = .ok (.iconst 1, 1) := by decide +kernel
theorem dL_isRick_289 : decode cL_isRick 289 = .ok (.invokevirtual 28, 3) := by decide +kernel
theorem dL_isRick_292 : decode cL_isRick 292 = .ok (.if_icmp .ne 110, 3) := by decide +kernel
theorem dL_isRick_295 : decode cL_isRick 295 = .ok (.iload 4, 2) := by decide +kernel
theorem dL_isRick_297 : decode cL_isRick 297 = .ok (.aload_n 0, 1) := by decide +kernel
theorem dL_isRick_298 : decode cL_isRick 298 = .ok (.iload_n 1, 1) := by decide +kernel
theorem dL_isRick_299 : decode cL_isRick 299 = .ok (.bipush 7, 2) := by decide +kernel
theorem dL_isRick_301 : decode cL_isRick 301 = .ok (.invokevirtual 28, 3) := by decide +kernel
theorem dL_isRick_304 : decode cL_isRick 304 = .ok (.if_icmp .ne 98, 3) := by decide +kernel
theorem dL_isRick_307 : decode cL_isRick 307 = .ok (.iload 5, 2) := by decide +kernel
theorem dL_isRick_309 : decode cL_isRick 309 = .ok (.aload_n 0, 1) := by decide +kernel
theorem dL_isRick_310 : decode cL_isRick 310 = .ok (.iload_n 1, 1) := by decide +kernel
theorem dL_isRick_311 : decode cL_isRick 311 = .ok (.bipush 6, 2) := by decide +kernel
theorem dL_isRick_313 : decode cL_isRick 313 = .ok (.invokevirtual 28, 3) := by decide +kernel
theorem dL_isRick_316 : decode cL_isRick 316 = .ok (.if_icmp .ne 86, 3) := by decide +kernel
theorem dL_isRick_319 : decode cL_isRick 319 = .ok (.iload 6, 2) := by decide +kernel
theorem dL_isRick_321 : decode cL_isRick 321 = .ok (.aload_n 0, 1) := by decide +kernel
theorem dL_isRick_322 : decode cL_isRick 322 = .ok (.iload_n 1, 1) := by decide +kernel
theorem dL_isRick_323 : decode cL_isRick 323 = .ok (.bipush 8, 2) := by decide +kernel
theorem dL_isRick_325 : decode cL_isRick 325 = .ok (.invokevirtual 28, 3) := by decide +kernel
theorem dL_isRick_328 : decode cL_isRick 328 = .ok (.if_icmp .ne 74, 3) := by decide +kernel
theorem dL_isRick_331 : decode cL_isRick 331 = .ok (.iload 7, 2) := by decide +kernel
theorem dL_isRick_333 : decode cL_isRick 333 = .ok (.aload_n 0, 1) := by decide +kernel
theorem dL_isRick_334 : decode cL_isRick 334 = .ok (.iload_n 1, 1) := by decide +kernel
theorem dL_isRick_335 : decode cL_isRick 335 = .ok (.iconst 3, 1) := by decide +kernel
theorem dL_isRick_336 : decode cL_isRick 336 = .ok (.invokevirtual 28, 3) := by decide +kernel
theorem dL_isRick_339 : decode cL_isRick 339 = .ok (.if_icmp .ne 63, 3) := by decide +kernel
theorem dL_isRick_342 : decode cL_isRick 342 = .ok (.aload_n 0, 1) := by decide +kernel
theorem dL_isRick_343 : decode cL_isRick 343 = .ok (.iload_n 1, 1) := by decide +kernel
theorem dL_isRick_344 : decode cL_isRick 344 = .ok (.invokevirtual 120, 3) := by decide +kernel
theorem dL_isRick_347 : decode cL_isRick 347 = .ok (.iload 9, 2) := by decide +kernel
theorem dL_isRick_349 : decode cL_isRick 349 = .ok (.ifCond .eq 8, 3) := by decide +kernel
theorem dL_isRick_352 : decode cL_isRick 352 = .ok (.bipush (-15), 2) := by decide +kernel
theorem dL_isRick_354 : decode cL_isRick 354 = .ok (.goto 12, 3) := by decide +kernel
theorem dL_isRick_357 : decode cL_isRick 357 = .ok (.iload 5, 2) := by decide +kernel
theorem dL_isRick_359 : decode cL_isRick 359 = .ok (.i2f, 1) := by decide +kernel
theorem dL_isRick_360 : decode cL_isRick 360 = .ok (.iload_n 2, 1) := by decide +kernel
theorem dL_isRick_361 : decode cL_isRick 361 = .ok (.i2f, 1) := by decide +kernel
theorem dL_isRick_362 : decode cL_isRick 362 = .ok (.fdiv, 1) := by decide +kernel
theorem dL_isRick_363 : decode cL_isRick 363 = .ok (.invokestatic 123, 3) := by decide +kernel
theorem dL_isRick_366 : decode cL_isRick 366 = .ok (.if_icmp .ne 36, 3) := by decide +kernel
theorem dL_isRick_369 : decode cL_isRick 369 = .ok (.aload_n 0, 1) := by decide +kernel
theorem dL_isRick_370 : decode cL_isRick 370 = .ok (.iload_n 1, 1) := by decide +kernel
theorem dL_isRick_371 : decode cL_isRick 371 = .ok (.invokevirtual 129, 3) := by decide +kernel
theorem dL_isRick_374 : decode cL_isRick 374 = .ok (.iload 9, 2) := by decide +kernel
theorem dL_isRick_376 : decode cL_isRick 376 = .ok (.ifCond .eq 9, 3) := by decide +kernel
theorem dL_isRick_379 : decode cL_isRick 379 = .ok (.ldc2_w 132, 3) := by decide +kernel
theorem dL_isRick_382 : decode cL_isRick 382 = .ok (.goto 12, 3) := by decide +kernel
theorem dL_isRick_385 : decode cL_isRick 385 = .ok (.iload 4, 2) := by decide +kernel
theorem dL_isRick_387 : decode cL_isRick 387 = .ok (.i2d, 1) := by decide +kernel
theorem dL_isRick_388 : decode cL_isRick 388 = .ok (.iload_n 2, 1) := by decide +kernel
theorem dL_isRick_389 : decode cL_isRick 389 = .ok (.i2d, 1) := by decide +kernel
theorem dL_isRick_390 : decode cL_isRick 390 = .ok (.ddiv, 1) := by decide +kernel
theorem dL_isRick_391 : decode cL_isRick 391 = .ok (.invokestatic 134, 3) := by decide +kernel
theorem dL_isRick_394 : decode cL_isRick 394 = .ok (.lcmp, 1) := by decide +kernel
theorem dL_isRick_395 : decode cL_isRick 395 = .ok (.ifCond .ne 7, 3) := by decide +kernel
theorem dL_isRick_398 : decode cL_isRick 398 = .ok (.iconst 1, 1) := by decide +kernel
theorem dL_isRick_399 : decode cL_isRick 399 = .ok (.goto 4, 3) := by decide +kernel
theorem dL_isRick_402 : decode cL_isRick 402 = .ok (.iconst 0, 1) := by decide +kernel
theorem dL_isRick_403 : decode cL_isRick 403 = .ok (.ireturn, 1) := by decide +kernel
theorem dL_areCarts_0 : decode cL_areCarts 0 = .ok (.aload_n 0, 1) := by decide +kernel
theorem dL_areCarts_1 : decode cL_areCarts 1 = .ok (.iload_n 1, 1) := by decide +kernel
theorem dL_areCarts_2 : decode cL_areCarts 2 = .ok (.iload_n 2, 1) := by decide +kernel
theorem dL_areCarts_3 : decode cL_areCarts 3 = .ok (.invokevirtual 140, 3) := by decide +kernel
theorem dL_areCarts_6 : decode cL_areCarts 6 = .ok (.istore_n 3, 1) := by decide +kernel
theorem dL_areCarts_7 : decode cL_areCarts 7 = .ok (.iconst 0, 1) := by decide +kernel
theorem dL_areCarts_8 : decode cL_areCarts 8 = .ok (.istore 4, 2) := by decide +kernel
theorem dL_areCarts_10 : decode cL_areCarts 10 = .ok (.iconst 0, 1) := by decide +kernel
theorem dL_areCarts_11 : decode cL_areCarts 11 = .ok (.istore 5, 2) := by decide +kernel
theorem dL_areCarts_13 : decode cL_areCarts 13 = .ok (.iload_n 3, 1) := by decide +kernel
theorem dL_areCarts_14 : decode cL_areCarts 14 = .ok (.ifCond .lt 33, 3) := by decide +kernel
theorem dL_areCarts_17 : decode cL_areCarts 17 = .ok (.iload_n 3, 1) := by decide +kernel
theorem dL_areCarts_18 : decode cL_areCarts 18 = .ok (.ifCond .ne 7, 3) := by decide +kernel
theorem dL_areCarts_21 : decode cL_areCarts 21 = .ok (.iconst 1, 1) := by decide +kernel
theorem dL_areCarts_22 : decode cL_areCarts 22 = .ok (.goto 4, 3) := by decide +kernel
theorem dL_areCarts_25 : decode cL_areCarts 25 = .ok (.iconst 0, 1) := by decide +kernel
theorem dL_areCarts_26 : decode cL_areCarts 26 = .ok (.aload_n 0, 1) := by decide +kernel
theorem dL_areCarts_27 : decode cL_areCarts 27 = .ok (.iload_n 1, 1) := by decide +kernel
theorem dL_areCarts_28 : decode cL_areCarts 28 = .ok (.iconst 0, 1) := by decide +kernel
theorem dL_areCarts_29 : decode cL_areCarts 29 = .ok (.invokevirtual 28, 3) := by decide +kernel
theorem dL_areCarts_32 : decode cL_areCarts 32 = .ok (.ifCond .ne 7, 3) := by decide +kernel
theorem dL_areCarts_35 : decode cL_areCarts 35 = .ok (.iconst 1, 1) := by decide +kernel
theorem dL_areCarts_36 : decode cL_areCarts 36 = .ok (.goto 4, 3) := by decide +kernel
theorem dL_areCarts_39 : decode cL_areCarts 39 = .ok (.iconst 0, 1) := by decide +kernel
theorem dL_areCarts_40 : decode cL_areCarts 40 = .ok (.if_icmp .ne 7, 3) := by decide +kernel
theorem dL_areCarts_43 : decode cL_areCarts 43 = .ok (.iconst 1, 1) := by decide +kernel
theorem dL_areCarts_44 : decode cL_areCarts 44 = .ok (.goto 4, 3) := by decide +kernel
theorem dL_areCarts_47 : decode cL_areCarts 47 = .ok (.iconst 0, 1) := by decide +kernel
theorem dL_areCarts_48 : decode cL_areCarts 48 = .ok (.istore 6, 2) := by decide +kernel
theorem dL_areCarts_50 : decode cL_areCarts 50 = .ok (.iconst 0, 1) := by decide +kernel
theorem dL_areCarts_51 : decode cL_areCarts 51 = .ok (.istore 7, 2) := by decide +kernel
theorem dL_areCarts_53 : decode cL_areCarts 53 = .ok (.iload 6, 2) := by decide +kernel
theorem dL_areCarts_55 : decode cL_areCarts 55 = .ok (.ifCond .eq 108, 3) := by decide +kernel
theorem dL_areCarts_58 : decode cL_areCarts 58 = .ok (.iload 7, 2) := by decide +kernel
theorem dL_areCarts_60 : decode cL_areCarts 60 = .ok (.aload_n 0, 1) := by decide +kernel
theorem dL_areCarts_61 : decode cL_areCarts 61 = .ok (.iload_n 1, 1) := by decide +kernel
theorem dL_areCarts_62 : decode cL_areCarts 62 = .ok (.iconst 0, 1) := by decide +kernel
theorem dL_areCarts_63 : decode cL_areCarts 63 = .ok (.invokevirtual 28, 3) := by decide +kernel
theorem dL_areCarts_66 : decode cL_areCarts 66 = .ok (.if_icmp .ge 97, 3) := by decide +kernel
theorem dL_areCarts_69 : decode cL_areCarts 69 = .ok (.aload_n 0, 1) := by decide +kernel
theorem dL_areCarts_70 : decode cL_areCarts 70 = .ok (.iload_n 1, 1) := by decide +kernel
theorem dL_areCarts_71 : decode cL_areCarts 71 = .ok (.aload_n 0, 1) := by decide +kernel
theorem dL_areCarts_72 : decode cL_areCarts 72 = .ok (.iload_n 1, 1) := by decide +kernel
theorem dL_areCarts_73 : decode cL_areCarts 73 = .ok (.iload 7, 2) := by decide +kernel
theorem dL_areCarts_75 : decode cL_areCarts 75 = .ok (.invokevirtual 37, 3) := by decide +kernel
theorem dL_areCarts_78 : decode cL_areCarts 78 = .ok (.iconst 0, 1) := by decide +kernel
theorem dL_areCarts_79 : decode cL_areCarts 79 = .ok (.invokevirtual 85, 3) := by decide +kernel
theorem dL_areCarts_82 : decode cL_areCarts 82 = .ok (.istore 8, 2) := by decide +kernel
theorem dL_areCarts_84 : decode cL_areCarts 84 = .ok (.iload 5, 2) := by decide +kernel
theorem dL_areCarts_86 : decode cL_areCarts 86 = .ok (.iload 8, 2) := by decide +kernel
theorem dL_areCarts_88 : decode cL_areCarts 88 = .ok (.iadd, 1) := by decide +kernel
theorem dL_areCarts_89 : decode cL_areCarts 89 = .ok (.iload_n 2, 1) := by decide +kernel
theorem dL_areCarts_90 : decode cL_areCarts 90 = .ok (.if_icmp .le 7, 3) := by decide +kernel
theorem dL_areCarts_93 : decode cL_areCarts 93 = .ok (.iconst 1, 1) := by decide +kernel
theorem dL_areCarts_94 : decode cL_areCarts 94 = .ok (.goto 4, 3) := by decide +kernel
theorem dL_areCarts_97 : decode cL_areCarts 97 = .ok (.iconst 0, 1) := by decide +kernel
theorem dL_areCarts_98 : decode cL_areCarts 98 = .ok (.istore 9, 2) := by decide +kernel
theorem dL_areCarts_100 : decode cL_areCarts 100 = .ok (.iload 4, 2) := by decide +kernel
theorem dL_areCarts_102 : decode cL_areCarts 102 = .ok (.iload 9, 2) := by decide +kernel
theorem dL_areCarts_104 : decode cL_areCarts 104 = .ok (.ifCond .eq 7, 3) := by decide +kernel
theorem dL_areCarts_107 : decode cL_areCarts 107 = .ok (.iconst 1, 1) := by decide +kernel
theorem dL_areCarts_108 : decode cL_areCarts 108 = .ok (.goto 4, 3) := by decide +kernel
theorem dL_areCarts_111 : decode cL_areCarts 111 = .ok (.iconst 0, 1) := by decide +kernel
theorem dL_areCarts_112 : decode cL_areCarts 112 = .ok (.iadd, 1) := by decide +kernel
theorem dL_areCarts_113 : decode cL_areCarts 113 = .ok (.istore 4, 2) := by decide +kernel
theorem dL_areCarts_115 : decode cL_areCarts 115 = .ok (.iload 9, 2) := by decide +kernel
theorem dL_areCarts_117 : decode cL_areCarts 117 = .ok (.ifCond .eq 8, 3) := by decide +kernel
theorem dL_areCarts_120 : decode cL_areCarts 120 = .ok (.iload 8, 2) := by decide +kernel
theorem dL_areCarts_122 : decode cL_areCarts 122 = .ok (.goto 8, 3) := by decide +kernel
theorem dL_areCarts_125 : decode cL_areCarts 125 = .ok (.iload 5, 2) := by decide +kernel
theorem dL_areCarts_127 : decode cL_areCarts 127 = .ok (.iload 8, 2) := by decide +kernel
theorem dL_areCarts_129 : decode cL_areCarts 129 = .ok (.iadd, 1) := by decide +kernel
theorem dL_areCarts_130 : decode cL_areCarts 130 = .ok (.istore 5, 2) := by decide +kernel
theorem dL_areCarts_132 : decode cL_areCarts 132 = .ok (.aload_n 0, 1) := by decide +kernel
theorem dL_areCarts_133 : decode cL_areCarts 133 = .ok (.iload_n 1, 1) := by decide +kernel
theorem dL_areCarts_134 : decode cL_areCarts 134 = .ok (.aload_n 0, 1) := by decide +kernel
theorem dL_areCarts_135 : decode cL_areCarts 135 = .ok (.iload_n 1, 1) := by decide +kernel
theorem dL_areCarts_136 : decode cL_areCarts 136 = .ok (.iload 7, 2) := by decide +kernel
theorem dL_areCarts_138 : decode cL_areCarts 138 = .ok (.invokevirtual 37, 3) := by decide +kernel
theorem dL_areCarts_141 : decode cL_areCarts 141 = .ok (.iload_n 2, 1) := by decide +kernel
theorem dL_areCarts_142 : decode cL_areCarts 142 = .ok (.invokevirtual 143, 3) := by decide +kernel
theorem dL_areCarts_145 : decode cL_areCarts 145 = .ok (.iload 4, 2) := by decide +kernel
theorem dL_areCarts_147 : decode cL_areCarts 147 = .ok (.if_icmp .ne 7, 3) := by decide +kernel
theorem dL_areCarts_150 : decode cL_areCarts 150 = .ok (.iconst 1, 1) := by decide +kernel
theorem dL_areCarts_151 : decode cL_areCarts 151 = .ok (.goto 4, 3) := by decide +kernel
theorem dL_areCarts_154 : decode cL_areCarts 154 = .ok (.iconst 0, 1) := by decide +kernel
theorem dL_areCarts_155 : decode cL_areCarts 155 = .ok (.istore 6, 2) := by decide +kernel
theorem dL_areCarts_157 : decode cL_areCarts 157 = .ok (.iinc 7 1, 3) := by decide +kernel
theorem dL_areCarts_160 : decode cL_areCarts 160 = .ok (.goto (-107), 3) := by decide +kernel
theorem dL_areCarts_163 : decode cL_areCarts 163 = .ok (.iload 6, 2) := by decide +kernel
theorem dL_areCarts_165 : decode cL_areCarts 165 = .ok (.ifCond .eq 19, 3) := by decide +kernel
theorem dL_areCarts_168 : decode cL_areCarts 168 = .ok (.iload_n 3, 1) := by decide +kernel
theorem dL_areCarts_169 : decode cL_areCarts 169 = .ok (.ifCond .eq 11, 3) := by decide +kernel
theorem dL_areCarts_172 : decode cL_areCarts 172 = .ok (.iload_n 3, 1) := by decide +kernel
theorem dL_areCarts_173 : decode cL_areCarts 173 = .ok (.iload 4, 2) := by decide +kernel
theorem dL_areCarts_175 : decode cL_areCarts 175 = .ok (.iconst 1, 1) := by decide +kernel
theorem dL_areCarts_176 : decode cL_areCarts 176 = .ok (.iadd, 1) := by decide +kernel
theorem dL_areCarts_177 : decode cL_areCarts 177 = .ok (.if_icmp .ne 7, 3) := by decide +kernel
theorem dL_areCarts_180 : decode cL_areCarts 180 = .ok (.iconst 1, 1) := by decide +kernel
theorem dL_areCarts_181 : decode cL_areCarts 181 = .ok (.goto 4, 3) := by decide +kernel
theorem dL_areCarts_184 : decode cL_areCarts 184 = .ok (.iconst 0, 1) := by decide +kernel
theorem dL_areCarts_185 : decode cL_areCarts 185 = .ok (.ireturn, 1) := by decide +kernel
theorem dL_areHeaviest_0 : decode cL_areHeaviest 0 = .ok (.aload_n 0, 1) := by decide +kernel
theorem dL_areHeaviest_1 : decode cL_areHeaviest 1 = .ok (.iconst 0, 1) := by decide +kernel
theorem dL_areHeaviest_2 : decode cL_areHeaviest 2 = .ok (.invokevirtual 78, 3) := by decide +kernel
theorem dL_areHeaviest_5 : decode cL_areHeaviest 5 = .ok (.istore_n 1, 1) := by decide +kernel
theorem dL_areHeaviest_6 : decode cL_areHeaviest 6 = .ok (.aload_n 0, 1) := by decide +kernel
theorem dL_areHeaviest_7 : decode cL_areHeaviest 7 = .ok (.iload_n 1, 1) := by decide +kernel
theorem dL_areHeaviest_8 : decode cL_areHeaviest 8 = .ok (.invokevirtual 146, 3) := by decide +kernel
theorem dL_areHeaviest_11 : decode cL_areHeaviest 11 = .ok (.bipush (-11), 2) := by decide +kernel
theorem dL_areHeaviest_13 : decode cL_areHeaviest 13 = .ok (.if_icmp .ne 17, 3) := by decide +kernel
theorem dL_areHeaviest_16 : decode cL_areHeaviest 16 = .ok (.aload_n 0, 1) := by decide +kernel
theorem dL_areHeaviest_17 : decode cL_areHeaviest 17 = .ok (.iconst (-1), 1) := by decide +kernel
theorem dL_areHeaviest_18 : decode cL_areHeaviest 18 = .ok (.invokevirtual 146, 3) := by decide +kernel
theorem dL_areHeaviest_21 : decode cL_areHeaviest 21 = .ok (.bipush (-11), 2) := by decide +kernel
theorem dL_areHeaviest_23 : decode cL_areHeaviest 23 = .ok (.if_icmp .ne 7, 3) := by decide +kernel
theorem dL_areHeaviest_26 : decode cL_areHeaviest 26 = .ok (.iconst 1, 1) := by decide +kernel
theorem dL_areHeaviest_27 : decode cL_areHeaviest 27 = .ok (.goto 4, 3) := by decide +kernel
theorem dL_areHeaviest_30 : decode cL_areHeaviest 30 = .ok (.iconst 0, 1) := by decide +kernel
theorem dL_areHeaviest_31 : decode cL_areHeaviest 31 = .ok (.istore_n 2, 1) := by decide +kernel
theorem dL_areHeaviest_32 : decode cL_areHeaviest 32 = .ok (.iconst 1, 1) := by decide +kernel
theorem dL_areHeaviest_33 : decode cL_areHeaviest 33 = .ok (.istore_n 3, 1) := by decide +kernel
theorem dL_areHeaviest_34 : decode cL_areHeaviest 34 = .ok (.iload_n 2, 1) := by decide +kernel
theorem dL_areHeaviest_35 : decode cL_areHeaviest 35 = .ok (.ifCond .eq 115, 3) := by decide +kernel
theorem dL_areHeaviest_38 : decode cL_areHeaviest 38 = .ok (.iload_n 3, 1) := by decide +kernel
theorem dL_areHeaviest_39 : decode cL_areHeaviest 39 = .ok (.iload_n 1, 1) := by decide +kernel
theorem dL_areHeaviest_40 : decode cL_areHeaviest 40 = .ok (.if_icmp .ge 110, 3) := by decide +kernel
theorem dL_areHeaviest_43 : decode cL_areHeaviest 43 = .ok (.aload_n 0, 1) := by decide +kernel
theorem dL_areHeaviest_44 : decode cL_areHeaviest 44 = .ok (.iload_n 3, 1) := by decide +kernel
theorem dL_areHeaviest_45 : decode cL_areHeaviest 45 = .ok (.iconst 1, 1) := by decide +kernel
theorem dL_areHeaviest_46 : decode cL_areHeaviest 46 = .ok (.isub, 1) := by decide +kernel
theorem dL_areHeaviest_47 : decode cL_areHeaviest 47 = .ok (.invokevirtual 146, 3) := by decide +kernel
theorem dL_areHeaviest_50 : decode cL_areHeaviest 50 = .ok (.istore 4, 2) := by decide +kernel
theorem dL_areHeaviest_52 : decode cL_areHeaviest 52 = .ok (.aload_n 0, 1) := by decide +kernel
theorem dL_areHeaviest_53 : decode cL_areHeaviest 53 = .ok (.iload_n 3, 1) := by decide +kernel
theorem dL_areHeaviest_54 : decode cL_areHeaviest 54 = .ok (.invokevirtual 146, 3) := by decide +kernel
theorem dL_areHeaviest_57 : decode cL_areHeaviest 57 = .ok (.istore 5, 2) := by decide +kernel
theorem dL_areHeaviest_59 : decode cL_areHeaviest 59 = .ok (.aload_n 0, 1) := by decide +kernel
theorem dL_areHeaviest_60 : decode cL_areHeaviest 60 = .ok (.iload 4, 2) := by decide +kernel
theorem dL_areHeaviest_62 : decode cL_areHeaviest 62 = .ok (.sipush 1000, 3) := by decide +kernel
theorem dL_areHeaviest_65 : decode cL_areHeaviest 65 = .ok (.idiv, 1) := by decide +kernel
theorem dL_areHeaviest_66 : decode cL_areHeaviest 66 = .ok (.iload 4, 2) := by decide +kernel
theorem dL_areHeaviest_68 : decode cL_areHeaviest 68 = .ok (.sipush 1000, 3) := by decide +kernel
theorem dL_areHeaviest_71 : decode cL_areHeaviest 71 = .ok (.irem, 1) := by decide +kernel
theorem dL_areHeaviest_72 : decode cL_areHeaviest 72 = .ok (.iconst 0, 1) := by decide +kernel
theorem dL_areHeaviest_73 : decode cL_areHeaviest 73 = .ok (.invokevirtual 85, 3) := by decide +kernel
theorem dL_areHeaviest_76 : decode cL_areHeaviest 76 = .ok (.aload_n 0, 1) := by decide +kernel
theorem dL_areHeaviest_77 : decode cL_areHeaviest 77 = .ok (.iload 5, 2) := by decide +kernel
theorem dL_areHeaviest_79 : decode cL_areHeaviest 79 = .ok (.sipush 1000, 3) := by decide +kernel
theorem dL_areHeaviest_82 : decode cL_areHeaviest 82 = .ok (.idiv, 1) := by decide +kernel
theorem dL_areHeaviest_83 : decode cL_areHeaviest 83 = .ok (.iload 5, 2) := by decide +kernel
theorem dL_areHeaviest_85 : decode cL_areHeaviest 85 = .ok (.sipush 1000, 3) := by decide +kernel
theorem dL_areHeaviest_88 : decode cL_areHeaviest 88 = .ok (.irem, 1) := by decide +kernel
theorem dL_areHeaviest_89 : decode cL_areHeaviest 89 = .ok (.iconst 0, 1) := by decide +kernel
theorem dL_areHeaviest_90 : decode cL_areHeaviest 90 = .ok (.invokevirtual 85, 3) := by decide +kernel
theorem dL_areHeaviest_93 : decode cL_areHeaviest 93 = .ok (.isub, 1) := by decide +kernel
theorem dL_areHeaviest_94 : decode cL_areHeaviest 94 = .ok (.istore 6, 2) := by decide +kernel
theorem dL_areHeaviest_96 : decode cL_areHeaviest 96 = .ok (.iload 5, 2) := by decide +kernel
theorem dL_areHeaviest_98 : decode cL_areHeaviest 98 = .ok (.sipush 1000, 3) := by decide +kernel
theorem dL_areHeaviest_101 : decode cL_areHeaviest 101 = .ok (.irem, 1) := by decide +kernel
theorem dL_areHeaviest_102 : decode cL_areHeaviest 102 = .ok (.iload 4, 2) := by decide +kernel
theorem dL_areHeaviest_104 : decode cL_areHeaviest 104 = .ok (.sipush 1000, 3) := by decide +kernel
theorem dL_areHeaviest_107 : decode cL_areHeaviest 107 = .ok (.irem, 1) := by decide +kernel
theorem dL_areHeaviest_108 : decode cL_areHeaviest 108 = .ok (.isub, 1) := by decide +kernel
theorem dL_areHeaviest_109 : decode cL_areHeaviest 109 = .ok (.istore 7, 2) := by decide +kernel
theorem dL_areHeaviest_111 : decode cL_areHeaviest 111 = .ok (.iload 6, 2) := by decide +kernel
theorem dL_areHeaviest_113 : decode cL_areHeaviest 113 = .ok (.ifCond .gt 25, 3) := by decide +kernel
theorem dL_areHeaviest_116 : decode cL_areHeaviest 116 = .ok (.iload 6, 2) := by decide +kernel
theorem dL_areHeaviest_118 : decode cL_areHeaviest 118 = .ok (.ifCond .ne 24, 3) := by decide +kernel
theorem dL_areHeaviest_121 : decode cL_areHeaviest 121 = .ok (.iload 7, 2) := by decide +kernel
theorem dL_areHeaviest_123 : decode cL_areHeaviest 123 = .ok (.ifCond .gt 15, 3) := by decide +kernel
theorem dL_areHeaviest_126 : decode cL_areHeaviest 126 = .ok (.iload 7, 2) := by decide +kernel
theorem dL_areHeaviest_128 : decode cL_areHeaviest 128 = .ok (.ifCond .ne 14, 3) := by decide +kernel
theorem dL_areHeaviest_131 : decode cL_areHeaviest 131 = .ok (.iload 4, 2) := by decide +kernel
theorem dL_areHeaviest_133 : decode cL_areHeaviest 133 = .ok (.iload 5, 2) := by decide +kernel
theorem dL_areHeaviest_135 : decode cL_areHeaviest 135 = .ok (.if_icmp .ge 7, 3) := by decide +kernel
theorem dL_areHeaviest_138 : decode cL_areHeaviest 138 = .ok (.iconst 1, 1) := by decide +kernel
theorem dL_areHeaviest_139 : decode cL_areHeaviest 139 = .ok (.goto 4, 3) := by decide +kernel
theorem dL_areHeaviest_142 : decode cL_areHeaviest 142 = .ok (.iconst 0, 1) := by decide +kernel
theorem dL_areHeaviest_143 : decode cL_areHeaviest 143 = .ok (.istore_n 2, 1) := by decide +kernel
theorem dL_areHeaviest_144 : decode cL_areHeaviest 144 = .ok (.iinc 3 1, 3) := by decide +kernel
theorem dL_areHeaviest_147 : decode cL_areHeaviest 147 = .ok (.goto (-113), 3) := by decide +kernel
theorem dL_areHeaviest_150 : decode cL_areHeaviest 150 = .ok (.iload_n 2, 1) := by decide +kernel
theorem dL_areHeaviest_151 : decode cL_areHeaviest 151 = .ok (.ireturn, 1) := by decide +kernel
theorem dL_isFit_0 : decode cL_isFit 0 = .ok (.aload_n 0, 1) := by decide +kernel
theorem dL_isFit_1 : decode cL_isFit 1 = .ok (.invokevirtual 149, 3) := by decide +kernel
theorem dL_isFit_4 : decode cL_isFit 4 = .ok (.iconst 1, 1) := by decide +kernel
theorem dL_isFit_5 : decode cL_isFit 5 = .ok (.if_icmp .ne 14, 3) := by decide +kernel
theorem dL_isFit_8 : decode cL_isFit 8 = .ok (.aload_n 0, 1) := by decide +kernel
theorem dL_isFit_9 : decode cL_isFit 9 = .ok (.invokestatic 152, 3) := by decide +kernel
theorem dL_isFit_12 : decode cL_isFit 12 = .ok (.ifCond .eq 7, 3) := by decide +kernel
theorem dL_isFit_15 : decode cL_isFit 15 = .ok (.iconst 1, 1) := by decide +kernel
theorem dL_isFit_16 : decode cL_isFit 16 = .ok (.goto 4, 3) := by decide +kernel
theorem dL_isFit_19 : decode cL_isFit 19 = .ok (.iconst 0, 1) := by decide +kernel
theorem dL_isFit_20 : decode cL_isFit 20 = .ok (.istore_n 1, 1) := by decide +kernel
theorem dL_isFit_21 : decode cL_isFit 21 = .ok (.iconst 0, 1) := by decide +kernel
theorem dL_isFit_22 : decode cL_isFit 22 = .ok (.istore_n 2, 1) := by decide +kernel
theorem dL_isFit_23 : decode cL_isFit 23 = .ok (.iconst 0, 1) := by decide +kernel
theorem dL_isFit_24 : decode cL_isFit 24 = .ok (.istore_n 3, 1) := by decide +kernel
theorem dL_isFit_25 : decode cL_isFit 25 = .ok (.iconst 0, 1) := by decide +kernel
theorem dL_isFit_26 : decode cL_isFit 26 = .ok (.istore 4, 2) := by decide +kernel
theorem dL_isFit_28 : decode cL_isFit 28 = .ok (.iload_n 1, 1) := by decide +kernel
theorem dL_isFit_29 : decode cL_isFit 29 = .ok (.ifCond .eq 73, 3) := by decide +kernel
theorem dL_isFit_32 : decode cL_isFit 32 = .ok (.iload 4, 2) := by decide +kernel
theorem dL_isFit_34 : decode cL_isFit 34 = .ok (.iconst 3, 1) := by decide +kernel
theorem dL_isFit_35 : decode cL_isFit 35 = .ok (.if_icmp .ge 67, 3) := by decide +kernel
theorem dL_isFit_38 : decode cL_isFit 38 = .ok (.iload_n 2, 1) := by decide +kernel
theorem dL_isFit_39 : decode cL_isFit 39 = .ok (.aload_n 0, 1) := by decide +kernel
theorem dL_isFit_40 : decode cL_isFit 40 = .ok (.iload 4, 2) := by decide +kernel
theorem dL_isFit_42 : decode cL_isFit 42 = .ok (.iconst 0, 1) := by decide +kernel
theorem dL_isFit_43 : decode cL_isFit 43 = .ok (.invokevirtual 28, 3) := by decide +kernel
theorem dL_isFit_46 : decode cL_isFit 46 = .ok (.iadd, 1) := by decide +kernel
theorem dL_isFit_47 : decode cL_isFit 47 = .ok (.istore_n 2, 1) := by decide +kernel
theorem dL_isFit_48 : decode cL_isFit 48 = .ok (.iload_n 3, 1) := by decide +kernel
theorem dL_isFit_49 : decode cL_isFit 49 = .ok (.aload_n 0, 1) := by decide +kernel
theorem dL_isFit_50 : decode cL_isFit 50 = .ok (.iload 4, 2) := by decide +kernel
theorem dL_isFit_52 : decode cL_isFit 52 = .ok (.iconst 1, 1) := by decide +kernel
theorem dL_isFit_53 : decode cL_isFit 53 = .ok (.invokevirtual 28, 3) := by decide +kernel
theorem dL_isFit_56 : decode cL_isFit 56 = .ok (.iadd, 1) := by decide +kernel
theorem dL_isFit_57 : decode cL_isFit 57 = .ok (.istore_n 3, 1) := by decide +kernel
theorem dL_isFit_58 : decode cL_isFit 58 = .ok (.aload_n 0, 1) := by decide +kernel
theorem dL_isFit_59 : decode cL_isFit 59 = .ok (.iload 4, 2) := by decide +kernel
theorem dL_isFit_61 : decode cL_isFit 61 = .ok (.invokestatic 156, 3) := by decide +kernel
theorem dL_isFit_64 : decode cL_isFit 64 = .ok (.ifCond .eq 30, 3) := by decide +kernel
theorem dL_isFit_67 : decode cL_isFit 67 = .ok (.aload_n 0, 1) := by decide +kernel
theorem dL_isFit_68 : decode cL_isFit 68 = .ok (.iload 4, 2) := by decide +kernel
theorem dL_isFit_70 : decode cL_isFit 70 = .ok (.bipush 99, 2) := by decide +kernel
theorem dL_isFit_72 : decode cL_isFit 72 = .ok (.invokestatic 160, 3) := by decide +kernel
theorem dL_isFit_75 : decode cL_isFit 75 = .ok (.ifCond .eq 19, 3) := by decide +kernel
theorem dL_isFit_78 : decode cL_isFit 78 = .ok (.aload_n 0, 1) := by decide +kernel
theorem dL_isFit_79 : decode cL_isFit 79 = .ok (.iload 4, 2) := by decide +kernel
theorem dL_isFit_81 : decode cL_isFit 81 = .ok (.sipush 300, 3) := by decide +kernel
theorem dL_isFit_84 : decode cL_isFit 84 = .ok (.invokestatic 160, 3) := by decide +kernel
theorem dL_isFit_87 : decode cL_isFit 87 = .ok (.ifCond .eq 7, 3) := by decide +kernel
theorem dL_isFit_90 : decode cL_isFit 90 = .ok (.iconst 1, 1) := by decide +kernel
theorem dL_isFit_91 : decode cL_isFit 91 = .ok (.goto 4, 3) := by decide +kernel
theorem dL_isFit_94 : decode cL_isFit 94 = .ok (.iconst 0, 1) := by decide +kernel
theorem dL_isFit_95 : decode cL_isFit 95 = .ok (.istore_n 1, 1) := by decide +kernel
theorem dL_isFit_96 : decode cL_isFit 96 = .ok (.iinc 4 1, 3) := by decide +kernel
theorem dL_isFit_99 : decode cL_isFit 99 = .ok (.goto (-71), 3) := by decide +kernel
theorem dL_isFit_102 : decode cL_isFit 102 = .ok (.iload_n 1, 1) := by decide +kernel
theorem dL_isFit_103 : decode cL_isFit 103 = .ok (.ifCond .eq 40, 3) := by decide +kernel
theorem dL_isFit_106 : decode cL_isFit 106 = .ok (.iload_n 2, 1) := by decide +kernel
theorem dL_isFit_107 : decode cL_isFit 107 = .ok (.aload_n 0, 1) := by decide +kernel
theorem dL_isFit_108 : decode cL_isFit 108 = .ok (.iconst 0, 1) := by decide +kernel
theorem dL_isFit_109 : decode cL_isFit 109 = .ok (.invokevirtual 78, 3) := by decide +kernel
theorem dL_isFit_112 : decode cL_isFit 112 = .ok (.if_icmp .ne 31, 3) := by decide +kernel
theorem dL_isFit_115 : decode cL_isFit 115 = .ok (.iload_n 3, 1) := by decide +kernel
theorem dL_isFit_116 : decode cL_isFit 116 = .ok (.aload_n 0, 1) := by decide +kernel
theorem dL_isFit_117 : decode cL_isFit 117 = .ok (.iconst 1, 1) := by decide +kernel
theorem dL_isFit_118 : decode cL_isFit 118 = .ok (.invokevirtual 78, 3) := by decide +kernel
theorem dL_isFit_121 : decode cL_isFit 121 = .ok (.if_icmp .ne 22, 3) := by decide +kernel
theorem dL_isFit_124 : decode cL_isFit 124 = .ok (.iload_n 2, 1) := by decide +kernel
theorem dL_isFit_125 : decode cL_isFit 125 = .ok (.aload_n 0, 1) := by decide +kernel
theorem dL_isFit_126 : decode cL_isFit 126 = .ok (.iconst 2, 1) := by decide +kernel
theorem dL_isFit_127 : decode cL_isFit 127 = .ok (.invokevirtual 78, 3) := by decide +kernel
theorem dL_isFit_130 : decode cL_isFit 130 = .ok (.aload_n 0, 1) := by decide +kernel
theorem dL_isFit_131 : decode cL_isFit 131 = .ok (.iconst 3, 1) := by decide +kernel
theorem dL_isFit_132 : decode cL_isFit 132 = .ok (.invokevirtual 78, 3) := by decide +kernel
theorem dL_isFit_135 : decode cL_isFit 135 = .ok (.isub, 1) := by decide +kernel
theorem dL_isFit_136 : decode cL_isFit 136 = .ok (.if_icmp .ne 7, 3) := by decide +kernel
theorem dL_isFit_139 : decode cL_isFit 139 = .ok (.iconst 1, 1) := by decide +kernel
theorem dL_isFit_140 : decode cL_isFit 140 = .ok (.goto 4, 3) := by decide +kernel
theorem dL_isFit_143 : decode cL_isFit 143 = .ok (.iconst 0, 1) := by decide +kernel
theorem dL_isFit_144 : decode cL_isFit 144 = .ok (.ireturn, 1) := by decide +kernel
theorem dL_isPut_0 : decode cL_isPut 0 = .ok (.aload_n 0, 1) := by decide +kernel
theorem dL_isPut_1 : decode cL_isPut 1 = .ok (.invokestatic 163, 3) := by decide +kernel
theorem dL_isPut_4 : decode cL_isPut 4 = .ok (.lstore_n 3, 1) := by decide +kernel
theorem dL_isPut_5 : decode cL_isPut 5 = .ok (.aload_n 0, 1) := by decide +kernel
theorem dL_isPut_6 : decode cL_isPut 6 = .ok (.iload_n 1, 1) := by decide +kernel
theorem dL_isPut_7 : decode cL_isPut 7 = .ok (.iconst 0, 1) := by decide +kernel
theorem dL_isPut_8 : decode cL_isPut 8 = .ok (.invokevirtual 28, 3) := by decide +kernel
theorem dL_isPut_11 : decode cL_isPut 11 = .ok (.istore 5, 2) := by decide +kernel
theorem dL_isPut_13 : decode cL_isPut 13 = .ok (.aload_n 0, 1) := by decide +kernel
theorem dL_isPut_14 : decode cL_isPut 14 = .ok (.iconst 4, 1) := by decide +kernel
theorem dL_isPut_15 : decode cL_isPut 15 = .ok (.invokevirtual 78, 3) := by decide +kernel
theorem dL_isPut_18 : decode cL_isPut 18 = .ok (.istore 6, 2) := by decide +kernel
theorem dL_isPut_20 : decode cL_isPut 20 = .ok (.aload_n 0, 1) := by decide +kernel
theorem dL_isPut_21 : decode cL_isPut 21 = .ok (.bipush 6, 2) := by decide +kernel
theorem dL_isPut_23 : decode cL_isPut 23 = .ok (.invokevirtual 78, 3) := by decide +kernel
theorem dL_isPut_26 : decode cL_isPut 26 = .ok (.istore 7, 2) := by decide +kernel
theorem dL_isPut_28 : decode cL_isPut 28 = .ok (.aload_n 0, 1) := by decide +kernel
theorem dL_isPut_29 : decode cL_isPut 29 = .ok (.iload_n 1, 1) := by decide +kernel
theorem dL_isPut_30 : decode cL_isPut 30 = .ok (.iload_n 2, 1) := by decide +kernel
theorem dL_isPut_31 : decode cL_isPut 31 = .ok (.bipush 7, 2) := by decide +kernel
theorem dL_isPut_33 : decode cL_isPut 33 = .ok (.invokevirtual 24, 3) := by decide +kernel
theorem dL_isPut_36 : decode cL_isPut 36 = .ok (.istore 8, 2) := by decide +kernel
theorem dL_isPut_38 : decode cL_isPut 38 = .ok (.iload 8, 2) := by decide +kernel
theorem dL_isPut_40 : decode cL_isPut 40 = .ok (.ifCond .ge 18, 3) := by decide +kernel
theorem dL_isPut_43 : decode cL_isPut 43 = .ok (.aload_n 0, 1) := by decide +kernel
theorem dL_isPut_44 : decode cL_isPut 44 = .ok (.invokestatic 163, 3) := by decide +kernel
theorem dL_isPut_47 : decode cL_isPut 47 = .ok (.lload_n 3, 1) := by decide +kernel
theorem dL_isPut_48 : decode cL_isPut 48 = .ok (.lcmp, 1) := by decide +kernel
theorem dL_isPut_49 : decode cL_isPut 49 = .ok (.ifCond .ne 7, 3) := by decide +kernel
theorem dL_isPut_52 : decode cL_isPut 52 = .ok (.iconst 1, 1) := by decide +kernel
theorem dL_isPut_53 : decode cL_isPut 53 = .ok (.goto 4, 3) := by decide +kernel
theorem dL_isPut_56 : decode cL_isPut 56 = .ok (.iconst 0, 1) := by decide +kernel
theorem dL_isPut_57 : decode cL_isPut 57 = .ok (.ireturn, 1) := by decide +kernel
theorem dL_isPut_58 : decode cL_isPut 58 = .ok (.aload_n 0, 1) := by decide +kernel
theorem dL_isPut_59 : decode cL_isPut 59 = .ok (.iload_n 1, 1) := by decide +kernel
theorem dL_isPut_60 : decode cL_isPut 60 = .ok (.iconst 0, 1) := by decide +kernel
theorem dL_isPut_61 : decode cL_isPut 61 = .ok (.invokevirtual 28, 3) := by decide +kernel
theorem dL_isPut_64 : decode cL_isPut 64 = .ok (.iload 5, 2) := by decide +kernel
theorem dL_isPut_66 : decode cL_isPut 66 = .ok (.iconst 1, 1) := by decide +kernel
theorem dL_isPut_67 : decode cL_isPut 67 = .ok (.iadd, 1) := by decide +kernel
theorem dL_isPut_68 : decode cL_isPut 68 = .ok (.if_icmp .ne 94, 3) := by decide +kernel
theorem dL_isPut_71 : decode cL_isPut 71 = .ok (.aload_n 0, 1) := by decide +kernel
theorem dL_isPut_72 : decode cL_isPut 72 = .ok (.iload_n 1, 1) := by decide +kernel
theorem dL_isPut_73 : decode cL_isPut 73 = .ok (.iload_n 2, 1) := by decide +kernel
theorem dL_isPut_74 : decode cL_isPut 74 = .ok (.iconst 0, 1) := by decide +kernel
theorem dL_isPut_75 : decode cL_isPut 75 = .ok (.invokevirtual 85, 3) := by decide +kernel
theorem dL_isPut_78 : decode cL_isPut 78 = .ok (.bipush 7, 2) := by decide +kernel
theorem dL_isPut_80 : decode cL_isPut 80 = .ok (.if_icmp .ne 82, 3) := by decide +kernel
theorem dL_isPut_83 : decode cL_isPut 83 = .ok (.aload_n 0, 1) := by decide +kernel
theorem dL_isPut_84 : decode cL_isPut 84 = .ok (.iconst 4, 1) := by decide +kernel
theorem dL_isPut_85 : decode cL_isPut 85 = .ok (.invokevirtual 78, 3) := by decide +kernel
theorem dL_isPut_88 : decode cL_isPut 88 = .ok (.iload 6, 2) := by decide +kernel
theorem dL_isPut_90 : decode cL_isPut 90 = .ok (.iload 8, 2) := by decide +kernel
theorem dL_isPut_92 : decode cL_isPut 92 = .ok (.ifCond .le 7, 3) := by decide +kernel
theorem dL_isPut_95 : decode cL_isPut 95 = .ok (.iconst 1, 1) := by decide +kernel
theorem dL_isPut_96 : decode cL_isPut 96 = .ok (.goto 4, 3) := by decide +kernel
theorem dL_isPut_99 : decode cL_isPut 99 = .ok (.iconst 0, 1) := by decide +kernel
theorem dL_isPut_100 : decode cL_isPut 100 = .ok (.iadd, 1) := by decide +kernel
theorem dL_isPut_101 : decode cL_isPut 101 = .ok (.if_icmp .ne 61, 3) := by decide +kernel
theorem dL_isPut_104 : decode cL_isPut 104 = .ok (.aload_n 0, 1) := by decide +kernel
theorem dL_isPut_105 : decode cL_isPut 105 = .ok (.bipush 6, 2) := by decide +kernel
theorem dL_isPut_107 : decode cL_isPut 107 = .ok (.invokevirtual 78, 3) := by decide +kernel
theorem dL_isPut_110 : decode cL_isPut 110 = .ok (.iload 7, 2) := by decide +kernel
theorem dL_isPut_112 : decode cL_isPut 112 = .ok (.iload 8, 2) := by decide +kernel
theorem dL_isPut_114 : decode cL_isPut 114 = .ok (.iadd, 1) := by decide +kernel
theorem dL_isPut_115 : decode cL_isPut 115 = .ok (.if_icmp .ne 47, 3) := by decide +kernel
theorem dL_isPut_118 : decode cL_isPut 118 = .ok (.iload 8, 2) := by decide +kernel
theorem dL_isPut_120 : decode cL_isPut 120 = .ok (.iload 5, 2) := by decide +kernel
theorem dL_isPut_122 : decode cL_isPut 122 = .ok (.iconst 1, 1) := by decide +kernel
theorem dL_isPut_123 : decode cL_isPut 123 = .ok (.iadd, 1) := by decide +kernel
theorem dL_isPut_124 : decode cL_isPut 124 = .ok (.if_icmp .gt 38, 3) := by decide +kernel
theorem dL_isPut_127 : decode cL_isPut 127 = .ok (.iload 8, 2) := by decide +kernel
theorem dL_isPut_129 : decode cL_isPut 129 = .ok (.ifCond .gt 29, 3) := by decide +kernel
theorem dL_isPut_132 : decode cL_isPut 132 = .ok (.aload_n 0, 1) := by decide +kernel
theorem dL_isPut_133 : decode cL_isPut 133 = .ok (.iload_n 1, 1) := by decide +kernel
theorem dL_isPut_134 : decode cL_isPut 134 = .ok (.iload_n 2, 1) := by decide +kernel
theorem dL_isPut_135 : decode cL_isPut 135 = .ok (.iconst 1, 1) := by decide +kernel
theorem dL_isPut_136 : decode cL_isPut 136 = .ok (.invokevirtual 85, 3) := by decide +kernel
theorem dL_isPut_139 : decode cL_isPut 139 = .ok (.aload_n 0, 1) := by decide +kernel
theorem dL_isPut_140 : decode cL_isPut 140 = .ok (.iload_n 1, 1) := by decide +kernel
theorem dL_isPut_141 : decode cL_isPut 141 = .ok (.iconst 4, 1) := by decide +kernel
theorem dL_isPut_142 : decode cL_isPut 142 = .ok (.invokevirtual 28, 3) := by decide +kernel
theorem dL_isPut_145 : decode cL_isPut 145 = .ok (.if_icmp .le 13, 3) := by decide +kernel
theorem dL_isPut_148 : decode cL_isPut 148 = .ok (.aload_n 0, 1) := by decide +kernel
theorem dL_isPut_149 : decode cL_isPut 149 = .ok (.iload_n 1, 1) := by decide +kernel
theorem dL_isPut_150 : decode cL_isPut 150 = .ok (.bipush 6, 2) := by decide +kernel
theorem dL_isPut_152 : decode cL_isPut 152 = .ok (.invokevirtual 28, 3) := by decide +kernel
theorem dL_isPut_155 : decode cL_isPut 155 = .ok (.ifCond .ne 7, 3) := by decide +kernel
theorem dL_isPut_158 : decode cL_isPut 158 = .ok (.iconst 1, 1) := by decide +kernel
theorem dL_isPut_159 : decode cL_isPut 159 = .ok (.goto 4, 3) := by decide +kernel
theorem dL_isPut_162 : decode cL_isPut 162 = .ok (.iconst 0, 1) := by decide +kernel
theorem dL_isPut_163 : decode cL_isPut 163 = .ok (.istore 9, 2) := by decide +kernel
theorem dL_isPut_165 : decode cL_isPut 165 = .ok (.iload 9, 2) := by decide +kernel
theorem dL_isPut_167 : decode cL_isPut 167 = .ok (.ifCond .eq 23, 3) := by decide +kernel
theorem dL_isPut_170 : decode cL_isPut 170 = .ok (.aload_n 0, 1) := by decide +kernel
theorem dL_isPut_171 : decode cL_isPut 171 = .ok (.invokevirtual 71, 3) := by decide +kernel
theorem dL_isPut_174 : decode cL_isPut 174 = .ok (.ifCond .lt 16, 3) := by decide +kernel
theorem dL_isPut_177 : decode cL_isPut 177 = .ok (.aload_n 0, 1) := by decide +kernel
theorem dL_isPut_178 : decode cL_isPut 178 = .ok (.invokestatic 163, 3) := by decide +kernel
theorem dL_isPut_181 : decode cL_isPut 181 = .ok (.lload_n 3, 1) := by decide +kernel
theorem dL_isPut_182 : decode cL_isPut 182 = .ok (.lcmp, 1) := by decide +kernel
theorem dL_isPut_183 : decode cL_isPut 183 = .ok (.ifCond .ne 7, 3) := by decide +kernel
theorem dL_isPut_186 : decode cL_isPut 186 = .ok (.iconst 1, 1) := by decide +kernel
theorem dL_isPut_187 : decode cL_isPut 187 = .ok (.goto 4, 3) := by decide +kernel
theorem dL_isPut_190 : decode cL_isPut 190 = .ok (.iconst 0, 1) := by decide +kernel
theorem dL_isPut_191 : decode cL_isPut 191 = .ok (.ireturn, 1) := by decide +kernel
theorem dL_law_0 : decode cL_law 0 = .ok (.new 1, 3) := by decide +kernel
theorem dL_law_3 : decode cL_law 3 = .ok (.dup, 1) := by decide +kernel
theorem dL_law_4 : decode cL_law 4 = .ok (.invokespecial 167, 3) := by decide +kernel
theorem dL_law_7 : decode cL_law 7 = .ok (.astore_n 1, 1) := by decide +kernel
theorem dL_law_8 : decode cL_law 8 = .ok (.iconst 0, 1) := by decide +kernel
theorem dL_law_9 : decode cL_law 9 = .ok (.istore_n 2, 1) := by decide +kernel
theorem dL_law_10 : decode cL_law 10 = .ok (.iload_n 2, 1) := by decide +kernel
theorem dL_law_11 : decode cL_law 11 = .ok (.bipush 9, 2) := by decide +kernel
theorem dL_law_13 : decode cL_law 13 = .ok (.if_icmp .ge 47, 3) := by decide +kernel
theorem dL_law_16 : decode cL_law 16 = .ok (.aload_n 1, 1) := by decide +kernel
theorem dL_law_17 : decode cL_law 17 = .ok (.iconst 0, 1) := by decide +kernel
theorem dL_law_18 : decode cL_law 18 = .ok (.bipush 37, 2) := by decide +kernel
theorem dL_law_20 : decode cL_law 20 = .ok (.iload_n 2, 1) := by decide +kernel
theorem dL_law_21 : decode cL_law 21 = .ok (.imul, 1) := by decide +kernel
theorem dL_law_22 : decode cL_law 22 = .ok (.sipush 200, 3) := by decide +kernel
theorem dL_law_25 : decode cL_law 25 = .ok (.irem, 1) := by decide +kernel
theorem dL_law_26 : decode cL_law 26 = .ok (.iconst 1, 1) := by decide +kernel
theorem dL_law_27 : decode cL_law 27 = .ok (.bipush 11, 2) := by decide +kernel
theorem dL_law_29 : decode cL_law 29 = .ok (.iload_n 2, 1) := by decide +kernel
theorem dL_law_30 : decode cL_law 30 = .ok (.imul, 1) := by decide +kernel
theorem dL_law_31 : decode cL_law 31 = .ok (.bipush 99, 2) := by decide +kernel
theorem dL_law_33 : decode cL_law 33 = .ok (.irem, 1) := by decide +kernel
theorem dL_law_34 : decode cL_law 34 = .ok (.iadd, 1) := by decide +kernel
theorem dL_law_35 : decode cL_law 35 = .ok (.invokevirtual 24, 3) := by decide +kernel
theorem dL_law_38 : decode cL_law 38 = .ok (.pop, 1) := by decide +kernel
theorem dL_law_39 : decode cL_law 39 = .ok (.aload_n 1, 1) := by decide +kernel
theorem dL_law_40 : decode cL_law 40 = .ok (.iconst 1, 1) := by decide +kernel
theorem dL_law_41 : decode cL_law 41 = .ok (.sipush 300, 3) := by decide +kernel
theorem dL_law_44 : decode cL_law 44 = .ok (.iconst 5, 1) := by decide +kernel
theorem dL_law_45 : decode cL_law 45 = .ok (.iload_n 2, 1) := by decide +kernel
theorem dL_law_46 : decode cL_law 46 = .ok (.imul, 1) := by decide +kernel
theorem dL_law_47 : decode cL_law 47 = .ok (.iadd, 1) := by decide +kernel
theorem dL_law_48 : decode cL_law 48 = .ok (.bipush 20, 2) := by decide +kernel
theorem dL_law_50 : decode cL_law 50 = .ok (.invokevirtual 24, 3) := by decide +kernel
theorem dL_law_53 : decode cL_law 53 = .ok (.pop, 1) := by decide +kernel
theorem dL_law_54 : decode cL_law 54 = .ok (.iinc 2 1, 3) := by decide +kernel
theorem dL_law_57 : decode cL_law 57 = .ok (.goto (-47), 3) := by decide +kernel
theorem dL_law_60 : decode cL_law 60 = .ok (.aload_n 0, 1) := by decide +kernel
theorem dL_law_61 : decode cL_law 61 = .ok (.arraylength, 1) := by decide +kernel
theorem dL_law_62 : decode cL_law 62 = .ok (.bipush 44, 2) := by decide +kernel
theorem dL_law_64 : decode cL_law 64 = .ok (.if_icmp .ge 8, 3) := by decide +kernel
theorem dL_law_67 : decode cL_law 67 = .ok (.aload_n 0, 1) := by decide +kernel
theorem dL_law_68 : decode cL_law 68 = .ok (.arraylength, 1) := by decide +kernel
theorem dL_law_69 : decode cL_law 69 = .ok (.goto 5, 3) := by decide +kernel
theorem dL_law_72 : decode cL_law 72 = .ok (.bipush 44, 2) := by decide +kernel
theorem dL_law_74 : decode cL_law 74 = .ok (.istore_n 2, 1) := by decide +kernel
theorem dL_law_75 : decode cL_law 75 = .ok (.iconst 0, 1) := by decide +kernel
theorem dL_law_76 : decode cL_law 76 = .ok (.istore_n 3, 1) := by decide +kernel
theorem dL_law_77 : decode cL_law 77 = .ok (.iload_n 3, 1) := by decide +kernel
theorem dL_law_78 : decode cL_law 78 = .ok (.iload_n 2, 1) := by decide +kernel
theorem dL_law_79 : decode cL_law 79 = .ok (.if_icmp .ge 39, 3) := by decide +kernel
theorem dL_law_82 : decode cL_law 82 = .ok (.aload_n 1, 1) := by decide +kernel
theorem dL_law_83 : decode cL_law 83 = .ok (.invokestatic 163, 3) := by decide +kernel
theorem dL_law_86 : decode cL_law 86 = .ok (.lstore 4, 2) := by decide +kernel
theorem dL_law_88 : decode cL_law 88 = .ok (.aload_n 1, 1) := by decide +kernel
theorem dL_law_89 : decode cL_law 89 = .ok (.aload_n 0, 1) := by decide +kernel
theorem dL_law_90 : decode cL_law 90 = .ok (.iload_n 3, 1) := by decide +kernel
theorem dL_law_91 : decode cL_law 91 = .ok (.invokestatic 168, 3) := by decide +kernel
theorem dL_law_94 : decode cL_law 94 = .ok (.invokestatic 172, 3) := by decide +kernel
theorem dL_law_97 : decode cL_law 97 = .ok (.ifCond .ge 15, 3) := by decide +kernel
theorem dL_law_100 : decode cL_law 100 = .ok (.aload_n 1, 1) := by decide +kernel
theorem dL_law_101 : decode cL_law 101 = .ok (.invokestatic 163, 3) := by decide +kernel
theorem dL_law_104 : decode cL_law 104 = .ok (.lload 4, 2) := by decide +kernel
theorem dL_law_106 : decode cL_law 106 = .ok (.lcmp, 1) := by decide +kernel
theorem dL_law_107 : decode cL_law 107 = .ok (.ifCond .eq 5, 3) := by decide +kernel
theorem dL_law_110 : decode cL_law 110 = .ok (.iconst 0, 1) := by decide +kernel
theorem dL_law_111 : decode cL_law 111 = .ok (.ireturn, 1) := by decide +kernel
theorem dL_law_112 : decode cL_law 112 = .ok (.iinc 3 1, 3) := by decide +kernel
theorem dL_law_115 : decode cL_law 115 = .ok (.goto (-38), 3) := by decide +kernel
theorem dL_law_118 : decode cL_law 118 = .ok (.aload_n 1, 1) := by decide +kernel
theorem dL_law_119 : decode cL_law 119 = .ok (.invokestatic 176, 3) := by decide +kernel
theorem dL_law_122 : decode cL_law 122 = .ok (.istore_n 3, 1) := by decide +kernel
theorem dL_law_123 : decode cL_law 123 = .ok (.iconst 0, 1) := by decide +kernel
theorem dL_law_124 : decode cL_law 124 = .ok (.istore 4, 2) := by decide +kernel
theorem dL_law_126 : decode cL_law 126 = .ok (.iload_n 3, 1) := by decide +kernel
theorem dL_law_127 : decode cL_law 127 = .ok (.ifCond .eq 34, 3) := by decide +kernel
theorem dL_law_130 : decode cL_law 130 = .ok (.iload 4, 2) := by decide +kernel
theorem dL_law_132 : decode cL_law 132 = .ok (.bipush 14, 2) := by decide +kernel
theorem dL_law_134 : decode cL_law 134 = .ok (.if_icmp .ge 27, 3) := by decide +kernel
theorem dL_law_137 : decode cL_law 137 = .ok (.aload_n 1, 1) := by decide +kernel
theorem dL_law_138 : decode cL_law 138 = .ok (.iload 4, 2) := by decide +kernel
theorem dL_law_140 : decode cL_law 140 = .ok (.iconst 3, 1) := by decide +kernel
theorem dL_law_141 : decode cL_law 141 = .ok (.irem, 1) := by decide +kernel
theorem dL_law_142 : decode cL_law 142 = .ok (.bipush 71, 2) := by decide +kernel
theorem dL_law_144 : decode cL_law 144 = .ok (.iload 4, 2) := by decide +kernel
theorem dL_law_146 : decode cL_law 146 = .ok (.imul, 1) := by decide +kernel
theorem dL_law_147 : decode cL_law 147 = .ok (.sipush 1000, 3) := by decide +kernel
theorem dL_law_150 : decode cL_law 150 = .ok (.irem, 1) := by decide +kernel
theorem dL_law_151 : decode cL_law 151 = .ok (.invokestatic 179, 3) := by decide +kernel
theorem dL_law_154 : decode cL_law 154 = .ok (.istore_n 3, 1) := by decide +kernel
theorem dL_law_155 : decode cL_law 155 = .ok (.iinc 4 1, 3) := by decide +kernel
theorem dL_law_158 : decode cL_law 158 = .ok (.goto (-32), 3) := by decide +kernel
theorem dL_law_161 : decode cL_law 161 = .ok (.aload_n 1, 1) := by decide +kernel
theorem dL_law_162 : decode cL_law 162 = .ok (.invokevirtual 62, 3) := by decide +kernel
theorem dL_law_165 : decode cL_law 165 = .ok (.pop, 1) := by decide +kernel
theorem dL_law_166 : decode cL_law 166 = .ok (.aload_n 1, 1) := by decide +kernel
theorem dL_law_167 : decode cL_law 167 = .ok (.invokestatic 163, 3) := by decide +kernel
theorem dL_law_170 : decode cL_law 170 = .ok (.lstore 4, 2) := by decide +kernel
theorem dL_law_172 : decode cL_law 172 = .ok (.aload_n 1, 1) := by decide +kernel
theorem dL_law_173 : decode cL_law 173 = .ok (.invokevirtual 65, 3) := by decide +kernel
theorem dL_law_176 : decode cL_law 176 = .ok (.istore 6, 2) := by decide +kernel
theorem dL_law_178 : decode cL_law 178 = .ok (.iconst 0, 1) := by decide +kernel
theorem dL_law_179 : decode cL_law 179 = .ok (.istore 7, 2) := by decide +kernel
theorem dL_law_181 : decode cL_law 181 = .ok (.iload_n 3, 1) := by decide +kernel
theorem dL_law_182 : decode cL_law 182 = .ok (.ifCond .eq 89, 3) := by decide +kernel
theorem dL_law_185 : decode cL_law 185 = .ok (.iload 7, 2) := by decide +kernel
theorem dL_law_187 : decode cL_law 187 = .ok (.getstatic 52, 3) := by decide +kernel
theorem dL_law_190 : decode cL_law 190 = .ok (.arraylength, 1) := by decide +kernel
theorem dL_law_191 : decode cL_law 191 = .ok (.if_icmp .ge 80, 3) := by decide +kernel
theorem dL_law_194 : decode cL_law 194 = .ok (.aload_n 1, 1) := by decide +kernel
theorem dL_law_195 : decode cL_law 195 = .ok (.getstatic 52, 3) := by decide +kernel
theorem dL_law_198 : decode cL_law 198 = .ok (.iload 7, 2) := by decide +kernel
theorem dL_law_200 : decode cL_law 200 = .ok (.aaload, 1) := by decide +kernel
theorem dL_law_201 : decode cL_law 201 = .ok (.invokestatic 58, 3) := by decide +kernel
theorem dL_law_204 : decode cL_law 204 = .ok (.invokevirtual 62, 3) := by decide +kernel
theorem dL_law_207 : decode cL_law 207 = .ok (.istore 8, 2) := by decide +kernel
theorem dL_law_209 : decode cL_law 209 = .ok (.iload 8, 2) := by decide +kernel
theorem dL_law_211 : decode cL_law 211 = .ok (.ifCond .ge 24, 3) := by decide +kernel
theorem dL_law_214 : decode cL_law 214 = .ok (.aload_n 1, 1) := by decide +kernel
theorem dL_law_215 : decode cL_law 215 = .ok (.iconst 0, 1) := by decide +kernel
theorem dL_law_216 : decode cL_law 216 = .ok (.invokevirtual 182, 3) := by decide +kernel
theorem dL_law_219 : decode cL_law 219 = .ok (.bipush 6, 2) := by decide +kernel
theorem dL_law_221 : decode cL_law 221 = .ok (.if_icmp .ne 42, 3) := by decide +kernel
theorem dL_law_224 : decode cL_law 224 = .ok (.aload_n 1, 1) := by decide +kernel
theorem dL_law_225 : decode cL_law 225 = .ok (.iconst 1, 1) := by decide +kernel
theorem dL_law_226 : decode cL_law 226 = .ok (.invokevirtual 182, 3) := by decide +kernel
theorem dL_law_229 : decode cL_law 229 = .ok (.ifCond .lt 34, 3) := by decide +kernel
theorem dL_law_232 : decode cL_law 232 = .ok (.goto 17, 3) := by decide +kernel
theorem dL_law_235 : decode cL_law 235 = .ok (.aload_n 1, 1) := by decide +kernel
theorem dL_law_236 : decode cL_law 236 = .ok (.invokestatic 176, 3) := by decide +kernel
theorem dL_law_239 : decode cL_law 239 = .ok (.ifCond .eq 24, 3) := by decide +kernel
theorem dL_law_242 : decode cL_law 242 = .ok (.aload_n 1, 1) := by decide +kernel
theorem dL_law_243 : decode cL_law 243 = .ok (.invokevirtual 71, 3) := by decide +kernel
theorem dL_law_246 : decode cL_law 246 = .ok (.ifCond .lt 17, 3) := by decide +kernel
theorem dL_law_249 : decode cL_law 249 = .ok (.aload_n 1, 1) := by decide +kernel
theorem dL_law_250 : decode cL_law 250 = .ok (.invokestatic 163, 3) := by decide +kernel
theorem dL_law_253 : decode cL_law 253 = .ok (.lload 4, 2) := by decide +kernel
theorem dL_law_255 : decode cL_law 255 = .ok (.lcmp, 1) := by decide +kernel
theorem dL_law_256 : decode cL_law 256 = .ok (.ifCond .ne 7, 3) := by decide +kernel
theorem dL_law_259 : decode cL_law 259 = .ok (.iconst 1, 1) := by decide +kernel
theorem dL_law_260 : decode cL_law 260 = .ok (.goto 4, 3) := by decide +kernel
theorem dL_law_263 : decode cL_law 263 = .ok (.iconst 0, 1) := by decide +kernel
theorem dL_law_264 : decode cL_law 264 = .ok (.istore_n 3, 1) := by decide +kernel
theorem dL_law_265 : decode cL_law 265 = .ok (.iinc 7 1, 3) := by decide +kernel
theorem dL_law_268 : decode cL_law 268 = .ok (.goto (-87), 3) := by decide +kernel
theorem dL_law_271 : decode cL_law 271 = .ok (.iconst 0, 1) := by decide +kernel
theorem dL_law_272 : decode cL_law 272 = .ok (.istore 7, 2) := by decide +kernel
theorem dL_law_274 : decode cL_law 274 = .ok (.iload_n 3, 1) := by decide +kernel
theorem dL_law_275 : decode cL_law 275 = .ok (.ifCond .eq 112, 3) := by decide +kernel
theorem dL_law_278 : decode cL_law 278 = .ok (.iload 7, 2) := by decide +kernel
theorem dL_law_280 : decode cL_law 280 = .ok (.iconst 4, 1) := by decide +kernel
theorem dL_law_281 : decode cL_law 281 = .ok (.if_icmp .ge 106, 3) := by decide +kernel
theorem dL_law_284 : decode cL_law 284 = .ok (.iconst 0, 1) := by decide +kernel
theorem dL_law_285 : decode cL_law 285 = .ok (.istore 8, 2) := by decide +kernel
theorem dL_law_287 : decode cL_law 287 = .ok (.iload 8, 2) := by decide +kernel
theorem dL_law_289 : decode cL_law 289 = .ok (.iconst 5, 1) := by decide +kernel
theorem dL_law_290 : decode cL_law 290 = .ok (.if_icmp .ge 36, 3) := by decide +kernel
theorem dL_law_293 : decode cL_law 293 = .ok (.aload_n 1, 1) := by decide +kernel
theorem dL_law_294 : decode cL_law 294 = .ok (.iload 7, 2) := by decide +kernel
theorem dL_law_296 : decode cL_law 296 = .ok (.iconst 3, 1) := by decide +kernel
theorem dL_law_297 : decode cL_law 297 = .ok (.irem, 1) := by decide +kernel
theorem dL_law_298 : decode cL_law 298 = .ok (.sipush 700, 3) := by decide +kernel
theorem dL_law_301 : decode cL_law 301 = .ok (.bipush 10, 2) := by decide +kernel
theorem dL_law_303 : decode cL_law 303 = .ok (.iload 7, 2) := by decide +kernel
theorem dL_law_305 : decode cL_law 305 = .ok (.imul, 1) := by decide +kernel
theorem dL_law_306 : decode cL_law 306 = .ok (.iadd, 1) := by decide +kernel
theorem dL_law_307 : decode cL_law 307 = .ok (.iconst 2, 1) := by decide +kernel
theorem dL_law_308 : decode cL_law 308 = .ok (.iload 8, 2) := by decide +kernel
theorem dL_law_310 : decode cL_law 310 = .ok (.imul, 1) := by decide +kernel
theorem dL_law_311 : decode cL_law 311 = .ok (.iadd, 1) := by decide +kernel
theorem dL_law_312 : decode cL_law 312 = .ok (.iconst 3, 1) := by decide +kernel
theorem dL_law_313 : decode cL_law 313 = .ok (.iload 7, 2) := by decide +kernel
theorem dL_law_315 : decode cL_law 315 = .ok (.iadd, 1) := by decide +kernel
theorem dL_law_316 : decode cL_law 316 = .ok (.invokevirtual 24, 3) := by decide +kernel
theorem dL_law_319 : decode cL_law 319 = .ok (.pop, 1) := by decide +kernel
theorem dL_law_320 : decode cL_law 320 = .ok (.iinc 8 1, 3) := by decide +kernel
theorem dL_law_323 : decode cL_law 323 = .ok (.goto (-36), 3) := by decide +kernel
theorem dL_law_326 : decode cL_law 326 = .ok (.aload_n 1, 1) := by decide +kernel
theorem dL_law_327 : decode cL_law 327 = .ok (.iload 7, 2) := by decide +kernel
theorem dL_law_329 : decode cL_law 329 = .ok (.iconst 3, 1) := by decide +kernel
theorem dL_law_330 : decode cL_law 330 = .ok (.irem, 1) := by decide +kernel
theorem dL_law_331 : decode cL_law 331 = .ok (.aload_n 1, 1) := by decide +kernel
theorem dL_law_332 : decode cL_law 332 = .ok (.iload 7, 2) := by decide +kernel
theorem dL_law_334 : decode cL_law 334 = .ok (.iconst 3, 1) := by decide +kernel
theorem dL_law_335 : decode cL_law 335 = .ok (.irem, 1) := by decide +kernel
theorem dL_law_336 : decode cL_law 336 = .ok (.iload 7, 2) := by decide +kernel
theorem dL_law_338 : decode cL_law 338 = .ok (.invokevirtual 37, 3) := by decide +kernel
theorem dL_law_341 : decode cL_law 341 = .ok (.invokevirtual 40, 3) := by decide +kernel
theorem dL_law_344 : decode cL_law 344 = .ok (.pop, 1) := by decide +kernel
theorem dL_law_345 : decode cL_law 345 = .ok (.aload_n 1, 1) := by decide +kernel
theorem dL_law_346 : decode cL_law 346 = .ok (.iload 7, 2) := by decide +kernel
theorem dL_law_348 : decode cL_law 348 = .ok (.iconst 3, 1) := by decide +kernel
theorem dL_law_349 : decode cL_law 349 = .ok (.irem, 1) := by decide +kernel
theorem dL_law_350 : decode cL_law 350 = .ok (.aload_n 1, 1) := by decide +kernel
theorem dL_law_351 : decode cL_law 351 = .ok (.iload 7, 2) := by decide +kernel
theorem dL_law_353 : decode cL_law 353 = .ok (.iconst 3, 1) := by decide +kernel
theorem dL_law_354 : decode cL_law 354 = .ok (.irem, 1) := by decide +kernel
theorem dL_law_355 : decode cL_law 355 = .ok (.iconst 0, 1) := by decide +kernel
theorem dL_law_356 : decode cL_law 356 = .ok (.invokevirtual 37, 3) := by decide +kernel
theorem dL_law_359 : decode cL_law 359 = .ok (.invokevirtual 40, 3) := by decide +kernel
theorem dL_law_362 : decode cL_law 362 = .ok (.pop, 1) := by decide +kernel
theorem dL_law_363 : decode cL_law 363 = .ok (.aload_n 1, 1) := by decide +kernel
theorem dL_law_364 : decode cL_law 364 = .ok (.bipush 56, 2) := by decide +kernel
theorem dL_law_366 : decode cL_law 366 = .ok (.bipush 9, 2) := by decide +kernel
theorem dL_law_368 : decode cL_law 368 = .ok (.iload 7, 2) := by decide +kernel
theorem dL_law_370 : decode cL_law 370 = .ok (.imul, 1) := by decide +kernel
theorem dL_law_371 : decode cL_law 371 = .ok (.iadd, 1) := by decide +kernel
theorem dL_law_372 : decode cL_law 372 = .ok (.invokevirtual 49, 3) := by decide +kernel
theorem dL_law_375 : decode cL_law 375 = .ok (.pop, 1) := by decide +kernel
theorem dL_law_376 : decode cL_law 376 = .ok (.aload_n 1, 1) := by decide +kernel
theorem dL_law_377 : decode cL_law 377 = .ok (.invokestatic 176, 3) := by decide +kernel
theorem dL_law_380 : decode cL_law 380 = .ok (.istore_n 3, 1) := by decide +kernel
theorem dL_law_381 : decode cL_law 381 = .ok (.iinc 7 1, 3) := by decide +kernel
theorem dL_law_384 : decode cL_law 384 = .ok (.goto (-110), 3) := by decide +kernel
theorem dL_law_387 : decode cL_law 387 = .ok (.iload_n 3, 1) := by decide +kernel
theorem dL_law_388 : decode cL_law 388 = .ok (.ifCond .eq 52, 3) := by decide +kernel
theorem dL_law_391 : decode cL_law 391 = .ok (.aload_n 1, 1) := by decide +kernel
theorem dL_law_392 : decode cL_law 392 = .ok (.iconst 0, 1) := by decide +kernel
theorem dL_law_393 : decode cL_law 393 = .ok (.invokevirtual 43, 3) := by decide +kernel
theorem dL_law_396 : decode cL_law 396 = .ok (.bipush (-12), 2) := by decide +kernel
theorem dL_law_398 : decode cL_law 398 = .ok (.if_icmp .eq 42, 3) := by decide +kernel
theorem dL_law_401 : decode cL_law 401 = .ok (.aload_n 1, 1) := by decide +kernel
theorem dL_law_402 : decode cL_law 402 = .ok (.invokestatic 176, 3) := by decide +kernel
theorem dL_law_405 : decode cL_law 405 = .ok (.ifCond .eq 35, 3) := by decide +kernel
theorem dL_law_408 : decode cL_law 408 = .ok (.aload_n 1, 1) := by decide +kernel
theorem dL_law_409 : decode cL_law 409 = .ok (.invokevirtual 68, 3) := by decide +kernel
theorem dL_law_412 : decode cL_law 412 = .ok (.iload 6, 2) := by decide +kernel
theorem dL_law_414 : decode cL_law 414 = .ok (.if_icmp .ne 26, 3) := by decide +kernel
theorem dL_law_417 : decode cL_law 417 = .ok (.aload_n 1, 1) := by decide +kernel
theorem dL_law_418 : decode cL_law 418 = .ok (.invokestatic 163, 3) := by decide +kernel
theorem dL_law_421 : decode cL_law 421 = .ok (.lload 4, 2) := by decide +kernel
theorem dL_law_423 : decode cL_law 423 = .ok (.lcmp, 1) := by decide +kernel
theorem dL_law_424 : decode cL_law 424 = .ok (.ifCond .ne 16, 3) := by decide +kernel
theorem dL_law_427 : decode cL_law 427 = .ok (.aload_n 1, 1) := by decide +kernel
theorem dL_law_428 : decode cL_law 428 = .ok (.invokevirtual 71, 3) := by decide +kernel
theorem dL_law_431 : decode cL_law 431 = .ok (.bipush (-15), 2) := by decide +kernel
theorem dL_law_433 : decode cL_law 433 = .ok (.if_icmp .ne 7, 3) := by decide +kernel
theorem dL_law_436 : decode cL_law 436 = .ok (.iconst 1, 1) := by decide +kernel
theorem dL_law_437 : decode cL_law 437 = .ok (.goto 4, 3) := by decide +kernel
theorem dL_law_440 : decode cL_law 440 = .ok (.iconst 0, 1) := by decide +kernel
theorem dL_law_441 : decode cL_law 441 = .ok (.ireturn, 1) := by decide +kernel
end
section
/-! ===== the abstract world: cells by their numbers behind the start's heap; ints and references apart ===== -/
abbrev Mm : Type := Nat → Nat → Int32
/-- how many cells; of what kind each is; the references in them -/
abbrev Sx : Type := Nat × (Nat → Nat) × (Nat → Nat → Option Nat)
/-- the start's heap, the classes' numbers and slots, the array classes of int, Rick, Yard; where the row of texts lies, and the script, its length, its ints; the texts, their bytes -/
abbrev Ev : Type := Heap × va_G × ClassId × ClassId × ClassId × (Nat × Nat × Nat × (Nat → Int32)) × (Nat → Nat) × (Nat → Nat)
abbrev txE (E : Ev) : Nat := E.2.2.2.2.2.1.1
abbrev scB (E : Ev) : Nat := E.2.2.2.2.2.1.2.1
abbrev scL (E : Ev) : Nat := E.2.2.2.2.2.1.2.2.1
abbrev scX (E : Ev) : Nat → Int32 := E.2.2.2.2.2.1.2.2.2
abbrev adS (E : Ev) : Nat → Nat := E.2.2.2.2.2.2.1
abbrev adB (E : Ev) : Nat → Nat := E.2.2.2.2.2.2.2
abbrev Cx : Type := Program × Launch × Jvm.Env × Room × State × MethodId × Array Value × List Frame × Method × Code × (State → Prop) × Ev
abbrev xp (X : Cx) : Program := X.1
abbrev xl (X : Cx) : Launch := X.2.1
abbrev xe (X : Cx) : Jvm.Env := X.2.2.1
abbrev xR (X : Cx) : Room := X.2.2.2.1
abbrev xs (X : Cx) : State := X.2.2.2.2.1
abbrev xm (X : Cx) : MethodId := X.2.2.2.2.2.1
abbrev xa (X : Cx) : Array Value := X.2.2.2.2.2.2.1
abbrev xb (X : Cx) : List Frame := X.2.2.2.2.2.2.2.1
abbrev xM (X : Cx) : Method := X.2.2.2.2.2.2.2.2.1
abbrev xc (X : Cx) : Code := X.2.2.2.2.2.2.2.2.2.1
abbrev xQ (X : Cx) : State → Prop := X.2.2.2.2.2.2.2.2.2.2.1
abbrev xE (X : Cx) : Ev := X.2.2.2.2.2.2.2.2.2.2.2
/-- a method: its name, its code, its locals, what it returns -/
abbrev Yd : Type := MethodName × ByteArray × Nat × Option FieldType
def wr (I : Mm) (a j : Nat) (v : Int32) : Mm := fun b k => if b = a ∧ k = j then v else I b k
/-- how many fields a class has -/
def nfs (c : Nat) : Nat := match c with
  | 0 => 4
  | 1 => 5
  | 2 => 2
  | 3 => 8
  | 4 => 11
  | _ => 0
/-- is a field a reference -/
def isR (c j : Nat) : Bool := match c with
  | 0 => decide (j < 2)
  | 1 => decide (j < 3)
  | 2 => decide (j < 1)
  | 3 => decide (j < 1)
  | 4 => [0, 1, 3, 6, 7, 8].contains j
  | _ => false
def rvE (E : Ev) (o : Option Nat) : Value := va_rf (o.map (fun k => E.1.size + k))
def fsE (E : Ev) (S : Sx) (I : Mm) (k c : Nat) : List Value := (List.range (nfs c)).map fun j => if isR c j then rvE E (S.2.2 k j) else .int (I k j)
def rowE (E : Ev) (S : Sx) (k : Nat) : Nat → Option Nat := fun j => (S.2.2 k j).map (fun k => E.1.size + k)
def cellE (E : Ev) (S : Sx) (I : Mm) (k : Nat) : va_E :=
  if S.2.1 k < 6 then .inr (S.2.1 k, fsE E S I k (S.2.1 k))
  else if S.2.1 k = 6 then .inl (E.2.2.2.1, 3, .inr (.inr (.inr (.inr (rowE E S k)))))
  else if S.2.1 k = 7 then .inl (E.2.2.2.2.1, 9, .inr (.inr (.inr (.inr (rowE E S k)))))
  else .inl (E.2.2.1, S.2.1 k - 10, .inl (I k))
def wsE (E : Ev) (S : Sx) (I : Mm) : va_W := (List.range S.1).map fun k => (E.1.size + k, cellE E S I k)
def tyl (E : Ev) : List (ClassId × FieldType) := [(E.2.2.1, .int), (E.2.2.2.1, .object "LeaningRicks$Rick"), (E.2.2.2.2.1, .object "LeaningRicks$Yard")]
def Fr (E : Ev) : Nat → Prop := fun q => E.1.size ≤ q
/-- the heap is the world -/
def RepH (E : Ev) (S : Sx) (I : Mm) (H : Heap) : Prop := va_P E.2.1 vwCl (wsE E S I) H ∧ H.size = E.1.size + S.1 ∧ (∀ q, q < E.1.size → H[q]? = E.1[q]?) ∧ ∀ a, S.1 ≤ a → S.2.1 a = 9
/-- links between nest mates -/
def isNw : Cond → Bool
  | .fieldLinkNest .. => true
  | .methodLinkNest .. => true
  | _ => false
def lw_nest : List Cond := lw_tbl.filter isNw
theorem nw_mem {w : Cond} (k : Nat) (h : lw_tbl[k]? = some w) (g : isNw w = true) : w ∈ lw_nest := List.mem_filter.mpr ⟨List.mem_of_getElem? h, g⟩
/-- what else of the tables and of the old cells a method may use -/
def txL : List Nat := [7, 16, 15, 4, 13, 2, 5, 3, 7, 3, 7, 3, 6, 6, 13, 6, 3, 3, 3, 8]
def txB : List (List Int32) := [[43, 48, 58, 53, 42, 49, 48], [43, 48, 58, 57, 57, 57, 42, 57, 57, 59, 43, 48, 58, 48, 42, 49], [43, 49, 58, 53, 48, 48, 42, 55, 59, 45, 49, 58, 53, 48, 48], [45, 48, 58, 53], [45, 48, 58, 49, 48, 48, 59, 45, 48, 58, 49, 48, 49], [61, 48], [61, 49, 59, 61, 50], [62, 48, 49], [62, 49, 48, 59, 62, 48, 50], [37, 53, 53], [37, 57, 48, 59, 37, 54, 48], [37, 55, 48], [43, 48, 58, 53, 42, 48], [43, 51, 58, 53, 42, 49], [43, 50, 58, 55, 42, 53, 59, 43, 50, 58, 55, 42, 53], [45, 50, 58, 57, 57, 57], [62, 48, 48], [62, 50, 48], [37, 57, 57], [61, 48, 59, 61, 48, 59, 61, 48]]
def NW (E : Ev) (U : State) : Prop := (∀ w ∈ lw_nest, va_Nw w U) ∧ va_AO "LeaningRicks$Rick" U ∧ va_AO "LeaningRicks$Yard" U ∧ vk_S 20 txL txB (adS E) (adB E) (Fr E) U E.1 ∧ va_Z "java/lang/String" "COMPACT_STRINGS" "Z" (.int 1) (Fr E) U E.1 ∧ va_Z "LeaningRicksLaw" "TEXTS" "[Ljava/lang/String;" (.ref (txE E)) (Fr E) U E.1 ∧ va_T (.object "java/lang/String") (txE E) 20 (fun j => .ref (adS E j)) (Fr E) U E.1 ∧ va_Zq "jdk/internal/util/Preconditions" "SIOOBE_FORMATTER" "Ljava/util/function/BiFunction;" (Fr E) U E.1 ∧ va_X (scB E) (scL E) (scX E) U E.1 ∧ scL E ≤ 260 ∧ scB E < E.1.size
theorem NW.moved {E : Ev} {u U : State} (ha : u.vm.Alike U.vm) (hn : ∀ w ∈ lw_nest, va_Nw w U) (q : NW E u) : NW E U := by
  obtain ⟨h1, h2, h3, h4, h5, h6, h7, h8, h9, h10⟩ := q
  exact ⟨hn, h2.moved ha, h3.moved ha, h4.moved ha, h5.moved ha, h6.moved ha, h7.moved ha, h8.moved ha, h9.moved ha, h10⟩
theorem NW.same {E : Ev} {u U : State} (h : u.vm = U.vm) (q : NW E u) : NW E U := by
  refine NW.moved (by rw [h]; exact Vm.Alike.refl _) (fun w hw => ?_) q
  have hq := (List.mem_filter.mp hw).2
  cases w <;> first | (cases hq; done) | exact va_Nw.same rfl h (q.1 _ hw)
theorem NW.warm {E : Ev} {s U : State} (hW : s.WarmedH U.vm) (q : NW E s) : NW E U := by
  refine NW.moved hW.alike (fun w hw => ?_) q
  have hq := (List.mem_filter.mp hw).2
  cases w <;> first | (cases hq; done) | exact va_Nw.warmF hW (q.1 _ hw) | exact va_Nw.warmM hW (q.1 _ hw)
def RepU (E : Ev) (S : Sx) (I : Mm) (U : State) : Prop := RepH E S I U.heap ∧ va_K E.2.1 vwCl (tyl E) U ∧ NW E U
theorem ws_at {E : Ev} {S : Sx} {I : Mm} {k : Nat} (h : k < S.1) : (wsE E S I)[k]? = some (E.1.size + k, cellE E S I k) := by
  simp [wsE, h]
theorem ws_D (E : Ev) (S : Sx) (I : Mm) : va_D (Fr E) (wsE E S I) := by
  have key : ∀ (i : Nat) (p : Nat × va_E), (wsE E S I)[i]? = some p → p.1 = E.1.size + i := by
    intro i p h
    simp only [wsE, List.getElem?_map] at h
    by_cases hi : i < S.1
    · rw [List.getElem?_range hi] at h
      cases h
      rfl
    · rw [List.getElem?_eq_none (by rw [List.length_range]; omega)] at h
      cases h
  refine ⟨fun i j p q hi hj e => ?_, fun k q hk => ?_⟩
  · have := key i p hi
    have := key j q hj
    omega
  · show E.1.size ≤ q.1
    rw [key k q hk]
    omega
theorem ws_set {E : Ev} {S : Sx} {I : Mm} {k j : Nat} {v : Int32} {e : va_E} (hk : k < S.1) (he : e = cellE E S (wr I k j v) k) : (wsE E S I).set k (E.1.size + k, e) = wsE E S (wr I k j v) := by
  apply List.ext_getElem?
  intro i
  by_cases hi : i = k
  · subst hi
    rw [List.getElem?_set_self (by simp [wsE, hk]), ws_at hk, he]
  · rw [List.getElem?_set_ne (Ne.symm hi)]
    by_cases h : i < S.1
    · rw [ws_at h, ws_at h]
      have e1 : ∀ j', wr I k j v i j' = I i j' := fun j' => by simp [wr, hi]
      have e2 : (wr I k j v) i = I i := funext e1
      simp only [cellE, fsE, e1, e2]
    · rw [List.getElem?_eq_none (by simp [wsE]; omega), List.getElem?_eq_none (by simp [wsE]; omega)]
/-- the locals: what each holds, or nothing that is known -/
def al : Nat → List (Option Value) → List (Nat × Value)
  | _, [] => []
  | i, none :: l => al (i + 1) l
  | i, some v :: l => (i, v) :: al (i + 1) l
theorem al_mem : ∀ (l : List (Option Value)) (i : Nat) (q : Nat × Value), q ∈ al i l ↔ i ≤ q.1 ∧ l[q.1 - i]? = some (some q.2)
  | [], i, q => by simp [al]
  | none :: l, i, q => by
    rw [al, al_mem l (i + 1) q]
    constructor
    · rintro ⟨h1, h2⟩
      refine ⟨by omega, ?_⟩
      rw [show q.1 - i = (q.1 - (i + 1)) + 1 by omega, List.getElem?_cons_succ]
      exact h2
    · rintro ⟨h1, h2⟩
      by_cases h : q.1 = i
      · rw [h, Nat.sub_self] at h2
        simp at h2
      · refine ⟨by omega, ?_⟩
        rw [show q.1 - i = (q.1 - (i + 1)) + 1 by omega, List.getElem?_cons_succ] at h2
        exact h2
  | some v :: l, i, q => by
    rw [al, List.mem_cons, al_mem l (i + 1) q]
    constructor
    · rintro (rfl | ⟨h1, h2⟩)
      · simp
      · refine ⟨by omega, ?_⟩
        rw [show q.1 - i = (q.1 - (i + 1)) + 1 by omega, List.getElem?_cons_succ]
        exact h2
    · rintro ⟨h1, h2⟩
      by_cases h : q.1 = i
      · rw [h, Nat.sub_self] at h2
        simp at h2
        left
        exact Prod.ext h h2.symm
      · right
        refine ⟨by omega, ?_⟩
        rw [show q.1 - i = (q.1 - (i + 1)) + 1 by omega, List.getElem?_cons_succ] at h2
        exact h2
theorem al_get {ls : List (Option Value)} {lsa : Array Slot} {nL i : Nat} {v : Value} (h : lv_has lsa nL (al 0 ls)) (hv : ls[i]? = some (some v)) : lsa[i]? = some (.val v) :=
  h.2.2 (i, v) ((al_mem ls 0 (i, v)).mpr ⟨Nat.zero_le _, by simpa using hv⟩)
/-- may a value be laid at i: nothing wide stands just ahead, and of a wide one the next is free -/
def okst (ls : List (Option Value)) (i : Nat) (v : Value) : Bool :=
  (match i with
    | 0 => true
    | k + 1 => match ls[k]? with
      | some (some w) => !(w.category == 2)
      | _ => true) && (!(v.category == 2) || (match ls[i + 1]? with
        | some none => true
        | _ => false))
theorem al_set1 {ls : List (Option Value)} {lsa : Array Slot} {nL i : Nat} {v : Value} (hi : i < ls.length) (h : lv_has lsa nL ((i, v) :: (al 0 ls).filter (fun q => !(q.1 == i) && !(q.1 + 1 == i && q.2.category == 2)))) (ok : okst ls i v = true) : lv_has lsa nL (al 0 (ls.set i (some v))) := by
  refine ⟨h.1, h.2.1, fun q hq => h.2.2 q ?_⟩
  obtain ⟨-, h2⟩ := (al_mem _ _ _).mp hq
  rw [Nat.sub_zero] at h2
  by_cases e : q.1 = i
  · rw [e, List.getElem?_set_self hi] at h2
    simp at h2
    exact List.mem_cons.mpr (Or.inl (Prod.ext e h2.symm))
  · rw [List.getElem?_set_ne (Ne.symm e)] at h2
    refine List.mem_cons.mpr (Or.inr (List.mem_filter.mpr ⟨(al_mem _ _ _).mpr ⟨Nat.zero_le _, by simpa using h2⟩, ?_⟩))
    simp only [Bool.and_eq_true, Bool.not_eq_true', beq_eq_false_iff_ne, ne_eq, Bool.and_eq_false_iff]
    refine ⟨e, ?_⟩
    by_cases e2 : q.1 + 1 = i
    · right
      subst e2
      have := (Bool.and_eq_true _ _ ▸ ok).1
      simp only [h2] at this
      simpa using this
    · exact Or.inl e2
theorem al_set2 {ls : List (Option Value)} {lsa : Array Slot} {nL i : Nat} {v : Value} (hi : i < ls.length) (hc : v.category = 2) (h : lv_has lsa nL ((i, v) :: (al 0 ls).filter (fun q => !(q.1 == i) && (!(q.1 == i + 1) && !(q.1 + 1 == i && q.2.category == 2))))) (ok : okst ls i v = true) : lv_has lsa nL (al 0 (ls.set i (some v))) := by
  refine ⟨h.1, h.2.1, fun q hq => h.2.2 q ?_⟩
  obtain ⟨-, h2⟩ := (al_mem _ _ _).mp hq
  rw [Nat.sub_zero] at h2
  by_cases e : q.1 = i
  · rw [e, List.getElem?_set_self hi] at h2
    simp at h2
    exact List.mem_cons.mpr (Or.inl (Prod.ext e h2.symm))
  · rw [List.getElem?_set_ne (Ne.symm e)] at h2
    refine List.mem_cons.mpr (Or.inr (List.mem_filter.mpr ⟨(al_mem _ _ _).mpr ⟨Nat.zero_le _, by simpa using h2⟩, ?_⟩))
    simp only [Bool.and_eq_true, Bool.not_eq_true', beq_eq_false_iff_ne, ne_eq, Bool.and_eq_false_iff]
    refine ⟨e, ?_, ?_⟩
    · intro e3
      have := (Bool.and_eq_true _ _ ▸ ok).2
      rw [← e3] at this
      simp [h2, hc] at this
    · by_cases e2 : q.1 + 1 = i
      · right
        subst e2
        have := (Bool.and_eq_true _ _ ▸ ok).1
        simp only [h2] at this
        simpa using this
      · exact Or.inl e2
/-- some of the locals, the others forgotten -/
def mk_ : List Bool → List (Option Value) → List (Option Value)
  | true :: b, v :: l => v :: mk_ b l
  | false :: b, _ :: l => none :: mk_ b l
  | _, _ => []
theorem mk_get : ∀ (b : List Bool) (l : List (Option Value)) (i : Nat) (v : Value), (mk_ b l)[i]? = some (some v) → l[i]? = some (some v)
  | [], _, i, v, h => by simp [mk_] at h
  | true :: b, [], i, v, h => by simp [mk_] at h
  | false :: b, [], i, v, h => by simp [mk_] at h
  | true :: b, x :: l, 0, v, h => by simpa [mk_] using h
  | true :: b, x :: l, i + 1, v, h => by
    simp only [mk_, List.getElem?_cons_succ] at h ⊢
    exact mk_get b l i v h
  | false :: b, x :: l, 0, v, h => by simp [mk_] at h
  | false :: b, x :: l, i + 1, v, h => by
    simp only [mk_, List.getElem?_cons_succ] at h ⊢
    exact mk_get b l i v h
/-- the words that every method shares -/
def lw_good : List Cond := lw_tbl.filter goodWord
theorem gw_mem {w : Cond} (k : Nat) (h : lw_tbl[k]? = some w) (g : goodWord w = true) : w ∈ lw_good := List.mem_filter.mpr ⟨List.mem_of_getElem? h, g⟩
theorem gw_tbl {w : Cond} (h : w ∈ lw_good) : w ∈ lw_tbl := (List.mem_filter.mp h).1
def GW (y : Yd) : List Cond := .code y.1 y.2.1 y.2.2.1 y.2.2.2 :: lw_good
theorem gw_in {y : Yd} (h : Cond.code y.1 y.2.1 y.2.2.1 y.2.2.2 ∈ lw_tbl) : GoodIn lw_tbl (GW y) := by
  intro w hw
  rcases List.mem_cons.mp hw with rfl | hw
  · exact ⟨h, Or.inl rfl⟩
  · exact ⟨gw_tbl hw, good_of_word (List.mem_filter.mp hw).2⟩
/-- the method's own context -/
def CtxOK (X : Cx) (y : Yd) : Prop :=
  (xp X).tables.exec = Jvm.exec ∧ (xc X).code = y.2.1 ∧ (xc X).maxLocals = y.2.2.1 ∧ (xs X).vm.findClass y.1.cls = some (xm X).cls ∧ (∀ w ∈ lw_good, w.before (xa X) (xs X) = true) ∧ va_K (xE X).2.1 vwCl (tyl (xE X)) (xs X) ∧ (xM X).sig.returnType = y.2.2.2 ∧ (xM X).locks = false ∧ (y.1.name = "<init>" → (xM X).name = "<init>") ∧ (xE X).1.size ≤ (xs X).heap.size ∧ NW (xE X) (xs X)
/-- at pc, with the locals ls and the stack st, the world (S, I), k cells of n slots new since the method began: it comes to its end as it should -/
def WM (X : Cx) (y : Yd) (pc : Nat) (ls : List (Option Value)) (st : List Value) (S : Sx) (I : Mm) (k n : Nat) : Prop :=
  ∀ (H : Heap) (locs : List Loc) (lsa : Array Slot), RepH (xE X) S I H → va_S (Fr (xE X)) (xs X).heap H locs → lv_has lsa y.2.2.1 (al 0 ls) →
    W (xp X) (xl X) (xe X) (xR X) (xs X) (xm X) (xa X) (xb X) (xM X) (xc X) H locs k n (xQ X) (F0 (xm X) pc lsa st)
section RL
variable {X : Cx} {y : Yd} {pc : Nat} {ls ls' : List (Option Value)} {st : List Value} {S : Sx} {I : Mm} {k n : Nat}
theorem s_weak (b : List Bool) (e : mk_ b ls = ls') (K : WM X y pc ls' st S I k n) : WM X y pc ls st S I k n := by
  intro H locs lsa r s h
  refine K H locs lsa r s ⟨h.1, h.2.1, fun q hq => ?_⟩
  obtain ⟨h1, h2⟩ := (al_mem _ _ _).mp hq
  rw [← e] at h2
  exact h.2.2 q ((al_mem _ _ _).mpr ⟨h1, mk_get b ls _ _ h2⟩)
theorem s_pc {pc' : Nat} (e : pc = pc') (K : WM X y pc' ls st S I k n) : WM X y pc ls st S I k n := e ▸ K
theorem s_iconst {z : Int} {v : Int32} (C : CtxOK X y) (d : decode y.2.1 pc = .ok (.iconst z, 1)) (hv : Int32.ofInt z = v) (K : WM X y (pc + 1) ls (.int v :: st) S I k n) : WM X y pc ls st S I k n := fun H locs lsa r s l => lv_iconst C.1 C.2.1 d hv (K H locs lsa r s l)
theorem s_bipush {z : Int} {v : Int32} (C : CtxOK X y) (d : decode y.2.1 pc = .ok (.bipush z, 2)) (hv : (Int8.ofInt z).toInt32 = v) (K : WM X y (pc + 2) ls (.int v :: st) S I k n) : WM X y pc ls st S I k n := fun H locs lsa r s l => lv_bipush C.1 C.2.1 d hv (K H locs lsa r s l)
theorem s_sipush {z : Int} {v : Int32} (C : CtxOK X y) (d : decode y.2.1 pc = .ok (.sipush z, 3)) (hv : (Int16.ofInt z).toInt32 = v) (K : WM X y (pc + 3) ls (.int v :: st) S I k n) : WM X y pc ls st S I k n := fun H locs lsa r s l => lv_sipush C.1 C.2.1 d hv (K H locs lsa r s l)
theorem s_lconst {z : Fin 2} {v : Int64} (C : CtxOK X y) (d : decode y.2.1 pc = .ok (.lconst z, 1)) (hv : Int64.ofNat (z : Nat) = v) (K : WM X y (pc + 1) ls (.long v :: st) S I k n) : WM X y pc ls st S I k n := fun H locs lsa r s l => lv_lconst C.1 C.2.1 d hv (K H locs lsa r s l)
theorem s_fconst0 (C : CtxOK X y) (d : decode y.2.1 pc = .ok (.fconst 0, 1)) (K : WM X y (pc + 1) ls (.float FP.fconst0 :: st) S I k n) : WM X y pc ls st S I k n := fun H locs lsa r s l => lv_fconst0 C.1 C.2.1 d (K H locs lsa r s l)
theorem s_fconst1 (C : CtxOK X y) (d : decode y.2.1 pc = .ok (.fconst 1, 1)) (K : WM X y (pc + 1) ls (.float FP.fconst1 :: st) S I k n) : WM X y pc ls st S I k n := fun H locs lsa r s l => lv_fconst1 C.1 C.2.1 d (K H locs lsa r s l)
theorem s_fconst2 (C : CtxOK X y) (d : decode y.2.1 pc = .ok (.fconst 2, 1)) (K : WM X y (pc + 1) ls (.float FP.fconst2 :: st) S I k n) : WM X y pc ls st S I k n := fun H locs lsa r s l => lv_fconst2 C.1 C.2.1 d (K H locs lsa r s l)
theorem s_dconst0 (C : CtxOK X y) (d : decode y.2.1 pc = .ok (.dconst 0, 1)) (K : WM X y (pc + 1) ls (.double FP.dconst0 :: st) S I k n) : WM X y pc ls st S I k n := fun H locs lsa r s l => lv_dconst0 C.1 C.2.1 d (K H locs lsa r s l)
theorem s_dconst1 (C : CtxOK X y) (d : decode y.2.1 pc = .ok (.dconst 1, 1)) (K : WM X y (pc + 1) ls (.double FP.dconst1 :: st) S I k n) : WM X y pc ls st S I k n := fun H locs lsa r s l => lv_dconst1 C.1 C.2.1 d (K H locs lsa r s l)
theorem s_null (C : CtxOK X y) (d : decode y.2.1 pc = .ok (.aconst_null, 1)) (K : WM X y (pc + 1) ls (.null :: st) S I k n) : WM X y pc ls st S I k n := fun H locs lsa r s l => lv_null C.1 C.2.1 d (K H locs lsa r s l)
theorem s_ldc {ix : Nat} {v : Int32} (C : CtxOK X y) (d : decode y.2.1 pc = .ok (.ldc ix, 2)) (hw : Cond.constant y.1.cls ix v ∈ lw_good) (K : WM X y (pc + 2) ls (.int v :: st) S I k n) : WM X y pc ls st S I k n := fun H locs lsa r s l => lv_ldc C.1 C.2.1 C.2.2.2.1 (C.2.2.2.2.1 _ hw) d (K H locs lsa r s l)
theorem s_ldcw {ix : Nat} {v : Int32} (C : CtxOK X y) (d : decode y.2.1 pc = .ok (.ldc_w ix, 3)) (hw : Cond.constant y.1.cls ix v ∈ lw_good) (K : WM X y (pc + 3) ls (.int v :: st) S I k n) : WM X y pc ls st S I k n := fun H locs lsa r s l => lv_ldcw C.1 C.2.1 C.2.2.2.1 (C.2.2.2.2.1 _ hw) d (K H locs lsa r s l)
theorem s_ldc2 {ix : Nat} {v : Int64} (C : CtxOK X y) (d : decode y.2.1 pc = .ok (.ldc2_w ix, 3)) (hw : Cond.constantLong y.1.cls ix v ∈ lw_good) (K : WM X y (pc + 3) ls (.long v :: st) S I k n) : WM X y pc ls st S I k n := fun H locs lsa r s l => lv_ldc2 C.1 C.2.1 C.2.2.2.1 (C.2.2.2.2.1 _ hw) d (K H locs lsa r s l)
theorem s_ldcf {ix : Nat} {v : UInt32} (C : CtxOK X y) (d : decode y.2.1 pc = .ok (.ldc ix, 2)) (hw : Cond.constantFloat y.1.cls ix v ∈ lw_good) (K : WM X y (pc + 2) ls (.float v :: st) S I k n) : WM X y pc ls st S I k n := fun H locs lsa r s l => lv_ldcf C.1 C.2.1 C.2.2.2.1 (C.2.2.2.2.1 _ hw) d (K H locs lsa r s l)
theorem s_ldcd {ix : Nat} {v : UInt64} (C : CtxOK X y) (d : decode y.2.1 pc = .ok (.ldc2_w ix, 3)) (hw : Cond.constantDouble y.1.cls ix v ∈ lw_good) (K : WM X y (pc + 3) ls (.double v :: st) S I k n) : WM X y pc ls st S I k n := fun H locs lsa r s l => lv_ldc2d C.1 C.2.1 C.2.2.2.1 (C.2.2.2.2.1 _ hw) d (K H locs lsa r s l)
theorem s_iload_n {i : Nat} {q : Fin 4} {v : Int32} (C : CtxOK X y) (d : decode y.2.1 pc = .ok (.iload_n q, 1)) (hi : (q : Nat) = i) (hl : ls[i]? = some (some (.int v))) (K : WM X y (pc + 1) ls (.int v :: st) S I k n) : WM X y pc ls st S I k n := fun H locs lsa r s l => lv_iload_n C.1 C.2.1 d hi (al_get l hl) (K H locs lsa r s l)
theorem s_iload {i : Nat} {v : Int32} (C : CtxOK X y) (d : decode y.2.1 pc = .ok (.iload i, 2)) (hl : ls[i]? = some (some (.int v))) (K : WM X y (pc + 2) ls (.int v :: st) S I k n) : WM X y pc ls st S I k n := fun H locs lsa r s l => lv_iload C.1 C.2.1 d (al_get l hl) (K H locs lsa r s l)
theorem s_istore_n {i : Nat} {q : Fin 4} {v : Int32} (C : CtxOK X y) (d : decode y.2.1 pc = .ok (.istore_n q, 1)) (hi : (q : Nat) = i) (hi2 : i < y.2.2.1) (hi3 : i < ls.length) (ok : okst ls i (.int v) = true) (e : ls.set i (some (.int v)) = ls') (K : WM X y (pc + 1) ls' st S I k n) : WM X y pc ls (.int v :: st) S I k n := fun H locs lsa r s l => lv_istore_n C.1 C.2.1 d hi l hi2 rfl (fun lsa2 l2 => K H locs lsa2 r s (e ▸ al_set1 hi3 l2 ok))
theorem s_istore {i : Nat} {v : Int32} (C : CtxOK X y) (d : decode y.2.1 pc = .ok (.istore i, 2)) (hi2 : i < y.2.2.1) (hi3 : i < ls.length) (ok : okst ls i (.int v) = true) (e : ls.set i (some (.int v)) = ls') (K : WM X y (pc + 2) ls' st S I k n) : WM X y pc ls (.int v :: st) S I k n := fun H locs lsa r s l => lv_istore C.1 C.2.1 d l hi2 rfl (fun lsa2 l2 => K H locs lsa2 r s (e ▸ al_set1 hi3 l2 ok))
theorem s_lload_n {i : Nat} {q : Fin 4} {v : Int64} (C : CtxOK X y) (d : decode y.2.1 pc = .ok (.lload_n q, 1)) (hi : (q : Nat) = i) (hl : ls[i]? = some (some (.long v))) (K : WM X y (pc + 1) ls (.long v :: st) S I k n) : WM X y pc ls st S I k n := fun H locs lsa r s l => lv_lload_n C.1 C.2.1 d hi (al_get l hl) (K H locs lsa r s l)
theorem s_lload {i : Nat} {v : Int64} (C : CtxOK X y) (d : decode y.2.1 pc = .ok (.lload i, 2)) (hl : ls[i]? = some (some (.long v))) (K : WM X y (pc + 2) ls (.long v :: st) S I k n) : WM X y pc ls st S I k n := fun H locs lsa r s l => lv_lload C.1 C.2.1 d (al_get l hl) (K H locs lsa r s l)
theorem s_lstore_n {i : Nat} {q : Fin 4} {v : Int64} (C : CtxOK X y) (d : decode y.2.1 pc = .ok (.lstore_n q, 1)) (hi : (q : Nat) = i) (hi2 : i + 1 < y.2.2.1) (hi3 : i < ls.length) (ok : okst ls i (.long v) = true) (e : ls.set i (some (.long v)) = ls') (K : WM X y (pc + 1) ls' st S I k n) : WM X y pc ls (.long v :: st) S I k n := fun H locs lsa r s l => lv_lstore_n C.1 C.2.1 d hi l hi2 rfl (fun lsa2 l2 => K H locs lsa2 r s (e ▸ al_set2 hi3 rfl l2 ok))
theorem s_lstore {i : Nat} {v : Int64} (C : CtxOK X y) (d : decode y.2.1 pc = .ok (.lstore i, 2)) (hi2 : i + 1 < y.2.2.1) (hi3 : i < ls.length) (ok : okst ls i (.long v) = true) (e : ls.set i (some (.long v)) = ls') (K : WM X y (pc + 2) ls' st S I k n) : WM X y pc ls (.long v :: st) S I k n := fun H locs lsa r s l => lv_lstore C.1 C.2.1 d l hi2 rfl (fun lsa2 l2 => K H locs lsa2 r s (e ▸ al_set2 hi3 rfl l2 ok))
theorem s_fload_n {i : Nat} {q : Fin 4} {v : UInt32} (C : CtxOK X y) (d : decode y.2.1 pc = .ok (.fload_n q, 1)) (hi : (q : Nat) = i) (hl : ls[i]? = some (some (.float v))) (K : WM X y (pc + 1) ls (.float v :: st) S I k n) : WM X y pc ls st S I k n := fun H locs lsa r s l => lv_fload_n C.1 C.2.1 d hi (al_get l hl) (K H locs lsa r s l)
theorem s_fload {i : Nat} {v : UInt32} (C : CtxOK X y) (d : decode y.2.1 pc = .ok (.fload i, 2)) (hl : ls[i]? = some (some (.float v))) (K : WM X y (pc + 2) ls (.float v :: st) S I k n) : WM X y pc ls st S I k n := fun H locs lsa r s l => lv_fload C.1 C.2.1 d (al_get l hl) (K H locs lsa r s l)
theorem s_fstore_n {i : Nat} {q : Fin 4} {v : UInt32} (C : CtxOK X y) (d : decode y.2.1 pc = .ok (.fstore_n q, 1)) (hi : (q : Nat) = i) (hi2 : i < y.2.2.1) (hi3 : i < ls.length) (ok : okst ls i (.float v) = true) (e : ls.set i (some (.float v)) = ls') (K : WM X y (pc + 1) ls' st S I k n) : WM X y pc ls (.float v :: st) S I k n := fun H locs lsa r s l => lv_fstore_n C.1 C.2.1 d hi l hi2 rfl (fun lsa2 l2 => K H locs lsa2 r s (e ▸ al_set1 hi3 l2 ok))
theorem s_fstore {i : Nat} {v : UInt32} (C : CtxOK X y) (d : decode y.2.1 pc = .ok (.fstore i, 2)) (hi2 : i < y.2.2.1) (hi3 : i < ls.length) (ok : okst ls i (.float v) = true) (e : ls.set i (some (.float v)) = ls') (K : WM X y (pc + 2) ls' st S I k n) : WM X y pc ls (.float v :: st) S I k n := fun H locs lsa r s l => lv_fstore C.1 C.2.1 d l hi2 rfl (fun lsa2 l2 => K H locs lsa2 r s (e ▸ al_set1 hi3 l2 ok))
theorem s_dload_n {i : Nat} {q : Fin 4} {v : UInt64} (C : CtxOK X y) (d : decode y.2.1 pc = .ok (.dload_n q, 1)) (hi : (q : Nat) = i) (hl : ls[i]? = some (some (.double v))) (K : WM X y (pc + 1) ls (.double v :: st) S I k n) : WM X y pc ls st S I k n := fun H locs lsa r s l => lv_dload_n C.1 C.2.1 d hi (al_get l hl) (K H locs lsa r s l)
theorem s_dload {i : Nat} {v : UInt64} (C : CtxOK X y) (d : decode y.2.1 pc = .ok (.dload i, 2)) (hl : ls[i]? = some (some (.double v))) (K : WM X y (pc + 2) ls (.double v :: st) S I k n) : WM X y pc ls st S I k n := fun H locs lsa r s l => lv_dload C.1 C.2.1 d (al_get l hl) (K H locs lsa r s l)
theorem s_dstore_n {i : Nat} {q : Fin 4} {v : UInt64} (C : CtxOK X y) (d : decode y.2.1 pc = .ok (.dstore_n q, 1)) (hi : (q : Nat) = i) (hi2 : i + 1 < y.2.2.1) (hi3 : i < ls.length) (ok : okst ls i (.double v) = true) (e : ls.set i (some (.double v)) = ls') (K : WM X y (pc + 1) ls' st S I k n) : WM X y pc ls (.double v :: st) S I k n := fun H locs lsa r s l => lv_dstore_n C.1 C.2.1 d hi l hi2 rfl (fun lsa2 l2 => K H locs lsa2 r s (e ▸ al_set2 hi3 rfl l2 ok))
theorem s_dstore {i : Nat} {v : UInt64} (C : CtxOK X y) (d : decode y.2.1 pc = .ok (.dstore i, 2)) (hi2 : i + 1 < y.2.2.1) (hi3 : i < ls.length) (ok : okst ls i (.double v) = true) (e : ls.set i (some (.double v)) = ls') (K : WM X y (pc + 2) ls' st S I k n) : WM X y pc ls (.double v :: st) S I k n := fun H locs lsa r s l => lv_dstore C.1 C.2.1 d l hi2 rfl (fun lsa2 l2 => K H locs lsa2 r s (e ▸ al_set2 hi3 rfl l2 ok))
theorem s_aload_n {i : Nat} {q : Fin 4} {v : Nat} (C : CtxOK X y) (d : decode y.2.1 pc = .ok (.aload_n q, 1)) (hi : (q : Nat) = i) (hl : ls[i]? = some (some (.ref v))) (K : WM X y (pc + 1) ls (.ref v :: st) S I k n) : WM X y pc ls st S I k n := fun H locs lsa r s l => lv_aload_n C.1 C.2.1 d hi (al_get l hl) (K H locs lsa r s l)
theorem s_aload {i : Nat} {v : Nat} (C : CtxOK X y) (d : decode y.2.1 pc = .ok (.aload i, 2)) (hl : ls[i]? = some (some (.ref v))) (K : WM X y (pc + 2) ls (.ref v :: st) S I k n) : WM X y pc ls st S I k n := fun H locs lsa r s l => lv_aload C.1 C.2.1 d (al_get l hl) (K H locs lsa r s l)
theorem s_astore_n {i : Nat} {q : Fin 4} {v : Nat} (C : CtxOK X y) (d : decode y.2.1 pc = .ok (.astore_n q, 1)) (hi : (q : Nat) = i) (hi2 : i < y.2.2.1) (hi3 : i < ls.length) (ok : okst ls i (.ref v) = true) (e : ls.set i (some (.ref v)) = ls') (K : WM X y (pc + 1) ls' st S I k n) : WM X y pc ls (.ref v :: st) S I k n := fun H locs lsa r s l => lv_astore_n C.1 C.2.1 d hi l hi2 rfl (fun lsa2 l2 => K H locs lsa2 r s (e ▸ al_set1 hi3 l2 ok))
theorem s_astore {i : Nat} {v : Nat} (C : CtxOK X y) (d : decode y.2.1 pc = .ok (.astore i, 2)) (hi2 : i < y.2.2.1) (hi3 : i < ls.length) (ok : okst ls i (.ref v) = true) (e : ls.set i (some (.ref v)) = ls') (K : WM X y (pc + 2) ls' st S I k n) : WM X y pc ls (.ref v :: st) S I k n := fun H locs lsa r s l => lv_astore C.1 C.2.1 d l hi2 rfl (fun lsa2 l2 => K H locs lsa2 r s (e ▸ al_set1 hi3 l2 ok))
theorem s_aload_no {i : Nat} {q : Fin 4} {o : Option Nat} (C : CtxOK X y) (d : decode y.2.1 pc = .ok (.aload_n q, 1)) (hi : (q : Nat) = i) (hl : ls[i]? = some (some (rvE (xE X) o))) (K : WM X y (pc + 1) ls (rvE (xE X) o :: st) S I k n) : WM X y pc ls st S I k n := by
  cases o with
  | none => exact fun H locs lsa r s l => lv_aload_nN C.1 C.2.1 d hi (al_get l hl) (K H locs lsa r s l)
  | some x => exact s_aload_n C d hi hl K
theorem s_aload_o {i : Nat} {o : Option Nat} (C : CtxOK X y) (d : decode y.2.1 pc = .ok (.aload i, 2)) (hl : ls[i]? = some (some (rvE (xE X) o))) (K : WM X y (pc + 2) ls (rvE (xE X) o :: st) S I k n) : WM X y pc ls st S I k n := by
  cases o with
  | none => exact fun H locs lsa r s l => lv_aloadN C.1 C.2.1 d (al_get l hl) (K H locs lsa r s l)
  | some x => exact s_aload C d hl K
theorem s_astore_no {i : Nat} {q : Fin 4} {o : Option Nat} (C : CtxOK X y) (d : decode y.2.1 pc = .ok (.astore_n q, 1)) (hi : (q : Nat) = i) (hi2 : i < y.2.2.1) (hi3 : i < ls.length) (ok : okst ls i .null = true) (e : ls.set i (some (rvE (xE X) o)) = ls') (K : WM X y (pc + 1) ls' st S I k n) : WM X y pc ls (rvE (xE X) o :: st) S I k n := by
  cases o with
  | none => exact fun H locs lsa r s l => lv_astore_nN C.1 C.2.1 d hi l hi2 rfl (fun lsa2 l2 => K H locs lsa2 r s (e ▸ al_set1 hi3 l2 ok))
  | some x => exact s_astore_n C d hi hi2 hi3 ok e K
theorem s_astore_o {i : Nat} {o : Option Nat} (C : CtxOK X y) (d : decode y.2.1 pc = .ok (.astore i, 2)) (hi2 : i < y.2.2.1) (hi3 : i < ls.length) (ok : okst ls i .null = true) (e : ls.set i (some (rvE (xE X) o)) = ls') (K : WM X y (pc + 2) ls' st S I k n) : WM X y pc ls (rvE (xE X) o :: st) S I k n := by
  cases o with
  | none => exact fun H locs lsa r s l => lv_astoreN C.1 C.2.1 d l hi2 rfl (fun lsa2 l2 => K H locs lsa2 r s (e ▸ al_set1 hi3 l2 ok))
  | some x => exact s_astore C d hi2 hi3 ok e K
theorem s_ifnonnull {x : Nat} {off : Int} {tgt : Nat} (C : CtxOK X y) (d : decode y.2.1 pc = .ok (.ifnonnull off, 3)) (ht : (pc : Int) + off = (tgt : Int)) (K : WM X y tgt ls st S I k n) : WM X y pc ls (.ref x :: st) S I k n := fun H locs lsa r s l => lv_ifnonnull C.1 C.2.1 d ht (K H locs lsa r s l)
theorem s_ifnonnullN {off : Int} (C : CtxOK X y) (d : decode y.2.1 pc = .ok (.ifnonnull off, 3)) (K : WM X y (pc + 3) ls st S I k n) : WM X y pc ls (.null :: st) S I k n := fun H locs lsa r s l => lv_ifnonnullN C.1 C.2.1 d (K H locs lsa r s l)
theorem s_ifnull {x : Nat} {off : Int} (C : CtxOK X y) (d : decode y.2.1 pc = .ok (.ifnull off, 3)) (K : WM X y (pc + 3) ls st S I k n) : WM X y pc ls (.ref x :: st) S I k n := fun H locs lsa r s l => lv_ifnull C.1 C.2.1 d (K H locs lsa r s l)
theorem s_ifnullN {off : Int} {tgt : Nat} (C : CtxOK X y) (d : decode y.2.1 pc = .ok (.ifnull off, 3)) (ht : (pc : Int) + off = (tgt : Int)) (K : WM X y tgt ls st S I k n) : WM X y pc ls (.null :: st) S I k n := fun H locs lsa r s l => lv_ifnullN C.1 C.2.1 d ht (K H locs lsa r s l)
theorem s_iinc {i : Nat} {z : Int} {x v : Int32} (C : CtxOK X y) (d : decode y.2.1 pc = .ok (.iinc i z, 3)) (hl : ls[i]? = some (some (.int x))) (hi2 : i < y.2.2.1) (hi3 : i < ls.length) (hv : x + Int32.ofInt z = v) (ok : okst ls i (.int v) = true) (e : ls.set i (some (.int v)) = ls') (K : WM X y (pc + 3) ls' st S I k n) : WM X y pc ls st S I k n := by
  intro H locs lsa r s l
  obtain ⟨q, hq⟩ := List.getElem?_of_mem ((al_mem ls 0 (i, .int x)).mpr ⟨Nat.zero_le _, by simpa using hl⟩)
  exact lv_iinc C.1 C.2.1 d l hq hv hi2 rfl (fun lsa2 l2 => K H locs lsa2 r s (e ▸ al_set1 hi3 l2 ok))
theorem s_iadd {a b : Int32} (C : CtxOK X y) (d : decode y.2.1 pc = .ok (.iadd, 1))  (K : WM X y (pc + 1) ls (.int (a + b) :: st) S I k n) : WM X y pc ls (.int b :: .int a :: st) S I k n := fun H locs lsa r s l => lv_iadd C.1 C.2.1 d (K H locs lsa r s l)
theorem s_isub {a b : Int32} (C : CtxOK X y) (d : decode y.2.1 pc = .ok (.isub, 1))  (K : WM X y (pc + 1) ls (.int (a - b) :: st) S I k n) : WM X y pc ls (.int b :: .int a :: st) S I k n := fun H locs lsa r s l => lv_isub C.1 C.2.1 d (K H locs lsa r s l)
theorem s_imul {a b : Int32} (C : CtxOK X y) (d : decode y.2.1 pc = .ok (.imul, 1))  (K : WM X y (pc + 1) ls (.int (a * b) :: st) S I k n) : WM X y pc ls (.int b :: .int a :: st) S I k n := fun H locs lsa r s l => lv_imul C.1 C.2.1 d (K H locs lsa r s l)
theorem s_iand {a b : Int32} (C : CtxOK X y) (d : decode y.2.1 pc = .ok (.iand, 1))  (K : WM X y (pc + 1) ls (.int (a &&& b) :: st) S I k n) : WM X y pc ls (.int b :: .int a :: st) S I k n := fun H locs lsa r s l => lv_iand C.1 C.2.1 d (K H locs lsa r s l)
theorem s_ior {a b : Int32} (C : CtxOK X y) (d : decode y.2.1 pc = .ok (.ior, 1))  (K : WM X y (pc + 1) ls (.int (a ||| b) :: st) S I k n) : WM X y pc ls (.int b :: .int a :: st) S I k n := fun H locs lsa r s l => lv_ior C.1 C.2.1 d (K H locs lsa r s l)
theorem s_ishl {a b : Int32} (C : CtxOK X y) (d : decode y.2.1 pc = .ok (.ishl, 1))  (K : WM X y (pc + 1) ls (.int (a <<< (b &&& 31)) :: st) S I k n) : WM X y pc ls (.int b :: .int a :: st) S I k n := fun H locs lsa r s l => lv_ishl C.1 C.2.1 d (K H locs lsa r s l)
theorem s_idiv {a b : Int32} (C : CtxOK X y) (d : decode y.2.1 pc = .ok (.idiv, 1)) (hz : ¬ b = 0) (K : WM X y (pc + 1) ls (.int (a / b) :: st) S I k n) : WM X y pc ls (.int b :: .int a :: st) S I k n := fun H locs lsa r s l => lv_idiv C.1 C.2.1 d hz (K H locs lsa r s l)
theorem s_irem {a b : Int32} (C : CtxOK X y) (d : decode y.2.1 pc = .ok (.irem, 1)) (hz : ¬ b = 0) (K : WM X y (pc + 1) ls (.int (a - a / b * b) :: st) S I k n) : WM X y pc ls (.int b :: .int a :: st) S I k n := fun H locs lsa r s l => lv_irem C.1 C.2.1 d hz (K H locs lsa r s l)
theorem s_ladd {a b : Int64} (C : CtxOK X y) (d : decode y.2.1 pc = .ok (.ladd, 1))  (K : WM X y (pc + 1) ls (.long (a + b) :: st) S I k n) : WM X y pc ls (.long b :: .long a :: st) S I k n := fun H locs lsa r s l => lv_ladd C.1 C.2.1 d (K H locs lsa r s l)
theorem s_lsub {a b : Int64} (C : CtxOK X y) (d : decode y.2.1 pc = .ok (.lsub, 1))  (K : WM X y (pc + 1) ls (.long (a - b) :: st) S I k n) : WM X y pc ls (.long b :: .long a :: st) S I k n := fun H locs lsa r s l => lv_lsub C.1 C.2.1 d (K H locs lsa r s l)
theorem s_lor {a b : Int64} (C : CtxOK X y) (d : decode y.2.1 pc = .ok (.lor, 1))  (K : WM X y (pc + 1) ls (.long (a ||| b) :: st) S I k n) : WM X y pc ls (.long b :: .long a :: st) S I k n := fun H locs lsa r s l => lv_lor C.1 C.2.1 d (K H locs lsa r s l)
theorem s_lmul {a b : Int64} (C : CtxOK X y) (d : decode y.2.1 pc = .ok (.lmul, 1))  (K : WM X y (pc + 1) ls (.long (a * b) :: st) S I k n) : WM X y pc ls (.long b :: .long a :: st) S I k n := fun H locs lsa r s l => lv_lmul C.1 C.2.1 d (K H locs lsa r s l)
theorem s_land {a b : Int64} (C : CtxOK X y) (d : decode y.2.1 pc = .ok (.land, 1))  (K : WM X y (pc + 1) ls (.long (a &&& b) :: st) S I k n) : WM X y pc ls (.long b :: .long a :: st) S I k n := fun H locs lsa r s l => lv_land C.1 C.2.1 d (K H locs lsa r s l)
theorem s_lshr {a : Int64} {b : Int32} (C : CtxOK X y) (d : decode y.2.1 pc = .ok (.lshr, 1))  (K : WM X y (pc + 1) ls (.long (a >>> (b.toInt64 &&& 63)) :: st) S I k n) : WM X y pc ls (.int b :: .long a :: st) S I k n := fun H locs lsa r s l => lv_lshr C.1 C.2.1 d rfl (K H locs lsa r s l)
theorem s_lushr {a : Int64} {b : Int32} (C : CtxOK X y) (d : decode y.2.1 pc = .ok (.lushr, 1))  (K : WM X y (pc + 1) ls (.long ((a.toUInt64 >>> (b.toInt64.toUInt64 &&& Int64.toUInt64 63)).toInt64) :: st) S I k n) : WM X y pc ls (.int b :: .long a :: st) S I k n := fun H locs lsa r s l => lv_lushr C.1 C.2.1 d rfl (K H locs lsa r s l)
theorem s_l2i {a : Int64} (C : CtxOK X y) (d : decode y.2.1 pc = .ok (.l2i, 1))  (K : WM X y (pc + 1) ls (.int a.toInt32 :: st) S I k n) : WM X y pc ls (.long a :: st) S I k n := fun H locs lsa r s l => lv_l2i C.1 C.2.1 d rfl (K H locs lsa r s l)
theorem s_ishr {a b : Int32} (C : CtxOK X y) (d : decode y.2.1 pc = .ok (.ishr, 1)) (K : WM X y (pc + 1) ls (.int (a >>> (b &&& 31)) :: st) S I k n) : WM X y pc ls (.int b :: .int a :: st) S I k n := fun H locs lsa r s l => lv_ishr C.1 C.2.1 d (K H locs lsa r s l)
theorem s_lshl {a : Int64} {b : Int32} (C : CtxOK X y) (d : decode y.2.1 pc = .ok (.lshl, 1))  (K : WM X y (pc + 1) ls (.long (a <<< (b.toInt64 &&& 63)) :: st) S I k n) : WM X y pc ls (.int b :: .long a :: st) S I k n := fun H locs lsa r s l => lv_lshl C.1 C.2.1 d rfl (K H locs lsa r s l)
theorem s_lcmp {a b : Int64} (C : CtxOK X y) (d : decode y.2.1 pc = .ok (.lcmp, 1))  (K : WM X y (pc + 1) ls (.int (lg_cmp a b) :: st) S I k n) : WM X y pc ls (.long b :: .long a :: st) S I k n := fun H locs lsa r s l => W.lcmp C.1 C.2.1 d (K H locs lsa r s l)
theorem s_i2l {a : Int32} (C : CtxOK X y) (d : decode y.2.1 pc = .ok (.i2l, 1))  (K : WM X y (pc + 1) ls (.long a.toInt64 :: st) S I k n) : WM X y pc ls (.int a :: st) S I k n := fun H locs lsa r s l => lv_i2l C.1 C.2.1 d rfl (K H locs lsa r s l)
theorem s_i2c {a : Int32} (C : CtxOK X y) (d : decode y.2.1 pc = .ok (.i2c, 1))  (K : WM X y (pc + 1) ls (.int (a.toUInt32 % 65536).toInt32 :: st) S I k n) : WM X y pc ls (.int a :: st) S I k n := fun H locs lsa r s l => lv_i2c C.1 C.2.1 d rfl (K H locs lsa r s l)
theorem s_i2f {a : Int32} (C : CtxOK X y) (d : decode y.2.1 pc = .ok (.i2f, 1))  (K : WM X y (pc + 1) ls (.float (FP.i2f a) :: st) S I k n) : WM X y pc ls (.int a :: st) S I k n := fun H locs lsa r s l => lv_i2f C.1 C.2.1 d (K H locs lsa r s l)
theorem s_i2d {a : Int32} (C : CtxOK X y) (d : decode y.2.1 pc = .ok (.i2d, 1))  (K : WM X y (pc + 1) ls (.double (FP.i2d a) :: st) S I k n) : WM X y pc ls (.int a :: st) S I k n := fun H locs lsa r s l => lv_i2d C.1 C.2.1 d (K H locs lsa r s l)
theorem s_f2i {a : UInt32} (C : CtxOK X y) (d : decode y.2.1 pc = .ok (.f2i, 1))  (K : WM X y (pc + 1) ls (.int (FP.f2i a) :: st) S I k n) : WM X y pc ls (.float a :: st) S I k n := fun H locs lsa r s l => lv_f2i C.1 C.2.1 d (K H locs lsa r s l)
theorem s_d2l {a : UInt64} (C : CtxOK X y) (d : decode y.2.1 pc = .ok (.d2l, 1))  (K : WM X y (pc + 1) ls (.long (FP.d2l a) :: st) S I k n) : WM X y pc ls (.double a :: st) S I k n := fun H locs lsa r s l => lv_d2l C.1 C.2.1 d (K H locs lsa r s l)
theorem s_fmul {a b : UInt32} (C : CtxOK X y) (d : decode y.2.1 pc = .ok (.fmul, 1)) (hz : vf_n32 (FP.fmul a b)) (K : WM X y (pc + 1) ls (.float (FP.fmul a b) :: st) S I k n) : WM X y pc ls (.float b :: .float a :: st) S I k n := fun H locs lsa r s l => lv_fmul C.1 C.2.1 d hz (K H locs lsa r s l)
theorem s_fdiv {a b : UInt32} (C : CtxOK X y) (d : decode y.2.1 pc = .ok (.fdiv, 1)) (hz : vf_n32 (FP.fdiv a b)) (K : WM X y (pc + 1) ls (.float (FP.fdiv a b) :: st) S I k n) : WM X y pc ls (.float b :: .float a :: st) S I k n := fun H locs lsa r s l => lv_fdiv C.1 C.2.1 d hz (K H locs lsa r s l)
theorem s_fsub {a b : UInt32} (C : CtxOK X y) (d : decode y.2.1 pc = .ok (.fsub, 1)) (hz : vf_n32 (FP.fsub a b)) (K : WM X y (pc + 1) ls (.float (FP.fsub a b) :: st) S I k n) : WM X y pc ls (.float b :: .float a :: st) S I k n := fun H locs lsa r s l => lv_fsub C.1 C.2.1 d hz (K H locs lsa r s l)
theorem s_dmul {a b : UInt64} (C : CtxOK X y) (d : decode y.2.1 pc = .ok (.dmul, 1)) (hz : vf_n64 (FP.dmul a b)) (K : WM X y (pc + 1) ls (.double (FP.dmul a b) :: st) S I k n) : WM X y pc ls (.double b :: .double a :: st) S I k n := fun H locs lsa r s l => lv_dmul C.1 C.2.1 d hz (K H locs lsa r s l)
theorem s_ddiv {a b : UInt64} (C : CtxOK X y) (d : decode y.2.1 pc = .ok (.ddiv, 1)) (hz : vf_n64 (FP.ddiv a b)) (K : WM X y (pc + 1) ls (.double (FP.ddiv a b) :: st) S I k n) : WM X y pc ls (.double b :: .double a :: st) S I k n := fun H locs lsa r s l => lv_ddiv C.1 C.2.1 d hz (K H locs lsa r s l)
theorem s_dsub {a b : UInt64} (C : CtxOK X y) (d : decode y.2.1 pc = .ok (.dsub, 1)) (hz : vf_n64 (FP.dsub a b)) (K : WM X y (pc + 1) ls (.double (FP.dsub a b) :: st) S I k n) : WM X y pc ls (.double b :: .double a :: st) S I k n := fun H locs lsa r s l => lv_dsub C.1 C.2.1 d hz (K H locs lsa r s l)
theorem s_fcmp {a b : UInt32} {op : CmpOp} (C : CtxOK X y) (d : decode y.2.1 pc = .ok (.fcmp op, 1))  (K : WM X y (pc + 1) ls (.int (Op.cmpValue (FP.fcmp a b) op) :: st) S I k n) : WM X y pc ls (.float b :: .float a :: st) S I k n := fun H locs lsa r s l => lv_fcmp C.1 C.2.1 d (K H locs lsa r s l)
theorem s_dcmp {a b : UInt64} {op : CmpOp} (C : CtxOK X y) (d : decode y.2.1 pc = .ok (.dcmp op, 1))  (K : WM X y (pc + 1) ls (.int (Op.cmpValue (FP.dcmp a b) op) :: st) S I k n) : WM X y pc ls (.double b :: .double a :: st) S I k n := fun H locs lsa r s l => lv_dcmp C.1 C.2.1 d (K H locs lsa r s l)
theorem s_dup {v : Value} (C : CtxOK X y) (d : decode y.2.1 pc = .ok (.dup, 1)) (hc : v.category = 1) (K : WM X y (pc + 1) ls (v :: v :: st) S I k n) : WM X y pc ls (v :: st) S I k n := fun H locs lsa r s l => lv_dup C.1 C.2.1 d hc (K H locs lsa r s l)
theorem s_pop {v : Value} (C : CtxOK X y) (d : decode y.2.1 pc = .ok (.pop, 1)) (hc : v.category = 1) (K : WM X y (pc + 1) ls st S I k n) : WM X y pc ls (v :: st) S I k n := fun H locs lsa r s l => lv_pop C.1 C.2.1 d hc (K H locs lsa r s l)
theorem s_dup2 {v v2 : Value} (C : CtxOK X y) (d : decode y.2.1 pc = .ok (.dup2, 1)) (hc : v.category = 1) (hc2 : v2.category = 1) (K : WM X y (pc + 1) ls (v :: v2 :: v :: v2 :: st) S I k n) : WM X y pc ls (v :: v2 :: st) S I k n := fun H locs lsa r s l => lv_dup2_11 C.1 C.2.1 d hc hc2 (K H locs lsa r s l)
theorem s_if_eq {x : Int32} {off : Int} {tgt : Nat} (C : CtxOK X y) (d : decode y.2.1 pc = .ok (.ifCond .eq off, 3)) (ht : (pc : Int) + off = (tgt : Int)) (K1 : x = 0 → WM X y tgt ls st S I k n) (K2 : ¬ x = 0 → WM X y (pc + 3) ls st S I k n) : WM X y pc ls (.int x :: st) S I k n := fun H locs lsa r s l => lv_if_eq C.1 C.2.1 d ht (fun h => K1 h H locs lsa r s l) (fun h => K2 h H locs lsa r s l)
theorem s_icmp_eq {x y2 : Int32} {off : Int} {tgt : Nat} (C : CtxOK X y) (d : decode y.2.1 pc = .ok (.if_icmp .eq off, 3)) (ht : (pc : Int) + off = (tgt : Int)) (K1 : x = y2 → WM X y tgt ls st S I k n) (K2 : ¬ x = y2 → WM X y (pc + 3) ls st S I k n) : WM X y pc ls (.int y2 :: .int x :: st) S I k n := fun H locs lsa r s l => lv_icmp_eq C.1 C.2.1 d ht (fun h => K1 h H locs lsa r s l) (fun h => K2 h H locs lsa r s l)
theorem s_if_ne {x : Int32} {off : Int} {tgt : Nat} (C : CtxOK X y) (d : decode y.2.1 pc = .ok (.ifCond .ne off, 3)) (ht : (pc : Int) + off = (tgt : Int)) (K1 : ¬ x = 0 → WM X y tgt ls st S I k n) (K2 : x = 0 → WM X y (pc + 3) ls st S I k n) : WM X y pc ls (.int x :: st) S I k n := fun H locs lsa r s l => lv_if_ne C.1 C.2.1 d ht (fun h => K1 h H locs lsa r s l) (fun h => K2 h H locs lsa r s l)
theorem s_icmp_ne {x y2 : Int32} {off : Int} {tgt : Nat} (C : CtxOK X y) (d : decode y.2.1 pc = .ok (.if_icmp .ne off, 3)) (ht : (pc : Int) + off = (tgt : Int)) (K1 : ¬ x = y2 → WM X y tgt ls st S I k n) (K2 : x = y2 → WM X y (pc + 3) ls st S I k n) : WM X y pc ls (.int y2 :: .int x :: st) S I k n := fun H locs lsa r s l => lv_icmp_ne C.1 C.2.1 d ht (fun h => K1 h H locs lsa r s l) (fun h => K2 h H locs lsa r s l)
theorem s_if_lt {x : Int32} {off : Int} {tgt : Nat} (C : CtxOK X y) (d : decode y.2.1 pc = .ok (.ifCond .lt off, 3)) (ht : (pc : Int) + off = (tgt : Int)) (K1 : x < 0 → WM X y tgt ls st S I k n) (K2 : ¬ x < 0 → WM X y (pc + 3) ls st S I k n) : WM X y pc ls (.int x :: st) S I k n := fun H locs lsa r s l => lv_if_lt C.1 C.2.1 d ht (fun h => K1 h H locs lsa r s l) (fun h => K2 h H locs lsa r s l)
theorem s_icmp_lt {x y2 : Int32} {off : Int} {tgt : Nat} (C : CtxOK X y) (d : decode y.2.1 pc = .ok (.if_icmp .lt off, 3)) (ht : (pc : Int) + off = (tgt : Int)) (K1 : x < y2 → WM X y tgt ls st S I k n) (K2 : ¬ x < y2 → WM X y (pc + 3) ls st S I k n) : WM X y pc ls (.int y2 :: .int x :: st) S I k n := fun H locs lsa r s l => lv_icmp_lt C.1 C.2.1 d ht (fun h => K1 h H locs lsa r s l) (fun h => K2 h H locs lsa r s l)
theorem s_if_ge {x : Int32} {off : Int} {tgt : Nat} (C : CtxOK X y) (d : decode y.2.1 pc = .ok (.ifCond .ge off, 3)) (ht : (pc : Int) + off = (tgt : Int)) (K1 : 0 ≤ x → WM X y tgt ls st S I k n) (K2 : ¬ 0 ≤ x → WM X y (pc + 3) ls st S I k n) : WM X y pc ls (.int x :: st) S I k n := fun H locs lsa r s l => lv_if_ge C.1 C.2.1 d ht (fun h => K1 h H locs lsa r s l) (fun h => K2 h H locs lsa r s l)
theorem s_icmp_ge {x y2 : Int32} {off : Int} {tgt : Nat} (C : CtxOK X y) (d : decode y.2.1 pc = .ok (.if_icmp .ge off, 3)) (ht : (pc : Int) + off = (tgt : Int)) (K1 : y2 ≤ x → WM X y tgt ls st S I k n) (K2 : ¬ y2 ≤ x → WM X y (pc + 3) ls st S I k n) : WM X y pc ls (.int y2 :: .int x :: st) S I k n := fun H locs lsa r s l => lv_icmp_ge C.1 C.2.1 d ht (fun h => K1 h H locs lsa r s l) (fun h => K2 h H locs lsa r s l)
theorem s_if_gt {x : Int32} {off : Int} {tgt : Nat} (C : CtxOK X y) (d : decode y.2.1 pc = .ok (.ifCond .gt off, 3)) (ht : (pc : Int) + off = (tgt : Int)) (K1 : 0 < x → WM X y tgt ls st S I k n) (K2 : ¬ 0 < x → WM X y (pc + 3) ls st S I k n) : WM X y pc ls (.int x :: st) S I k n := fun H locs lsa r s l => lv_if_gt C.1 C.2.1 d ht (fun h => K1 h H locs lsa r s l) (fun h => K2 h H locs lsa r s l)
theorem s_icmp_gt {x y2 : Int32} {off : Int} {tgt : Nat} (C : CtxOK X y) (d : decode y.2.1 pc = .ok (.if_icmp .gt off, 3)) (ht : (pc : Int) + off = (tgt : Int)) (K1 : y2 < x → WM X y tgt ls st S I k n) (K2 : ¬ y2 < x → WM X y (pc + 3) ls st S I k n) : WM X y pc ls (.int y2 :: .int x :: st) S I k n := fun H locs lsa r s l => lv_icmp_gt C.1 C.2.1 d ht (fun h => K1 h H locs lsa r s l) (fun h => K2 h H locs lsa r s l)
theorem s_if_le {x : Int32} {off : Int} {tgt : Nat} (C : CtxOK X y) (d : decode y.2.1 pc = .ok (.ifCond .le off, 3)) (ht : (pc : Int) + off = (tgt : Int)) (K1 : x ≤ 0 → WM X y tgt ls st S I k n) (K2 : ¬ x ≤ 0 → WM X y (pc + 3) ls st S I k n) : WM X y pc ls (.int x :: st) S I k n := fun H locs lsa r s l => lv_if_le C.1 C.2.1 d ht (fun h => K1 h H locs lsa r s l) (fun h => K2 h H locs lsa r s l)
theorem s_icmp_le {x y2 : Int32} {off : Int} {tgt : Nat} (C : CtxOK X y) (d : decode y.2.1 pc = .ok (.if_icmp .le off, 3)) (ht : (pc : Int) + off = (tgt : Int)) (K1 : x ≤ y2 → WM X y tgt ls st S I k n) (K2 : ¬ x ≤ y2 → WM X y (pc + 3) ls st S I k n) : WM X y pc ls (.int y2 :: .int x :: st) S I k n := fun H locs lsa r s l => lv_icmp_le C.1 C.2.1 d ht (fun h => K1 h H locs lsa r s l) (fun h => K2 h H locs lsa r s l)
theorem s_goto {off : Int} {tgt : Nat} (C : CtxOK X y) (d : decode y.2.1 pc = .ok (.goto off, 3)) (ht : (pc : Int) + off = (tgt : Int)) (K : WM X y tgt ls st S I k n) : WM X y pc ls st S I k n := fun H locs lsa r s l => lv_goto C.1 C.2.1 d ht (K H locs lsa r s l)
theorem s_lookup {dflt : Int} {ps : Array (Int × Int)} {len : Nat} {x : Int32} {off : Int} {tgt : Nat} (C : CtxOK X y) (d : decode y.2.1 pc = .ok (.lookupswitch dflt ps, len)) (hp : (ps.toList.zip (ps.toList.drop 1)).all (fun (a, next) => a.1 < next.1) = true) (ho : Op.lookupswitch.offset ps.toList dflt x.toInt = off) (ht : (pc : Int) + off = (tgt : Int)) (K : WM X y tgt ls st S I k n) : WM X y pc ls (.int x :: st) S I k n := fun H locs lsa r s l => lv_lookup C.1 C.2.1 d hp ho ht (K H locs lsa r s l)
theorem s_tableOut {dflt lo hi : Int} {offs : Array Int} {len : Nat} {x : Int32} {tgt : Nat} (C : CtxOK X y) (d : decode y.2.1 pc = .ok (.tableswitch dflt lo hi offs, len)) (h : x.toInt < lo ∨ hi < x.toInt) (ht : (pc : Int) + dflt = (tgt : Int)) (K : WM X y tgt ls st S I k n) : WM X y pc ls (.int x :: st) S I k n := fun H locs lsa r s l => lv_tableOut C.1 C.2.1 d h ht (K H locs lsa r s l)
theorem s_tableIn {dflt lo hi : Int} {offs : Array Int} {len : Nat} {x : Int32} {off : Int} {tgt : Nat} (C : CtxOK X y) (d : decode y.2.1 pc = .ok (.tableswitch dflt lo hi offs, len)) (h1 : ¬ x.toInt < lo) (h2 : ¬ hi < x.toInt) (ho : offs[(x.toInt - lo).toNat]? = some off) (ht : (pc : Int) + off = (tgt : Int)) (K : WM X y tgt ls st S I k n) : WM X y pc ls (.int x :: st) S I k n := fun H locs lsa r s l => lv_tableIn C.1 C.2.1 d h1 h2 ho ht (K H locs lsa r s l)
end RL
end
section
/-! ===== fields, arrays, calls, ends ===== -/
abbrev rfX (X : Cx) (k : Nat) : Value := .ref ((xE X).1.size + k)
theorem ws_upd {E : Ev} {S : Sx} {I I' : Mm} {k : Nat} {e : va_E} (hk : k < S.1) (ho : ∀ i, i ≠ k → I' i = I i) (he : e = cellE E S I' k) : (wsE E S I).set k (E.1.size + k, e) = wsE E S I' := by
  apply List.ext_getElem?
  intro i
  by_cases hi : i = k
  · subst hi
    rw [List.getElem?_set_self (by simp [wsE, hk]), ws_at hk, he]
  · rw [List.getElem?_set_ne (Ne.symm hi)]
    by_cases h : i < S.1
    · rw [ws_at h, ws_at h]
      simp only [cellE, fsE, ho i hi]
    · rw [List.getElem?_eq_none (by simp [wsE]; omega), List.getElem?_eq_none (by simp [wsE]; omega)]
theorem wr_row (I : Mm) (a j : Nat) (v : Int32) : (wr I a j v) a = upd (I a) j v := by
  funext q
  by_cases h : q = j <;> simp [wr, upd, h]
theorem wr_off (I : Mm) (a j : Nat) (v : Int32) {i : Nat} (h : i ≠ a) : (wr I a j v) i = I i := by
  funext q
  simp [wr, h]
theorem rep_lt {E : Ev} {S : Sx} {I : Mm} {H : Heap} (r : RepH E S I H) {a : Nat} (h : S.2.1 a ≠ 9) : a < S.1 := by
  rcases Nat.lt_or_ge a S.1 with q | q
  · exact q
  · exact absurd (r.2.2.2 a q) h
theorem cell_o {E : Ev} {S : Sx} {I : Mm} {a c : Nat} (h : S.2.1 a = c) (hc : c < 6) : cellE E S I a = .inr (c, fsE E S I a c) := by
  subst h
  simp [cellE, hc]
theorem cell_i {E : Ev} {S : Sx} {I : Mm} {a m : Nat} (h : S.2.1 a = m) (hm : 10 ≤ m) : cellE E S I a = .inl (E.2.2.1, m - 10, .inl (I a)) := by
  subst h
  simp only [cellE]
  rw [if_neg (by omega), if_neg (by omega), if_neg (by omega)]
theorem fs_get {E : Ev} {S : Sx} {I : Mm} {a c j : Nat} (hj : j < nfs c) : (fsE E S I a c)[j]? = some (if isR c j then rvE E (S.2.2 a j) else .int (I a j)) := by
  simp [fsE, hj]
theorem fs_set {E : Ev} {S : Sx} {I : Mm} {a c j : Nat} {v : Int32} (hr : isR c j = false) : (fsE E S I a c).set j (.int v) = fsE E S (wr I a j v) a c := by
  apply List.ext_getElem?
  intro i
  by_cases hi : i = j
  · subst hi
    by_cases h : i < nfs c
    · rw [List.getElem?_set_self (by simp [fsE, h]), fs_get h]
      simp [hr, wr]
    · rw [List.getElem?_eq_none (by simp [fsE]; omega), List.getElem?_eq_none (by simp [fsE]; omega)]
  · rw [List.getElem?_set_ne (Ne.symm hi)]
    by_cases h : i < nfs c
    · rw [fs_get h, fs_get h]
      simp [wr, hi]
    · rw [List.getElem?_eq_none (by simp [fsE]; omega), List.getElem?_eq_none (by simp [fsE]; omega)]
/-- a field that a pool entry of a class names: field j of class c -/
def FldOK (own : String) (ix c j : Nat) : Prop := ∃ (T : u_T) (C : String), vwCl[c]? = some (C, T, nfs c) ∧ j < nfs c ∧ c < 6 ∧ (∀ w ∈ u_ws C T (nfs c), w ∈ lw_good) ∧ (T j).1 = C ∧
  (Cond.fieldLink own ix C (T j).2.1 (T j).2.2.1 ∈ lw_good ∨ ∃ host, Cond.fieldLinkNest own ix C (T j).2.1 (T j).2.2.1 host ∈ lw_nest)
/-- one that may be written, of this type -/
def PutOK (own : String) (ix c j : Nat) (ty : FieldType) : Prop := ∃ (T : u_T) (C : String) (ty0 : Nat → FieldType), vwCl[c]? = some (C, T, nfs c) ∧ j < nfs c ∧ c < 6 ∧ (∀ w ∈ u_ws C T (nfs c), w ∈ lw_good) ∧ (T j).1 = C ∧
  (Cond.fieldLink own ix C (T j).2.1 (T j).2.2.1 ∈ lw_good ∨ ∃ host, Cond.fieldLinkNest own ix C (T j).2.1 (T j).2.2.1 host ∈ lw_nest) ∧
  (∀ k, k < nfs c → parseFieldDescriptor (T k).2.2.1 = some (ty0 k)) ∧ (∀ a, a < nfs c → ∀ b, b < nfs c → a ≠ b → (T a).2.1 ≠ (T b).2.1) ∧ (T j).2.2.2 = false ∧ parseFieldDescriptor (T j).2.2.1 = some ty
section RL2
variable {X : Cx} {y : Yd} {pc : Nat} {ls ls' : List (Option Value)} {st : List Value} {S : Sx} {I : Mm} {k n : Nat}
theorem s_get {a c j ix : Nat} {v : Value} (C : CtxOK X y) (d : decode y.2.1 pc = .ok (.getfield ix, 3)) (hk : S.2.1 a = c) (hf : FldOK y.1.cls ix c j) (hv : (if isR c j then rvE (xE X) (S.2.2 a j) else .int (I a j)) = v)
    (K : WM X y (pc + 3) ls (v :: st) S I k n) : WM X y pc ls (rfX X a :: st) S I k n := by
  intro H locs lsa r s l
  obtain ⟨T, Cn, h1, h2, h3, h4, h5, h6⟩ := hf
  have ha : a < S.1 := rep_lt r (by omega)
  have he := ws_at (E := xE X) (S := S) (I := I) ha
  rw [cell_o hk h3] at he
  have hsame : ∀ x, (xs X).fieldFound? (T j).1 (T j).2.1 (T j).2.2.1 = some x → (xs X).fieldFound? Cn (T j).2.1 (T j).2.2.1 = some x := fun x h => by rw [h5] at h; exact h
  rcases h6 with h6 | ⟨host, h6⟩
  · exact va_get C.1 C.2.1 C.2.2.2.2.1 h4 C.2.2.2.1 C.2.2.2.2.2.1 r.1 a he h1 j h2 (C.2.2.2.2.1 _ h6) hsame (by rw [fs_get h2, hv]) d (K H locs lsa r s l)
  · exact va_getN C.1 C.2.1 C.2.2.2.2.1 h4 C.2.2.2.1 C.2.2.2.2.2.1 r.1 a he h1 j h2 (va_Nw.use rfl (C.2.2.2.2.2.2.2.2.2.2.1 _ h6)) hsame (by rw [fs_get h2, hv]) d (K H locs lsa r s l)
theorem s_getI {a c j ix : Nat} (C : CtxOK X y) (d : decode y.2.1 pc = .ok (.getfield ix, 3)) (hk : S.2.1 a = c) (hf : FldOK y.1.cls ix c j) (hr : isR c j = false)
    (K : WM X y (pc + 3) ls (.int (I a j) :: st) S I k n) : WM X y pc ls (rfX X a :: st) S I k n := s_get C d hk hf (by rw [hr]; rfl) K
theorem s_getR {a c j ix b : Nat} (C : CtxOK X y) (d : decode y.2.1 pc = .ok (.getfield ix, 3)) (hk : S.2.1 a = c) (hf : FldOK y.1.cls ix c j) (hr : isR c j = true) (hb : S.2.2 a j = some b)
    (K : WM X y (pc + 3) ls (rfX X b :: st) S I k n) : WM X y pc ls (rfX X a :: st) S I k n := s_get C d hk hf (by rw [hr, hb]; rfl) K
theorem s_putT {a c j ix : Nat} {v : Int32} {ty : FieldType} (C : CtxOK X y) (d : decode y.2.1 pc = .ok (.putfield ix, 3)) (hk : S.2.1 a = c) (hf : PutOK y.1.cls ix c j ty) (hr : isR c j = false) (hn : narrow ty (.int v) = .int v) (hfit : fits ty (.int v) = true)
    (K : WM X y (pc + 3) ls st S (wr I a j v) k n) : WM X y pc ls (.int v :: rfX X a :: st) S I k n := by
  intro H locs lsa r s l
  obtain ⟨T, Cn, ty0, h1, h2, h3, h4, h5, h6, h7, h8, h9, h10⟩ := hf
  have ha : a < S.1 := rep_lt r (by omega)
  have he := ws_at (E := xE X) (S := S) (I := I) ha
  rw [cell_o hk h3] at he
  have hsame : ∀ x, (xs X).fieldFound? (T j).1 (T j).2.1 (T j).2.2.1 = some x → (xs X).fieldFound? Cn (T j).2.1 (T j).2.2.1 = some x := fun x h => by rw [h5] at h; exact h
  have hz : H.size = (xE X).1.size + S.1 := r.2.1
  have fin : ∀ (H1 : Heap) (locs1 : List Loc), va_P (xE X).2.1 vwCl ((wsE (xE X) S I).set a ((xE X).1.size + a, .inr (c, (fsE (xE X) S I a c).set j (.int v)))) H1 → va_S (Fr (xE X)) (xs X).heap H1 locs1 → H1.size = H.size → (∀ q, q < (xE X).1.size → H1[q]? = H[q]?) →
      W (xp X) (xl X) (xe X) (xR X) (xs X) (xm X) (xa X) (xb X) (xM X) (xc X) H1 locs1 k n (xQ X) (F0 (xm X) (pc + 3) lsa st) := by
    intro H1 locs1 p1 s1 z1 o1
    rw [fs_set hr, ws_upd (I' := wr I a j v) ha (fun i hi => wr_off I a j v hi) (by rw [cell_o hk h3])] at p1
    exact K H1 locs1 lsa ⟨p1, z1.trans hz, fun q hq => (o1 q hq).trans (r.2.2.1 q hq), r.2.2.2⟩ s1 l
  have hap := va_apart (own := y.1.cls) C.2.2.2.2.1 h4 ty0 h7 h8 C.2.2.2.2.2.1 h1
  obtain ⟨rr, g1, cell, q1, q2, q3, q4⟩ := r.1 a _ he
  have hrr : rr = (Cn, T, nfs c) := Option.some.inj (g1.symm.trans h1)
  subst hrr
  obtain ⟨hS, hfc, kC, hkC, hkind⟩ := C.2.2.2.2.2.1.1 c _ h1
  obtain ⟨cf, kf, fi, f, hi, hsl⟩ := hS j h2
  have hlay := C.2.2.2.2.1 _ (h4 _ (u_in_lay h2))
  unfold u_lay at hlay
  rw [if_neg (by rw [h9]; decide)] at hlay
  have hst := (u_facts hfc hkC (u_lays C.2.2.2.2.1 h4 h2) hi).1
  have h6' := u_store hfc hkC hkind hlay hi h10 hn hfit
  have goal : ∀ (H' : Heap), H'[(xE X).1.size + a]? = some (cell.setSlot f.slot (.int v)) → H'.size = H.size → (∀ q, q ≠ (xE X).1.size + a → H'[q]? = H[q]?) → W (xp X) (xl X) (xe X) (xR X) (xs X) (xm X) (xa X) (xb X) (xM X) (xc X) H' (locs ++ [⟨(xE X).1.size + a, f.slot⟩]) k n (xQ X) (F0 (xm X) (pc + 3) lsa st) := by
    intro H' e1 e2 e3
    rw [hsl] at e1
    refine fin H' _ (r.1.set (ws_D _ _ _) he ⟨_, h1, t_OB.to (V := updV (vp_V (fsE (xE X) S I a c)) j (.int v)) ⟨_, e1, q2, q3, t_set q4 hap h2 _⟩ (fun i _ => vp_updV_set (by simp [fsE, h2]) _ i)⟩ e3) ?_ e2 (fun q hq => e3 q (by omega))
    exact s.put e2 e3 (show (xE X).1.size ≤ (xE X).1.size + a by omega)
  rcases h6 with h6 | ⟨host, h6⟩
  · exact W.putK C.1 C.2.1 (f := f) ⟨C.2.2.2.1, C.2.2.2.2.1 _ h6, ⟨_, _, _, hsame _ hi⟩, hst⟩ (by rw [q2]; exact h6') q1 q3 (by rw [hsl]; exact k2_hasslot (q4 j h2)) rfl rfl d goal
  · exact va_WputK C.1 C.2.1 (f := f) C.2.2.2.1 (va_Nw.use rfl (C.2.2.2.2.2.2.2.2.2.2.1 _ h6)) (hsame _ hi) hst (by rw [q2]; exact h6') q1 q3 (by rw [hsl]; exact k2_hasslot (q4 j h2)) rfl rfl d goal
end RL2
section RL3
variable {X : Cx} {y : Yd} {pc : Nat} {ls ls' : List (Option Value)} {st : List Value} {S : Sx} {I : Mm} {k n : Nat}
theorem s_iald {a m : Nat} {i : Int32} (C : CtxOK X y) (d : decode y.2.1 pc = .ok (.iaload, 1)) (hk : S.2.1 a = m) (hm : 10 ≤ m) (hin : ¬ (i < 0 ∨ m - 10 ≤ i.toNatClampNeg))
    (K : WM X y (pc + 1) ls (.int (I a i.toNatClampNeg) :: st) S I k n) : WM X y pc ls (.int i :: rfX X a :: st) S I k n := by
  intro H locs lsa r s l
  have ha : a < S.1 := rep_lt r (by omega)
  have he := ws_at (E := xE X) (S := S) (I := I) ha
  rw [cell_i hk hm] at he
  exact va_iald C.1 C.2.1 C.2.2.2.2.2.1 r.1 a 0 he rfl hin d (K H locs lsa r s l)
theorem s_iast {a m : Nat} {i v : Int32} (C : CtxOK X y) (d : decode y.2.1 pc = .ok (.iastore, 1)) (hk : S.2.1 a = m) (hm : 10 ≤ m) (hin : ¬ (i < 0 ∨ m - 10 ≤ i.toNatClampNeg))
    (K : WM X y (pc + 1) ls st S (wr I a i.toNatClampNeg v) k n) : WM X y pc ls (.int v :: .int i :: rfX X a :: st) S I k n := by
  intro H locs lsa r s l
  have ha : a < S.1 := rep_lt r (by omega)
  have he := ws_at (E := xE X) (S := S) (I := I) ha
  rw [cell_i hk hm] at he
  refine W.iast C.1 C.2.1 (r.1 a _ he) ((C.2.2.2.2.2.1.2 0 _ rfl).1 (m - 10) (fun j => .int (I a j))) (fun q => by cases q) (by show ¬ (i < 0 ∨ (arrV _ _ _).slots.size ≤ _); rw [arrV_size]; exact hin) rfl rfl d fun H1 e z oq => ?_
  have p1 : va_P (xE X).2.1 vwCl ((wsE (xE X) S I).set a ((xE X).1.size + a, cellE (xE X) S (wr I a i.toNatClampNeg v) a)) H1 := by
    refine r.1.set (ws_D _ _ _) he ?_ oq
    rw [cell_i hk hm, wr_row]
    show H1[(xE X).1.size + a]? = some (vp_cell _ _)
    rw [e]
    rw [vp_cell_i, vp_cell_i, arrV_store]
    congr 2
    funext q
    by_cases hq : q = i.toNatClampNeg
    · subst hq
      simp [updV, upd]
    · simp [updV, upd, hq]
  rw [ws_upd (I' := wr I a i.toNatClampNeg v) ha (fun j hj => wr_off I a _ v hj) rfl] at p1
  exact K H1 _ lsa ⟨p1, z.trans r.2.1, fun q hq => (oq q (Nat.ne_of_lt (Nat.lt_of_lt_of_le hq (Nat.le_add_right _ _)))).trans (r.2.2.1 q hq), r.2.2.2⟩ (s.put z oq (show (xE X).1.size ≤ (xE X).1.size + a by omega)) l
theorem s_alen {a m : Nat} {v : Int32} (C : CtxOK X y) (d : decode y.2.1 pc = .ok (.arraylength, 1)) (hk : S.2.1 a = m) (hm : 10 ≤ m) (hv : Int32.ofNat (m - 10) = v)
    (K : WM X y (pc + 1) ls (.int v :: st) S I k n) : WM X y pc ls (rfX X a :: st) S I k n := by
  intro H locs lsa r s l
  have ha : a < S.1 := rep_lt r (by omega)
  have he := ws_at (E := xE X) (S := S) (I := I) ha
  rw [cell_i hk hm] at he
  exact va_alen C.1 C.2.1 C.2.2.2.2.2.1 r.1 a 0 he rfl hv d (K H locs lsa r s l)
/-- the arrays of references: what they are over, how long -/
def rkT (m : Nat) : Nat × Nat := match m with
  | 6 => (1, 3)
  | _ => (2, 9)
theorem cell_r {E : Ev} {S : Sx} {I : Mm} {a m : Nat} (h : S.2.1 a = m) (hm : 6 ≤ m ∧ m ≤ 7) : ∃ (cA : ClassId) (ty : FieldType), cellE E S I a = .inl (cA, (rkT m).2, .inr (.inr (.inr (.inr (rowE E S a))))) ∧ (tyl E)[(rkT m).1]? = some (cA, ty) ∧ ty.isReference = true := by
  subst h
  rcases (show S.2.1 a = 6 ∨ S.2.1 a = 7 by omega) with h | h
  · exact ⟨_, _, by simp only [cellE, h]; rfl, by rw [h]; rfl, rfl⟩
  · exact ⟨_, _, by simp only [cellE, h]; rfl, by rw [h]; rfl, rfl⟩
theorem s_alenR {a m : Nat} {v : Int32} (C : CtxOK X y) (d : decode y.2.1 pc = .ok (.arraylength, 1)) (hk : S.2.1 a = m) (hm : 6 ≤ m ∧ m ≤ 7) (hv : Int32.ofNat (rkT m).2 = v)
    (K : WM X y (pc + 1) ls (.int v :: st) S I k n) : WM X y pc ls (rfX X a :: st) S I k n := by
  intro H locs lsa r s l
  have ha : a < S.1 := rep_lt r (by omega)
  have he := ws_at (E := xE X) (S := S) (I := I) ha
  obtain ⟨cA, ty, h1, h2, h3⟩ := cell_r (E := xE X) (I := I) hk hm
  rw [h1] at he
  exact va_alen C.1 C.2.1 C.2.2.2.2.2.1 r.1 a _ he h2 hv d (K H locs lsa r s l)
theorem s_aald {a m b : Nat} {i : Int32} (C : CtxOK X y) (d : decode y.2.1 pc = .ok (.aaload, 1)) (hk : S.2.1 a = m) (hm : 6 ≤ m ∧ m ≤ 7) (hin : ¬ (i < 0 ∨ (rkT m).2 ≤ i.toNatClampNeg)) (hb : S.2.2 a i.toNatClampNeg = some b)
    (K : WM X y (pc + 1) ls (rfX X b :: st) S I k n) : WM X y pc ls (.int i :: rfX X a :: st) S I k n := by
  intro H locs lsa r s l
  have ha : a < S.1 := rep_lt r (by omega)
  have he := ws_at (E := xE X) (S := S) (I := I) ha
  obtain ⟨cA, ty, h1, h2, h3⟩ := cell_r (E := xE X) (I := I) hk hm
  rw [h1] at he
  have hlt : i.toNatClampNeg < (rkT m).2 := Nat.not_le.mp fun q => hin (Or.inr q)
  have hv : va_rf (rowE (xE X) S a i.toNatClampNeg) = rfX X b := by simp only [rowE, hb]; rfl
  exact W.aald (v := rfX X b) (ty := ty) C.1 C.2.1 (r.1 a _ he) ((C.2.2.2.2.2.1.2 _ _ h2).1 (rkT m).2 (fun j => va_rf (rowE (xE X) S a j))) h3 (fun q => by cases q) (by show ¬ (i < 0 ∨ (arrV _ _ _).slots.size ≤ _); rw [arrV_size]; exact hin) (by show (arrV _ _ _).slots[_]? = _; rw [arrV_read _ _ hlt, hv]) rfl rfl d (K H locs lsa r s l)
/-! calls -/
def QcR (E : Ev) (r : Option Value) (S : Sx) (I : Mm) : Array Value → State → Outcome → State → Prop := fun _ st oc t => (oc = .returned r ∧ RepU E S I t) ∧ va_F (Fr E) st t
def rmD (d k n : Nat) : Room := { frames := d, cells := k, slots := n, locals := 41 * d }
/-- a method's contract: with these arguments over the world (S, I) it returns r, the world then being (S', I') -/
def SemM (E : Ev) (d k n : Nat) (y : Yd) (args : List Value) (S : Sx) (I : Mm) (r : Option Value) (S' : Sx) (I' : Mm) : Prop :=
  ∀ l : Launch, Met l y.1 (GW y) (rmD d k n) (va_Pc args (fun U => RepU E S I U)) (QcR E r S' I') k n (Fr E)
/-- a context's goal is the contract's -/
def MX (X : Cx) (E : Ev) (d k n : Nat) (r : Option Value) (S' : Sx) (I' : Mm) : Prop := xE X = E ∧ xR X = rmD d k n ∧ xQ X = MQ (xb X) (QcR E r S' I') (xa X) (xs X) k n (Fr E)
theorem SemM.of {E : Ev} {d k n : Nat} {y : Yd} {args : List Value} {S S' : Sx} {I I' : Mm} {r : Option Value} {ls : List (Option Value)} (hy : plainName y.1.cls = true) (hsl : (lg_sl args).length ≤ y.2.2.1) (hls : lv_args 0 args = al 0 ls)
    (body : ∀ X : Cx, CtxOK X y → MX X E d k n r S' I' → WM X y 0 ls [] S I 0 0) : SemM E d k n y args S I r S' I' := by
  intro l
  refine Met.ofW (cc := y.2.1) (maxL := y.2.2.1) (ret := y.2.2.2) (ws' := lw_good) hy rfl ?_
  intro p e s m as below meth c s₁ B hml hv
  obtain ⟨rfl, hR, hK, hN⟩ := hv
  have hts := atoms_spec (ws := GW y) B.pre
  have hnm := name_of_methodNamed B.named B.method
  have hown : s.vm.findClass y.1.cls = some m.cls := findClass_of_methodNamed B.named
  have hbase : E.1.size ≤ s.heap.size := by rw [hR.2.1]; omega
  have hb := body (p, l, e, (headSpec (GW y) (rmD d k n)).room, s, m, args.toArray, below, meth, c, MQ below (QcR E r S' I') args.toArray s k n (Fr E), E)
    ⟨B.exec, B.bytes, hml, hown, fun w hw => hts w (List.mem_cons_of_mem _ hw), hK, B.returns, B.notSynchronized, fun h => hnm.1.trans h, hbase, hN⟩ ⟨rfl, rfl, rfl⟩
  have hl := lv_entry args (n := y.2.2.1) hsl
  rw [lg_entry_eq]
  generalize (lg_sl args ++ List.replicate (y.2.2.1 - (lg_sl args).length) Slot.unset).toArray = lsa at hl ⊢
  rw [hls] at hl
  exact hb s.heap [] lsa hR va_S.rf hl
def MthV (y : Yd) (c np : Nat) : Prop := Cond.instanceMethod y.1 ∈ lw_good ∧ Cond.selects y.1.cls y.1 y.1 ∈ lw_good ∧ Cond.initialized y.1.cls ∈ lw_good ∧ Cond.code y.1 y.2.1 y.2.2.1 y.2.2.2 ∈ lw_good ∧ (y.1.cls ≠ "java/lang/invoke/MethodHandle" ∧ y.1.cls ≠ "java/lang/invoke/VarHandle" ∧ (parseMethodDescriptor y.1.desc).map (fun d => d.parameters.length) = some np) ∧ y.2.2.1 ≤ 22 ∧ (∃ (T : u_T) (N : Nat), vwCl[c]? = some (y.1.cls, T, N)) ∧ c < 6
def MthS (y : Yd) (np : Nat) : Prop := Cond.static y.1 ∈ lw_good ∧ Cond.initialized y.1.cls ∈ lw_good ∧ Cond.code y.1 y.2.1 y.2.2.1 y.2.2.2 ∈ lw_good ∧ (y.1.cls ≠ "java/lang/invoke/MethodHandle" ∧ y.1.cls ≠ "java/lang/invoke/VarHandle" ∧ (parseMethodDescriptor y.1.desc).map (fun d => d.parameters.length) = some np) ∧ y.2.2.1 ≤ 22
theorem gwG {y : Yd} (h : Cond.code y.1 y.2.1 y.2.2.1 y.2.2.2 ∈ lw_good) : GoodIn lw_good (GW y) := by
  intro w hw
  rcases List.mem_cons.mp hw with rfl | hw
  · exact ⟨h, Or.inl rfl⟩
  · exact ⟨hw, good_of_word (List.mem_filter.mp hw).2⟩
theorem blind {E : Ev} {S : Sx} {I : Mm} {args : List Value} : FrameBlind (va_Pc args (fun U => RepU E S I U)) :=
  fun a U g mk q => ⟨q.1, q.2.1, va_K.moved (u := U) (U := U.calling g mk a) (Vm.Alike.refl U.vm) q.2.2.1, NW.same (u := U) (U := U.calling g mk a) rfl q.2.2.2⟩
/-- what comes back from a call -/
theorem s_back {mc ms : Nat} {r : Option Value} {S1 : Sx} {I1 : Mm} {st0 : List Value} {a : Array Value} {H : Heap} {locs : List Loc} {lsa : Array Slot} (C : CtxOK X y) (s : va_S (Fr (xE X)) (xs X).heap H locs) (l : lv_has lsa y.2.2.1 (al 0 ls))
    (hr : va_Run (xp X) (xl X) (xe X) (xR X) (xs X) (xm X) (xa X) (xb X) (xM X) (xc X) H locs k n mc ms (F0 (xm X) pc lsa st0) st (QcR (xE X) r S1 I1 a) (Fr (xE X)))
    (K : WM X y (pc + 3) ls (r.toList ++ st) S1 I1 (k + mc) (n + ms)) : W (xp X) (xl X) (xe X) (xR X) (xs X) (xm X) (xa X) (xb X) (xM X) (xc X) H locs k n (xQ X) (F0 (xm X) pc lsa st0) := by
  intro T hT Xs
  obtain ⟨v, st₀, t, T', L, h0, X', hL, e1, e2, ⟨⟨hv, hR1, -⟩, hz, hk⟩, step⟩ := hr T hT Xs
  cases hv
  rw [h0] at hz hk
  obtain ⟨t2, a1, b1⟩ := K T'.heap (locs ++ L) lsa (by rw [e1]; exact hR1)
    ⟨Nat.le_trans s.1 (by rw [e1]; exact hz), fun q h1 h2 => by rw [e1, hk q (Nat.lt_of_lt_of_le h1 s.1) h2]; exact s.2.1 q h1 h2, fun q hq => by
      rcases List.mem_append.mp hq with h | h
      · exact s.2.2 q h
      · exact hL q h⟩ l T' rfl X'
  exact ⟨t2, step t2 a1, b1⟩
theorem s_callV {c np ix a d d' kk nn mc ms : Nat} {yc : Yd} {as st0 : List Value} {r : Option Value} {S1 : Sx} {I1 : Mm} (C : CtxOK X y) (hR : xR X = rmD d kk nn) (hd : d' + 1 ≤ d) (hw : MthV yc c np) (hl : Cond.methodLink y.1.cls ix yc.1 ∈ lw_good) (dd : decode y.2.1 pc = .ok (.invokevirtual ix, 3))
    (hS : SemM (xE X) d' mc ms yc (rfX X a :: as) S I r S1 I1) (ha : S.2.1 a = c) (hlen : as.length = np) (hst : st0 = as.reverse ++ rfX X a :: st) (hcat : (st.map fun v => v.category).sum ≤ 8) (hc : k + mc ≤ kk) (hn : n + ms ≤ nn)
    (K : WM X y (pc + 3) ls (r.toList ++ st) S1 I1 (k + mc) (n + ms)) : WM X y pc ls st0 S I k n := by
  intro H locs lsa rp s l
  obtain ⟨h1, h2, h3, h4, h5, h6, ⟨T, N, h7⟩, h8⟩ := hw
  have hts := C.2.2.2.2.1
  have hal : a < S.1 := rep_lt rp (by omega)
  have he := ws_at (E := xE X) (S := S) (I := I) hal
  rw [cell_o ha h8] at he
  have cb : CallB (xR X) (xs X) (xa X) y.1.cls ix yc.1 yc.2.1 yc.2.2.1 yc.2.2.2 (GW yc) (rmD d' mc ms) mc ms np :=
    callB_of np hts (gwG h4) rfl rfl rfl (hts _ h3) (hts _ hl) h5 ⟨by rw [hR]; exact hd, by rw [hR]; show 8 + (yc.2.2.1 + 11) + 41 * d' ≤ 41 * d; omega⟩
  have hrun := va_runV (e := xe X) (g := F0 (xm X) pc lsa st0) (locs := locs) (cells := k) (slots := n) (rest := st) (below := xb X) (meth := xM X) ⟨C.1, C.2.1, C.2.2.1, C.2.2.2.1, hts⟩ (hS (xl X)) ⟨cb, hts _ h1, hts _ h2⟩
    ⟨blind, va_recv C.2.2.2.2.2.1 rp.1 h7 he, fun U hU hW => ⟨rfl, And.intro (show RepH (xE X) S I U.heap from hU ▸ rp) (And.intro (va_K.moved hW.alike C.2.2.2.2.2.1) (NW.warm hW C.2.2.2.2.2.2.2.2.2.2))⟩⟩ rfl hlen l.1 hst (lv_room hcat) dd ⟨by rw [hR]; exact hc, by rw [hR]; exact hn⟩
  exact s_back C s l hrun K
theorem s_callS {np ix d d' kk nn mc ms : Nat} {yc : Yd} {as st0 : List Value} {r : Option Value} {S1 : Sx} {I1 : Mm} (C : CtxOK X y) (hR : xR X = rmD d kk nn) (hd : d' + 1 ≤ d) (hw : MthS yc np) (hl : Cond.methodLink y.1.cls ix yc.1 ∈ lw_good) (dd : decode y.2.1 pc = .ok (.invokestatic ix, 3))
    (hS : SemM (xE X) d' mc ms yc as S I r S1 I1) (hlen : as.length = np) (hst : st0 = as.reverse ++ st) (hcat : (st.map fun v => v.category).sum ≤ 8) (hc : k + mc ≤ kk) (hn : n + ms ≤ nn)
    (K : WM X y (pc + 3) ls (r.toList ++ st) S1 I1 (k + mc) (n + ms)) : WM X y pc ls st0 S I k n := by
  intro H locs lsa rp s l
  obtain ⟨h1, h3, h4, h5, h6⟩ := hw
  have hts := C.2.2.2.2.1
  have cb : CallB (xR X) (xs X) (xa X) y.1.cls ix yc.1 yc.2.1 yc.2.2.1 yc.2.2.2 (GW yc) (rmD d' mc ms) mc ms np :=
    callB_of np hts (gwG h4) rfl rfl rfl (hts _ h3) (hts _ hl) h5 ⟨by rw [hR]; exact hd, by rw [hR]; show 8 + (yc.2.2.1 + 11) + 41 * d' ≤ 41 * d; omega⟩
  have hrun := va_runS (e := xe X) (g := F0 (xm X) pc lsa st0) (locs := locs) (cells := k) (slots := n) (rest := st) (below := xb X) (meth := xM X) ⟨C.1, C.2.1, C.2.2.1, C.2.2.2.1, hts⟩ (hS (xl X)) ⟨cb, hts _ h1⟩
    ⟨blind, fun U hU hW => ⟨rfl, And.intro (show RepH (xE X) S I U.heap from hU ▸ rp) (And.intro (va_K.moved hW.alike C.2.2.2.2.2.1) (NW.warm hW C.2.2.2.2.2.2.2.2.2.2))⟩⟩ rfl hlen l.1 hst (lv_room hcat) dd ⟨by rw [hR]; exact hc, by rw [hR]; exact hn⟩
  exact s_back C s l hrun K
/-! ends -/
theorem s_end {E : Ev} {r : Option Value} {H : Heap} {locs : List Loc} {t : State} (C : CtxOK X y) (rp : RepH (xE X) S I H) (s : va_S (Fr (xE X)) (xs X).heap H locs) (hE : xE X = E) (ht : t.heap = H) (hW : (xs X).WarmedH t.vm) : QcR E r S I (xa X) (xs X) (.returned r) t := by
  subst hE
  exact ⟨⟨rfl, And.intro (show RepH (xE X) S I t.heap from ht ▸ rp) (And.intro (va_K.moved hW.alike C.2.2.2.2.2.1) (NW.warm hW C.2.2.2.2.2.2.2.2.2.2))⟩, s.F ht⟩
theorem s_iret {E : Ev} {d k' n' : Nat} {v : Int32} {ty : FieldType} (C : CtxOK X y) (M : MX X E d k' n' (some (.int v)) S I) (dd : decode y.2.1 pc = .ok (.ireturn, 1)) (hret : y.2.2.2 = some ty) (hn : narrow ty (.int v) = .int v) (hk : k ≤ k') (hn' : n ≤ n') : WM X y pc ls [.int v] S I k n := by
  intro H locs lsa rp s l
  obtain ⟨hE, hR, hQ⟩ := M
  rw [hQ]
  refine W.widen hk hn' (W.zret C.1 C.2.1 (C.2.2.2.2.2.2.1.trans hret) hn (fun t ht hW => s_end C rp s hE ht hW) ?_ dd C.2.2.2.2.2.2.2.1)
  rw [← hE]; exact s.2.2
theorem s_lret {E : Ev} {d k' n' : Nat} {v : Int64} (C : CtxOK X y) (M : MX X E d k' n' (some (.long v)) S I) (dd : decode y.2.1 pc = .ok (.lreturn, 1)) (hret : y.2.2.2 = some .long) (hk : k ≤ k') (hn' : n ≤ n') : WM X y pc ls [.long v] S I k n := by
  intro H locs lsa rp s l
  obtain ⟨hE, hR, hQ⟩ := M
  rw [hQ]
  refine W.widen hk hn' (W.lret C.1 C.2.1 (C.2.2.2.2.2.2.1.trans hret) (fun t ht hW => s_end C rp s hE ht hW) ?_ dd C.2.2.2.2.2.2.2.1)
  rw [← hE]; exact s.2.2
theorem s_vret {E : Ev} {d k' n' : Nat} (C : CtxOK X y) (M : MX X E d k' n' none S I) (dd : decode y.2.1 pc = .ok (.return_, 1)) (hret : y.2.2.2 = none) (hk : k ≤ k') (hn' : n ≤ n') : WM X y pc ls [] S I k n := by
  intro H locs lsa rp s l
  obtain ⟨hE, hR, hQ⟩ := M
  rw [hQ]
  refine W.widen hk hn' (W.vret C.1 C.2.1 (C.2.2.2.2.2.2.1.trans hret) (fun t ht hW => s_end C rp s hE ht hW) ?_ dd C.2.2.2.2.2.2.2.1)
  rw [← hE]; exact s.2.2
theorem s_aret {E : Ev} {d k' n' : Nat} {o : Option Nat} {rt : FieldType} (C : CtxOK X y) (M : MX X E d k' n' (some (rvE E o)) S I) (dd : decode y.2.1 pc = .ok (.areturn, 1)) (hret : y.2.2.2 = some rt) (hrt : (∃ n, rt = .object n) ∨ ∃ t, rt = .array t) (hk : k ≤ k') (hn' : n ≤ n') : WM X y pc ls [rvE (xE X) o] S I k n := by
  intro H locs lsa rp s l
  obtain ⟨hE, hR, hQ⟩ := M
  rw [hQ]
  refine W.widen hk hn' (W.aret C.1 C.2.1 (C.2.2.2.2.2.2.1.trans hret) hrt (by cases o with | none => exact Or.inl rfl | some x => exact Or.inr ⟨_, rfl⟩) (fun t ht hW => hE ▸ s_end C rp s rfl ht hW) ?_ dd C.2.2.2.2.2.2.2.1)
  rw [← hE]; exact s.2.2
end RL3
end
section
/-! ===== the finished world ===== -/
def kdL : List Nat := [4, 3, 6, 1, 40, 40, 40, 1, 40, 40, 40, 1, 40, 40, 40, 3, 6, 1, 40, 40, 40, 1, 40, 40, 40, 1, 40, 40, 40, 7, 2, 70, 2, 70, 0, 30, 70, 3, 6, 1, 40, 40, 40, 1, 40, 40, 40, 1, 40, 40, 40, 3, 6, 1, 40, 40, 40, 1, 40, 40, 40, 1, 40, 40, 40, 3, 6, 1, 40, 40, 40, 1, 40, 40, 40, 1, 40, 40, 40, 3, 6, 1, 40, 40, 40, 1, 40, 40, 40, 1, 40, 40, 40, 3, 6, 1, 40, 40, 40, 1, 40, 40, 40, 1, 40, 40, 40, 3, 6, 1, 40, 40, 40, 1, 40, 40, 40, 1, 40, 40, 40, 3, 6, 1, 40, 40, 40, 1, 40, 40, 40, 1, 40, 40, 40, 3, 6, 1, 40, 40, 40, 1, 40, 40, 40, 1, 40, 40, 40, 3, 6, 1, 40, 40, 40, 1, 40, 40, 40, 1, 40, 40, 40]
def kd0 (a : Nat) : Nat := kdL.getD a 9
def R0k (k a j : Nat) : Option Nat := match k with
  | 4 => (match j with | 0 => some 1 | 1 => some 15 | 3 => some 29 | 6 => some 30 | 7 => some 32 | 8 => some 34 | _ => none)
  | 3 => (match j with | 0 => some (a + 1) | _ => none)
  | 6 => if j < 3 then some (a + 1 + 4 * j) else none
  | 1 => if j < 3 then some (a + 1 + j) else none
  | 7 => if j < 9 then some (37 + 14 * j) else none
  | 2 => (match j with | 0 => some (a + 1) | _ => none)
  | 0 => (match j with | 0 => some 35 | 1 => some 36 | _ => none)
  | _ => none
def R0 (a j : Nat) : Option Nat := R0k (kd0 a) a j
abbrev S0 : Sx := (163, kd0, R0)
theorem kd_lt {a : Nat} (h : kd0 a ≠ 9) : a < 163 := by
  rcases Nat.lt_or_ge a 163 with q | q
  · exact q
  · exact absurd (by unfold kd0; rw [List.getD_eq_getElem?_getD, List.getElem?_eq_none (by show 163 ≤ a; exact q)]; rfl) h
theorem kd1a : ∀ a, a < 163 → kd0 a = 1 → kd0 (a + 1) = 40 ∧ kd0 (a + 2) = 40 ∧ kd0 (a + 3) = 40 := by decide +kernel
theorem kd1 {a : Nat} (h : kd0 a = 1) : kd0 (a + 1) = 40 ∧ kd0 (a + 2) = 40 ∧ kd0 (a + 3) = 40 := kd1a a (kd_lt (by omega)) h
theorem kd2a : ∀ a, a < 163 → kd0 a = 2 → kd0 (a + 1) = 70 := by decide +kernel
theorem kd2 {a : Nat} (h : kd0 a = 2) : kd0 (a + 1) = 70 := kd2a a (kd_lt (by omega)) h
theorem kd3a : ∀ a, a < 163 → kd0 a = 3 → kd0 (a + 1) = 6 := by decide +kernel
theorem kd3 {a : Nat} (h : kd0 a = 3) : kd0 (a + 1) = 6 := kd3a a (kd_lt (by omega)) h
theorem kd6a : ∀ a, a < 163 → kd0 a = 6 → ∀ j, j < 3 → kd0 (a + 1 + 4 * j) = 1 := by decide +kernel
theorem kd6 {a j : Nat} (h : kd0 a = 6) (hj : j < 3) : kd0 (a + 1 + 4 * j) = 1 := kd6a a (kd_lt (by omega)) h j hj
theorem kd7 {j : Nat} (hj : j < 9) : kd0 (37 + 14 * j) = 3 := (by decide +kernel : ∀ j, j < 9 → kd0 (37 + 14 * j) = 3) j hj
theorem rr1 {a : Nat} (h : kd0 a = 1) : R0 a 0 = some (a + 1) ∧ R0 a 1 = some (a + 2) ∧ R0 a 2 = some (a + 3) := by unfold R0; rw [h]; exact ⟨rfl, rfl, rfl⟩
theorem rr2 {a : Nat} (h : kd0 a = 2) : R0 a 0 = some (a + 1) := by unfold R0; rw [h]; rfl
theorem rr3 {a : Nat} (h : kd0 a = 3) : R0 a 0 = some (a + 1) := by unfold R0; rw [h]; rfl
theorem rr6 {a j : Nat} (h : kd0 a = 6) (hj : j < 3) : R0 a j = some (a + 1 + 4 * j) := by unfold R0; rw [h]; exact if_pos hj
theorem rr7 {a j : Nat} (h : kd0 a = 7) (hj : j < 9) : R0 a j = some (37 + 14 * j) := by unfold R0; rw [h]; exact if_pos hj
theorem ck_lt {i : Int32} {m : Nat} (h : ¬ (i < 0 ∨ m ≤ i.toNatClampNeg)) : i.toNatClampNeg < m := Nat.not_le.mp fun q => h (Or.inr q)
theorem kk_0 : kd0 0 = 4 := by decide +kernel
theorem kk_29 : kd0 29 = 7 := by decide +kernel
theorem kk_30 : kd0 30 = 2 := by decide +kernel
theorem kk_31 : kd0 31 = 70 := by decide +kernel
theorem kk_32 : kd0 32 = 2 := by decide +kernel
theorem kk_33 : kd0 33 = 70 := by decide +kernel
theorem kk_34 : kd0 34 = 0 := by decide +kernel
theorem kk_35 : kd0 35 = 30 := by decide +kernel
theorem kk_36 : kd0 36 = 70 := by decide +kernel
theorem kk_1 : kd0 1 = 3 := by decide +kernel
theorem kk_15 : kd0 15 = 3 := by decide +kernel
theorem rk_0_0 : R0 0 0 = some 1 := by decide +kernel
theorem rk_0_1 : R0 0 1 = some 15 := by decide +kernel
theorem rk_0_3 : R0 0 3 = some 29 := by decide +kernel
theorem rk_0_6 : R0 0 6 = some 30 := by decide +kernel
theorem rk_0_7 : R0 0 7 = some 32 := by decide +kernel
theorem rk_0_8 : R0 0 8 = some 34 := by decide +kernel
theorem rk_34_0 : R0 34 0 = some 35 := by decide +kernel
theorem rk_34_1 : R0 34 1 = some 36 := by decide +kernel
/-! control words of the functions that the methods are -/
def bd {α β : Type} (o : Option (α × Mm)) (k : α → Mm → Option β) : Option β := match o with
  | some q => k q.1 q.2
  | none => none
def ltm {α β : Type} (a : α) (k : α → β) : β := k a
def onm {β : Type} (o : Option Nat) (A : β) (B : Nat → β) : β := match o with
  | none => A
  | some a => B a
theorem bd_e {α β : Type} {o : Option (α × Mm)} {k : α → Mm → Option β} {x : β} (h : bd o k = some x) : ∃ (a : α) (I : Mm), o = some (a, I) ∧ k a I = some x := by
  cases o with
  | none => cases h
  | some q => exact ⟨q.1, q.2, rfl, h⟩
theorem ltm_e {α β : Type} {a : α} {k : α → Option β} {x : β} (h : ltm a k = some x) : ∃ b, b = a ∧ k b = some x := ⟨a, rfl, h⟩
theorem it_t {c : Prop} [Decidable c] {β : Type} {a b : Option β} {x : β} (hc : c) (h : (if c then a else b) = some x) : a = some x := by rwa [if_pos hc] at h
theorem it_f {c : Prop} [Decidable c] {β : Type} {a b : Option β} {x : β} (hc : ¬ c) (h : (if c then a else b) = some x) : b = some x := by rwa [if_neg hc] at h
theorem it_n {c : Prop} [Decidable c] {β : Type} {a : Option β} {x : β} (h : (if c then none else a) = some x) : ¬ c ∧ a = some x := by
  by_cases hc : c
  · rw [if_pos hc] at h; cases h
  · rw [if_neg hc] at h; exact ⟨hc, h⟩
theorem it_s {c : Prop} [Decidable c] {β : Type} {a : Option β} {x : β} (h : (if c then a else none) = some x) : c ∧ a = some x := by
  by_cases hc : c
  · rw [if_pos hc] at h; exact ⟨hc, h⟩
  · rw [if_neg hc] at h; cases h
theorem nz_b {v : Int32} (h : v = 0 ∨ v = 1) : narrow .boolean (.int v) = .int v := by rcases h with rfl | rfl <;> rfl
theorem fz_b {v : Int32} (h : v = 0 ∨ v = 1) : fits .boolean (.int v) = true := by rcases h with rfl | rfl <;> rfl
theorem ne_i {x z : Int32} (k : Int) (hz : z.toInt = k) (h : ¬ x = z) : x.toInt ≠ k := fun q => h (Int32.toInt_inj.mp (q.trans hz.symm))
def mxI (a b : Int32) : Int32 := if a < b then b else a
def mnI (a b : Int32) : Int32 := if b < a then b else a
def cpI (I : Mm) (s t n : Nat) : Mm := fun b k => if b = t ∧ k < n then I s k else I b k
section RL5
variable {X : Cx} {y : Yd} {pc : Nat} {ls ls' : List (Option Value)} {st : List Value} {S : Sx} {I I1 : Mm} {k n : Nat}
def RG (X : Cx) (d kk nn : Nat) : Prop := d ≤ (xR X).frames ∧ 41 * d ≤ (xR X).locals ∧ kk ≤ (xR X).cells ∧ nn ≤ (xR X).slots
theorem MX.rg {E : Ev} {d k' n' : Nat} {r : Option Value} {S' : Sx} {I' : Mm} (M : MX X E d k' n' r S' I') : RG X d k' n' := by
  obtain ⟨-, h, -⟩ := M
  rw [RG, h]
  exact ⟨Nat.le_refl _, Nat.le_refl _, Nat.le_refl _, Nat.le_refl _⟩
theorem s_top_i {v w' : Int32} (e : v = w') (K : WM X y pc ls (.int v :: st) S I k n) : WM X y pc ls (.int w' :: st) S I k n := e ▸ K
theorem s_top_l {v w' : Int64} (e : v = w') (K : WM X y pc ls (.long v :: st) S I k n) : WM X y pc ls (.long w' :: st) S I k n := e ▸ K
theorem s_top_f {v w' : UInt32} (e : v = w') (K : WM X y pc ls (.float v :: st) S I k n) : WM X y pc ls (.float w' :: st) S I k n := e ▸ K
theorem s_top_d {v w' : UInt64} (e : v = w') (K : WM X y pc ls (.double v :: st) S I k n) : WM X y pc ls (.double w' :: st) S I k n := e ▸ K
theorem s_putI {a c j ix : Nat} {v : Int32} (C : CtxOK X y) (d : decode y.2.1 pc = .ok (.putfield ix, 3)) (hk : S.2.1 a = c) (hf : PutOK y.1.cls ix c j .int) (hr : isR c j = false) (e : I1 = wr I a j v)
    (K : WM X y (pc + 3) ls st S I1 k n) : WM X y pc ls (.int v :: rfX X a :: st) S I k n := s_putT C d hk hf hr rfl rfl (e ▸ K)
theorem s_putZ {a c j ix : Nat} {v : Int32} (C : CtxOK X y) (d : decode y.2.1 pc = .ok (.putfield ix, 3)) (hk : S.2.1 a = c) (hf : PutOK y.1.cls ix c j .boolean) (hr : isR c j = false) (hz : v = 0 ∨ v = 1) (e : I1 = wr I a j v)
    (K : WM X y (pc + 3) ls st S I1 k n) : WM X y pc ls (.int v :: rfX X a :: st) S I k n := s_putT C d hk hf hr (nz_b hz) (fz_b hz) (e ▸ K)
theorem s_ald {a m q : Nat} {i : Int32} (C : CtxOK X y) (d : decode y.2.1 pc = .ok (.iaload, 1)) (hk : S.2.1 a = m) (hm : 10 ≤ m) (hj : i.toNatClampNeg = q) (hin : ¬ (i < 0 ∨ m - 10 ≤ i.toNatClampNeg))
    (K : WM X y (pc + 1) ls (.int (I a q) :: st) S I k n) : WM X y pc ls (.int i :: rfX X a :: st) S I k n := s_iald C d hk hm hin (hj ▸ K)
theorem s_ast {a m q : Nat} {i v : Int32} (C : CtxOK X y) (d : decode y.2.1 pc = .ok (.iastore, 1)) (hk : S.2.1 a = m) (hm : 10 ≤ m) (hj : i.toNatClampNeg = q) (hin : ¬ (i < 0 ∨ m - 10 ≤ i.toNatClampNeg)) (e : I1 = wr I a q v)
    (K : WM X y (pc + 1) ls st S I1 k n) : WM X y pc ls (.int v :: .int i :: rfX X a :: st) S I k n := s_iast C d hk hm hin (hj ▸ e ▸ K)
theorem s_cV {c np ix a d d' kk nn mc ms : Nat} {yc : Yd} {as st0 : List Value} {r : Option Value} {S1 : Sx} (C : CtxOK X y) (hR : RG X d kk nn) (hd : d' + 1 ≤ d) (hw : MthV yc c np) (hl : Cond.methodLink y.1.cls ix yc.1 ∈ lw_good) (dd : decode y.2.1 pc = .ok (.invokevirtual ix, 3))
    (hS : SemM (xE X) d' mc ms yc (rfX X a :: as) S I r S1 I1) (ha : S.2.1 a = c) (hlen : as.length = np) (hst : st0 = as.reverse ++ rfX X a :: st) (hcat : (st.map fun v => v.category).sum ≤ 8) (hc : k + mc ≤ kk) (hn : n + ms ≤ nn)
    (K : WM X y (pc + 3) ls (r.toList ++ st) S1 I1 (k + mc) (n + ms)) : WM X y pc ls st0 S I k n := by
  intro H locs lsa rp s l
  obtain ⟨h1, h2, h3, h4, h5, h6, ⟨T, N, h7⟩, h8⟩ := hw
  obtain ⟨g1, g2, g3, g4⟩ := hR
  have hts := C.2.2.2.2.1
  have hal : a < S.1 := rep_lt rp (by omega)
  have he := ws_at (E := xE X) (S := S) (I := I) hal
  rw [cell_o ha h8] at he
  have cb : CallB (xR X) (xs X) (xa X) y.1.cls ix yc.1 yc.2.1 yc.2.2.1 yc.2.2.2 (GW yc) (rmD d' mc ms) mc ms np :=
    callB_of np hts (gwG h4) rfl rfl rfl (hts _ h3) (hts _ hl) h5 ⟨Nat.le_trans hd g1, Nat.le_trans (show 8 + (yc.2.2.1 + 11) + 41 * d' ≤ 41 * d by omega) g2⟩
  have hrun := va_runV (e := xe X) (g := F0 (xm X) pc lsa st0) (locs := locs) (cells := k) (slots := n) (rest := st) (below := xb X) (meth := xM X) ⟨C.1, C.2.1, C.2.2.1, C.2.2.2.1, hts⟩ (hS (xl X)) ⟨cb, hts _ h1, hts _ h2⟩
    ⟨blind, va_recv C.2.2.2.2.2.1 rp.1 h7 he, fun U hU hW => ⟨rfl, And.intro (show RepH (xE X) S I U.heap from hU ▸ rp) (And.intro (va_K.moved hW.alike C.2.2.2.2.2.1) (NW.warm hW C.2.2.2.2.2.2.2.2.2.2))⟩⟩ rfl hlen l.1 hst (lv_room hcat) dd ⟨Nat.le_trans hc g3, Nat.le_trans hn g4⟩
  exact s_back C s l hrun K
theorem s_cS {np ix d d' kk nn mc ms : Nat} {yc : Yd} {as st0 : List Value} {r : Option Value} {S1 : Sx} (C : CtxOK X y) (hR : RG X d kk nn) (hd : d' + 1 ≤ d) (hw : MthS yc np) (hl : Cond.methodLink y.1.cls ix yc.1 ∈ lw_good) (dd : decode y.2.1 pc = .ok (.invokestatic ix, 3))
    (hS : SemM (xE X) d' mc ms yc as S I r S1 I1) (hlen : as.length = np) (hst : st0 = as.reverse ++ st) (hcat : (st.map fun v => v.category).sum ≤ 8) (hc : k + mc ≤ kk) (hn : n + ms ≤ nn)
    (K : WM X y (pc + 3) ls (r.toList ++ st) S1 I1 (k + mc) (n + ms)) : WM X y pc ls st0 S I k n := by
  intro H locs lsa rp s l
  obtain ⟨h1, h3, h4, h5, h6⟩ := hw
  obtain ⟨g1, g2, g3, g4⟩ := hR
  have hts := C.2.2.2.2.1
  have cb : CallB (xR X) (xs X) (xa X) y.1.cls ix yc.1 yc.2.1 yc.2.2.1 yc.2.2.2 (GW yc) (rmD d' mc ms) mc ms np :=
    callB_of np hts (gwG h4) rfl rfl rfl (hts _ h3) (hts _ hl) h5 ⟨Nat.le_trans hd g1, Nat.le_trans (show 8 + (yc.2.2.1 + 11) + 41 * d' ≤ 41 * d by omega) g2⟩
  have hrun := va_runS (e := xe X) (g := F0 (xm X) pc lsa st0) (locs := locs) (cells := k) (slots := n) (rest := st) (below := xb X) (meth := xM X) ⟨C.1, C.2.1, C.2.2.1, C.2.2.2.1, hts⟩ (hS (xl X)) ⟨cb, hts _ h1⟩
    ⟨blind, fun U hU hW => ⟨rfl, And.intro (show RepH (xE X) S I U.heap from hU ▸ rp) (And.intro (va_K.moved hW.alike C.2.2.2.2.2.1) (NW.warm hW C.2.2.2.2.2.2.2.2.2.2))⟩⟩ rfl hlen l.1 hst (lv_room hcat) dd ⟨Nat.le_trans hc g3, Nat.le_trans hn g4⟩
  exact s_back C s l hrun K
theorem s_max {ix d kk nn : Nat} {a b : Int32} (C : CtxOK X y) (hR : RG X d kk nn) (hd : 1 ≤ d) (hl : Cond.methodLink y.1.cls ix Lib.Math.max.name ∈ lw_good) (dd : decode y.2.1 pc = .ok (.invokestatic ix, 3)) (w1 : Cond.static Lib.Math.max.name ∈ lw_good) (w2 : Cond.initialized "java/lang/Math" ∈ lw_good) (w3 : Cond.code Lib.Math.max.name Lib.Math.max.code 2 (some .int) ∈ lw_good) (hcat : (st.map fun v => v.category).sum ≤ 8) (hc : k ≤ kk) (hn : n ≤ nn)
    (K : WM X y (pc + 3) ls (.int (mxI a b) :: st) S I k n) : WM X y pc ls (.int b :: .int a :: st) S I k n := fun H locs lsa r s l =>
  va_mmax C.1 C.2.1 (C.2.2.1.trans l.1.symm) C.2.2.2.1 (C.2.2.2.2.1 _ hl) (C.2.2.2.2.1 _ w1) (C.2.2.2.2.1 _ w2) (C.2.2.2.2.1 _ w3) (Nat.le_trans hd hR.1) (Nat.le_trans (by omega) hR.2.1) (Nat.le_trans hc hR.2.2.1) (Nat.le_trans hn hR.2.2.2) dd (K H locs lsa r s l)
theorem s_min {ix d kk nn : Nat} {a b : Int32} (C : CtxOK X y) (hR : RG X d kk nn) (hd : 1 ≤ d) (hl : Cond.methodLink y.1.cls ix Lib.Math.min.name ∈ lw_good) (dd : decode y.2.1 pc = .ok (.invokestatic ix, 3)) (w1 : Cond.static Lib.Math.min.name ∈ lw_good) (w2 : Cond.initialized "java/lang/Math" ∈ lw_good) (w3 : Cond.code Lib.Math.min.name Lib.Math.min.code 2 (some .int) ∈ lw_good) (hcat : (st.map fun v => v.category).sum ≤ 8) (hc : k ≤ kk) (hn : n ≤ nn)
    (K : WM X y (pc + 3) ls (.int (mnI a b) :: st) S I k n) : WM X y pc ls (.int b :: .int a :: st) S I k n := fun H locs lsa r s l =>
  va_mmin C.1 C.2.1 (C.2.2.1.trans l.1.symm) C.2.2.2.1 (C.2.2.2.2.1 _ hl) (C.2.2.2.2.1 _ w1) (C.2.2.2.2.1 _ w2) (C.2.2.2.2.1 _ w3) (Nat.le_trans hd hR.1) (Nat.le_trans (by omega) hR.2.1) (Nat.le_trans hc hR.2.2.1) (Nat.le_trans hn hR.2.2.2) dd (K H locs lsa r s l)
end RL5
/-! calls in a world that doesn't grow -/
section RL6
variable {X : Cx} {y : Yd} {pc : Nat} {ls ls' : List (Option Value)} {st : List Value} {I I1 : Mm} {k n : Nat}
theorem s_cV0 {c np ix a d d' : Nat} {yc : Yd} {as st0 : List Value} {r : Option Value} (C : CtxOK X y) (hR : RG X d k n) (hd : d' + 1 ≤ d) (hw : MthV yc c np) (hl : Cond.methodLink y.1.cls ix yc.1 ∈ lw_good) (dd : decode y.2.1 pc = .ok (.invokevirtual ix, 3))
    (hS : SemM (xE X) d' 0 0 yc (rfX X a :: as) S0 I r S0 I1) (ha : kd0 a = c) (hlen : as.length = np) (hst : st0 = as.reverse ++ rfX X a :: st) (hcat : (st.map fun v => v.category).sum ≤ 8)
    (K : WM X y (pc + 3) ls (r.toList ++ st) S0 I1 k n) : WM X y pc ls st0 S0 I k n := s_cV C hR hd hw hl dd hS ha hlen hst hcat (Nat.le_refl k) (Nat.le_refl n) K
theorem s_cS0 {np ix d d' : Nat} {yc : Yd} {as st0 : List Value} {r : Option Value} (C : CtxOK X y) (hR : RG X d k n) (hd : d' + 1 ≤ d) (hw : MthS yc np) (hl : Cond.methodLink y.1.cls ix yc.1 ∈ lw_good) (dd : decode y.2.1 pc = .ok (.invokestatic ix, 3))
    (hS : SemM (xE X) d' 0 0 yc as S0 I r S0 I1) (hlen : as.length = np) (hst : st0 = as.reverse ++ st) (hcat : (st.map fun v => v.category).sum ≤ 8)
    (K : WM X y (pc + 3) ls (r.toList ++ st) S0 I1 k n) : WM X y pc ls st0 S0 I k n := s_cS C hR hd hw hl dd hS hlen hst hcat (Nat.le_refl k) (Nat.le_refl n) K
end RL6
theorem SemM.ofX {E : Ev} {d k n : Nat} {y : Yd} {args : Ev → List Value} {S S' : Sx} {I I' : Mm} {r : Ev → Option Value} (ls : Ev → List (Option Value)) (hy : plainName y.1.cls = true) (hsl : (lg_sl (args E)).length ≤ y.2.2.1) (hls : lv_args 0 (args E) = al 0 (ls E))
    (body : ∀ X : Cx, CtxOK X y → MX X (xE X) d k n (r (xE X)) S' I' → WM X y 0 (ls (xE X)) [] S I 0 0) : SemM E d k n y (args E) S I (r E) S' I' :=
  SemM.of hy hsl hls (fun X C M => by
    obtain ⟨h1, h2, h3⟩ := M
    subst h1
    exact body X C ⟨rfl, h2, h3⟩)
abbrev rfE (E : Ev) (k : Nat) : Value := .ref (E.1.size + k)
end
section
/-! what each method is, by the tables -/
abbrev mX0_init : Yd := (yX0_init, cX0_init, 1, none)
abbrev mX0_signOf : Yd := (yX0_signOf, cX0_signOf, 2, (some .int))
abbrev mX0_numberOf : Yd := (yX0_numberOf, cX0_numberOf, 4, (some .int))
abbrev mX0_read : Yd := (yX0_read, cX0_read, 4, (some .int))
abbrev mX0_isOrder : Yd := (yX0_isOrder, cX0_isOrder, 3, (some .boolean))
abbrev mX0_isCode : Yd := (yX0_isCode, cX0_isCode, 3, (some .boolean))
abbrev mX0_isNumber : Yd := (yX0_isNumber, cX0_isNumber, 6, (some .boolean))
abbrev mX0_isDigit : Yd := (yX0_isDigit, cX0_isDigit, 1, (some .boolean))
abbrev mX1_init : Yd := (yX1_init, cX1_init, 1, none)
abbrev mX1_isPlace : Yd := (yX1_isPlace, cX1_isPlace, 2, (some .boolean))
abbrev mX1_weightAt : Yd := (yX1_weightAt, cX1_weightAt, 2, (some .int))
abbrev mX1_loadAt : Yd := (yX1_loadAt, cX1_loadAt, 2, (some .int))
abbrev mX1_depthAt : Yd := (yX1_depthAt, cX1_depthAt, 2, (some .int))
abbrev mX1_find : Yd := (yX1_find, cX1_find, 3, (some .int))
abbrev mX1_firstOf : Yd := (yX1_firstOf, cX1_firstOf, 3, (some .int))
abbrev mX1_lastOf : Yd := (yX1_lastOf, cX1_lastOf, 3, (some .int))
abbrev mX1_topOf : Yd := (yX1_topOf, cX1_topOf, 5, (some .int))
abbrev mX1_above : Yd := (yX1_above, cX1_above, 5, (some .int))
abbrev mX1_leans : Yd := (yX1_leans, cX1_leans, 6, (some .boolean))
abbrev mX1_loadsFrom : Yd := (yX1_loadsFrom, cX1_loadsFrom, 5, (some .int))
abbrev mX1_depths : Yd := (yX1_depths, cX1_depths, 3, (some .int))
abbrev mX1_greatestDepth : Yd := (yX1_greatestDepth, cX1_greatestDepth, 3, (some .int))
abbrev mX1_leaning : Yd := (yX1_leaning, cX1_leaning, 4, (some .int))
abbrev mX1_lowest : Yd := (yX1_lowest, cX1_lowest, 3, (some .int))
abbrev mX1_cartsUpTo : Yd := (yX1_cartsUpTo, cX1_cartsUpTo, 6, (some .int))
abbrev mX1_lighterByParts : Yd := (yX1_lighterByParts, cX1_lighterByParts, 7, (some .int))
abbrev mX1_lighterOneByOne : Yd := (yX1_lighterOneByOne, cX1_lighterOneByOne, 4, (some .int))
abbrev mX1_loadsByParts : Yd := (yX1_loadsByParts, cX1_loadsByParts, 3, (some .int))
abbrev mX1_loadsOfLighter : Yd := (yX1_loadsOfLighter, cX1_loadsOfLighter, 8, (some .int))
abbrev mX1_loadsOneByOne : Yd := (yX1_loadsOneByOne, cX1_loadsOneByOne, 5, (some .int))
abbrev mX1_isInOrder : Yd := (yX1_isInOrder, cX1_isInOrder, 2, (some .boolean))
abbrev mX1_lay : Yd := (yX1_lay, cX1_lay, 6, (some .int))
abbrev mX1_lift : Yd := (yX1_lift, cX1_lift, 5, none)
abbrev mX1_buildPartAbove : Yd := (yX1_buildPartAbove, cX1_buildPartAbove, 7, (some .int))
abbrev mX1_buildWhole : Yd := (yX1_buildWhole, cX1_buildWhole, 1, (some .int))
abbrev mX1_spread : Yd := (yX1_spread, cX1_spread, 6, (some .int))
abbrev mX1_raise : Yd := (yX1_raise, cX1_raise, 4, none)
abbrev mX1_set : Yd := (yX1_set, cX1_set, 5, none)
abbrev mX1_setDepth : Yd := (yX1_setDepth, cX1_setDepth, 3, none)
abbrev mX1_copyFrom : Yd := (yX1_copyFrom, cX1_copyFrom, 2, none)
abbrev mX2_init : Yd := (yX2_init, cX2_init, 1, none)
abbrev mX2_clear : Yd := (yX2_clear, cX2_clear, 1, none)
abbrev mX2_add : Yd := (yX2_add, cX2_add, 2, (some .boolean))
abbrev mX2_addNumber : Yd := (yX2_addNumber, cX2_addNumber, 2, none)
abbrev mX2_codeAt : Yd := (yX2_codeAt, cX2_codeAt, 2, (some .int))
abbrev mX3_init : Yd := (yX3_init, cX3_init, 2, none)
abbrev mX3_rickAt : Yd := (yX3_rickAt, cX3_rickAt, 2, (some (.object "LeaningRicks$Rick")))
abbrev mX3_sheaves : Yd := (yX3_sheaves, cX3_sheaves, 4, (some .int))
abbrev mX3_loads : Yd := (yX3_loads, cX3_loads, 4, (some .int))
abbrev mX3_keyAfter : Yd := (yX3_keyAfter, cX3_keyAfter, 8, (some .int))
abbrev mX3_copyFrom : Yd := (yX3_copyFrom, cX3_copyFrom, 5, none)
abbrev mX4_init : Yd := (yX4_init, cX4_init, 2, none)
abbrev mX4_put : Yd := (yX4_put, cX4_put, 4, (some .int))
abbrev mX4_take : Yd := (yX4_take, cX4_take, 3, (some .int))
abbrev mX4_build : Yd := (yX4_build, cX4_build, 2, (some .int))
abbrev mX4_pour : Yd := (yX4_pour, cX4_pour, 3, (some .int))
abbrev mX4_limit : Yd := (yX4_limit, cX4_limit, 2, (some .int))
abbrev mX4_sheafOf : Yd := (yX4_sheafOf, cX4_sheafOf, 8, (some .int))
abbrev mX4_rickOf : Yd := (yX4_rickOf, cX4_rickOf, 4, (some .int))
abbrev mX4_rank : Yd := (yX4_rank, cX4_rank, 4, (some .int))
abbrev mX4_rankAgain : Yd := (yX4_rankAgain, cX4_rankAgain, 4, (some .int))
abbrev mX4_at : Yd := (yX4_at, cX4_at, 4, (some .int))
abbrev mX4_between : Yd := (yX4_between, cX4_between, 5, (some .int))
abbrev mX4_betweenAgain : Yd := (yX4_betweenAgain, cX4_betweenAgain, 5, (some .int))
abbrev mX4_heaviest : Yd := (yX4_heaviest, cX4_heaviest, 4, (some .int))
abbrev mX4_carts : Yd := (yX4_carts, cX4_carts, 4, (some .int))
abbrev mX4_cartOf : Yd := (yX4_cartOf, cX4_cartOf, 6, (some .int))
abbrev mX4_shape : Yd := (yX4_shape, cX4_shape, 3, (some .long))
abbrev mX4_weights : Yd := (yX4_weights, cX4_weights, 8, (some .long))
abbrev mX4_leaningShare : Yd := (yX4_leaningShare, cX4_leaningShare, 3, (some .int))
abbrev mX4_meanDepth : Yd := (yX4_meanDepth, cX4_meanDepth, 3, (some .long))
abbrev mX4_append : Yd := (yX4_append, cX4_append, 2, (some .int))
abbrev mX4_run : Yd := (yX4_run, cX4_run, 3, (some .int))
abbrev mX4_tell : Yd := (yX4_tell, cX4_tell, 3, (some .int))
abbrev mX4_reason : Yd := (yX4_reason, cX4_reason, 2, (some .int))
abbrev mX4_account : Yd := (yX4_account, cX4_account, 2, (some .int))
abbrev mX4_isBalanced : Yd := (yX4_isBalanced, cX4_isBalanced, 3, (some .int))
abbrev mX4_undo : Yd := (yX4_undo, cX4_undo, 1, (some .int))
abbrev mX4_save : Yd := (yX4_save, cX4_save, 1, (some .int))
abbrev mX4_restore : Yd := (yX4_restore, cX4_restore, 1, (some .int))
abbrev mX4_putNow : Yd := (yX4_putNow, cX4_putNow, 7, (some .int))
abbrev mX4_takeNow : Yd := (yX4_takeNow, cX4_takeNow, 6, (some .int))
abbrev mX4_buildNow : Yd := (yX4_buildNow, cX4_buildNow, 3, (some .int))
abbrev mX4_pourNow : Yd := (yX4_pourNow, cX4_pourNow, 6, (some .int))
abbrev mX4_limitNow : Yd := (yX4_limitNow, cX4_limitNow, 3, (some .int))
abbrev mX4_buildWhole : Yd := (yX4_buildWhole, cX4_buildWhole, 3, (some .int))
abbrev mX4_carryOut : Yd := (yX4_carryOut, cX4_carryOut, 4, (some .int))
abbrev mX4_refuse : Yd := (yX4_refuse, cX4_refuse, 3, (some .int))
abbrev mX4_hold : Yd := (yX4_hold, cX4_hold, 2, none)
abbrev mX4_keep : Yd := (yX4_keep, cX4_keep, 2, (some .int))
abbrev mX4_giveBack : Yd := (yX4_giveBack, cX4_giveBack, 2, none)
abbrev mX4_beforeNow : Yd := (yX4_beforeNow, cX4_beforeNow, 1, (some (.object "LeaningRicks$Yard")))
abbrev mX4_isBears : Yd := (yX4_isBears, cX4_isBears, 1, (some .boolean))
abbrev mX4_depthFor : Yd := (yX4_depthFor, cX4_depthFor, 5, (some .int))
abbrev mX4_shapeOf : Yd := (yX4_shapeOf, cX4_shapeOf, 9, (some .long))
abbrev mX4_write : Yd := (yX4_write, cX4_write, 7, none)
abbrev mX4_isSound : Yd := (yX4_isSound, cX4_isSound, 3, (some .boolean))
abbrev mX4_isTree : Yd := (yX4_isTree, cX4_isTree, 5, (some .boolean))
abbrev mX4_shareBits : Yd := (yX4_shareBits, cX4_shareBits, 4, (some .int))
abbrev mX4_meanBits : Yd := (yX4_meanBits, cX4_meanBits, 7, (some .long))
abbrev mJxe99ae_isNaN_b9ae7 : Yd := (yJxe99ae_isNaN_b9ae7, cJxe99ae_isNaN_b9ae7, 2, (some .boolean))
abbrev mJxe99ae_doubleToLongBits_ccdee : Yd := (yJxe99ae_doubleToLongBits_ccdee, cJxe99ae_doubleToLongBits_ccdee, 2, (some .long))
abbrev mJxf58ca_isNaN_12338 : Yd := (yJxf58ca_isNaN_12338, cJxf58ca_isNaN_12338, 1, (some .boolean))
abbrev mJxf58ca_floatToIntBits_5c35a : Yd := (yJxf58ca_floatToIntBits_5c35a, cJxf58ca_floatToIntBits_5c35a, 1, (some .int))
abbrev mJ13_bitCount_95d88 : Yd := (yJ13_bitCount_95d88, cJ13_bitCount_95d88, 2, (some .int))
abbrev mJ9_max_7cf53 : Yd := (yJ9_max_7cf53, cJ9_max_7cf53, 2, (some .int))
abbrev mJ9_min_7cf53 : Yd := (yJ9_min_7cf53, cJ9_min_7cf53, 2, (some .int))
abbrev mJ0_length_8abf5 : Yd := (yJ0_length_8abf5, cJ0_length_8abf5, 1, (some .int))
abbrev mJ0_charAt_5068e : Yd := (yJ0_charAt_5068e, cJ0_charAt_5068e, 2, (some .char))
abbrev mJ0_coder_7d493 : Yd := (yJ0_coder_7d493, cJ0_coder_7d493, 1, (some .byte))
abbrev mJ0_isLatin1_aae02 : Yd := (yJ0_isLatin1_aae02, cJ0_isLatin1_aae02, 1, (some .boolean))
abbrev mJ0_checkIndex_df160 : Yd := (yJ0_checkIndex_df160, cJ0_checkIndex_df160, 2, none)
abbrev mJ1_charAt_3b067 : Yd := (yJ1_charAt_3b067, cJ1_charAt_3b067, 2, (some .char))
abbrev mJ2_getChar_3b067 : Yd := (yJ2_getChar_3b067, cJ2_getChar_3b067, 2, (some .char))
abbrev mJ2_length_9d52b : Yd := (yJ2_length_9d52b, cJ2_length_9d52b, 1, (some .int))
abbrev mJ2_charAt_3b067 : Yd := (yJ2_charAt_3b067, cJ2_charAt_3b067, 2, (some .char))
abbrev mJ2_checkIndex_2214a : Yd := (yJ2_checkIndex_2214a, cJ2_checkIndex_2214a, 2, none)
abbrev mJ3_checkIndex_8e157 : Yd := (yJ3_checkIndex_8e157, cJ3_checkIndex_8e157, 3, (some .int))
abbrev mL_cell : Yd := (yL_cell, cL_cell, 2, (some .int))
abbrev mL_write : Yd := (yL_write, cL_write, 3, (some (.object "LeaningRicks")))
abbrev mL_act : Yd := (yL_act, cL_act, 6, (some .int))
abbrev mL_digest : Yd := (yL_digest, cL_digest, 6, (some .long))
abbrev mL_isSheaf : Yd := (yL_isSheaf, cL_isSheaf, 12, (some .boolean))
abbrev mL_isRick : Yd := (yL_isRick, cL_isRick, 11, (some .boolean))
abbrev mL_areCarts : Yd := (yL_areCarts, cL_areCarts, 10, (some .boolean))
abbrev mL_areHeaviest : Yd := (yL_areHeaviest, cL_areHeaviest, 8, (some .boolean))
abbrev mL_isFit : Yd := (yL_isFit, cL_isFit, 5, (some .boolean))
abbrev mL_isPut : Yd := (yL_isPut, cL_isPut, 10, (some .boolean))
theorem mwX0_signOf : MthV mX0_signOf 0 1 := ⟨gw_mem 373 (by decide +kernel) (by decide +kernel), gw_mem 374 (by decide +kernel) (by decide +kernel), gw_mem 24 (by decide +kernel) (by decide +kernel), gw_mem 375 (by decide +kernel) (by decide +kernel), ⟨by decide +kernel, by decide +kernel, by decide +kernel⟩, by decide, ⟨_, _, rfl⟩, by decide⟩
theorem mwX0_numberOf : MthV mX0_numberOf 0 2 := ⟨gw_mem 369 (by decide +kernel) (by decide +kernel), gw_mem 370 (by decide +kernel) (by decide +kernel), gw_mem 24 (by decide +kernel) (by decide +kernel), gw_mem 371 (by decide +kernel) (by decide +kernel), ⟨by decide +kernel, by decide +kernel, by decide +kernel⟩, by decide, ⟨_, _, rfl⟩, by decide⟩
theorem mwX0_read : MthV mX0_read 0 1 := ⟨gw_mem 338 (by decide +kernel) (by decide +kernel), gw_mem 339 (by decide +kernel) (by decide +kernel), gw_mem 24 (by decide +kernel) (by decide +kernel), gw_mem 340 (by decide +kernel) (by decide +kernel), ⟨by decide +kernel, by decide +kernel, by decide +kernel⟩, by decide, ⟨_, _, rfl⟩, by decide⟩
theorem mwX0_isOrder : MthV mX0_isOrder 0 1 := ⟨gw_mem 343 (by decide +kernel) (by decide +kernel), gw_mem 12 (by decide +kernel) (by decide +kernel), gw_mem 24 (by decide +kernel) (by decide +kernel), gw_mem 344 (by decide +kernel) (by decide +kernel), ⟨by decide +kernel, by decide +kernel, by decide +kernel⟩, by decide, ⟨_, _, rfl⟩, by decide⟩
theorem mwX0_isCode : MthV mX0_isCode 0 2 := ⟨gw_mem 351 (by decide +kernel) (by decide +kernel), gw_mem 13 (by decide +kernel) (by decide +kernel), gw_mem 24 (by decide +kernel) (by decide +kernel), gw_mem 352 (by decide +kernel) (by decide +kernel), ⟨by decide +kernel, by decide +kernel, by decide +kernel⟩, by decide, ⟨_, _, rfl⟩, by decide⟩
theorem mwX0_isNumber : MthV mX0_isNumber 0 3 := ⟨gw_mem 355 (by decide +kernel) (by decide +kernel), gw_mem 14 (by decide +kernel) (by decide +kernel), gw_mem 24 (by decide +kernel) (by decide +kernel), gw_mem 356 (by decide +kernel) (by decide +kernel), ⟨by decide +kernel, by decide +kernel, by decide +kernel⟩, by decide, ⟨_, _, rfl⟩, by decide⟩
theorem mwX0_isDigit : MthS mX0_isDigit 1 := ⟨gw_mem 358 (by decide +kernel) (by decide +kernel), gw_mem 24 (by decide +kernel) (by decide +kernel), gw_mem 359 (by decide +kernel) (by decide +kernel), ⟨by decide +kernel, by decide +kernel, by decide +kernel⟩, by decide⟩
theorem mwX1_isPlace : MthV mX1_isPlace 1 1 := ⟨gw_mem 265 (by decide +kernel) (by decide +kernel), gw_mem 266 (by decide +kernel) (by decide +kernel), gw_mem 22 (by decide +kernel) (by decide +kernel), gw_mem 267 (by decide +kernel) (by decide +kernel), ⟨by decide +kernel, by decide +kernel, by decide +kernel⟩, by decide, ⟨_, _, rfl⟩, by decide⟩
theorem mwX1_weightAt : MthV mX1_weightAt 1 1 := ⟨gw_mem 213 (by decide +kernel) (by decide +kernel), gw_mem 214 (by decide +kernel) (by decide +kernel), gw_mem 22 (by decide +kernel) (by decide +kernel), gw_mem 215 (by decide +kernel) (by decide +kernel), ⟨by decide +kernel, by decide +kernel, by decide +kernel⟩, by decide, ⟨_, _, rfl⟩, by decide⟩
theorem mwX1_loadAt : MthV mX1_loadAt 1 1 := ⟨gw_mem 236 (by decide +kernel) (by decide +kernel), gw_mem 237 (by decide +kernel) (by decide +kernel), gw_mem 22 (by decide +kernel) (by decide +kernel), gw_mem 238 (by decide +kernel) (by decide +kernel), ⟨by decide +kernel, by decide +kernel, by decide +kernel⟩, by decide, ⟨_, _, rfl⟩, by decide⟩
theorem mwX1_depthAt : MthV mX1_depthAt 1 1 := ⟨gw_mem 229 (by decide +kernel) (by decide +kernel), gw_mem 230 (by decide +kernel) (by decide +kernel), gw_mem 22 (by decide +kernel) (by decide +kernel), gw_mem 231 (by decide +kernel) (by decide +kernel), ⟨by decide +kernel, by decide +kernel, by decide +kernel⟩, by decide, ⟨_, _, rfl⟩, by decide⟩
theorem mwX1_find : MthV mX1_find 1 1 := ⟨gw_mem 209 (by decide +kernel) (by decide +kernel), gw_mem 210 (by decide +kernel) (by decide +kernel), gw_mem 22 (by decide +kernel) (by decide +kernel), gw_mem 211 (by decide +kernel) (by decide +kernel), ⟨by decide +kernel, by decide +kernel, by decide +kernel⟩, by decide, ⟨_, _, rfl⟩, by decide⟩
theorem mwX1_firstOf : MthV mX1_firstOf 1 1 := ⟨gw_mem 257 (by decide +kernel) (by decide +kernel), gw_mem 258 (by decide +kernel) (by decide +kernel), gw_mem 22 (by decide +kernel) (by decide +kernel), gw_mem 259 (by decide +kernel) (by decide +kernel), ⟨by decide +kernel, by decide +kernel, by decide +kernel⟩, by decide, ⟨_, _, rfl⟩, by decide⟩
theorem mwX1_lastOf : MthV mX1_lastOf 1 1 := ⟨gw_mem 261 (by decide +kernel) (by decide +kernel), gw_mem 262 (by decide +kernel) (by decide +kernel), gw_mem 22 (by decide +kernel) (by decide +kernel), gw_mem 263 (by decide +kernel) (by decide +kernel), ⟨by decide +kernel, by decide +kernel, by decide +kernel⟩, by decide, ⟨_, _, rfl⟩, by decide⟩
theorem mwX1_topOf : MthV mX1_topOf 1 2 := ⟨gw_mem 479 (by decide +kernel) (by decide +kernel), gw_mem 480 (by decide +kernel) (by decide +kernel), gw_mem 22 (by decide +kernel) (by decide +kernel), gw_mem 481 (by decide +kernel) (by decide +kernel), ⟨by decide +kernel, by decide +kernel, by decide +kernel⟩, by decide, ⟨_, _, rfl⟩, by decide⟩
theorem mwX1_above : MthV mX1_above 1 1 := ⟨gw_mem 253 (by decide +kernel) (by decide +kernel), gw_mem 254 (by decide +kernel) (by decide +kernel), gw_mem 22 (by decide +kernel) (by decide +kernel), gw_mem 255 (by decide +kernel) (by decide +kernel), ⟨by decide +kernel, by decide +kernel, by decide +kernel⟩, by decide, ⟨_, _, rfl⟩, by decide⟩
theorem mwX1_leans : MthV mX1_leans 1 2 := ⟨gw_mem 269 (by decide +kernel) (by decide +kernel), gw_mem 270 (by decide +kernel) (by decide +kernel), gw_mem 22 (by decide +kernel) (by decide +kernel), gw_mem 271 (by decide +kernel) (by decide +kernel), ⟨by decide +kernel, by decide +kernel, by decide +kernel⟩, by decide, ⟨_, _, rfl⟩, by decide⟩
theorem mwX1_loadsFrom : MthV mX1_loadsFrom 1 2 := ⟨gw_mem 475 (by decide +kernel) (by decide +kernel), gw_mem 476 (by decide +kernel) (by decide +kernel), gw_mem 22 (by decide +kernel) (by decide +kernel), gw_mem 477 (by decide +kernel) (by decide +kernel), ⟨by decide +kernel, by decide +kernel, by decide +kernel⟩, by decide, ⟨_, _, rfl⟩, by decide⟩
theorem mwX1_depths : MthV mX1_depths 1 0 := ⟨gw_mem 491 (by decide +kernel) (by decide +kernel), gw_mem 492 (by decide +kernel) (by decide +kernel), gw_mem 22 (by decide +kernel) (by decide +kernel), gw_mem 493 (by decide +kernel) (by decide +kernel), ⟨by decide +kernel, by decide +kernel, by decide +kernel⟩, by decide, ⟨_, _, rfl⟩, by decide⟩
theorem mwX1_greatestDepth : MthV mX1_greatestDepth 1 0 := ⟨gw_mem 483 (by decide +kernel) (by decide +kernel), gw_mem 484 (by decide +kernel) (by decide +kernel), gw_mem 22 (by decide +kernel) (by decide +kernel), gw_mem 485 (by decide +kernel) (by decide +kernel), ⟨by decide +kernel, by decide +kernel, by decide +kernel⟩, by decide, ⟨_, _, rfl⟩, by decide⟩
theorem mwX1_leaning : MthV mX1_leaning 1 1 := ⟨gw_mem 487 (by decide +kernel) (by decide +kernel), gw_mem 488 (by decide +kernel) (by decide +kernel), gw_mem 22 (by decide +kernel) (by decide +kernel), gw_mem 489 (by decide +kernel) (by decide +kernel), ⟨by decide +kernel, by decide +kernel, by decide +kernel⟩, by decide, ⟨_, _, rfl⟩, by decide⟩
theorem mwX1_lowest : MthV mX1_lowest 1 0 := ⟨gw_mem 495 (by decide +kernel) (by decide +kernel), gw_mem 496 (by decide +kernel) (by decide +kernel), gw_mem 22 (by decide +kernel) (by decide +kernel), gw_mem 497 (by decide +kernel) (by decide +kernel), ⟨by decide +kernel, by decide +kernel, by decide +kernel⟩, by decide, ⟨_, _, rfl⟩, by decide⟩
theorem mwX1_cartsUpTo : MthV mX1_cartsUpTo 1 2 := ⟨gw_mem 681 (by decide +kernel) (by decide +kernel), gw_mem 682 (by decide +kernel) (by decide +kernel), gw_mem 22 (by decide +kernel) (by decide +kernel), gw_mem 683 (by decide +kernel) (by decide +kernel), ⟨by decide +kernel, by decide +kernel, by decide +kernel⟩, by decide, ⟨_, _, rfl⟩, by decide⟩
theorem mwX1_lighterByParts : MthV mX1_lighterByParts 1 1 := ⟨gw_mem 553 (by decide +kernel) (by decide +kernel), gw_mem 554 (by decide +kernel) (by decide +kernel), gw_mem 22 (by decide +kernel) (by decide +kernel), gw_mem 555 (by decide +kernel) (by decide +kernel), ⟨by decide +kernel, by decide +kernel, by decide +kernel⟩, by decide, ⟨_, _, rfl⟩, by decide⟩
theorem mwX1_lighterOneByOne : MthV mX1_lighterOneByOne 1 1 := ⟨gw_mem 225 (by decide +kernel) (by decide +kernel), gw_mem 226 (by decide +kernel) (by decide +kernel), gw_mem 22 (by decide +kernel) (by decide +kernel), gw_mem 227 (by decide +kernel) (by decide +kernel), ⟨by decide +kernel, by decide +kernel, by decide +kernel⟩, by decide, ⟨_, _, rfl⟩, by decide⟩
theorem mwX1_loadsByParts : MthV mX1_loadsByParts 1 2 := ⟨gw_mem 559 (by decide +kernel) (by decide +kernel), gw_mem 560 (by decide +kernel) (by decide +kernel), gw_mem 22 (by decide +kernel) (by decide +kernel), gw_mem 561 (by decide +kernel) (by decide +kernel), ⟨by decide +kernel, by decide +kernel, by decide +kernel⟩, by decide, ⟨_, _, rfl⟩, by decide⟩
theorem mwX1_loadsOfLighter : MthV mX1_loadsOfLighter 1 1 := ⟨gw_mem 564 (by decide +kernel) (by decide +kernel), gw_mem 18 (by decide +kernel) (by decide +kernel), gw_mem 22 (by decide +kernel) (by decide +kernel), gw_mem 565 (by decide +kernel) (by decide +kernel), ⟨by decide +kernel, by decide +kernel, by decide +kernel⟩, by decide, ⟨_, _, rfl⟩, by decide⟩
theorem mwX1_loadsOneByOne : MthV mX1_loadsOneByOne 1 2 := ⟨gw_mem 568 (by decide +kernel) (by decide +kernel), gw_mem 569 (by decide +kernel) (by decide +kernel), gw_mem 22 (by decide +kernel) (by decide +kernel), gw_mem 570 (by decide +kernel) (by decide +kernel), ⟨by decide +kernel, by decide +kernel, by decide +kernel⟩, by decide, ⟨_, _, rfl⟩, by decide⟩
theorem mwX1_isInOrder : MthV mX1_isInOrder 1 0 := ⟨gw_mem 546 (by decide +kernel) (by decide +kernel), gw_mem 547 (by decide +kernel) (by decide +kernel), gw_mem 22 (by decide +kernel) (by decide +kernel), gw_mem 548 (by decide +kernel) (by decide +kernel), ⟨by decide +kernel, by decide +kernel, by decide +kernel⟩, by decide, ⟨_, _, rfl⟩, by decide⟩
theorem mwX1_lay : MthV mX1_lay 1 2 := ⟨gw_mem 221 (by decide +kernel) (by decide +kernel), gw_mem 222 (by decide +kernel) (by decide +kernel), gw_mem 22 (by decide +kernel) (by decide +kernel), gw_mem 223 (by decide +kernel) (by decide +kernel), ⟨by decide +kernel, by decide +kernel, by decide +kernel⟩, by decide, ⟨_, _, rfl⟩, by decide⟩
theorem mwX1_lift : MthV mX1_lift 1 1 := ⟨gw_mem 296 (by decide +kernel) (by decide +kernel), gw_mem 297 (by decide +kernel) (by decide +kernel), gw_mem 22 (by decide +kernel) (by decide +kernel), gw_mem 298 (by decide +kernel) (by decide +kernel), ⟨by decide +kernel, by decide +kernel, by decide +kernel⟩, by decide, ⟨_, _, rfl⟩, by decide⟩
theorem mwX1_buildPartAbove : MthV mX1_buildPartAbove 1 2 := ⟨gw_mem 249 (by decide +kernel) (by decide +kernel), gw_mem 250 (by decide +kernel) (by decide +kernel), gw_mem 22 (by decide +kernel) (by decide +kernel), gw_mem 251 (by decide +kernel) (by decide +kernel), ⟨by decide +kernel, by decide +kernel, by decide +kernel⟩, by decide, ⟨_, _, rfl⟩, by decide⟩
theorem mwX1_buildWhole : MthV mX1_buildWhole 1 0 := ⟨gw_mem 308 (by decide +kernel) (by decide +kernel), gw_mem 309 (by decide +kernel) (by decide +kernel), gw_mem 22 (by decide +kernel) (by decide +kernel), gw_mem 310 (by decide +kernel) (by decide +kernel), ⟨by decide +kernel, by decide +kernel, by decide +kernel⟩, by decide, ⟨_, _, rfl⟩, by decide⟩
theorem mwX1_spread : MthS mX1_spread 4 := ⟨gw_mem 273 (by decide +kernel) (by decide +kernel), gw_mem 22 (by decide +kernel) (by decide +kernel), gw_mem 274 (by decide +kernel) (by decide +kernel), ⟨by decide +kernel, by decide +kernel, by decide +kernel⟩, by decide⟩
theorem mwX1_raise : MthV mX1_raise 1 2 := ⟨gw_mem 301 (by decide +kernel) (by decide +kernel), gw_mem 8 (by decide +kernel) (by decide +kernel), gw_mem 22 (by decide +kernel) (by decide +kernel), gw_mem 302 (by decide +kernel) (by decide +kernel), ⟨by decide +kernel, by decide +kernel, by decide +kernel⟩, by decide, ⟨_, _, rfl⟩, by decide⟩
theorem mwX1_set : MthV mX1_set 1 4 := ⟨gw_mem 241 (by decide +kernel) (by decide +kernel), gw_mem 4 (by decide +kernel) (by decide +kernel), gw_mem 22 (by decide +kernel) (by decide +kernel), gw_mem 242 (by decide +kernel) (by decide +kernel), ⟨by decide +kernel, by decide +kernel, by decide +kernel⟩, by decide, ⟨_, _, rfl⟩, by decide⟩
theorem mwX1_setDepth : MthV mX1_setDepth 1 2 := ⟨gw_mem 277 (by decide +kernel) (by decide +kernel), gw_mem 5 (by decide +kernel) (by decide +kernel), gw_mem 22 (by decide +kernel) (by decide +kernel), gw_mem 278 (by decide +kernel) (by decide +kernel), ⟨by decide +kernel, by decide +kernel, by decide +kernel⟩, by decide, ⟨_, _, rfl⟩, by decide⟩
theorem mwX1_copyFrom : MthV mX1_copyFrom 1 1 := ⟨gw_mem 197 (by decide +kernel) (by decide +kernel), gw_mem 198 (by decide +kernel) (by decide +kernel), gw_mem 22 (by decide +kernel) (by decide +kernel), gw_mem 199 (by decide +kernel) (by decide +kernel), ⟨by decide +kernel, by decide +kernel, by decide +kernel⟩, by decide, ⟨_, _, rfl⟩, by decide⟩
theorem mwX2_clear : MthV mX2_clear 2 0 := ⟨gw_mem 361 (by decide +kernel) (by decide +kernel), gw_mem 362 (by decide +kernel) (by decide +kernel), gw_mem 23 (by decide +kernel) (by decide +kernel), gw_mem 363 (by decide +kernel) (by decide +kernel), ⟨by decide +kernel, by decide +kernel, by decide +kernel⟩, by decide, ⟨_, _, rfl⟩, by decide⟩
theorem mwX2_add : MthV mX2_add 2 1 := ⟨gw_mem 464 (by decide +kernel) (by decide +kernel), gw_mem 465 (by decide +kernel) (by decide +kernel), gw_mem 23 (by decide +kernel) (by decide +kernel), gw_mem 466 (by decide +kernel) (by decide +kernel), ⟨by decide +kernel, by decide +kernel, by decide +kernel⟩, by decide, ⟨_, _, rfl⟩, by decide⟩
theorem mwX2_addNumber : MthV mX2_addNumber 2 1 := ⟨gw_mem 602 (by decide +kernel) (by decide +kernel), gw_mem 603 (by decide +kernel) (by decide +kernel), gw_mem 23 (by decide +kernel) (by decide +kernel), gw_mem 604 (by decide +kernel) (by decide +kernel), ⟨by decide +kernel, by decide +kernel, by decide +kernel⟩, by decide, ⟨_, _, rfl⟩, by decide⟩
theorem mwX2_codeAt : MthV mX2_codeAt 2 1 := ⟨gw_mem 346 (by decide +kernel) (by decide +kernel), gw_mem 347 (by decide +kernel) (by decide +kernel), gw_mem 23 (by decide +kernel) (by decide +kernel), gw_mem 348 (by decide +kernel) (by decide +kernel), ⟨by decide +kernel, by decide +kernel, by decide +kernel⟩, by decide, ⟨_, _, rfl⟩, by decide⟩
theorem mwX3_rickAt : MthV mX3_rickAt 3 1 := ⟨gw_mem 193 (by decide +kernel) (by decide +kernel), gw_mem 194 (by decide +kernel) (by decide +kernel), gw_mem 21 (by decide +kernel) (by decide +kernel), gw_mem 195 (by decide +kernel) (by decide +kernel), ⟨by decide +kernel, by decide +kernel, by decide +kernel⟩, by decide, ⟨_, _, rfl⟩, by decide⟩
theorem mwX3_sheaves : MthV mX3_sheaves 3 0 := ⟨gw_mem 397 (by decide +kernel) (by decide +kernel), gw_mem 398 (by decide +kernel) (by decide +kernel), gw_mem 21 (by decide +kernel) (by decide +kernel), gw_mem 399 (by decide +kernel) (by decide +kernel), ⟨by decide +kernel, by decide +kernel, by decide +kernel⟩, by decide, ⟨_, _, rfl⟩, by decide⟩
theorem mwX3_loads : MthV mX3_loads 3 0 := ⟨gw_mem 515 (by decide +kernel) (by decide +kernel), gw_mem 516 (by decide +kernel) (by decide +kernel), gw_mem 21 (by decide +kernel) (by decide +kernel), gw_mem 517 (by decide +kernel) (by decide +kernel), ⟨by decide +kernel, by decide +kernel, by decide +kernel⟩, by decide, ⟨_, _, rfl⟩, by decide⟩
theorem mwX3_keyAfter : MthV mX3_keyAfter 3 1 := ⟨gw_mem 579 (by decide +kernel) (by decide +kernel), gw_mem 580 (by decide +kernel) (by decide +kernel), gw_mem 21 (by decide +kernel) (by decide +kernel), gw_mem 581 (by decide +kernel) (by decide +kernel), ⟨by decide +kernel, by decide +kernel, by decide +kernel⟩, by decide, ⟨_, _, rfl⟩, by decide⟩
theorem mwX3_copyFrom : MthV mX3_copyFrom 3 1 := ⟨gw_mem 189 (by decide +kernel) (by decide +kernel), gw_mem 190 (by decide +kernel) (by decide +kernel), gw_mem 21 (by decide +kernel) (by decide +kernel), gw_mem 191 (by decide +kernel) (by decide +kernel), ⟨by decide +kernel, by decide +kernel, by decide +kernel⟩, by decide, ⟨_, _, rfl⟩, by decide⟩
theorem mwX4_put : MthV mX4_put 4 3 := ⟨gw_mem 177 (by decide +kernel) (by decide +kernel), gw_mem 178 (by decide +kernel) (by decide +kernel), gw_mem 20 (by decide +kernel) (by decide +kernel), gw_mem 179 (by decide +kernel) (by decide +kernel), ⟨by decide +kernel, by decide +kernel, by decide +kernel⟩, by decide, ⟨_, _, rfl⟩, by decide⟩
theorem mwX4_take : MthV mX4_take 4 2 := ⟨gw_mem 287 (by decide +kernel) (by decide +kernel), gw_mem 288 (by decide +kernel) (by decide +kernel), gw_mem 20 (by decide +kernel) (by decide +kernel), gw_mem 289 (by decide +kernel) (by decide +kernel), ⟨by decide +kernel, by decide +kernel, by decide +kernel⟩, by decide, ⟨_, _, rfl⟩, by decide⟩
theorem mwX4_build : MthV mX4_build 4 1 := ⟨gw_mem 312 (by decide +kernel) (by decide +kernel), gw_mem 313 (by decide +kernel) (by decide +kernel), gw_mem 20 (by decide +kernel) (by decide +kernel), gw_mem 314 (by decide +kernel) (by decide +kernel), ⟨by decide +kernel, by decide +kernel, by decide +kernel⟩, by decide, ⟨_, _, rfl⟩, by decide⟩
theorem mwX4_pour : MthV mX4_pour 4 2 := ⟨gw_mem 500 (by decide +kernel) (by decide +kernel), gw_mem 501 (by decide +kernel) (by decide +kernel), gw_mem 20 (by decide +kernel) (by decide +kernel), gw_mem 502 (by decide +kernel) (by decide +kernel), ⟨by decide +kernel, by decide +kernel, by decide +kernel⟩, by decide, ⟨_, _, rfl⟩, by decide⟩
theorem mwX4_limit : MthV mX4_limit 4 1 := ⟨gw_mem 320 (by decide +kernel) (by decide +kernel), gw_mem 321 (by decide +kernel) (by decide +kernel), gw_mem 20 (by decide +kernel) (by decide +kernel), gw_mem 322 (by decide +kernel) (by decide +kernel), ⟨by decide +kernel, by decide +kernel, by decide +kernel⟩, by decide, ⟨_, _, rfl⟩, by decide⟩
theorem mwX4_sheafOf : MthV mX4_sheafOf 4 3 := ⟨gw_mem 528 (by decide +kernel) (by decide +kernel), gw_mem 529 (by decide +kernel) (by decide +kernel), gw_mem 20 (by decide +kernel) (by decide +kernel), gw_mem 530 (by decide +kernel) (by decide +kernel), ⟨by decide +kernel, by decide +kernel, by decide +kernel⟩, by decide, ⟨_, _, rfl⟩, by decide⟩
theorem mwX4_rickOf : MthV mX4_rickOf 4 2 := ⟨gw_mem 471 (by decide +kernel) (by decide +kernel), gw_mem 472 (by decide +kernel) (by decide +kernel), gw_mem 20 (by decide +kernel) (by decide +kernel), gw_mem 473 (by decide +kernel) (by decide +kernel), ⟨by decide +kernel, by decide +kernel, by decide +kernel⟩, by decide, ⟨_, _, rfl⟩, by decide⟩
theorem mwX4_rank : MthV mX4_rank 4 2 := ⟨gw_mem 611 (by decide +kernel) (by decide +kernel), gw_mem 612 (by decide +kernel) (by decide +kernel), gw_mem 20 (by decide +kernel) (by decide +kernel), gw_mem 613 (by decide +kernel) (by decide +kernel), ⟨by decide +kernel, by decide +kernel, by decide +kernel⟩, by decide, ⟨_, _, rfl⟩, by decide⟩
theorem mwX4_rankAgain : MthV mX4_rankAgain 4 2 := ⟨gw_mem 615 (by decide +kernel) (by decide +kernel), gw_mem 616 (by decide +kernel) (by decide +kernel), gw_mem 20 (by decide +kernel) (by decide +kernel), gw_mem 617 (by decide +kernel) (by decide +kernel), ⟨by decide +kernel, by decide +kernel, by decide +kernel⟩, by decide, ⟨_, _, rfl⟩, by decide⟩
theorem mwX4_at : MthV mX4_at 4 2 := ⟨gw_mem 328 (by decide +kernel) (by decide +kernel), gw_mem 329 (by decide +kernel) (by decide +kernel), gw_mem 20 (by decide +kernel) (by decide +kernel), gw_mem 330 (by decide +kernel) (by decide +kernel), ⟨by decide +kernel, by decide +kernel, by decide +kernel⟩, by decide, ⟨_, _, rfl⟩, by decide⟩
theorem mwX4_between : MthV mX4_between 4 3 := ⟨gw_mem 619 (by decide +kernel) (by decide +kernel), gw_mem 620 (by decide +kernel) (by decide +kernel), gw_mem 20 (by decide +kernel) (by decide +kernel), gw_mem 621 (by decide +kernel) (by decide +kernel), ⟨by decide +kernel, by decide +kernel, by decide +kernel⟩, by decide, ⟨_, _, rfl⟩, by decide⟩
theorem mwX4_betweenAgain : MthV mX4_betweenAgain 4 3 := ⟨gw_mem 623 (by decide +kernel) (by decide +kernel), gw_mem 624 (by decide +kernel) (by decide +kernel), gw_mem 20 (by decide +kernel) (by decide +kernel), gw_mem 625 (by decide +kernel) (by decide +kernel), ⟨by decide +kernel, by decide +kernel, by decide +kernel⟩, by decide, ⟨_, _, rfl⟩, by decide⟩
theorem mwX4_heaviest : MthV mX4_heaviest 4 1 := ⟨gw_mem 575 (by decide +kernel) (by decide +kernel), gw_mem 576 (by decide +kernel) (by decide +kernel), gw_mem 20 (by decide +kernel) (by decide +kernel), gw_mem 577 (by decide +kernel) (by decide +kernel), ⟨by decide +kernel, by decide +kernel, by decide +kernel⟩, by decide, ⟨_, _, rfl⟩, by decide⟩
theorem mwX4_carts : MthV mX4_carts 4 2 := ⟨gw_mem 674 (by decide +kernel) (by decide +kernel), gw_mem 675 (by decide +kernel) (by decide +kernel), gw_mem 20 (by decide +kernel) (by decide +kernel), gw_mem 676 (by decide +kernel) (by decide +kernel), ⟨by decide +kernel, by decide +kernel, by decide +kernel⟩, by decide, ⟨_, _, rfl⟩, by decide⟩
theorem mwX4_cartOf : MthV mX4_cartOf 4 3 := ⟨gw_mem 685 (by decide +kernel) (by decide +kernel), gw_mem 686 (by decide +kernel) (by decide +kernel), gw_mem 20 (by decide +kernel) (by decide +kernel), gw_mem 687 (by decide +kernel) (by decide +kernel), ⟨by decide +kernel, by decide +kernel, by decide +kernel⟩, by decide, ⟨_, _, rfl⟩, by decide⟩
theorem mwX4_shape : MthV mX4_shape 4 1 := ⟨gw_mem 520 (by decide +kernel) (by decide +kernel), gw_mem 521 (by decide +kernel) (by decide +kernel), gw_mem 20 (by decide +kernel) (by decide +kernel), gw_mem 522 (by decide +kernel) (by decide +kernel), ⟨by decide +kernel, by decide +kernel, by decide +kernel⟩, by decide, ⟨_, _, rfl⟩, by decide⟩
theorem mwX4_weights : MthV mX4_weights 4 2 := ⟨gw_mem 627 (by decide +kernel) (by decide +kernel), gw_mem 628 (by decide +kernel) (by decide +kernel), gw_mem 20 (by decide +kernel) (by decide +kernel), gw_mem 629 (by decide +kernel) (by decide +kernel), ⟨by decide +kernel, by decide +kernel, by decide +kernel⟩, by decide, ⟨_, _, rfl⟩, by decide⟩
theorem mwX4_leaningShare : MthV mX4_leaningShare 4 1 := ⟨gw_mem 631 (by decide +kernel) (by decide +kernel), gw_mem 632 (by decide +kernel) (by decide +kernel), gw_mem 20 (by decide +kernel) (by decide +kernel), gw_mem 633 (by decide +kernel) (by decide +kernel), ⟨by decide +kernel, by decide +kernel, by decide +kernel⟩, by decide, ⟨_, _, rfl⟩, by decide⟩
theorem mwX4_meanDepth : MthV mX4_meanDepth 4 1 := ⟨gw_mem 649 (by decide +kernel) (by decide +kernel), gw_mem 650 (by decide +kernel) (by decide +kernel), gw_mem 20 (by decide +kernel) (by decide +kernel), gw_mem 651 (by decide +kernel) (by decide +kernel), ⟨by decide +kernel, by decide +kernel, by decide +kernel⟩, by decide, ⟨_, _, rfl⟩, by decide⟩
theorem mwX4_append : MthV mX4_append 4 1 := ⟨gw_mem 460 (by decide +kernel) (by decide +kernel), gw_mem 461 (by decide +kernel) (by decide +kernel), gw_mem 20 (by decide +kernel) (by decide +kernel), gw_mem 462 (by decide +kernel) (by decide +kernel), ⟨by decide +kernel, by decide +kernel, by decide +kernel⟩, by decide, ⟨_, _, rfl⟩, by decide⟩
theorem mwX4_run : MthV mX4_run 4 0 := ⟨gw_mem 334 (by decide +kernel) (by decide +kernel), gw_mem 335 (by decide +kernel) (by decide +kernel), gw_mem 20 (by decide +kernel) (by decide +kernel), gw_mem 336 (by decide +kernel) (by decide +kernel), ⟨by decide +kernel, by decide +kernel, by decide +kernel⟩, by decide, ⟨_, _, rfl⟩, by decide⟩
theorem mwX4_tell : MthV mX4_tell 4 1 := ⟨gw_mem 595 (by decide +kernel) (by decide +kernel), gw_mem 596 (by decide +kernel) (by decide +kernel), gw_mem 20 (by decide +kernel) (by decide +kernel), gw_mem 597 (by decide +kernel) (by decide +kernel), ⟨by decide +kernel, by decide +kernel, by decide +kernel⟩, by decide, ⟨_, _, rfl⟩, by decide⟩
theorem mwX4_reason : MthV mX4_reason 4 1 := ⟨gw_mem 385 (by decide +kernel) (by decide +kernel), gw_mem 386 (by decide +kernel) (by decide +kernel), gw_mem 20 (by decide +kernel) (by decide +kernel), gw_mem 387 (by decide +kernel) (by decide +kernel), ⟨by decide +kernel, by decide +kernel, by decide +kernel⟩, by decide, ⟨_, _, rfl⟩, by decide⟩
theorem mwX4_account : MthV mX4_account 4 1 := ⟨gw_mem 511 (by decide +kernel) (by decide +kernel), gw_mem 512 (by decide +kernel) (by decide +kernel), gw_mem 20 (by decide +kernel) (by decide +kernel), gw_mem 513 (by decide +kernel) (by decide +kernel), ⟨by decide +kernel, by decide +kernel, by decide +kernel⟩, by decide, ⟨_, _, rfl⟩, by decide⟩
theorem mwX4_isBalanced : MthV mX4_isBalanced 4 0 := ⟨gw_mem 539 (by decide +kernel) (by decide +kernel), gw_mem 540 (by decide +kernel) (by decide +kernel), gw_mem 20 (by decide +kernel) (by decide +kernel), gw_mem 541 (by decide +kernel) (by decide +kernel), ⟨by decide +kernel, by decide +kernel, by decide +kernel⟩, by decide, ⟨_, _, rfl⟩, by decide⟩
theorem mwX4_undo : MthV mX4_undo 4 0 := ⟨gw_mem 389 (by decide +kernel) (by decide +kernel), gw_mem 390 (by decide +kernel) (by decide +kernel), gw_mem 20 (by decide +kernel) (by decide +kernel), gw_mem 391 (by decide +kernel) (by decide +kernel), ⟨by decide +kernel, by decide +kernel, by decide +kernel⟩, by decide, ⟨_, _, rfl⟩, by decide⟩
theorem mwX4_save : MthV mX4_save 4 0 := ⟨gw_mem 393 (by decide +kernel) (by decide +kernel), gw_mem 394 (by decide +kernel) (by decide +kernel), gw_mem 20 (by decide +kernel) (by decide +kernel), gw_mem 395 (by decide +kernel) (by decide +kernel), ⟨by decide +kernel, by decide +kernel, by decide +kernel⟩, by decide, ⟨_, _, rfl⟩, by decide⟩
theorem mwX4_restore : MthV mX4_restore 4 0 := ⟨gw_mem 401 (by decide +kernel) (by decide +kernel), gw_mem 402 (by decide +kernel) (by decide +kernel), gw_mem 20 (by decide +kernel) (by decide +kernel), gw_mem 403 (by decide +kernel) (by decide +kernel), ⟨by decide +kernel, by decide +kernel, by decide +kernel⟩, by decide, ⟨_, _, rfl⟩, by decide⟩
theorem mwX4_putNow : MthV mX4_putNow 4 3 := ⟨gw_mem 205 (by decide +kernel) (by decide +kernel), gw_mem 2 (by decide +kernel) (by decide +kernel), gw_mem 20 (by decide +kernel) (by decide +kernel), gw_mem 206 (by decide +kernel) (by decide +kernel), ⟨by decide +kernel, by decide +kernel, by decide +kernel⟩, by decide, ⟨_, _, rfl⟩, by decide⟩
theorem mwX4_takeNow : MthV mX4_takeNow 4 2 := ⟨gw_mem 292 (by decide +kernel) (by decide +kernel), gw_mem 7 (by decide +kernel) (by decide +kernel), gw_mem 20 (by decide +kernel) (by decide +kernel), gw_mem 293 (by decide +kernel) (by decide +kernel), ⟨by decide +kernel, by decide +kernel, by decide +kernel⟩, by decide, ⟨_, _, rfl⟩, by decide⟩
theorem mwX4_buildNow : MthV mX4_buildNow 4 1 := ⟨gw_mem 317 (by decide +kernel) (by decide +kernel), gw_mem 10 (by decide +kernel) (by decide +kernel), gw_mem 20 (by decide +kernel) (by decide +kernel), gw_mem 318 (by decide +kernel) (by decide +kernel), ⟨by decide +kernel, by decide +kernel, by decide +kernel⟩, by decide, ⟨_, _, rfl⟩, by decide⟩
theorem mwX4_pourNow : MthV mX4_pourNow 4 2 := ⟨gw_mem 378 (by decide +kernel) (by decide +kernel), gw_mem 16 (by decide +kernel) (by decide +kernel), gw_mem 20 (by decide +kernel) (by decide +kernel), gw_mem 379 (by decide +kernel) (by decide +kernel), ⟨by decide +kernel, by decide +kernel, by decide +kernel⟩, by decide, ⟨_, _, rfl⟩, by decide⟩
theorem mwX4_limitNow : MthV mX4_limitNow 4 1 := ⟨gw_mem 325 (by decide +kernel) (by decide +kernel), gw_mem 11 (by decide +kernel) (by decide +kernel), gw_mem 20 (by decide +kernel) (by decide +kernel), gw_mem 326 (by decide +kernel) (by decide +kernel), ⟨by decide +kernel, by decide +kernel, by decide +kernel⟩, by decide, ⟨_, _, rfl⟩, by decide⟩
theorem mwX4_buildWhole : MthV mX4_buildWhole 4 1 := ⟨gw_mem 305 (by decide +kernel) (by decide +kernel), gw_mem 9 (by decide +kernel) (by decide +kernel), gw_mem 20 (by decide +kernel) (by decide +kernel), gw_mem 306 (by decide +kernel) (by decide +kernel), ⟨by decide +kernel, by decide +kernel, by decide +kernel⟩, by decide, ⟨_, _, rfl⟩, by decide⟩
theorem mwX4_carryOut : MthV mX4_carryOut 4 1 := ⟨gw_mem 366 (by decide +kernel) (by decide +kernel), gw_mem 15 (by decide +kernel) (by decide +kernel), gw_mem 20 (by decide +kernel) (by decide +kernel), gw_mem 367 (by decide +kernel) (by decide +kernel), ⟨by decide +kernel, by decide +kernel, by decide +kernel⟩, by decide, ⟨_, _, rfl⟩, by decide⟩
theorem mwX4_refuse : MthV mX4_refuse 4 2 := ⟨gw_mem 218 (by decide +kernel) (by decide +kernel), gw_mem 3 (by decide +kernel) (by decide +kernel), gw_mem 20 (by decide +kernel) (by decide +kernel), gw_mem 219 (by decide +kernel) (by decide +kernel), ⟨by decide +kernel, by decide +kernel, by decide +kernel⟩, by decide, ⟨_, _, rfl⟩, by decide⟩
theorem mwX4_hold : MthV mX4_hold 4 0 := ⟨gw_mem 182 (by decide +kernel) (by decide +kernel), gw_mem 0 (by decide +kernel) (by decide +kernel), gw_mem 20 (by decide +kernel) (by decide +kernel), gw_mem 183 (by decide +kernel) (by decide +kernel), ⟨by decide +kernel, by decide +kernel, by decide +kernel⟩, by decide, ⟨_, _, rfl⟩, by decide⟩
theorem mwX4_keep : MthV mX4_keep 4 1 := ⟨gw_mem 281 (by decide +kernel) (by decide +kernel), gw_mem 6 (by decide +kernel) (by decide +kernel), gw_mem 20 (by decide +kernel) (by decide +kernel), gw_mem 282 (by decide +kernel) (by decide +kernel), ⟨by decide +kernel, by decide +kernel, by decide +kernel⟩, by decide, ⟨_, _, rfl⟩, by decide⟩
theorem mwX4_giveBack : MthV mX4_giveBack 4 0 := ⟨gw_mem 382 (by decide +kernel) (by decide +kernel), gw_mem 17 (by decide +kernel) (by decide +kernel), gw_mem 20 (by decide +kernel) (by decide +kernel), gw_mem 383 (by decide +kernel) (by decide +kernel), ⟨by decide +kernel, by decide +kernel, by decide +kernel⟩, by decide, ⟨_, _, rfl⟩, by decide⟩
theorem mwX4_beforeNow : MthV mX4_beforeNow 4 0 := ⟨gw_mem 186 (by decide +kernel) (by decide +kernel), gw_mem 1 (by decide +kernel) (by decide +kernel), gw_mem 20 (by decide +kernel) (by decide +kernel), gw_mem 187 (by decide +kernel) (by decide +kernel), ⟨by decide +kernel, by decide +kernel, by decide +kernel⟩, by decide, ⟨_, _, rfl⟩, by decide⟩
theorem mwX4_isBears : MthS mX4_isBears 1 := ⟨gw_mem 678 (by decide +kernel) (by decide +kernel), gw_mem 20 (by decide +kernel) (by decide +kernel), gw_mem 679 (by decide +kernel) (by decide +kernel), ⟨by decide +kernel, by decide +kernel, by decide +kernel⟩, by decide⟩
theorem mwX4_depthFor : MthS mX4_depthFor 2 := ⟨gw_mem 246 (by decide +kernel) (by decide +kernel), gw_mem 20 (by decide +kernel) (by decide +kernel), gw_mem 247 (by decide +kernel) (by decide +kernel), ⟨by decide +kernel, by decide +kernel, by decide +kernel⟩, by decide⟩
theorem mwX4_shapeOf : MthS mX4_shapeOf 5 := ⟨gw_mem 525 (by decide +kernel) (by decide +kernel), gw_mem 20 (by decide +kernel) (by decide +kernel), gw_mem 526 (by decide +kernel) (by decide +kernel), ⟨by decide +kernel, by decide +kernel, by decide +kernel⟩, by decide⟩
theorem mwX4_write : MthS mX4_write 6 := ⟨gw_mem 599 (by decide +kernel) (by decide +kernel), gw_mem 20 (by decide +kernel) (by decide +kernel), gw_mem 600 (by decide +kernel) (by decide +kernel), ⟨by decide +kernel, by decide +kernel, by decide +kernel⟩, by decide⟩
theorem mwX4_isSound : MthS mX4_isSound 1 := ⟨gw_mem 543 (by decide +kernel) (by decide +kernel), gw_mem 20 (by decide +kernel) (by decide +kernel), gw_mem 544 (by decide +kernel) (by decide +kernel), ⟨by decide +kernel, by decide +kernel, by decide +kernel⟩, by decide⟩
theorem mwX4_isTree : MthS mX4_isTree 4 := ⟨gw_mem 550 (by decide +kernel) (by decide +kernel), gw_mem 20 (by decide +kernel) (by decide +kernel), gw_mem 551 (by decide +kernel) (by decide +kernel), ⟨by decide +kernel, by decide +kernel, by decide +kernel⟩, by decide⟩
theorem mwX4_shareBits : MthS mX4_shareBits 1 := ⟨gw_mem 635 (by decide +kernel) (by decide +kernel), gw_mem 20 (by decide +kernel) (by decide +kernel), gw_mem 636 (by decide +kernel) (by decide +kernel), ⟨by decide +kernel, by decide +kernel, by decide +kernel⟩, by decide⟩
theorem mwX4_meanBits : MthS mX4_meanBits 1 := ⟨gw_mem 654 (by decide +kernel) (by decide +kernel), gw_mem 20 (by decide +kernel) (by decide +kernel), gw_mem 655 (by decide +kernel) (by decide +kernel), ⟨by decide +kernel, by decide +kernel, by decide +kernel⟩, by decide⟩
theorem mwJxe99ae_isNaN_b9ae7 : MthS mJxe99ae_isNaN_b9ae7 1 := ⟨gw_mem 664 (by decide +kernel) (by decide +kernel), gw_mem 33 (by decide +kernel) (by decide +kernel), gw_mem 665 (by decide +kernel) (by decide +kernel), ⟨by decide +kernel, by decide +kernel, by decide +kernel⟩, by decide⟩
theorem mwJxe99ae_doubleToLongBits_ccdee : MthS mJxe99ae_doubleToLongBits_ccdee 1 := ⟨gw_mem 661 (by decide +kernel) (by decide +kernel), gw_mem 33 (by decide +kernel) (by decide +kernel), gw_mem 662 (by decide +kernel) (by decide +kernel), ⟨by decide +kernel, by decide +kernel, by decide +kernel⟩, by decide⟩
theorem mwL_write : MthS mL_write 2 := ⟨gw_mem 409 (by decide +kernel) (by decide +kernel), gw_mem 19 (by decide +kernel) (by decide +kernel), gw_mem 410 (by decide +kernel) (by decide +kernel), ⟨by decide +kernel, by decide +kernel, by decide +kernel⟩, by decide⟩
theorem mwL_act : MthS mL_act 2 := ⟨gw_mem 468 (by decide +kernel) (by decide +kernel), gw_mem 19 (by decide +kernel) (by decide +kernel), gw_mem 469 (by decide +kernel) (by decide +kernel), ⟨by decide +kernel, by decide +kernel, by decide +kernel⟩, by decide⟩
theorem mwL_digest : MthS mL_digest 1 := ⟨gw_mem 506 (by decide +kernel) (by decide +kernel), gw_mem 19 (by decide +kernel) (by decide +kernel), gw_mem 507 (by decide +kernel) (by decide +kernel), ⟨by decide +kernel, by decide +kernel, by decide +kernel⟩, by decide⟩
theorem mwL_isSheaf : MthS mL_isSheaf 3 := ⟨gw_mem 608 (by decide +kernel) (by decide +kernel), gw_mem 19 (by decide +kernel) (by decide +kernel), gw_mem 609 (by decide +kernel) (by decide +kernel), ⟨by decide +kernel, by decide +kernel, by decide +kernel⟩, by decide⟩
theorem mwL_isRick : MthS mL_isRick 2 := ⟨gw_mem 586 (by decide +kernel) (by decide +kernel), gw_mem 19 (by decide +kernel) (by decide +kernel), gw_mem 587 (by decide +kernel) (by decide +kernel), ⟨by decide +kernel, by decide +kernel, by decide +kernel⟩, by decide⟩
theorem mwL_areCarts : MthS mL_areCarts 3 := ⟨gw_mem 671 (by decide +kernel) (by decide +kernel), gw_mem 19 (by decide +kernel) (by decide +kernel), gw_mem 672 (by decide +kernel) (by decide +kernel), ⟨by decide +kernel, by decide +kernel, by decide +kernel⟩, by decide⟩
theorem mwL_areHeaviest : MthS mL_areHeaviest 1 := ⟨gw_mem 572 (by decide +kernel) (by decide +kernel), gw_mem 19 (by decide +kernel) (by decide +kernel), gw_mem 573 (by decide +kernel) (by decide +kernel), ⟨by decide +kernel, by decide +kernel, by decide +kernel⟩, by decide⟩
theorem mwL_isFit : MthS mL_isFit 1 := ⟨gw_mem 536 (by decide +kernel) (by decide +kernel), gw_mem 19 (by decide +kernel) (by decide +kernel), gw_mem 537 (by decide +kernel) (by decide +kernel), ⟨by decide +kernel, by decide +kernel, by decide +kernel⟩, by decide⟩
theorem mwL_isPut : MthS mL_isPut 3 := ⟨gw_mem 689 (by decide +kernel) (by decide +kernel), gw_mem 19 (by decide +kernel) (by decide +kernel), gw_mem 690 (by decide +kernel) (by decide +kernel), ⟨by decide +kernel, by decide +kernel, by decide +kernel⟩, by decide⟩
theorem mlX4_9 : Cond.methodLink RX4 9 yX3_init ∈ lw_good := gw_mem 44 (by decide +kernel) (by decide +kernel)
theorem mlX4_47 : Cond.methodLink RX4 47 yX4_hold ∈ lw_good := gw_mem 180 (by decide +kernel) (by decide +kernel)
theorem mlX4_50 : Cond.methodLink RX4 50 yX4_putNow ∈ lw_good := gw_mem 203 (by decide +kernel) (by decide +kernel)
theorem mlX4_54 : Cond.methodLink RX4 54 yX4_keep ∈ lw_good := gw_mem 279 (by decide +kernel) (by decide +kernel)
theorem mlX4_58 : Cond.methodLink RX4 58 yX4_takeNow ∈ lw_good := gw_mem 290 (by decide +kernel) (by decide +kernel)
theorem mlX4_62 : Cond.methodLink RX4 62 yX4_buildNow ∈ lw_good := gw_mem 315 (by decide +kernel) (by decide +kernel)
theorem mlX4_65 : Cond.methodLink RX4 65 yX4_pourNow ∈ lw_good := gw_mem 376 (by decide +kernel) (by decide +kernel)
theorem mlX4_68 : Cond.methodLink RX4 68 yX4_limitNow ∈ lw_good := gw_mem 323 (by decide +kernel) (by decide +kernel)
theorem mlX4_71 : Cond.methodLink RX4 71 yX3_rickAt ∈ lw_good := gw_mem 207 (by decide +kernel) (by decide +kernel)
theorem mlX4_75 : Cond.methodLink RX4 75 yX1_find ∈ lw_good := gw_mem 208 (by decide +kernel) (by decide +kernel)
theorem mlX4_80 : Cond.methodLink RX4 80 yX1_firstOf ∈ lw_good := gw_mem 531 (by decide +kernel) (by decide +kernel)
theorem mlX4_83 : Cond.methodLink RX4 83 yX1_lastOf ∈ lw_good := gw_mem 532 (by decide +kernel) (by decide +kernel)
theorem mlX4_86 : Cond.methodLink RX4 86 yX1_loadAt ∈ lw_good := gw_mem 294 (by decide +kernel) (by decide +kernel)
theorem mlX4_89 : Cond.methodLink RX4 89 yX1_depthAt ∈ lw_good := gw_mem 244 (by decide +kernel) (by decide +kernel)
theorem mlX4_92 : Cond.methodLink RX4 92 yX1_loadsFrom ∈ lw_good := gw_mem 474 (by decide +kernel) (by decide +kernel)
theorem mlX4_98 : Cond.methodLink RX4 98 yX1_leans ∈ lw_good := gw_mem 533 (by decide +kernel) (by decide +kernel)
theorem mlX4_102 : Cond.methodLink RX4 102 yX1_above ∈ lw_good := gw_mem 534 (by decide +kernel) (by decide +kernel)
theorem mlX4_105 : Cond.methodLink RX4 105 yX1_weightAt ∈ lw_good := gw_mem 332 (by decide +kernel) (by decide +kernel)
theorem mlX4_108 : Cond.methodLink RX4 108 yX1_topOf ∈ lw_good := gw_mem 478 (by decide +kernel) (by decide +kernel)
theorem mlX4_114 : Cond.methodLink RX4 114 yX1_greatestDepth ∈ lw_good := gw_mem 482 (by decide +kernel) (by decide +kernel)
theorem mlX4_118 : Cond.methodLink RX4 118 yX4_depthFor ∈ lw_good := gw_mem 245 (by decide +kernel) (by decide +kernel)
theorem mlX4_124 : Cond.methodLink RX4 124 yX1_leaning ∈ lw_good := gw_mem 486 (by decide +kernel) (by decide +kernel)
theorem mlX4_127 : Cond.methodLink RX4 127 yX1_depths ∈ lw_good := gw_mem 490 (by decide +kernel) (by decide +kernel)
theorem mlX4_130 : Cond.methodLink RX4 130 yX1_lowest ∈ lw_good := gw_mem 494 (by decide +kernel) (by decide +kernel)
theorem mlX4_133 : Cond.methodLink RX4 133 yX1_lighterByParts ∈ lw_good := gw_mem 552 (by decide +kernel) (by decide +kernel)
theorem mlX4_136 : Cond.methodLink RX4 136 yX1_lighterOneByOne ∈ lw_good := gw_mem 557 (by decide +kernel) (by decide +kernel)
theorem mlX4_139 : Cond.methodLink RX4 139 yX1_isPlace ∈ lw_good := gw_mem 331 (by decide +kernel) (by decide +kernel)
theorem mlX4_143 : Cond.methodLink RX4 143 yX1_loadsByParts ∈ lw_good := gw_mem 558 (by decide +kernel) (by decide +kernel)
theorem mlX4_146 : Cond.methodLink RX4 146 yX1_loadsOneByOne ∈ lw_good := gw_mem 567 (by decide +kernel) (by decide +kernel)
theorem mlX4_149 : Cond.methodLink RX4 149 yX3_sheaves ∈ lw_good := gw_mem 396 (by decide +kernel) (by decide +kernel)
theorem mlX4_152 : Cond.methodLink RX4 152 yX3_keyAfter ∈ lw_good := gw_mem 578 (by decide +kernel) (by decide +kernel)
theorem mlX4_155 : Cond.methodLink RX4 155 yX4_isBears ∈ lw_good := gw_mem 677 (by decide +kernel) (by decide +kernel)
theorem mlX4_158 : Cond.methodLink RX4 158 yX1_cartsUpTo ∈ lw_good := gw_mem 680 (by decide +kernel) (by decide +kernel)
theorem mlX4_163 : Cond.methodLink RX4 163 yX4_shapeOf ∈ lw_good := gw_mem 524 (by decide +kernel) (by decide +kernel)
theorem mlX4_167 : Cond.methodLink RX4 167 yX4_shareBits ∈ lw_good := gw_mem 634 (by decide +kernel) (by decide +kernel)
theorem mlX4_173 : Cond.methodLink RX4 173 yX4_meanBits ∈ lw_good := gw_mem 653 (by decide +kernel) (by decide +kernel)
theorem mlX4_177 : Cond.methodLink RX4 177 yX2_add ∈ lw_good := gw_mem 463 (by decide +kernel) (by decide +kernel)
theorem mlX4_183 : Cond.methodLink RX4 183 yX0_read ∈ lw_good := gw_mem 337 (by decide +kernel) (by decide +kernel)
theorem mlX4_187 : Cond.methodLink RX4 187 yX2_clear ∈ lw_good := gw_mem 360 (by decide +kernel) (by decide +kernel)
theorem mlX4_190 : Cond.methodLink RX4 190 yX4_carryOut ∈ lw_good := gw_mem 364 (by decide +kernel) (by decide +kernel)
theorem mlX4_193 : Cond.methodLink RX4 193 yX4_giveBack ∈ lw_good := gw_mem 380 (by decide +kernel) (by decide +kernel)
theorem mlX4_196 : Cond.methodLink RX4 196 yX4_refuse ∈ lw_good := gw_mem 216 (by decide +kernel) (by decide +kernel)
theorem mlX4_199 : Cond.methodLink RX4 199 yX4_write ∈ lw_good := gw_mem 598 (by decide +kernel) (by decide +kernel)
theorem mlX4_206 : Cond.methodLink RX4 206 yX3_loads ∈ lw_good := gw_mem 514 (by decide +kernel) (by decide +kernel)
theorem mlX4_230 : Cond.methodLink RX4 230 yX4_isSound ∈ lw_good := gw_mem 542 (by decide +kernel) (by decide +kernel)
theorem mlX4_237 : Cond.methodLink RX4 237 yX3_copyFrom ∈ lw_good := gw_mem 188 (by decide +kernel) (by decide +kernel)
theorem mlX4_245 : Cond.methodLink RX4 245 yX1_lay ∈ lw_good := gw_mem 220 (by decide +kernel) (by decide +kernel)
theorem mlX4_248 : Cond.methodLink RX4 248 yJ9_max_7cf53 ∈ lw_good := gw_mem 243 (by decide +kernel) (by decide +kernel)
theorem mlX4_253 : Cond.methodLink RX4 253 yX1_buildPartAbove ∈ lw_good := gw_mem 248 (by decide +kernel) (by decide +kernel)
theorem mlX4_256 : Cond.methodLink RX4 256 yX1_lift ∈ lw_good := gw_mem 295 (by decide +kernel) (by decide +kernel)
theorem mlX4_260 : Cond.methodLink RX4 260 yX4_buildWhole ∈ lw_good := gw_mem 303 (by decide +kernel) (by decide +kernel)
theorem mlX4_264 : Cond.methodLink RX4 264 yX1_buildWhole ∈ lw_good := gw_mem 307 (by decide +kernel) (by decide +kernel)
theorem mlX4_266 : Cond.methodLink RX4 266 yX0_numberOf ∈ lw_good := gw_mem 368 (by decide +kernel) (by decide +kernel)
theorem mlX4_269 : Cond.methodLink RX4 269 yX0_signOf ∈ lw_good := gw_mem 372 (by decide +kernel) (by decide +kernel)
theorem mlX4_272 : Cond.methodLink RX4 272 yX4_beforeNow ∈ lw_good := gw_mem 184 (by decide +kernel) (by decide +kernel)
theorem mlX4_276 : Cond.methodLink RX4 276 yJ9_min_7cf53 ∈ lw_good := gw_mem 283 (by decide +kernel) (by decide +kernel)
theorem mlX4_279 : Cond.methodLink RX4 279 yX2_addNumber ∈ lw_good := gw_mem 601 (by decide +kernel) (by decide +kernel)
theorem mlX4_282 : Cond.methodLink RX4 282 yX1_isInOrder ∈ lw_good := gw_mem 545 (by decide +kernel) (by decide +kernel)
theorem mlX4_286 : Cond.methodLink RX4 286 yX4_isTree ∈ lw_good := gw_mem 549 (by decide +kernel) (by decide +kernel)
theorem mlX0_25 : Cond.methodLink RX0 25 yX0_isOrder ∈ lw_good := gw_mem 341 (by decide +kernel) (by decide +kernel)
theorem mlX0_34 : Cond.methodLink RX0 34 yX0_isCode ∈ lw_good := gw_mem 349 (by decide +kernel) (by decide +kernel)
theorem mlX0_38 : Cond.methodLink RX0 38 yX2_codeAt ∈ lw_good := gw_mem 345 (by decide +kernel) (by decide +kernel)
theorem mlX0_42 : Cond.methodLink RX0 42 yX0_isNumber ∈ lw_good := gw_mem 353 (by decide +kernel) (by decide +kernel)
theorem mlX0_46 : Cond.methodLink RX0 46 yX0_isDigit ∈ lw_good := gw_mem 357 (by decide +kernel) (by decide +kernel)
theorem mlX1_25 : Cond.methodLink RX1 25 yX1_weightAt ∈ lw_good := gw_mem 212 (by decide +kernel) (by decide +kernel)
theorem mlX1_29 : Cond.methodLink RX1 29 yX1_depthAt ∈ lw_good := gw_mem 228 (by decide +kernel) (by decide +kernel)
theorem mlX1_32 : Cond.methodLink RX1 32 yJ9_max_7cf53 ∈ lw_good := gw_mem 232 (by decide +kernel) (by decide +kernel)
theorem mlX1_38 : Cond.methodLink RX1 38 yX1_firstOf ∈ lw_good := gw_mem 256 (by decide +kernel) (by decide +kernel)
theorem mlX1_41 : Cond.methodLink RX1 41 yX1_lastOf ∈ lw_good := gw_mem 260 (by decide +kernel) (by decide +kernel)
theorem mlX1_44 : Cond.methodLink RX1 44 yX1_isPlace ∈ lw_good := gw_mem 264 (by decide +kernel) (by decide +kernel)
theorem mlX1_48 : Cond.methodLink RX1 48 yX1_loadAt ∈ lw_good := gw_mem 235 (by decide +kernel) (by decide +kernel)
theorem mlX1_51 : Cond.methodLink RX1 51 yX1_leans ∈ lw_good := gw_mem 268 (by decide +kernel) (by decide +kernel)
theorem mlX1_55 : Cond.methodLink RX1 55 yX1_topOf ∈ lw_good := gw_mem 556 (by decide +kernel) (by decide +kernel)
theorem mlX1_58 : Cond.methodLink RX1 58 yX1_loadsOfLighter ∈ lw_good := gw_mem 562 (by decide +kernel) (by decide +kernel)
theorem mlX1_62 : Cond.methodLink RX1 62 yX1_loadsFrom ∈ lw_good := gw_mem 566 (by decide +kernel) (by decide +kernel)
theorem mlX1_65 : Cond.methodLink RX1 65 yX1_lighterOneByOne ∈ lw_good := gw_mem 224 (by decide +kernel) (by decide +kernel)
theorem mlX1_68 : Cond.methodLink RX1 68 yX1_set ∈ lw_good := gw_mem 239 (by decide +kernel) (by decide +kernel)
theorem mlX1_72 : Cond.methodLink RX1 72 yX1_raise ∈ lw_good := gw_mem 299 (by decide +kernel) (by decide +kernel)
theorem mlX1_76 : Cond.methodLink RX1 76 yX1_setDepth ∈ lw_good := gw_mem 275 (by decide +kernel) (by decide +kernel)
theorem mlX1_79 : Cond.methodLink RX1 79 yX1_above ∈ lw_good := gw_mem 252 (by decide +kernel) (by decide +kernel)
theorem mlX1_82 : Cond.methodLink RX1 82 yX1_spread ∈ lw_good := gw_mem 272 (by decide +kernel) (by decide +kernel)
theorem mlX1_89 : Cond.methodLink RX1 89 ⟨"java/lang/System", "arraycopy", "(Ljava/lang/Object;ILjava/lang/Object;II)V"⟩ ∈ lw_good := gw_mem 200 (by decide +kernel) (by decide +kernel)
theorem mlX2_19 : Cond.methodLink RX2 19 yX2_add ∈ lw_good := gw_mem 605 (by decide +kernel) (by decide +kernel)
theorem mlX3_22 : Cond.methodLink RX3 22 yX3_rickAt ∈ lw_good := gw_mem 192 (by decide +kernel) (by decide +kernel)
theorem mlX3_29 : Cond.methodLink RX3 29 yX1_loadsFrom ∈ lw_good := gw_mem 518 (by decide +kernel) (by decide +kernel)
theorem mlX3_36 : Cond.methodLink RX3 36 yX1_loadAt ∈ lw_good := gw_mem 583 (by decide +kernel) (by decide +kernel)
theorem mlX3_40 : Cond.methodLink RX3 40 yX1_weightAt ∈ lw_good := gw_mem 584 (by decide +kernel) (by decide +kernel)
theorem mlX3_43 : Cond.methodLink RX3 43 yX1_copyFrom ∈ lw_good := gw_mem 196 (by decide +kernel) (by decide +kernel)
theorem mlL_10 : Cond.methodLink RL 10 yJ0_length_8abf5 ∈ lw_good := gw_mem 411 (by decide +kernel) (by decide +kernel)
theorem mlL_16 : Cond.methodLink RL 16 yJ0_charAt_5068e ∈ lw_good := gw_mem 421 (by decide +kernel) (by decide +kernel)
theorem mlL_20 : Cond.methodLink RL 20 yX4_append ∈ lw_good := gw_mem 459 (by decide +kernel) (by decide +kernel)
theorem mlL_24 : Cond.methodLink RL 24 yX4_put ∈ lw_good := gw_mem 176 (by decide +kernel) (by decide +kernel)
theorem mlL_28 : Cond.methodLink RL 28 yX4_rickOf ∈ lw_good := gw_mem 470 (by decide +kernel) (by decide +kernel)
theorem mlL_32 : Cond.methodLink RL 32 yJ9_min_7cf53 ∈ lw_good := gw_mem 498 (by decide +kernel) (by decide +kernel)
theorem mlL_37 : Cond.methodLink RL 37 yX4_at ∈ lw_good := gw_mem 327 (by decide +kernel) (by decide +kernel)
theorem mlL_40 : Cond.methodLink RL 40 yX4_take ∈ lw_good := gw_mem 286 (by decide +kernel) (by decide +kernel)
theorem mlL_43 : Cond.methodLink RL 43 yX4_build ∈ lw_good := gw_mem 311 (by decide +kernel) (by decide +kernel)
theorem mlL_46 : Cond.methodLink RL 46 yX4_pour ∈ lw_good := gw_mem 499 (by decide +kernel) (by decide +kernel)
theorem mlL_49 : Cond.methodLink RL 49 yX4_limit ∈ lw_good := gw_mem 319 (by decide +kernel) (by decide +kernel)
theorem mlL_58 : Cond.methodLink RL 58 yL_write ∈ lw_good := gw_mem 408 (by decide +kernel) (by decide +kernel)
theorem mlL_62 : Cond.methodLink RL 62 yX4_run ∈ lw_good := gw_mem 333 (by decide +kernel) (by decide +kernel)
theorem mlL_65 : Cond.methodLink RL 65 yX4_save ∈ lw_good := gw_mem 392 (by decide +kernel) (by decide +kernel)
theorem mlL_68 : Cond.methodLink RL 68 yX4_restore ∈ lw_good := gw_mem 400 (by decide +kernel) (by decide +kernel)
theorem mlL_71 : Cond.methodLink RL 71 yX4_undo ∈ lw_good := gw_mem 388 (by decide +kernel) (by decide +kernel)
theorem mlL_78 : Cond.methodLink RL 78 yX4_account ∈ lw_good := gw_mem 510 (by decide +kernel) (by decide +kernel)
theorem mlL_81 : Cond.methodLink RL 81 yX4_shape ∈ lw_good := gw_mem 519 (by decide +kernel) (by decide +kernel)
theorem mlL_85 : Cond.methodLink RL 85 yX4_sheafOf ∈ lw_good := gw_mem 527 (by decide +kernel) (by decide +kernel)
theorem mlL_88 : Cond.methodLink RL 88 yJ9_max_7cf53 ∈ lw_good := gw_mem 606 (by decide +kernel) (by decide +kernel)
theorem mlL_91 : Cond.methodLink RL 91 yX4_rank ∈ lw_good := gw_mem 610 (by decide +kernel) (by decide +kernel)
theorem mlL_94 : Cond.methodLink RL 94 yX4_rankAgain ∈ lw_good := gw_mem 614 (by decide +kernel) (by decide +kernel)
theorem mlL_97 : Cond.methodLink RL 97 yJ13_bitCount_95d88 ∈ lw_good := gw_mem 588 (by decide +kernel) (by decide +kernel)
theorem mlL_103 : Cond.methodLink RL 103 yX4_tell ∈ lw_good := gw_mem 594 (by decide +kernel) (by decide +kernel)
theorem mlL_106 : Cond.methodLink RL 106 yL_isSheaf ∈ lw_good := gw_mem 607 (by decide +kernel) (by decide +kernel)
theorem mlL_110 : Cond.methodLink RL 110 yX4_between ∈ lw_good := gw_mem 618 (by decide +kernel) (by decide +kernel)
theorem mlL_113 : Cond.methodLink RL 113 yX4_betweenAgain ∈ lw_good := gw_mem 622 (by decide +kernel) (by decide +kernel)
theorem mlL_116 : Cond.methodLink RL 116 yX4_weights ∈ lw_good := gw_mem 626 (by decide +kernel) (by decide +kernel)
theorem mlL_120 : Cond.methodLink RL 120 yX4_leaningShare ∈ lw_good := gw_mem 630 (by decide +kernel) (by decide +kernel)
theorem mlL_123 : Cond.methodLink RL 123 yJxf58ca_floatToIntBits_5c35a ∈ lw_good := gw_mem 638 (by decide +kernel) (by decide +kernel)
theorem mlL_129 : Cond.methodLink RL 129 yX4_meanDepth ∈ lw_good := gw_mem 648 (by decide +kernel) (by decide +kernel)
theorem mlL_134 : Cond.methodLink RL 134 yJxe99ae_doubleToLongBits_ccdee ∈ lw_good := gw_mem 660 (by decide +kernel) (by decide +kernel)
theorem mlL_140 : Cond.methodLink RL 140 yX4_carts ∈ lw_good := gw_mem 673 (by decide +kernel) (by decide +kernel)
theorem mlL_143 : Cond.methodLink RL 143 yX4_cartOf ∈ lw_good := gw_mem 684 (by decide +kernel) (by decide +kernel)
theorem mlL_146 : Cond.methodLink RL 146 yX4_heaviest ∈ lw_good := gw_mem 574 (by decide +kernel) (by decide +kernel)
theorem mlL_149 : Cond.methodLink RL 149 yX4_isBalanced ∈ lw_good := gw_mem 538 (by decide +kernel) (by decide +kernel)
theorem mlL_152 : Cond.methodLink RL 152 yL_areHeaviest ∈ lw_good := gw_mem 571 (by decide +kernel) (by decide +kernel)
theorem mlL_156 : Cond.methodLink RL 156 yL_isRick ∈ lw_good := gw_mem 585 (by decide +kernel) (by decide +kernel)
theorem mlL_160 : Cond.methodLink RL 160 yL_areCarts ∈ lw_good := gw_mem 670 (by decide +kernel) (by decide +kernel)
theorem mlL_163 : Cond.methodLink RL 163 yL_digest ∈ lw_good := gw_mem 505 (by decide +kernel) (by decide +kernel)
theorem mlL_167 : Cond.methodLink RL 167 yX4_init ∈ lw_good := gw_mem 36 (by decide +kernel) (by decide +kernel)
theorem mlL_168 : Cond.methodLink RL 168 yL_cell ∈ lw_good := gw_mem 404 (by decide +kernel) (by decide +kernel)
theorem mlL_172 : Cond.methodLink RL 172 yL_act ∈ lw_good := gw_mem 467 (by decide +kernel) (by decide +kernel)
theorem mlL_176 : Cond.methodLink RL 176 yL_isFit ∈ lw_good := gw_mem 535 (by decide +kernel) (by decide +kernel)
theorem mlL_179 : Cond.methodLink RL 179 yL_isPut ∈ lw_good := gw_mem 688 (by decide +kernel) (by decide +kernel)
theorem mlL_182 : Cond.methodLink RL 182 yX4_reason ∈ lw_good := gw_mem 384 (by decide +kernel) (by decide +kernel)
theorem mlJxe99ae_122 : Cond.methodLink RJxe99ae 122 yJxe99ae_isNaN_b9ae7 ∈ lw_good := gw_mem 663 (by decide +kernel) (by decide +kernel)
theorem mlJxe99ae_134 : Cond.methodLink RJxe99ae 134 ⟨"java/lang/Double", "doubleToRawLongBits", "(D)J"⟩ ∈ lw_good := gw_mem 666 (by decide +kernel) (by decide +kernel)
theorem mlJxf58ca_59 : Cond.methodLink RJxf58ca 59 yJxf58ca_isNaN_12338 ∈ lw_good := gw_mem 641 (by decide +kernel) (by decide +kernel)
theorem mlJxf58ca_74 : Cond.methodLink RJxf58ca 74 ⟨"java/lang/Float", "floatToRawIntBits", "(F)I"⟩ ∈ lw_good := gw_mem 644 (by decide +kernel) (by decide +kernel)
theorem mlJ0_335 : Cond.methodLink RJ0 335 yJ0_coder_7d493 ∈ lw_good := gw_mem 415 (by decide +kernel) (by decide +kernel)
theorem mlJ0_492 : Cond.methodLink RJ0 492 yJ0_isLatin1_aae02 ∈ lw_good := gw_mem 425 (by decide +kernel) (by decide +kernel)
theorem mlJ0_495 : Cond.methodLink RJ0 495 yJ1_charAt_3b067 ∈ lw_good := gw_mem 429 (by decide +kernel) (by decide +kernel)
theorem mlJ0_498 : Cond.methodLink RJ0 498 yJ2_charAt_3b067 ∈ lw_good := gw_mem 440 (by decide +kernel) (by decide +kernel)
theorem mlJ0_1059 : Cond.methodLink RJ0 1059 yJ3_checkIndex_8e157 ∈ lw_good := gw_mem 437 (by decide +kernel) (by decide +kernel)
theorem mlJ1_9 : Cond.methodLink RJ1 9 yJ0_checkIndex_df160 ∈ lw_good := gw_mem 432 (by decide +kernel) (by decide +kernel)
theorem mlJ2_48 : Cond.methodLink RJ2 48 yJ2_length_9d52b ∈ lw_good := gw_mem 446 (by decide +kernel) (by decide +kernel)
theorem mlJ2_67 : Cond.methodLink RJ2 67 yJ2_checkIndex_2214a ∈ lw_good := gw_mem 443 (by decide +kernel) (by decide +kernel)
theorem mlJ2_71 : Cond.methodLink RJ2 71 yJ2_getChar_3b067 ∈ lw_good := gw_mem 450 (by decide +kernel) (by decide +kernel)
theorem mlJ2_414 : Cond.methodLink RJ2 414 yJ0_checkIndex_df160 ∈ lw_good := gw_mem 449 (by decide +kernel) (by decide +kernel)
theorem w_max_s : Cond.static Lib.Math.max.name ∈ lw_good := gw_mem 233 (by decide +kernel) (by decide +kernel)
theorem w_max_c : Cond.code Lib.Math.max.name Lib.Math.max.code 2 (some .int) ∈ lw_good := gw_mem 234 (by decide +kernel) (by decide +kernel)
theorem w_min_s : Cond.static Lib.Math.min.name ∈ lw_good := gw_mem 284 (by decide +kernel) (by decide +kernel)
theorem w_min_c : Cond.code Lib.Math.min.name Lib.Math.min.code 2 (some .int) ∈ lw_good := gw_mem 285 (by decide +kernel) (by decide +kernel)
theorem wn_doubleToRawLongBits_n : Cond.native ⟨"java/lang/Double", "doubleToRawLongBits", "(D)J"⟩ ∈ lw_good := gw_mem 668 (by decide +kernel) (by decide +kernel)
theorem wn_doubleToRawLongBits_s : Cond.static ⟨"java/lang/Double", "doubleToRawLongBits", "(D)J"⟩ ∈ lw_good := gw_mem 667 (by decide +kernel) (by decide +kernel)
theorem wn_doubleToRawLongBits_i : Cond.initialized "java/lang/Double" ∈ lw_good := gw_mem 33 (by decide +kernel) (by decide +kernel)
theorem wn_floatToRawIntBits_n : Cond.native ⟨"java/lang/Float", "floatToRawIntBits", "(F)I"⟩ ∈ lw_good := gw_mem 646 (by decide +kernel) (by decide +kernel)
theorem wn_floatToRawIntBits_s : Cond.static ⟨"java/lang/Float", "floatToRawIntBits", "(F)I"⟩ ∈ lw_good := gw_mem 645 (by decide +kernel) (by decide +kernel)
theorem wn_floatToRawIntBits_i : Cond.initialized "java/lang/Float" ∈ lw_good := gw_mem 32 (by decide +kernel) (by decide +kernel)
theorem wn_arraycopy_n : Cond.native ⟨"java/lang/System", "arraycopy", "(Ljava/lang/Object;ILjava/lang/Object;II)V"⟩ ∈ lw_good := gw_mem 202 (by decide +kernel) (by decide +kernel)
theorem wn_arraycopy_s : Cond.static ⟨"java/lang/System", "arraycopy", "(Ljava/lang/Object;ILjava/lang/Object;II)V"⟩ ∈ lw_good := gw_mem 201 (by decide +kernel) (by decide +kernel)
theorem wn_arraycopy_i : Cond.initialized "java/lang/System" ∈ lw_good := gw_mem 25 (by decide +kernel) (by decide +kernel)
theorem w_math_i : Cond.initialized "java/lang/Math" ∈ lw_good := gw_mem 26 (by decide +kernel) (by decide +kernel)
theorem gX0 : ∀ w ∈ u_ws RX0 TX0 (nfs 0), w ∈ lw_good := fun w h => List.mem_filter.mpr ⟨inX0 w h, (by decide +kernel : ∀ w ∈ u_ws RX0 TX0 4, goodWord w = true) w h⟩
theorem gX1 : ∀ w ∈ u_ws RX1 TX1 (nfs 1), w ∈ lw_good := fun w h => List.mem_filter.mpr ⟨inX1 w h, (by decide +kernel : ∀ w ∈ u_ws RX1 TX1 5, goodWord w = true) w h⟩
theorem gX2 : ∀ w ∈ u_ws RX2 TX2 (nfs 2), w ∈ lw_good := fun w h => List.mem_filter.mpr ⟨inX2 w h, (by decide +kernel : ∀ w ∈ u_ws RX2 TX2 2, goodWord w = true) w h⟩
theorem gX3 : ∀ w ∈ u_ws RX3 TX3 (nfs 3), w ∈ lw_good := fun w h => List.mem_filter.mpr ⟨inX3 w h, (by decide +kernel : ∀ w ∈ u_ws RX3 TX3 8, goodWord w = true) w h⟩
theorem gX4 : ∀ w ∈ u_ws RX4 TX4 (nfs 4), w ∈ lw_good := fun w h => List.mem_filter.mpr ⟨inX4 w h, (by decide +kernel : ∀ w ∈ u_ws RX4 TX4 11, goodWord w = true) w h⟩
theorem foX4_10 : FldOK RX4 10 4 0 := ⟨TX4, RX4, rfl, by decide, by decide, gX4, rfl, Or.inl (gw_mem 142 (by decide +kernel) (by decide +kernel))⟩
theorem foX4_16 : FldOK RX4 16 4 1 := ⟨TX4, RX4, rfl, by decide, by decide, gX4, rfl, Or.inl (gw_mem 143 (by decide +kernel) (by decide +kernel))⟩
theorem foX4_19 : FldOK RX4 19 4 3 := ⟨TX4, RX4, rfl, by decide, by decide, gX4, rfl, Or.inl (gw_mem 145 (by decide +kernel) (by decide +kernel))⟩
theorem foX4_26 : FldOK RX4 26 4 6 := ⟨TX4, RX4, rfl, by decide, by decide, gX4, rfl, Or.inl (gw_mem 148 (by decide +kernel) (by decide +kernel))⟩
theorem foX4_30 : FldOK RX4 30 4 7 := ⟨TX4, RX4, rfl, by decide, by decide, gX4, rfl, Or.inl (gw_mem 149 (by decide +kernel) (by decide +kernel))⟩
theorem foX4_36 : FldOK RX4 36 4 8 := ⟨TX4, RX4, rfl, by decide, by decide, gX4, rfl, Or.inl (gw_mem 150 (by decide +kernel) (by decide +kernel))⟩
theorem foX4_40 : FldOK RX4 40 4 9 := ⟨TX4, RX4, rfl, by decide, by decide, gX4, rfl, Or.inl (gw_mem 151 (by decide +kernel) (by decide +kernel))⟩
theorem poX4_40 : PutOK RX4 40 4 9 .int := ⟨TX4, RX4, tyX4, rfl, by decide, by decide, gX4, rfl, Or.inl (gw_mem 151 (by decide +kernel) (by decide +kernel)), tyX4_ok, nmX4, rfl, by decide +kernel⟩
theorem foX4_44 : FldOK RX4 44 4 10 := ⟨TX4, RX4, rfl, by decide, by decide, gX4, rfl, Or.inl (gw_mem 152 (by decide +kernel) (by decide +kernel))⟩
theorem poX4_44 : PutOK RX4 44 4 10 .int := ⟨TX4, RX4, tyX4, rfl, by decide, by decide, gX4, rfl, Or.inl (gw_mem 152 (by decide +kernel) (by decide +kernel)), tyX4_ok, nmX4, rfl, by decide +kernel⟩
theorem foX4_95 : FldOK RX4 95 3 1 := ⟨TX3, RX3, rfl, by decide, by decide, gX3, rfl, Or.inr ⟨"LeaningRicks", nw_mem 77 (by decide +kernel) (by decide +kernel)⟩⟩
theorem poX4_95 : PutOK RX4 95 3 1 .int := ⟨TX3, RX3, tyX3, rfl, by decide, by decide, gX3, rfl, Or.inr ⟨"LeaningRicks", nw_mem 77 (by decide +kernel) (by decide +kernel)⟩, tyX3_ok, nmX3, rfl, by decide +kernel⟩
theorem foX4_111 : FldOK RX4 111 1 3 := ⟨TX1, RX1, rfl, by decide, by decide, gX1, rfl, Or.inr ⟨"LeaningRicks", nw_mem 60 (by decide +kernel) (by decide +kernel)⟩⟩
theorem poX4_111 : PutOK RX4 111 1 3 .int := ⟨TX1, RX1, tyX1, rfl, by decide, by decide, gX1, rfl, Or.inr ⟨"LeaningRicks", nw_mem 60 (by decide +kernel) (by decide +kernel)⟩, tyX1_ok, nmX1, rfl, by decide +kernel⟩
theorem foX4_121 : FldOK RX4 121 1 4 := ⟨TX1, RX1, rfl, by decide, by decide, gX1, rfl, Or.inr ⟨"LeaningRicks", nw_mem 61 (by decide +kernel) (by decide +kernel)⟩⟩
theorem poX4_121 : PutOK RX4 121 1 4 .int := ⟨TX1, RX1, tyX1, rfl, by decide, by decide, gX1, rfl, Or.inr ⟨"LeaningRicks", nw_mem 61 (by decide +kernel) (by decide +kernel)⟩, tyX1_ok, nmX1, rfl, by decide +kernel⟩
theorem foX4_180 : FldOK RX4 180 2 1 := ⟨TX2, RX2, rfl, by decide, by decide, gX2, rfl, Or.inr ⟨"LeaningRicks", nw_mem 117 (by decide +kernel) (by decide +kernel)⟩⟩
theorem poX4_180 : PutOK RX4 180 2 1 .int := ⟨TX2, RX2, tyX2, rfl, by decide, by decide, gX2, rfl, Or.inr ⟨"LeaningRicks", nw_mem 117 (by decide +kernel) (by decide +kernel)⟩, tyX2_ok, nmX2, rfl, by decide +kernel⟩
theorem foX4_209 : FldOK RX4 209 3 2 := ⟨TX3, RX3, rfl, by decide, by decide, gX3, rfl, Or.inr ⟨"LeaningRicks", nw_mem 79 (by decide +kernel) (by decide +kernel)⟩⟩
theorem poX4_209 : PutOK RX4 209 3 2 .int := ⟨TX3, RX3, tyX3, rfl, by decide, by decide, gX3, rfl, Or.inr ⟨"LeaningRicks", nw_mem 79 (by decide +kernel) (by decide +kernel)⟩, tyX3_ok, nmX3, rfl, by decide +kernel⟩
theorem foX4_212 : FldOK RX4 212 3 3 := ⟨TX3, RX3, rfl, by decide, by decide, gX3, rfl, Or.inr ⟨"LeaningRicks", nw_mem 81 (by decide +kernel) (by decide +kernel)⟩⟩
theorem poX4_212 : PutOK RX4 212 3 3 .int := ⟨TX3, RX3, tyX3, rfl, by decide, by decide, gX3, rfl, Or.inr ⟨"LeaningRicks", nw_mem 81 (by decide +kernel) (by decide +kernel)⟩, tyX3_ok, nmX3, rfl, by decide +kernel⟩
theorem foX4_215 : FldOK RX4 215 3 4 := ⟨TX3, RX3, rfl, by decide, by decide, gX3, rfl, Or.inr ⟨"LeaningRicks", nw_mem 83 (by decide +kernel) (by decide +kernel)⟩⟩
theorem poX4_215 : PutOK RX4 215 3 4 .int := ⟨TX3, RX3, tyX3, rfl, by decide, by decide, gX3, rfl, Or.inr ⟨"LeaningRicks", nw_mem 83 (by decide +kernel) (by decide +kernel)⟩, tyX3_ok, nmX3, rfl, by decide +kernel⟩
theorem foX4_218 : FldOK RX4 218 3 5 := ⟨TX3, RX3, rfl, by decide, by decide, gX3, rfl, Or.inr ⟨"LeaningRicks", nw_mem 85 (by decide +kernel) (by decide +kernel)⟩⟩
theorem poX4_218 : PutOK RX4 218 3 5 .int := ⟨TX3, RX3, tyX3, rfl, by decide, by decide, gX3, rfl, Or.inr ⟨"LeaningRicks", nw_mem 85 (by decide +kernel) (by decide +kernel)⟩, tyX3_ok, nmX3, rfl, by decide +kernel⟩
theorem foX4_221 : FldOK RX4 221 3 6 := ⟨TX3, RX3, rfl, by decide, by decide, gX3, rfl, Or.inr ⟨"LeaningRicks", nw_mem 87 (by decide +kernel) (by decide +kernel)⟩⟩
theorem poX4_221 : PutOK RX4 221 3 6 .int := ⟨TX3, RX3, tyX3, rfl, by decide, by decide, gX3, rfl, Or.inr ⟨"LeaningRicks", nw_mem 87 (by decide +kernel) (by decide +kernel)⟩, tyX3_ok, nmX3, rfl, by decide +kernel⟩
theorem foX4_224 : FldOK RX4 224 3 7 := ⟨TX3, RX3, rfl, by decide, by decide, gX3, rfl, Or.inr ⟨"LeaningRicks", nw_mem 89 (by decide +kernel) (by decide +kernel)⟩⟩
theorem poX4_224 : PutOK RX4 224 3 7 .int := ⟨TX3, RX3, tyX3, rfl, by decide, by decide, gX3, rfl, Or.inr ⟨"LeaningRicks", nw_mem 89 (by decide +kernel) (by decide +kernel)⟩, tyX3_ok, nmX3, rfl, by decide +kernel⟩
theorem foX4_227 : FldOK RX4 227 4 5 := ⟨TX4, RX4, rfl, by decide, by decide, gX4, rfl, Or.inl (gw_mem 147 (by decide +kernel) (by decide +kernel))⟩
theorem poX4_227 : PutOK RX4 227 4 5 .int := ⟨TX4, RX4, tyX4, rfl, by decide, by decide, gX4, rfl, Or.inl (gw_mem 147 (by decide +kernel) (by decide +kernel)), tyX4_ok, nmX4, rfl, by decide +kernel⟩
theorem foX4_234 : FldOK RX4 234 4 4 := ⟨TX4, RX4, rfl, by decide, by decide, gX4, rfl, Or.inl (gw_mem 146 (by decide +kernel) (by decide +kernel))⟩
theorem poX4_234 : PutOK RX4 234 4 4 .int := ⟨TX4, RX4, tyX4, rfl, by decide, by decide, gX4, rfl, Or.inl (gw_mem 146 (by decide +kernel) (by decide +kernel)), tyX4_ok, nmX4, rfl, by decide +kernel⟩
theorem foX4_241 : FldOK RX4 241 4 2 := ⟨TX4, RX4, rfl, by decide, by decide, gX4, rfl, Or.inl (gw_mem 144 (by decide +kernel) (by decide +kernel))⟩
theorem poX4_241 : PutOK RX4 241 4 2 .boolean := ⟨TX4, RX4, tyX4, rfl, by decide, by decide, gX4, rfl, Or.inl (gw_mem 144 (by decide +kernel) (by decide +kernel)), tyX4_ok, nmX4, rfl, by decide +kernel⟩
theorem foX0_9 : FldOK RX0 9 0 0 := ⟨TX0, RX0, rfl, by decide, by decide, gX0, rfl, Or.inl (gw_mem 129 (by decide +kernel) (by decide +kernel))⟩
theorem foX0_15 : FldOK RX0 15 0 1 := ⟨TX0, RX0, rfl, by decide, by decide, gX0, rfl, Or.inl (gw_mem 130 (by decide +kernel) (by decide +kernel))⟩
theorem foX0_18 : FldOK RX0 18 0 2 := ⟨TX0, RX0, rfl, by decide, by decide, gX0, rfl, Or.inl (gw_mem 131 (by decide +kernel) (by decide +kernel))⟩
theorem poX0_18 : PutOK RX0 18 0 2 .int := ⟨TX0, RX0, tyX0, rfl, by decide, by decide, gX0, rfl, Or.inl (gw_mem 131 (by decide +kernel) (by decide +kernel)), tyX0_ok, nmX0, rfl, by decide +kernel⟩
theorem foX0_22 : FldOK RX0 22 0 3 := ⟨TX0, RX0, rfl, by decide, by decide, gX0, rfl, Or.inl (gw_mem 132 (by decide +kernel) (by decide +kernel))⟩
theorem poX0_22 : PutOK RX0 22 0 3 .int := ⟨TX0, RX0, tyX0, rfl, by decide, by decide, gX0, rfl, Or.inl (gw_mem 132 (by decide +kernel) (by decide +kernel)), tyX0_ok, nmX0, rfl, by decide +kernel⟩
theorem foX0_29 : FldOK RX0 29 2 1 := ⟨TX2, RX2, rfl, by decide, by decide, gX2, rfl, Or.inr ⟨"LeaningRicks", nw_mem 116 (by decide +kernel) (by decide +kernel)⟩⟩
theorem poX0_29 : PutOK RX0 29 2 1 .int := ⟨TX2, RX2, tyX2, rfl, by decide, by decide, gX2, rfl, Or.inr ⟨"LeaningRicks", nw_mem 116 (by decide +kernel) (by decide +kernel)⟩, tyX2_ok, nmX2, rfl, by decide +kernel⟩
theorem foX1_9 : FldOK RX1 9 1 0 := ⟨TX1, RX1, rfl, by decide, by decide, gX1, rfl, Or.inl (gw_mem 55 (by decide +kernel) (by decide +kernel))⟩
theorem foX1_15 : FldOK RX1 15 1 1 := ⟨TX1, RX1, rfl, by decide, by decide, gX1, rfl, Or.inl (gw_mem 56 (by decide +kernel) (by decide +kernel))⟩
theorem foX1_18 : FldOK RX1 18 1 2 := ⟨TX1, RX1, rfl, by decide, by decide, gX1, rfl, Or.inl (gw_mem 57 (by decide +kernel) (by decide +kernel))⟩
theorem foX1_21 : FldOK RX1 21 1 3 := ⟨TX1, RX1, rfl, by decide, by decide, gX1, rfl, Or.inl (gw_mem 58 (by decide +kernel) (by decide +kernel))⟩
theorem poX1_21 : PutOK RX1 21 1 3 .int := ⟨TX1, RX1, tyX1, rfl, by decide, by decide, gX1, rfl, Or.inl (gw_mem 58 (by decide +kernel) (by decide +kernel)), tyX1_ok, nmX1, rfl, by decide +kernel⟩
theorem foX1_86 : FldOK RX1 86 1 4 := ⟨TX1, RX1, rfl, by decide, by decide, gX1, rfl, Or.inl (gw_mem 62 (by decide +kernel) (by decide +kernel))⟩
theorem poX1_86 : PutOK RX1 86 1 4 .int := ⟨TX1, RX1, tyX1, rfl, by decide, by decide, gX1, rfl, Or.inl (gw_mem 62 (by decide +kernel) (by decide +kernel)), tyX1_ok, nmX1, rfl, by decide +kernel⟩
theorem foX2_9 : FldOK RX2 9 2 0 := ⟨TX2, RX2, rfl, by decide, by decide, gX2, rfl, Or.inl (gw_mem 114 (by decide +kernel) (by decide +kernel))⟩
theorem foX2_15 : FldOK RX2 15 2 1 := ⟨TX2, RX2, rfl, by decide, by decide, gX2, rfl, Or.inl (gw_mem 115 (by decide +kernel) (by decide +kernel))⟩
theorem poX2_15 : PutOK RX2 15 2 1 .int := ⟨TX2, RX2, tyX2, rfl, by decide, by decide, gX2, rfl, Or.inl (gw_mem 115 (by decide +kernel) (by decide +kernel)), tyX2_ok, nmX2, rfl, by decide +kernel⟩
theorem foX3_11 : FldOK RX3 11 3 0 := ⟨TX3, RX3, rfl, by decide, by decide, gX3, rfl, Or.inl (gw_mem 75 (by decide +kernel) (by decide +kernel))⟩
theorem foX3_17 : FldOK RX3 17 3 1 := ⟨TX3, RX3, rfl, by decide, by decide, gX3, rfl, Or.inl (gw_mem 76 (by decide +kernel) (by decide +kernel))⟩
theorem poX3_17 : PutOK RX3 17 3 1 .int := ⟨TX3, RX3, tyX3, rfl, by decide, by decide, gX3, rfl, Or.inl (gw_mem 76 (by decide +kernel) (by decide +kernel)), tyX3_ok, nmX3, rfl, by decide +kernel⟩
theorem foX3_26 : FldOK RX3 26 1 3 := ⟨TX1, RX1, rfl, by decide, by decide, gX1, rfl, Or.inr ⟨"LeaningRicks", nw_mem 59 (by decide +kernel) (by decide +kernel)⟩⟩
theorem poX3_26 : PutOK RX3 26 1 3 .int := ⟨TX1, RX1, tyX1, rfl, by decide, by decide, gX1, rfl, Or.inr ⟨"LeaningRicks", nw_mem 59 (by decide +kernel) (by decide +kernel)⟩, tyX1_ok, nmX1, rfl, by decide +kernel⟩
theorem foX3_47 : FldOK RX3 47 3 2 := ⟨TX3, RX3, rfl, by decide, by decide, gX3, rfl, Or.inl (gw_mem 78 (by decide +kernel) (by decide +kernel))⟩
theorem poX3_47 : PutOK RX3 47 3 2 .int := ⟨TX3, RX3, tyX3, rfl, by decide, by decide, gX3, rfl, Or.inl (gw_mem 78 (by decide +kernel) (by decide +kernel)), tyX3_ok, nmX3, rfl, by decide +kernel⟩
theorem foX3_50 : FldOK RX3 50 3 3 := ⟨TX3, RX3, rfl, by decide, by decide, gX3, rfl, Or.inl (gw_mem 80 (by decide +kernel) (by decide +kernel))⟩
theorem poX3_50 : PutOK RX3 50 3 3 .int := ⟨TX3, RX3, tyX3, rfl, by decide, by decide, gX3, rfl, Or.inl (gw_mem 80 (by decide +kernel) (by decide +kernel)), tyX3_ok, nmX3, rfl, by decide +kernel⟩
theorem foX3_53 : FldOK RX3 53 3 4 := ⟨TX3, RX3, rfl, by decide, by decide, gX3, rfl, Or.inl (gw_mem 82 (by decide +kernel) (by decide +kernel))⟩
theorem poX3_53 : PutOK RX3 53 3 4 .int := ⟨TX3, RX3, tyX3, rfl, by decide, by decide, gX3, rfl, Or.inl (gw_mem 82 (by decide +kernel) (by decide +kernel)), tyX3_ok, nmX3, rfl, by decide +kernel⟩
theorem foX3_56 : FldOK RX3 56 3 5 := ⟨TX3, RX3, rfl, by decide, by decide, gX3, rfl, Or.inl (gw_mem 84 (by decide +kernel) (by decide +kernel))⟩
theorem poX3_56 : PutOK RX3 56 3 5 .int := ⟨TX3, RX3, tyX3, rfl, by decide, by decide, gX3, rfl, Or.inl (gw_mem 84 (by decide +kernel) (by decide +kernel)), tyX3_ok, nmX3, rfl, by decide +kernel⟩
theorem foX3_59 : FldOK RX3 59 3 6 := ⟨TX3, RX3, rfl, by decide, by decide, gX3, rfl, Or.inl (gw_mem 86 (by decide +kernel) (by decide +kernel))⟩
theorem poX3_59 : PutOK RX3 59 3 6 .int := ⟨TX3, RX3, tyX3, rfl, by decide, by decide, gX3, rfl, Or.inl (gw_mem 86 (by decide +kernel) (by decide +kernel)), tyX3_ok, nmX3, rfl, by decide +kernel⟩
theorem foX3_62 : FldOK RX3 62 3 7 := ⟨TX3, RX3, rfl, by decide, by decide, gX3, rfl, Or.inl (gw_mem 88 (by decide +kernel) (by decide +kernel))⟩
theorem poX3_62 : PutOK RX3 62 3 7 .int := ⟨TX3, RX3, tyX3, rfl, by decide, by decide, gX3, rfl, Or.inl (gw_mem 88 (by decide +kernel) (by decide +kernel)), tyX3_ok, nmX3, rfl, by decide +kernel⟩
theorem coX4_161 : Cond.constantLong RX4 161 (-11 : Int64) ∈ lw_good := gw_mem 523 (by decide +kernel) (by decide +kernel)
theorem coX4_171 : Cond.constantLong RX4 171 (-15 : Int64) ∈ lw_good := gw_mem 652 (by decide +kernel) (by decide +kernel)
theorem coX4_290 : Cond.constantFloat RX4 290 (1258291200 : UInt32) ∈ lw_good := gw_mem 637 (by decide +kernel) (by decide +kernel)
theorem coX4_291 : Cond.constantLong RX4 291 (1023 : Int64) ∈ lw_good := gw_mem 656 (by decide +kernel) (by decide +kernel)
theorem coX4_293 : Cond.constantDouble RX4 293 (4611686018427387904 : UInt64) ∈ lw_good := gw_mem 657 (by decide +kernel) (by decide +kernel)
theorem coX4_295 : Cond.constantDouble RX4 295 (4841369599423283200 : UInt64) ∈ lw_good := gw_mem 658 (by decide +kernel) (by decide +kernel)
theorem coX3_35 : Cond.constant RX3 35 (2147483647 : Int32) ∈ lw_good := gw_mem 582 (by decide +kernel) (by decide +kernel)
theorem coL_9 : Cond.constant RL 9 (65535 : Int32) ∈ lw_good := gw_mem 407 (by decide +kernel) (by decide +kernel)
theorem coL_74 : Cond.constantLong RL 74 (7 : Int64) ∈ lw_good := gw_mem 508 (by decide +kernel) (by decide +kernel)
theorem coL_76 : Cond.constantLong RL 76 (31 : Int64) ∈ lw_good := gw_mem 509 (by decide +kernel) (by decide +kernel)
theorem coL_132 : Cond.constantLong RL 132 (-15 : Int64) ∈ lw_good := gw_mem 659 (by decide +kernel) (by decide +kernel)
theorem coJxe99ae_137 : Cond.constantLong RJxe99ae 137 (9221120237041090560 : Int64) ∈ lw_good := gw_mem 669 (by decide +kernel) (by decide +kernel)
theorem coJxf58ca_77 : Cond.constant RJxf58ca 77 (2143289344 : Int32) ∈ lw_good := gw_mem 647 (by decide +kernel) (by decide +kernel)
theorem coJ13_314 : Cond.constantLong RJ13 314 (6148914691236517205 : Int64) ∈ lw_good := gw_mem 591 (by decide +kernel) (by decide +kernel)
theorem coJ13_316 : Cond.constantLong RJ13 316 (3689348814741910323 : Int64) ∈ lw_good := gw_mem 592 (by decide +kernel) (by decide +kernel)
theorem coJ13_318 : Cond.constantLong RJ13 318 (1085102592571150095 : Int64) ∈ lw_good := gw_mem 593 (by decide +kernel) (by decide +kernel)
theorem ic_m1 : Int32.ofInt (-1) = (-1) := by decide +kernel
theorem ic_0 : Int32.ofInt 0 = 0 := by decide +kernel
theorem ic_1 : Int32.ofInt 1 = 1 := by decide +kernel
theorem ic_2 : Int32.ofInt 2 = 2 := by decide +kernel
theorem ic_3 : Int32.ofInt 3 = 3 := by decide +kernel
theorem ic_4 : Int32.ofInt 4 = 4 := by decide +kernel
theorem ic_5 : Int32.ofInt 5 = 5 := by decide +kernel
theorem bi_m15 : (Int8.ofInt (-15)).toInt32 = (-15) := by decide +kernel
theorem bi_m14 : (Int8.ofInt (-14)).toInt32 = (-14) := by decide +kernel
theorem bi_m13 : (Int8.ofInt (-13)).toInt32 = (-13) := by decide +kernel
theorem bi_m12 : (Int8.ofInt (-12)).toInt32 = (-12) := by decide +kernel
theorem bi_m11 : (Int8.ofInt (-11)).toInt32 = (-11) := by decide +kernel
theorem bi_6 : (Int8.ofInt 6).toInt32 = 6 := by decide +kernel
theorem bi_7 : (Int8.ofInt 7).toInt32 = 7 := by decide +kernel
theorem bi_8 : (Int8.ofInt 8).toInt32 = 8 := by decide +kernel
theorem bi_9 : (Int8.ofInt 9).toInt32 = 9 := by decide +kernel
theorem bi_10 : (Int8.ofInt 10).toInt32 = 10 := by decide +kernel
theorem bi_11 : (Int8.ofInt 11).toInt32 = 11 := by decide +kernel
theorem bi_12 : (Int8.ofInt 12).toInt32 = 12 := by decide +kernel
theorem bi_14 : (Int8.ofInt 14).toInt32 = 14 := by decide +kernel
theorem bi_15 : (Int8.ofInt 15).toInt32 = 15 := by decide +kernel
theorem bi_16 : (Int8.ofInt 16).toInt32 = 16 := by decide +kernel
theorem bi_20 : (Int8.ofInt 20).toInt32 = 20 := by decide +kernel
theorem bi_23 : (Int8.ofInt 23).toInt32 = 23 := by decide +kernel
theorem bi_28 : (Int8.ofInt 28).toInt32 = 28 := by decide +kernel
theorem bi_30 : (Int8.ofInt 30).toInt32 = 30 := by decide +kernel
theorem bi_32 : (Int8.ofInt 32).toInt32 = 32 := by decide +kernel
theorem bi_33 : (Int8.ofInt 33).toInt32 = 33 := by decide +kernel
theorem bi_37 : (Int8.ofInt 37).toInt32 = 37 := by decide +kernel
theorem bi_38 : (Int8.ofInt 38).toInt32 = 38 := by decide +kernel
theorem bi_40 : (Int8.ofInt 40).toInt32 = 40 := by decide +kernel
theorem bi_41 : (Int8.ofInt 41).toInt32 = 41 := by decide +kernel
theorem bi_42 : (Int8.ofInt 42).toInt32 = 42 := by decide +kernel
theorem bi_44 : (Int8.ofInt 44).toInt32 = 44 := by decide +kernel
theorem bi_48 : (Int8.ofInt 48).toInt32 = 48 := by decide +kernel
theorem bi_52 : (Int8.ofInt 52).toInt32 = 52 := by decide +kernel
theorem bi_54 : (Int8.ofInt 54).toInt32 = 54 := by decide +kernel
theorem bi_55 : (Int8.ofInt 55).toInt32 = 55 := by decide +kernel
theorem bi_56 : (Int8.ofInt 56).toInt32 = 56 := by decide +kernel
theorem bi_57 : (Int8.ofInt 57).toInt32 = 57 := by decide +kernel
theorem bi_58 : (Int8.ofInt 58).toInt32 = 58 := by decide +kernel
theorem bi_59 : (Int8.ofInt 59).toInt32 = 59 := by decide +kernel
theorem bi_60 : (Int8.ofInt 60).toInt32 = 60 := by decide +kernel
theorem bi_64 : (Int8.ofInt 64).toInt32 = 64 := by decide +kernel
theorem bi_70 : (Int8.ofInt 70).toInt32 = 70 := by decide +kernel
theorem bi_71 : (Int8.ofInt 71).toInt32 = 71 := by decide +kernel
theorem bi_90 : (Int8.ofInt 90).toInt32 = 90 := by decide +kernel
theorem bi_99 : (Int8.ofInt 99).toInt32 = 99 := by decide +kernel
theorem bi_100 : (Int8.ofInt 100).toInt32 = 100 := by decide +kernel
theorem bi_101 : (Int8.ofInt 101).toInt32 = 101 := by decide +kernel
theorem bi_126 : (Int8.ofInt 126).toInt32 = 126 := by decide +kernel
theorem bi_127 : (Int8.ofInt 127).toInt32 = 127 := by decide +kernel
theorem si_m1000 : (Int16.ofInt (-1000)).toInt32 = (-1000) := by decide +kernel
theorem si_200 : (Int16.ofInt 200).toInt32 = 200 := by decide +kernel
theorem si_255 : (Int16.ofInt 255).toInt32 = 255 := by decide +kernel
theorem si_300 : (Int16.ofInt 300).toInt32 = 300 := by decide +kernel
theorem si_577 : (Int16.ofInt 577).toInt32 = 577 := by decide +kernel
theorem si_700 : (Int16.ofInt 700).toInt32 = 700 := by decide +kernel
theorem si_936 : (Int16.ofInt 936).toInt32 = 936 := by decide +kernel
theorem si_999 : (Int16.ofInt 999).toInt32 = 999 := by decide +kernel
theorem si_1000 : (Int16.ofInt 1000).toInt32 = 1000 := by decide +kernel
theorem si_1001 : (Int16.ofInt 1001).toInt32 = 1001 := by decide +kernel
end
