-- ===== PART A: goes FIRST, ahead of the names: the tables' words, and 'selects' of the private methods out of them =====
/-- a private method of a class that the tables say can be made, by its rows of tables_1 -/
def lw_okq (q : MethodName × Nat) : Prop := (q.1.cls ≠ "java/lang/invoke/MethodHandle" ∧ q.1.cls ≠ "java/lang/invoke/VarHandle") ∧ Cond.instantiable q.1.cls q.2 ∈ tables_1 ∧ Cond.privateMethod q.1 ∈ tables_1 ∧ Cond.instanceMethod q.1 ∈ tables_1
theorem lw_p0 : lw_okq (⟨"LeaningRicks", "hold", "()V"⟩, 11) := ⟨⟨by decide +kernel, by decide +kernel⟩, List.mem_of_getElem? (i := 17) (by decide +kernel), List.mem_of_getElem? (i := 163) (by decide +kernel), List.mem_of_getElem? (i := 164) (by decide +kernel)⟩
theorem lw_p1 : lw_okq (⟨"LeaningRicks", "beforeNow", "()LLeaningRicks$Yard;"⟩, 11) := ⟨⟨by decide +kernel, by decide +kernel⟩, List.mem_of_getElem? (i := 17) (by decide +kernel), List.mem_of_getElem? (i := 167) (by decide +kernel), List.mem_of_getElem? (i := 168) (by decide +kernel)⟩
theorem lw_p2 : lw_okq (⟨"LeaningRicks", "putNow", "(III)I"⟩, 11) := ⟨⟨by decide +kernel, by decide +kernel⟩, List.mem_of_getElem? (i := 17) (by decide +kernel), List.mem_of_getElem? (i := 186) (by decide +kernel), List.mem_of_getElem? (i := 187) (by decide +kernel)⟩
theorem lw_p3 : lw_okq (⟨"LeaningRicks", "refuse", "(II)I"⟩, 11) := ⟨⟨by decide +kernel, by decide +kernel⟩, List.mem_of_getElem? (i := 17) (by decide +kernel), List.mem_of_getElem? (i := 199) (by decide +kernel), List.mem_of_getElem? (i := 200) (by decide +kernel)⟩
theorem lw_p4 : lw_okq (⟨"LeaningRicks$Rick", "set", "(IIII)V"⟩, 5) := ⟨⟨by decide +kernel, by decide +kernel⟩, List.mem_of_getElem? (i := 32) (by decide +kernel), List.mem_of_getElem? (i := 222) (by decide +kernel), List.mem_of_getElem? (i := 223) (by decide +kernel)⟩
theorem lw_p5 : lw_okq (⟨"LeaningRicks$Rick", "setDepth", "(II)V"⟩, 5) := ⟨⟨by decide +kernel, by decide +kernel⟩, List.mem_of_getElem? (i := 32) (by decide +kernel), List.mem_of_getElem? (i := 258) (by decide +kernel), List.mem_of_getElem? (i := 259) (by decide +kernel)⟩
theorem lw_p6 : lw_okq (⟨"LeaningRicks", "keep", "(I)I"⟩, 11) := ⟨⟨by decide +kernel, by decide +kernel⟩, List.mem_of_getElem? (i := 17) (by decide +kernel), List.mem_of_getElem? (i := 262) (by decide +kernel), List.mem_of_getElem? (i := 263) (by decide +kernel)⟩
theorem lw_p7 : lw_okq (⟨"LeaningRicks", "takeNow", "(II)I"⟩, 11) := ⟨⟨by decide +kernel, by decide +kernel⟩, List.mem_of_getElem? (i := 17) (by decide +kernel), List.mem_of_getElem? (i := 273) (by decide +kernel), List.mem_of_getElem? (i := 274) (by decide +kernel)⟩
theorem lw_p8 : lw_okq (⟨"LeaningRicks$Rick", "raise", "(II)V"⟩, 5) := ⟨⟨by decide +kernel, by decide +kernel⟩, List.mem_of_getElem? (i := 32) (by decide +kernel), List.mem_of_getElem? (i := 282) (by decide +kernel), List.mem_of_getElem? (i := 283) (by decide +kernel)⟩
theorem lw_p9 : lw_okq (⟨"LeaningRicks", "buildWhole", "(LLeaningRicks$Rick;)I"⟩, 11) := ⟨⟨by decide +kernel, by decide +kernel⟩, List.mem_of_getElem? (i := 17) (by decide +kernel), List.mem_of_getElem? (i := 286) (by decide +kernel), List.mem_of_getElem? (i := 287) (by decide +kernel)⟩
theorem lw_p10 : lw_okq (⟨"LeaningRicks", "buildNow", "(I)I"⟩, 11) := ⟨⟨by decide +kernel, by decide +kernel⟩, List.mem_of_getElem? (i := 17) (by decide +kernel), List.mem_of_getElem? (i := 298) (by decide +kernel), List.mem_of_getElem? (i := 299) (by decide +kernel)⟩
theorem lw_p11 : lw_okq (⟨"LeaningRicks", "pourNow", "(II)I"⟩, 11) := ⟨⟨by decide +kernel, by decide +kernel⟩, List.mem_of_getElem? (i := 17) (by decide +kernel), List.mem_of_getElem? (i := 306) (by decide +kernel), List.mem_of_getElem? (i := 307) (by decide +kernel)⟩
theorem lw_p12 : lw_okq (⟨"LeaningRicks", "limitNow", "(I)I"⟩, 11) := ⟨⟨by decide +kernel, by decide +kernel⟩, List.mem_of_getElem? (i := 17) (by decide +kernel), List.mem_of_getElem? (i := 315) (by decide +kernel), List.mem_of_getElem? (i := 316) (by decide +kernel)⟩
theorem lw_p13 : lw_okq (⟨"LeaningRicks$Rick", "loadsOfLighter", "(J)I"⟩, 5) := ⟨⟨by decide +kernel, by decide +kernel⟩, List.mem_of_getElem? (i := 32) (by decide +kernel), List.mem_of_getElem? (i := 382) (by decide +kernel), List.mem_of_getElem? (i := 383) (by decide +kernel)⟩
theorem lw_p14 : lw_okq (⟨"LeaningRicks$Orders", "isOrder", "(LLeaningRicks$Row;)Z"⟩, 4) := ⟨⟨by decide +kernel, by decide +kernel⟩, List.mem_of_getElem? (i := 106) (by decide +kernel), List.mem_of_getElem? (i := 472) (by decide +kernel), List.mem_of_getElem? (i := 473) (by decide +kernel)⟩
theorem lw_p15 : lw_okq (⟨"LeaningRicks$Orders", "isCode", "(LLeaningRicks$Row;I)Z"⟩, 4) := ⟨⟨by decide +kernel, by decide +kernel⟩, List.mem_of_getElem? (i := 106) (by decide +kernel), List.mem_of_getElem? (i := 480) (by decide +kernel), List.mem_of_getElem? (i := 481) (by decide +kernel)⟩
def lw_privs_1 : List (MethodName × Nat) := [(⟨"LeaningRicks", "hold", "()V"⟩, 11), (⟨"LeaningRicks", "beforeNow", "()LLeaningRicks$Yard;"⟩, 11), (⟨"LeaningRicks", "putNow", "(III)I"⟩, 11), (⟨"LeaningRicks", "refuse", "(II)I"⟩, 11), (⟨"LeaningRicks$Rick", "set", "(IIII)V"⟩, 5), (⟨"LeaningRicks$Rick", "setDepth", "(II)V"⟩, 5), (⟨"LeaningRicks", "keep", "(I)I"⟩, 11), (⟨"LeaningRicks", "takeNow", "(II)I"⟩, 11), (⟨"LeaningRicks$Rick", "raise", "(II)V"⟩, 5), (⟨"LeaningRicks", "buildWhole", "(LLeaningRicks$Rick;)I"⟩, 11), (⟨"LeaningRicks", "buildNow", "(I)I"⟩, 11), (⟨"LeaningRicks", "pourNow", "(II)I"⟩, 11), (⟨"LeaningRicks", "limitNow", "(I)I"⟩, 11), (⟨"LeaningRicks$Rick", "loadsOfLighter", "(J)I"⟩, 5), (⟨"LeaningRicks$Orders", "isOrder", "(LLeaningRicks$Row;)Z"⟩, 4), (⟨"LeaningRicks$Orders", "isCode", "(LLeaningRicks$Row;I)Z"⟩, 4)]
theorem lw_r1 : ∀ q ∈ lw_privs_1, lw_okq q := List.forall_mem_cons.mpr ⟨lw_p0, List.forall_mem_cons.mpr ⟨lw_p1, List.forall_mem_cons.mpr ⟨lw_p2, List.forall_mem_cons.mpr ⟨lw_p3, List.forall_mem_cons.mpr ⟨lw_p4, List.forall_mem_cons.mpr ⟨lw_p5, List.forall_mem_cons.mpr ⟨lw_p6, List.forall_mem_cons.mpr ⟨lw_p7, List.forall_mem_cons.mpr ⟨lw_p8, List.forall_mem_cons.mpr ⟨lw_p9, List.forall_mem_cons.mpr ⟨lw_p10, List.forall_mem_cons.mpr ⟨lw_p11, List.forall_mem_cons.mpr ⟨lw_p12, List.forall_mem_cons.mpr ⟨lw_p13, List.forall_mem_cons.mpr ⟨lw_p14, List.forall_mem_cons.mpr ⟨lw_p15, fun _ h => absurd h List.not_mem_nil⟩⟩⟩⟩⟩⟩⟩⟩⟩⟩⟩⟩⟩⟩⟩⟩
theorem lw_p16 : lw_okq (⟨"LeaningRicks$Orders", "isNumber", "(LLeaningRicks$Row;II)Z"⟩, 4) := ⟨⟨by decide +kernel, by decide +kernel⟩, List.mem_of_getElem? (i := 106) (by decide +kernel), List.mem_of_getElem? (i := 484) (by decide +kernel), List.mem_of_getElem? (i := 485) (by decide +kernel)⟩
theorem lw_p17 : lw_okq (⟨"LeaningRicks", "carryOut", "(I)I"⟩, 11) := ⟨⟨by decide +kernel, by decide +kernel⟩, List.mem_of_getElem? (i := 17) (by decide +kernel), List.mem_of_getElem? (i := 495) (by decide +kernel), List.mem_of_getElem? (i := 496) (by decide +kernel)⟩
theorem lw_p18 : lw_okq (⟨"LeaningRicks", "giveBack", "()V"⟩, 11) := ⟨⟨by decide +kernel, by decide +kernel⟩, List.mem_of_getElem? (i := 17) (by decide +kernel), List.mem_of_getElem? (i := 507) (by decide +kernel), List.mem_of_getElem? (i := 508) (by decide +kernel)⟩
theorem lw_p19 : lw_okq (⟨"LeaningRicksModel", "find", "(II)I"⟩, 22) := ⟨⟨by decide +kernel, by decide +kernel⟩, List.mem_of_getElem? (i := 567) (by decide +kernel), List.mem_of_getElem? (i := 655) (by decide +kernel), List.mem_of_getElem? (i := 656) (by decide +kernel)⟩
theorem lw_p20 : lw_okq (⟨"LeaningRicksModel", "top", "(I)I"⟩, 22) := ⟨⟨by decide +kernel, by decide +kernel⟩, List.mem_of_getElem? (i := 567) (by decide +kernel), List.mem_of_getElem? (i := 659) (by decide +kernel), List.mem_of_getElem? (i := 660) (by decide +kernel)⟩
theorem lw_p21 : lw_okq (⟨"LeaningRicksModel", "of", "(III)I"⟩, 22) := ⟨⟨by decide +kernel, by decide +kernel⟩, List.mem_of_getElem? (i := 567) (by decide +kernel), List.mem_of_getElem? (i := 663) (by decide +kernel), List.mem_of_getElem? (i := 664) (by decide +kernel)⟩
theorem lw_p22 : lw_okq (⟨"LeaningRicksModel", "refuse", "(ZII)Z"⟩, 22) := ⟨⟨by decide +kernel, by decide +kernel⟩, List.mem_of_getElem? (i := 567) (by decide +kernel), List.mem_of_getElem? (i := 667) (by decide +kernel), List.mem_of_getElem? (i := 668) (by decide +kernel)⟩
theorem lw_p23 : lw_okq (⟨"LeaningRicksModel", "count", "(I)I"⟩, 22) := ⟨⟨by decide +kernel, by decide +kernel⟩, List.mem_of_getElem? (i := 567) (by decide +kernel), List.mem_of_getElem? (i := 671) (by decide +kernel), List.mem_of_getElem? (i := 672) (by decide +kernel)⟩
theorem lw_p24 : lw_okq (⟨"LeaningRicksModel", "size", "(II)I"⟩, 22) := ⟨⟨by decide +kernel, by decide +kernel⟩, List.mem_of_getElem? (i := 567) (by decide +kernel), List.mem_of_getElem? (i := 675) (by decide +kernel), List.mem_of_getElem? (i := 676) (by decide +kernel)⟩
theorem lw_p25 : lw_okq (⟨"LeaningRicksModel", "change", "()V"⟩, 22) := ⟨⟨by decide +kernel, by decide +kernel⟩, List.mem_of_getElem? (i := 567) (by decide +kernel), List.mem_of_getElem? (i := 679) (by decide +kernel), List.mem_of_getElem? (i := 680) (by decide +kernel)⟩
theorem lw_p26 : lw_okq (⟨"LeaningRicksModel", "remember", "([I)V"⟩, 22) := ⟨⟨by decide +kernel, by decide +kernel⟩, List.mem_of_getElem? (i := 567) (by decide +kernel), List.mem_of_getElem? (i := 683) (by decide +kernel), List.mem_of_getElem? (i := 684) (by decide +kernel)⟩
theorem lw_p27 : lw_okq (⟨"LeaningRicksModel", "enter", "(III)I"⟩, 22) := ⟨⟨by decide +kernel, by decide +kernel⟩, List.mem_of_getElem? (i := 567) (by decide +kernel), List.mem_of_getElem? (i := 690) (by decide +kernel), List.mem_of_getElem? (i := 691) (by decide +kernel)⟩
theorem lw_p28 : lw_okq (⟨"LeaningRicksModel", "emptyStall", "(I)I"⟩, 22) := ⟨⟨by decide +kernel, by decide +kernel⟩, List.mem_of_getElem? (i := 567) (by decide +kernel), List.mem_of_getElem? (i := 694) (by decide +kernel), List.mem_of_getElem? (i := 695) (by decide +kernel)⟩
theorem lw_p29 : lw_okq (⟨"LeaningRicksModel", "put", "(IIII)V"⟩, 22) := ⟨⟨by decide +kernel, by decide +kernel⟩, List.mem_of_getElem? (i := 567) (by decide +kernel), List.mem_of_getElem? (i := 698) (by decide +kernel), List.mem_of_getElem? (i := 699) (by decide +kernel)⟩
theorem lw_p30 : lw_okq (⟨"LeaningRicksModel", "hang", "(II)V"⟩, 22) := ⟨⟨by decide +kernel, by decide +kernel⟩, List.mem_of_getElem? (i := 567) (by decide +kernel), List.mem_of_getElem? (i := 702) (by decide +kernel), List.mem_of_getElem? (i := 703) (by decide +kernel)⟩
theorem lw_p31 : lw_okq (⟨"LeaningRicksModel", "setTop", "(II)V"⟩, 22) := ⟨⟨by decide +kernel, by decide +kernel⟩, List.mem_of_getElem? (i := 567) (by decide +kernel), List.mem_of_getElem? (i := 706) (by decide +kernel), List.mem_of_getElem? (i := 707) (by decide +kernel)⟩
def lw_privs_2 : List (MethodName × Nat) := [(⟨"LeaningRicks$Orders", "isNumber", "(LLeaningRicks$Row;II)Z"⟩, 4), (⟨"LeaningRicks", "carryOut", "(I)I"⟩, 11), (⟨"LeaningRicks", "giveBack", "()V"⟩, 11), (⟨"LeaningRicksModel", "find", "(II)I"⟩, 22), (⟨"LeaningRicksModel", "top", "(I)I"⟩, 22), (⟨"LeaningRicksModel", "of", "(III)I"⟩, 22), (⟨"LeaningRicksModel", "refuse", "(ZII)Z"⟩, 22), (⟨"LeaningRicksModel", "count", "(I)I"⟩, 22), (⟨"LeaningRicksModel", "size", "(II)I"⟩, 22), (⟨"LeaningRicksModel", "change", "()V"⟩, 22), (⟨"LeaningRicksModel", "remember", "([I)V"⟩, 22), (⟨"LeaningRicksModel", "enter", "(III)I"⟩, 22), (⟨"LeaningRicksModel", "emptyStall", "(I)I"⟩, 22), (⟨"LeaningRicksModel", "put", "(IIII)V"⟩, 22), (⟨"LeaningRicksModel", "hang", "(II)V"⟩, 22), (⟨"LeaningRicksModel", "setTop", "(II)V"⟩, 22)]
theorem lw_r2 : ∀ q ∈ lw_privs_2, lw_okq q := List.forall_mem_cons.mpr ⟨lw_p16, List.forall_mem_cons.mpr ⟨lw_p17, List.forall_mem_cons.mpr ⟨lw_p18, List.forall_mem_cons.mpr ⟨lw_p19, List.forall_mem_cons.mpr ⟨lw_p20, List.forall_mem_cons.mpr ⟨lw_p21, List.forall_mem_cons.mpr ⟨lw_p22, List.forall_mem_cons.mpr ⟨lw_p23, List.forall_mem_cons.mpr ⟨lw_p24, List.forall_mem_cons.mpr ⟨lw_p25, List.forall_mem_cons.mpr ⟨lw_p26, List.forall_mem_cons.mpr ⟨lw_p27, List.forall_mem_cons.mpr ⟨lw_p28, List.forall_mem_cons.mpr ⟨lw_p29, List.forall_mem_cons.mpr ⟨lw_p30, List.forall_mem_cons.mpr ⟨lw_p31, fun _ h => absurd h List.not_mem_nil⟩⟩⟩⟩⟩⟩⟩⟩⟩⟩⟩⟩⟩⟩⟩⟩
theorem lw_p32 : lw_okq (⟨"LeaningRicksModel", "most", "(I)I"⟩, 22) := ⟨⟨by decide +kernel, by decide +kernel⟩, List.mem_of_getElem? (i := 567) (by decide +kernel), List.mem_of_getElem? (i := 710) (by decide +kernel), List.mem_of_getElem? (i := 711) (by decide +kernel)⟩
theorem lw_p33 : lw_okq (⟨"LeaningRicksModel", "setMost", "(II)V"⟩, 22) := ⟨⟨by decide +kernel, by decide +kernel⟩, List.mem_of_getElem? (i := 567) (by decide +kernel), List.mem_of_getElem? (i := 714) (by decide +kernel), List.mem_of_getElem? (i := 715) (by decide +kernel)⟩
theorem lw_p34 : lw_okq (⟨"LeaningRicksModel", "depth", "(II)I"⟩, 22) := ⟨⟨by decide +kernel, by decide +kernel⟩, List.mem_of_getElem? (i := 567) (by decide +kernel), List.mem_of_getElem? (i := 718) (by decide +kernel), List.mem_of_getElem? (i := 719) (by decide +kernel)⟩
theorem lw_p35 : lw_okq (⟨"LeaningRicksModel", "above", "(II)I"⟩, 22) := ⟨⟨by decide +kernel, by decide +kernel⟩, List.mem_of_getElem? (i := 567) (by decide +kernel), List.mem_of_getElem? (i := 722) (by decide +kernel), List.mem_of_getElem? (i := 723) (by decide +kernel)⟩
theorem lw_p36 : lw_okq (⟨"LeaningRicksModel", "mayHave", "(I)I"⟩, 22) := ⟨⟨by decide +kernel, by decide +kernel⟩, List.mem_of_getElem? (i := 567) (by decide +kernel), List.mem_of_getElem? (i := 726) (by decide +kernel), List.mem_of_getElem? (i := 727) (by decide +kernel)⟩
theorem lw_p37 : lw_okq (⟨"LeaningRicksModel", "leans", "(II)Z"⟩, 22) := ⟨⟨by decide +kernel, by decide +kernel⟩, List.mem_of_getElem? (i := 567) (by decide +kernel), List.mem_of_getElem? (i := 730) (by decide +kernel), List.mem_of_getElem? (i := 731) (by decide +kernel)⟩
theorem lw_p38 : lw_okq (⟨"LeaningRicksModel", "buildPart", "(II)V"⟩, 22) := ⟨⟨by decide +kernel, by decide +kernel⟩, List.mem_of_getElem? (i := 567) (by decide +kernel), List.mem_of_getElem? (i := 734) (by decide +kernel), List.mem_of_getElem? (i := 735) (by decide +kernel)⟩
theorem lw_p39 : lw_okq (⟨"LeaningRicksModel", "listFrom", "(II)V"⟩, 22) := ⟨⟨by decide +kernel, by decide +kernel⟩, List.mem_of_getElem? (i := 567) (by decide +kernel), List.mem_of_getElem? (i := 738) (by decide +kernel), List.mem_of_getElem? (i := 739) (by decide +kernel)⟩
theorem lw_p40 : lw_okq (⟨"LeaningRicksModel", "make", "(III)I"⟩, 22) := ⟨⟨by decide +kernel, by decide +kernel⟩, List.mem_of_getElem? (i := 567) (by decide +kernel), List.mem_of_getElem? (i := 742) (by decide +kernel), List.mem_of_getElem? (i := 743) (by decide +kernel)⟩
theorem lw_p41 : lw_okq (⟨"LeaningRicksModel", "replace", "(IIII)V"⟩, 22) := ⟨⟨by decide +kernel, by decide +kernel⟩, List.mem_of_getElem? (i := 567) (by decide +kernel), List.mem_of_getElem? (i := 746) (by decide +kernel), List.mem_of_getElem? (i := 747) (by decide +kernel)⟩
theorem lw_p42 : lw_okq (⟨"LeaningRicksModel", "takeOut", "(II)V"⟩, 22) := ⟨⟨by decide +kernel, by decide +kernel⟩, List.mem_of_getElem? (i := 567) (by decide +kernel), List.mem_of_getElem? (i := 754) (by decide +kernel), List.mem_of_getElem? (i := 755) (by decide +kernel)⟩
theorem lw_p43 : lw_okq (⟨"LeaningRicksModel", "unhang", "(II)V"⟩, 22) := ⟨⟨by decide +kernel, by decide +kernel⟩, List.mem_of_getElem? (i := 567) (by decide +kernel), List.mem_of_getElem? (i := 758) (by decide +kernel), List.mem_of_getElem? (i := 759) (by decide +kernel)⟩
theorem lw_p44 : lw_okq (⟨"LeaningRicksModel", "clear", "(II)V"⟩, 22) := ⟨⟨by decide +kernel, by decide +kernel⟩, List.mem_of_getElem? (i := 567) (by decide +kernel), List.mem_of_getElem? (i := 762) (by decide +kernel), List.mem_of_getElem? (i := 763) (by decide +kernel)⟩
theorem lw_p45 : lw_okq (⟨"LeaningRicksModel", "buildWhole", "(I)V"⟩, 22) := ⟨⟨by decide +kernel, by decide +kernel⟩, List.mem_of_getElem? (i := 567) (by decide +kernel), List.mem_of_getElem? (i := 766) (by decide +kernel), List.mem_of_getElem? (i := 767) (by decide +kernel)⟩
theorem lw_p46 : lw_okq (⟨"LeaningRicksModel", "listAll", "(I)V"⟩, 22) := ⟨⟨by decide +kernel, by decide +kernel⟩, List.mem_of_getElem? (i := 567) (by decide +kernel), List.mem_of_getElem? (i := 770) (by decide +kernel), List.mem_of_getElem? (i := 771) (by decide +kernel)⟩
theorem lw_p47 : lw_okq (⟨"LeaningRicksModel", "common", "(II)I"⟩, 22) := ⟨⟨by decide +kernel, by decide +kernel⟩, List.mem_of_getElem? (i := 567) (by decide +kernel), List.mem_of_getElem? (i := 782) (by decide +kernel), List.mem_of_getElem? (i := 783) (by decide +kernel)⟩
def lw_privs_3 : List (MethodName × Nat) := [(⟨"LeaningRicksModel", "most", "(I)I"⟩, 22), (⟨"LeaningRicksModel", "setMost", "(II)V"⟩, 22), (⟨"LeaningRicksModel", "depth", "(II)I"⟩, 22), (⟨"LeaningRicksModel", "above", "(II)I"⟩, 22), (⟨"LeaningRicksModel", "mayHave", "(I)I"⟩, 22), (⟨"LeaningRicksModel", "leans", "(II)Z"⟩, 22), (⟨"LeaningRicksModel", "buildPart", "(II)V"⟩, 22), (⟨"LeaningRicksModel", "listFrom", "(II)V"⟩, 22), (⟨"LeaningRicksModel", "make", "(III)I"⟩, 22), (⟨"LeaningRicksModel", "replace", "(IIII)V"⟩, 22), (⟨"LeaningRicksModel", "takeOut", "(II)V"⟩, 22), (⟨"LeaningRicksModel", "unhang", "(II)V"⟩, 22), (⟨"LeaningRicksModel", "clear", "(II)V"⟩, 22), (⟨"LeaningRicksModel", "buildWhole", "(I)V"⟩, 22), (⟨"LeaningRicksModel", "listAll", "(I)V"⟩, 22), (⟨"LeaningRicksModel", "common", "(II)I"⟩, 22)]
theorem lw_r3 : ∀ q ∈ lw_privs_3, lw_okq q := List.forall_mem_cons.mpr ⟨lw_p32, List.forall_mem_cons.mpr ⟨lw_p33, List.forall_mem_cons.mpr ⟨lw_p34, List.forall_mem_cons.mpr ⟨lw_p35, List.forall_mem_cons.mpr ⟨lw_p36, List.forall_mem_cons.mpr ⟨lw_p37, List.forall_mem_cons.mpr ⟨lw_p38, List.forall_mem_cons.mpr ⟨lw_p39, List.forall_mem_cons.mpr ⟨lw_p40, List.forall_mem_cons.mpr ⟨lw_p41, List.forall_mem_cons.mpr ⟨lw_p42, List.forall_mem_cons.mpr ⟨lw_p43, List.forall_mem_cons.mpr ⟨lw_p44, List.forall_mem_cons.mpr ⟨lw_p45, List.forall_mem_cons.mpr ⟨lw_p46, List.forall_mem_cons.mpr ⟨lw_p47, fun _ h => absurd h List.not_mem_nil⟩⟩⟩⟩⟩⟩⟩⟩⟩⟩⟩⟩⟩⟩⟩⟩
theorem lw_p48 : lw_okq (⟨"LeaningRicksModel", "loads", "(II)I"⟩, 22) := ⟨⟨by decide +kernel, by decide +kernel⟩, List.mem_of_getElem? (i := 567) (by decide +kernel), List.mem_of_getElem? (i := 794) (by decide +kernel), List.mem_of_getElem? (i := 795) (by decide +kernel)⟩
theorem lw_p49 : lw_okq (⟨"LeaningRicksModel", "weightOr", "(II)I"⟩, 22) := ⟨⟨by decide +kernel, by decide +kernel⟩, List.mem_of_getElem? (i := 567) (by decide +kernel), List.mem_of_getElem? (i := 798) (by decide +kernel), List.mem_of_getElem? (i := 799) (by decide +kernel)⟩
theorem lw_p50 : lw_okq (⟨"LeaningRicksModel", "greatestDepth", "(I)I"⟩, 22) := ⟨⟨by decide +kernel, by decide +kernel⟩, List.mem_of_getElem? (i := 567) (by decide +kernel), List.mem_of_getElem? (i := 806) (by decide +kernel), List.mem_of_getElem? (i := 807) (by decide +kernel)⟩
theorem lw_p51 : lw_okq (⟨"LeaningRicksModel", "leaning", "(I)I"⟩, 22) := ⟨⟨by decide +kernel, by decide +kernel⟩, List.mem_of_getElem? (i := 567) (by decide +kernel), List.mem_of_getElem? (i := 810) (by decide +kernel), List.mem_of_getElem? (i := 811) (by decide +kernel)⟩
theorem lw_p52 : lw_okq (⟨"LeaningRicksModel", "allDepths", "(I)I"⟩, 22) := ⟨⟨by decide +kernel, by decide +kernel⟩, List.mem_of_getElem? (i := 567) (by decide +kernel), List.mem_of_getElem? (i := 814) (by decide +kernel), List.mem_of_getElem? (i := 815) (by decide +kernel)⟩
theorem lw_p53 : lw_okq (⟨"LeaningRicksModel", "lowest", "(I)I"⟩, 22) := ⟨⟨by decide +kernel, by decide +kernel⟩, List.mem_of_getElem? (i := 567) (by decide +kernel), List.mem_of_getElem? (i := 818) (by decide +kernel), List.mem_of_getElem? (i := 819) (by decide +kernel)⟩
theorem lw_p54 : lw_okq (⟨"LeaningRicksModel", "isThere", "(I)Z"⟩, 22) := ⟨⟨by decide +kernel, by decide +kernel⟩, List.mem_of_getElem? (i := 567) (by decide +kernel), List.mem_of_getElem? (i := 848) (by decide +kernel), List.mem_of_getElem? (i := 849) (by decide +kernel)⟩
theorem lw_p55 : lw_okq (⟨"LeaningRicksModel", "isAhead", "(II)Z"⟩, 22) := ⟨⟨by decide +kernel, by decide +kernel⟩, List.mem_of_getElem? (i := 567) (by decide +kernel), List.mem_of_getElem? (i := 852) (by decide +kernel), List.mem_of_getElem? (i := 853) (by decide +kernel)⟩
theorem lw_p56 : lw_okq (⟨"LeaningRicksModel", "ofAll", "(II)I"⟩, 22) := ⟨⟨by decide +kernel, by decide +kernel⟩, List.mem_of_getElem? (i := 567) (by decide +kernel), List.mem_of_getElem? (i := 856) (by decide +kernel), List.mem_of_getElem? (i := 857) (by decide +kernel)⟩
theorem lw_p57 : lw_okq (⟨"LeaningRicksModel", "load", "(III)I"⟩, 22) := ⟨⟨by decide +kernel, by decide +kernel⟩, List.mem_of_getElem? (i := 567) (by decide +kernel), List.mem_of_getElem? (i := 867) (by decide +kernel), List.mem_of_getElem? (i := 868) (by decide +kernel)⟩
theorem lw_p58 : lw_okq (⟨"LeaningRicksModel", "bits", "(IIJ)J"⟩, 22) := ⟨⟨by decide +kernel, by decide +kernel⟩, List.mem_of_getElem? (i := 567) (by decide +kernel), List.mem_of_getElem? (i := 879) (by decide +kernel), List.mem_of_getElem? (i := 880) (by decide +kernel)⟩
theorem lw_p59 : lw_okq (⟨"LeaningRicksModel", "countOrders", "()I"⟩, 22) := ⟨⟨by decide +kernel, by decide +kernel⟩, List.mem_of_getElem? (i := 567) (by decide +kernel), List.mem_of_getElem? (i := 925) (by decide +kernel), List.mem_of_getElem? (i := 926) (by decide +kernel)⟩
theorem lw_p60 : lw_okq (⟨"LeaningRicksModel", "readOrder", "()V"⟩, 22) := ⟨⟨by decide +kernel, by decide +kernel⟩, List.mem_of_getElem? (i := 567) (by decide +kernel), List.mem_of_getElem? (i := 929) (by decide +kernel), List.mem_of_getElem? (i := 930) (by decide +kernel)⟩
theorem lw_p61 : lw_okq (⟨"LeaningRicksModel", "readSheaf", "()V"⟩, 22) := ⟨⟨by decide +kernel, by decide +kernel⟩, List.mem_of_getElem? (i := 567) (by decide +kernel), List.mem_of_getElem? (i := 1016) (by decide +kernel), List.mem_of_getElem? (i := 1017) (by decide +kernel)⟩
theorem lw_p62 : lw_okq (⟨"LeaningRicksModel", "readNumber", "(I)I"⟩, 22) := ⟨⟨by decide +kernel, by decide +kernel⟩, List.mem_of_getElem? (i := 567) (by decide +kernel), List.mem_of_getElem? (i := 1020) (by decide +kernel), List.mem_of_getElem? (i := 1021) (by decide +kernel)⟩
theorem lw_p63 : lw_okq (⟨"LeaningRicksModel", "sees", "(II)Z"⟩, 22) := ⟨⟨by decide +kernel, by decide +kernel⟩, List.mem_of_getElem? (i := 567) (by decide +kernel), List.mem_of_getElem? (i := 1024) (by decide +kernel), List.mem_of_getElem? (i := 1025) (by decide +kernel)⟩
def lw_privs_4 : List (MethodName × Nat) := [(⟨"LeaningRicksModel", "loads", "(II)I"⟩, 22), (⟨"LeaningRicksModel", "weightOr", "(II)I"⟩, 22), (⟨"LeaningRicksModel", "greatestDepth", "(I)I"⟩, 22), (⟨"LeaningRicksModel", "leaning", "(I)I"⟩, 22), (⟨"LeaningRicksModel", "allDepths", "(I)I"⟩, 22), (⟨"LeaningRicksModel", "lowest", "(I)I"⟩, 22), (⟨"LeaningRicksModel", "isThere", "(I)Z"⟩, 22), (⟨"LeaningRicksModel", "isAhead", "(II)Z"⟩, 22), (⟨"LeaningRicksModel", "ofAll", "(II)I"⟩, 22), (⟨"LeaningRicksModel", "load", "(III)I"⟩, 22), (⟨"LeaningRicksModel", "bits", "(IIJ)J"⟩, 22), (⟨"LeaningRicksModel", "countOrders", "()I"⟩, 22), (⟨"LeaningRicksModel", "readOrder", "()V"⟩, 22), (⟨"LeaningRicksModel", "readSheaf", "()V"⟩, 22), (⟨"LeaningRicksModel", "readNumber", "(I)I"⟩, 22), (⟨"LeaningRicksModel", "sees", "(II)Z"⟩, 22)]
theorem lw_r4 : ∀ q ∈ lw_privs_4, lw_okq q := List.forall_mem_cons.mpr ⟨lw_p48, List.forall_mem_cons.mpr ⟨lw_p49, List.forall_mem_cons.mpr ⟨lw_p50, List.forall_mem_cons.mpr ⟨lw_p51, List.forall_mem_cons.mpr ⟨lw_p52, List.forall_mem_cons.mpr ⟨lw_p53, List.forall_mem_cons.mpr ⟨lw_p54, List.forall_mem_cons.mpr ⟨lw_p55, List.forall_mem_cons.mpr ⟨lw_p56, List.forall_mem_cons.mpr ⟨lw_p57, List.forall_mem_cons.mpr ⟨lw_p58, List.forall_mem_cons.mpr ⟨lw_p59, List.forall_mem_cons.mpr ⟨lw_p60, List.forall_mem_cons.mpr ⟨lw_p61, List.forall_mem_cons.mpr ⟨lw_p62, List.forall_mem_cons.mpr ⟨lw_p63, fun _ h => absurd h List.not_mem_nil⟩⟩⟩⟩⟩⟩⟩⟩⟩⟩⟩⟩⟩⟩⟩⟩
theorem lw_p64 : lw_okq (⟨"LeaningRicksModel", "must", "(I)V"⟩, 22) := ⟨⟨by decide +kernel, by decide +kernel⟩, List.mem_of_getElem? (i := 567) (by decide +kernel), List.mem_of_getElem? (i := 1028) (by decide +kernel), List.mem_of_getElem? (i := 1029) (by decide +kernel)⟩
theorem lw_p65 : lw_okq (⟨"LeaningRicksModel", "carryOut", "()I"⟩, 22) := ⟨⟨by decide +kernel, by decide +kernel⟩, List.mem_of_getElem? (i := 567) (by decide +kernel), List.mem_of_getElem? (i := 1032) (by decide +kernel), List.mem_of_getElem? (i := 1033) (by decide +kernel)⟩
theorem lw_p66 : lw_okq (⟨"LeaningRicksModel", "writeSheaf", "(II)V"⟩, 22) := ⟨⟨by decide +kernel, by decide +kernel⟩, List.mem_of_getElem? (i := 567) (by decide +kernel), List.mem_of_getElem? (i := 1046) (by decide +kernel), List.mem_of_getElem? (i := 1047) (by decide +kernel)⟩
theorem lw_p67 : lw_okq (⟨"LeaningRicksModel", "write", "(I)V"⟩, 22) := ⟨⟨by decide +kernel, by decide +kernel⟩, List.mem_of_getElem? (i := 567) (by decide +kernel), List.mem_of_getElem? (i := 1050) (by decide +kernel), List.mem_of_getElem? (i := 1051) (by decide +kernel)⟩
theorem lw_p68 : lw_okq (⟨"LeaningRicksModel", "writeNumber", "(I)V"⟩, 22) := ⟨⟨by decide +kernel, by decide +kernel⟩, List.mem_of_getElem? (i := 567) (by decide +kernel), List.mem_of_getElem? (i := 1054) (by decide +kernel), List.mem_of_getElem? (i := 1055) (by decide +kernel)⟩
theorem lw_p69 : lw_okq (⟨"LeaningRicksModel", "allSheaves", "()I"⟩, 22) := ⟨⟨by decide +kernel, by decide +kernel⟩, List.mem_of_getElem? (i := 567) (by decide +kernel), List.mem_of_getElem? (i := 1070) (by decide +kernel), List.mem_of_getElem? (i := 1071) (by decide +kernel)⟩
def lw_privs_5 : List (MethodName × Nat) := [(⟨"LeaningRicksModel", "must", "(I)V"⟩, 22), (⟨"LeaningRicksModel", "carryOut", "()I"⟩, 22), (⟨"LeaningRicksModel", "writeSheaf", "(II)V"⟩, 22), (⟨"LeaningRicksModel", "write", "(I)V"⟩, 22), (⟨"LeaningRicksModel", "writeNumber", "(I)V"⟩, 22), (⟨"LeaningRicksModel", "allSheaves", "()I"⟩, 22)]
theorem lw_r5 : ∀ q ∈ lw_privs_5, lw_okq q := List.forall_mem_cons.mpr ⟨lw_p64, List.forall_mem_cons.mpr ⟨lw_p65, List.forall_mem_cons.mpr ⟨lw_p66, List.forall_mem_cons.mpr ⟨lw_p67, List.forall_mem_cons.mpr ⟨lw_p68, List.forall_mem_cons.mpr ⟨lw_p69, fun _ h => absurd h List.not_mem_nil⟩⟩⟩⟩⟩⟩
def lw_privs : List (MethodName × Nat) := lw_privs_1 ++ (lw_privs_2 ++ (lw_privs_3 ++ (lw_privs_4 ++ (lw_privs_5))))
def lw_tbl : List Cond := k2_sels lw_privs ++ tables_1
theorem lw_privs_ok : ∀ q ∈ lw_privs, lw_okq q := by
  show ∀ q ∈ lw_privs_1 ++ (lw_privs_2 ++ (lw_privs_3 ++ (lw_privs_4 ++ (lw_privs_5)))), lw_okq q
  exact List.forall_mem_append.mpr ⟨lw_r1, List.forall_mem_append.mpr ⟨lw_r2, List.forall_mem_append.mpr ⟨lw_r3, List.forall_mem_append.mpr ⟨lw_r4, lw_r5⟩⟩⟩⟩
/-- the streams that the claim lets the run draw from -/
abbrev lw_cs : List Choice := [Jvm.Choice.named "NaN.bits"]
theorem lw_bits : nanBits ∈ lw_cs := by first | decide | exact List.mem_cons_self | simp [lw_cs, nanBits]
def RX0 : String := "LeaningRicks$Orders"
def TX0 : u_T := fun k => match k with
  | 0 => ("LeaningRicks$Orders", "sign", "[I", true)
  | 1 => ("LeaningRicks$Orders", "number", "[I", true)
  | 2 => ("LeaningRicks$Orders", "count", "I", false)
  | _ => ("LeaningRicks$Orders", "index", "I", false)
def tyX0 : Nat → FieldType := fun k => match k with
  | 0 => .array .int
  | 1 => .array .int
  | 2 => .int
  | _ => .int
theorem nmX0 : ∀ a, a < 4 → ∀ b, b < 4 → a ≠ b → (TX0 a).2.1 ≠ (TX0 b).2.1 := by decide +kernel
theorem tyX0_ok : ∀ k, k < 4 → parseFieldDescriptor (TX0 k).2.2.1 = some (tyX0 k) := by decide +kernel
abbrev cX0_init : ByteArray := prog_2_method_1_code
def yX0_init : MethodName := ⟨RX0, "<init>", "()V"⟩
abbrev cX0_signOf : ByteArray := prog_2_method_2_code
def yX0_signOf : MethodName := ⟨RX0, "signOf", "(I)I"⟩
abbrev cX0_numberOf : ByteArray := prog_2_method_3_code
def yX0_numberOf : MethodName := ⟨RX0, "numberOf", "(II)I"⟩
abbrev cX0_read : ByteArray := prog_2_method_4_code
def yX0_read : MethodName := ⟨RX0, "read", "(LLeaningRicks$Row;)I"⟩
abbrev cX0_isOrder : ByteArray := prog_2_method_5_code
def yX0_isOrder : MethodName := ⟨RX0, "isOrder", "(LLeaningRicks$Row;)Z"⟩
abbrev cX0_isCode : ByteArray := prog_2_method_6_code
def yX0_isCode : MethodName := ⟨RX0, "isCode", "(LLeaningRicks$Row;I)Z"⟩
abbrev cX0_isNumber : ByteArray := prog_2_method_7_code
def yX0_isNumber : MethodName := ⟨RX0, "isNumber", "(LLeaningRicks$Row;II)Z"⟩
abbrev cX0_isDigit : ByteArray := prog_2_method_8_code
def yX0_isDigit : MethodName := ⟨RX0, "isDigit", "(I)Z"⟩
def RX1 : String := "LeaningRicks$Rick"
def TX1 : u_T := fun k => match k with
  | 0 => ("LeaningRicks$Rick", "weight", "[I", true)
  | 1 => ("LeaningRicks$Rick", "load", "[I", true)
  | 2 => ("LeaningRicks$Rick", "depth", "[I", true)
  | 3 => ("LeaningRicks$Rick", "count", "I", false)
  | _ => ("LeaningRicks$Rick", "most", "I", false)
def tyX1 : Nat → FieldType := fun k => match k with
  | 0 => .array .int
  | 1 => .array .int
  | 2 => .array .int
  | 3 => .int
  | _ => .int
theorem nmX1 : ∀ a, a < 5 → ∀ b, b < 5 → a ≠ b → (TX1 a).2.1 ≠ (TX1 b).2.1 := by decide +kernel
theorem tyX1_ok : ∀ k, k < 5 → parseFieldDescriptor (TX1 k).2.2.1 = some (tyX1 k) := by decide +kernel
abbrev cX1_init : ByteArray := prog_3_method_1_code
def yX1_init : MethodName := ⟨RX1, "<init>", "()V"⟩
abbrev cX1_isPlace : ByteArray := prog_3_method_2_code
def yX1_isPlace : MethodName := ⟨RX1, "isPlace", "(I)Z"⟩
abbrev cX1_weightAt : ByteArray := prog_3_method_3_code
def yX1_weightAt : MethodName := ⟨RX1, "weightAt", "(I)I"⟩
abbrev cX1_loadAt : ByteArray := prog_3_method_4_code
def yX1_loadAt : MethodName := ⟨RX1, "loadAt", "(I)I"⟩
abbrev cX1_depthAt : ByteArray := prog_3_method_5_code
def yX1_depthAt : MethodName := ⟨RX1, "depthAt", "(I)I"⟩
abbrev cX1_find : ByteArray := prog_3_method_6_code
def yX1_find : MethodName := ⟨RX1, "find", "(I)I"⟩
abbrev cX1_firstOf : ByteArray := prog_3_method_7_code
def yX1_firstOf : MethodName := ⟨RX1, "firstOf", "(I)I"⟩
abbrev cX1_lastOf : ByteArray := prog_3_method_8_code
def yX1_lastOf : MethodName := ⟨RX1, "lastOf", "(I)I"⟩
abbrev cX1_topOf : ByteArray := prog_3_method_9_code
def yX1_topOf : MethodName := ⟨RX1, "topOf", "(II)I"⟩
abbrev cX1_above : ByteArray := prog_3_method_10_code
def yX1_above : MethodName := ⟨RX1, "above", "(I)I"⟩
abbrev cX1_leans : ByteArray := prog_3_method_11_code
def yX1_leans : MethodName := ⟨RX1, "leans", "(II)Z"⟩
abbrev cX1_loadsFrom : ByteArray := prog_3_method_12_code
def yX1_loadsFrom : MethodName := ⟨RX1, "loadsFrom", "(II)I"⟩
abbrev cX1_depths : ByteArray := prog_3_method_13_code
def yX1_depths : MethodName := ⟨RX1, "depths", "()I"⟩
abbrev cX1_greatestDepth : ByteArray := prog_3_method_14_code
def yX1_greatestDepth : MethodName := ⟨RX1, "greatestDepth", "()I"⟩
abbrev cX1_leaning : ByteArray := prog_3_method_15_code
def yX1_leaning : MethodName := ⟨RX1, "leaning", "(I)I"⟩
abbrev cX1_lowest : ByteArray := prog_3_method_16_code
def yX1_lowest : MethodName := ⟨RX1, "lowest", "()I"⟩
abbrev cX1_cartsUpTo : ByteArray := prog_3_method_17_code
def yX1_cartsUpTo : MethodName := ⟨RX1, "cartsUpTo", "(II)I"⟩
abbrev cX1_lighterByParts : ByteArray := prog_3_method_18_code
def yX1_lighterByParts : MethodName := ⟨RX1, "lighterByParts", "(I)I"⟩
abbrev cX1_lighterOneByOne : ByteArray := prog_3_method_19_code
def yX1_lighterOneByOne : MethodName := ⟨RX1, "lighterOneByOne", "(I)I"⟩
abbrev cX1_loadsByParts : ByteArray := prog_3_method_20_code
def yX1_loadsByParts : MethodName := ⟨RX1, "loadsByParts", "(II)I"⟩
abbrev cX1_loadsOfLighter : ByteArray := prog_3_method_21_code
def yX1_loadsOfLighter : MethodName := ⟨RX1, "loadsOfLighter", "(J)I"⟩
abbrev cX1_loadsOneByOne : ByteArray := prog_3_method_22_code
def yX1_loadsOneByOne : MethodName := ⟨RX1, "loadsOneByOne", "(II)I"⟩
abbrev cX1_isInOrder : ByteArray := prog_3_method_23_code
def yX1_isInOrder : MethodName := ⟨RX1, "isInOrder", "()Z"⟩
abbrev cX1_lay : ByteArray := prog_3_method_24_code
def yX1_lay : MethodName := ⟨RX1, "lay", "(II)I"⟩
abbrev cX1_lift : ByteArray := prog_3_method_25_code
def yX1_lift : MethodName := ⟨RX1, "lift", "(I)V"⟩
abbrev cX1_buildPartAbove : ByteArray := prog_3_method_26_code
def yX1_buildPartAbove : MethodName := ⟨RX1, "buildPartAbove", "(II)I"⟩
abbrev cX1_buildWhole : ByteArray := prog_3_method_27_code
def yX1_buildWhole : MethodName := ⟨RX1, "buildWhole", "()I"⟩
abbrev cX1_spread : ByteArray := prog_3_method_28_code
def yX1_spread : MethodName := ⟨RX1, "spread", "(LLeaningRicks$Rick;III)I"⟩
abbrev cX1_raise : ByteArray := prog_3_method_29_code
def yX1_raise : MethodName := ⟨RX1, "raise", "(II)V"⟩
abbrev cX1_set : ByteArray := prog_3_method_30_code
def yX1_set : MethodName := ⟨RX1, "set", "(IIII)V"⟩
abbrev cX1_setDepth : ByteArray := prog_3_method_31_code
def yX1_setDepth : MethodName := ⟨RX1, "setDepth", "(II)V"⟩
abbrev cX1_copyFrom : ByteArray := prog_3_method_32_code
def yX1_copyFrom : MethodName := ⟨RX1, "copyFrom", "(LLeaningRicks$Rick;)V"⟩
def RX2 : String := "LeaningRicks$Row"
def TX2 : u_T := fun k => match k with
  | 0 => ("LeaningRicks$Row", "code", "[I", true)
  | _ => ("LeaningRicks$Row", "length", "I", false)
def tyX2 : Nat → FieldType := fun k => match k with
  | 0 => .array .int
  | _ => .int
theorem nmX2 : ∀ a, a < 2 → ∀ b, b < 2 → a ≠ b → (TX2 a).2.1 ≠ (TX2 b).2.1 := by decide +kernel
theorem tyX2_ok : ∀ k, k < 2 → parseFieldDescriptor (TX2 k).2.2.1 = some (tyX2 k) := by decide +kernel
abbrev cX2_init : ByteArray := prog_4_method_1_code
def yX2_init : MethodName := ⟨RX2, "<init>", "()V"⟩
abbrev cX2_clear : ByteArray := prog_4_method_2_code
def yX2_clear : MethodName := ⟨RX2, "clear", "()V"⟩
abbrev cX2_add : ByteArray := prog_4_method_3_code
def yX2_add : MethodName := ⟨RX2, "add", "(I)Z"⟩
abbrev cX2_addNumber : ByteArray := prog_4_method_4_code
def yX2_addNumber : MethodName := ⟨RX2, "addNumber", "(I)V"⟩
abbrev cX2_codeAt : ByteArray := prog_4_method_5_code
def yX2_codeAt : MethodName := ⟨RX2, "codeAt", "(I)I"⟩
def RX3 : String := "LeaningRicks$Yard"
def TX3 : u_T := fun k => match k with
  | 0 => ("LeaningRicks$Yard", "ricks", "[LLeaningRicks$Rick;", true)
  | 1 => ("LeaningRicks$Yard", "limit", "I", false)
  | 2 => ("LeaningRicks$Yard", "sheavesPut", "I", false)
  | 3 => ("LeaningRicks$Yard", "sheavesTaken", "I", false)
  | 4 => ("LeaningRicks$Yard", "partsBuilt", "I", false)
  | 5 => ("LeaningRicks$Yard", "ricksBuilt", "I", false)
  | 6 => ("LeaningRicks$Yard", "sheavesBuilt", "I", false)
  | _ => ("LeaningRicks$Yard", "ricksPoured", "I", false)
def tyX3 : Nat → FieldType := fun k => match k with
  | 0 => .array (.object "LeaningRicks$Rick")
  | 1 => .int
  | 2 => .int
  | 3 => .int
  | 4 => .int
  | 5 => .int
  | 6 => .int
  | _ => .int
theorem nmX3 : ∀ a, a < 8 → ∀ b, b < 8 → a ≠ b → (TX3 a).2.1 ≠ (TX3 b).2.1 := by decide +kernel
theorem tyX3_ok : ∀ k, k < 8 → parseFieldDescriptor (TX3 k).2.2.1 = some (tyX3 k) := by decide +kernel
abbrev cX3_init : ByteArray := prog_5_method_1_code
def yX3_init : MethodName := ⟨RX3, "<init>", "()V"⟩
abbrev cX3_rickAt : ByteArray := prog_5_method_2_code
def yX3_rickAt : MethodName := ⟨RX3, "rickAt", "(I)LLeaningRicks$Rick;"⟩
abbrev cX3_sheaves : ByteArray := prog_5_method_3_code
def yX3_sheaves : MethodName := ⟨RX3, "sheaves", "()I"⟩
abbrev cX3_loads : ByteArray := prog_5_method_4_code
def yX3_loads : MethodName := ⟨RX3, "loads", "()I"⟩
abbrev cX3_keyAfter : ByteArray := prog_5_method_5_code
def yX3_keyAfter : MethodName := ⟨RX3, "keyAfter", "(I)I"⟩
abbrev cX3_copyFrom : ByteArray := prog_5_method_6_code
def yX3_copyFrom : MethodName := ⟨RX3, "copyFrom", "(LLeaningRicks$Yard;)V"⟩
def RX4 : String := "LeaningRicks"
def TX4 : u_T := fun k => match k with
  | 0 => ("LeaningRicks", "now", "LLeaningRicks$Yard;", true)
  | 1 => ("LeaningRicks", "saved", "LLeaningRicks$Yard;", true)
  | 2 => ("LeaningRicks", "isSaved", "Z", false)
  | 3 => ("LeaningRicks", "past", "[LLeaningRicks$Yard;", true)
  | 4 => ("LeaningRicks", "next", "I", false)
  | 5 => ("LeaningRicks", "undoable", "I", false)
  | 6 => ("LeaningRicks", "text", "LLeaningRicks$Row;", true)
  | 7 => ("LeaningRicks", "line", "LLeaningRicks$Row;", true)
  | 8 => ("LeaningRicks", "orders", "LLeaningRicks$Orders;", true)
  | 9 => ("LeaningRicks", "latestReason", "I", false)
  | _ => ("LeaningRicks", "latestDetail", "I", false)
def tyX4 : Nat → FieldType := fun k => match k with
  | 0 => .object "LeaningRicks$Yard"
  | 1 => .object "LeaningRicks$Yard"
  | 2 => .boolean
  | 3 => .array (.object "LeaningRicks$Yard")
  | 4 => .int
  | 5 => .int
  | 6 => .object "LeaningRicks$Row"
  | 7 => .object "LeaningRicks$Row"
  | 8 => .object "LeaningRicks$Orders"
  | 9 => .int
  | _ => .int
theorem nmX4 : ∀ a, a < 11 → ∀ b, b < 11 → a ≠ b → (TX4 a).2.1 ≠ (TX4 b).2.1 := by decide +kernel
theorem tyX4_ok : ∀ k, k < 11 → parseFieldDescriptor (TX4 k).2.2.1 = some (tyX4 k) := by decide +kernel
abbrev cX4_init : ByteArray := prog_1_method_1_code
def yX4_init : MethodName := ⟨RX4, "<init>", "()V"⟩
abbrev cX4_put : ByteArray := prog_1_method_2_code
def yX4_put : MethodName := ⟨RX4, "put", "(III)I"⟩
abbrev cX4_take : ByteArray := prog_1_method_3_code
def yX4_take : MethodName := ⟨RX4, "take", "(II)I"⟩
abbrev cX4_build : ByteArray := prog_1_method_4_code
def yX4_build : MethodName := ⟨RX4, "build", "(I)I"⟩
abbrev cX4_pour : ByteArray := prog_1_method_5_code
def yX4_pour : MethodName := ⟨RX4, "pour", "(II)I"⟩
abbrev cX4_limit : ByteArray := prog_1_method_6_code
def yX4_limit : MethodName := ⟨RX4, "limit", "(I)I"⟩
abbrev cX4_sheafOf : ByteArray := prog_1_method_7_code
def yX4_sheafOf : MethodName := ⟨RX4, "sheafOf", "(III)I"⟩
abbrev cX4_rickOf : ByteArray := prog_1_method_8_code
def yX4_rickOf : MethodName := ⟨RX4, "rickOf", "(II)I"⟩
abbrev cX4_rank : ByteArray := prog_1_method_9_code
def yX4_rank : MethodName := ⟨RX4, "rank", "(II)I"⟩
abbrev cX4_rankAgain : ByteArray := prog_1_method_10_code
def yX4_rankAgain : MethodName := ⟨RX4, "rankAgain", "(II)I"⟩
abbrev cX4_at : ByteArray := prog_1_method_11_code
def yX4_at : MethodName := ⟨RX4, "at", "(II)I"⟩
abbrev cX4_between : ByteArray := prog_1_method_12_code
def yX4_between : MethodName := ⟨RX4, "between", "(III)I"⟩
abbrev cX4_betweenAgain : ByteArray := prog_1_method_13_code
def yX4_betweenAgain : MethodName := ⟨RX4, "betweenAgain", "(III)I"⟩
abbrev cX4_heaviest : ByteArray := prog_1_method_14_code
def yX4_heaviest : MethodName := ⟨RX4, "heaviest", "(I)I"⟩
abbrev cX4_carts : ByteArray := prog_1_method_15_code
def yX4_carts : MethodName := ⟨RX4, "carts", "(II)I"⟩
abbrev cX4_cartOf : ByteArray := prog_1_method_16_code
def yX4_cartOf : MethodName := ⟨RX4, "cartOf", "(III)I"⟩
abbrev cX4_shape : ByteArray := prog_1_method_17_code
def yX4_shape : MethodName := ⟨RX4, "shape", "(I)J"⟩
abbrev cX4_weights : ByteArray := prog_1_method_18_code
def yX4_weights : MethodName := ⟨RX4, "weights", "(II)J"⟩
abbrev cX4_leaningShare : ByteArray := prog_1_method_19_code
def yX4_leaningShare : MethodName := ⟨RX4, "leaningShare", "(I)I"⟩
abbrev cX4_meanDepth : ByteArray := prog_1_method_20_code
def yX4_meanDepth : MethodName := ⟨RX4, "meanDepth", "(I)J"⟩
abbrev cX4_append : ByteArray := prog_1_method_21_code
def yX4_append : MethodName := ⟨RX4, "append", "(I)I"⟩
abbrev cX4_run : ByteArray := prog_1_method_22_code
def yX4_run : MethodName := ⟨RX4, "run", "()I"⟩
abbrev cX4_tell : ByteArray := prog_1_method_23_code
def yX4_tell : MethodName := ⟨RX4, "tell", "(I)I"⟩
abbrev cX4_character : ByteArray := prog_1_method_24_code
def yX4_character : MethodName := ⟨RX4, "character", "(I)I"⟩
abbrev cX4_reason : ByteArray := prog_1_method_25_code
def yX4_reason : MethodName := ⟨RX4, "reason", "(Z)I"⟩
abbrev cX4_account : ByteArray := prog_1_method_26_code
def yX4_account : MethodName := ⟨RX4, "account", "(I)I"⟩
abbrev cX4_isBalanced : ByteArray := prog_1_method_27_code
def yX4_isBalanced : MethodName := ⟨RX4, "isBalanced", "()I"⟩
abbrev cX4_undo : ByteArray := prog_1_method_28_code
def yX4_undo : MethodName := ⟨RX4, "undo", "()I"⟩
abbrev cX4_save : ByteArray := prog_1_method_29_code
def yX4_save : MethodName := ⟨RX4, "save", "()I"⟩
abbrev cX4_restore : ByteArray := prog_1_method_30_code
def yX4_restore : MethodName := ⟨RX4, "restore", "()I"⟩
abbrev cX4_putNow : ByteArray := prog_1_method_31_code
def yX4_putNow : MethodName := ⟨RX4, "putNow", "(III)I"⟩
abbrev cX4_takeNow : ByteArray := prog_1_method_32_code
def yX4_takeNow : MethodName := ⟨RX4, "takeNow", "(II)I"⟩
abbrev cX4_buildNow : ByteArray := prog_1_method_33_code
def yX4_buildNow : MethodName := ⟨RX4, "buildNow", "(I)I"⟩
abbrev cX4_pourNow : ByteArray := prog_1_method_34_code
def yX4_pourNow : MethodName := ⟨RX4, "pourNow", "(II)I"⟩
abbrev cX4_limitNow : ByteArray := prog_1_method_35_code
def yX4_limitNow : MethodName := ⟨RX4, "limitNow", "(I)I"⟩
abbrev cX4_buildWhole : ByteArray := prog_1_method_36_code
def yX4_buildWhole : MethodName := ⟨RX4, "buildWhole", "(LLeaningRicks$Rick;)I"⟩
abbrev cX4_carryOut : ByteArray := prog_1_method_37_code
def yX4_carryOut : MethodName := ⟨RX4, "carryOut", "(I)I"⟩
abbrev cX4_refuse : ByteArray := prog_1_method_38_code
def yX4_refuse : MethodName := ⟨RX4, "refuse", "(II)I"⟩
abbrev cX4_hold : ByteArray := prog_1_method_39_code
def yX4_hold : MethodName := ⟨RX4, "hold", "()V"⟩
abbrev cX4_keep : ByteArray := prog_1_method_40_code
def yX4_keep : MethodName := ⟨RX4, "keep", "(I)I"⟩
abbrev cX4_giveBack : ByteArray := prog_1_method_41_code
def yX4_giveBack : MethodName := ⟨RX4, "giveBack", "()V"⟩
abbrev cX4_beforeNow : ByteArray := prog_1_method_42_code
def yX4_beforeNow : MethodName := ⟨RX4, "beforeNow", "()LLeaningRicks$Yard;"⟩
abbrev cX4_isBears : ByteArray := prog_1_method_43_code
def yX4_isBears : MethodName := ⟨RX4, "isBears", "(I)Z"⟩
abbrev cX4_depthFor : ByteArray := prog_1_method_44_code
def yX4_depthFor : MethodName := ⟨RX4, "depthFor", "(II)I"⟩
abbrev cX4_shapeOf : ByteArray := prog_1_method_45_code
def yX4_shapeOf : MethodName := ⟨RX4, "shapeOf", "(LLeaningRicks$Rick;IIJI)J"⟩
abbrev cX4_write : ByteArray := prog_1_method_46_code
def yX4_write : MethodName := ⟨RX4, "write", "(LLeaningRicks$Row;LLeaningRicks$Rick;IIII)V"⟩
abbrev cX4_isSound : ByteArray := prog_1_method_47_code
def yX4_isSound : MethodName := ⟨RX4, "isSound", "(LLeaningRicks$Rick;)Z"⟩
abbrev cX4_isTree : ByteArray := prog_1_method_48_code
def yX4_isTree : MethodName := ⟨RX4, "isTree", "(LLeaningRicks$Rick;III)Z"⟩
abbrev cX4_shareBits : ByteArray := prog_1_method_49_code
def yX4_shareBits : MethodName := ⟨RX4, "shareBits", "(F)I"⟩
abbrev cX4_meanBits : ByteArray := prog_1_method_50_code
def yX4_meanBits : MethodName := ⟨RX4, "meanBits", "(D)J"⟩
def RX5 : String := "LeaningRicksModel"
def TX5 : u_T := fun k => match k with
  | 0 => ("LeaningRicksModel", "now", "[I", true)
  | 1 => ("LeaningRicksModel", "saved", "[I", true)
  | 2 => ("LeaningRicksModel", "before", "[I", true)
  | 3 => ("LeaningRicksModel", "history", "[[I", true)
  | 4 => ("LeaningRicksModel", "kept", "I", false)
  | 5 => ("LeaningRicksModel", "reason", "I", false)
  | 6 => ("LeaningRicksModel", "detail", "I", false)
  | 7 => ("LeaningRicksModel", "isSaved", "Z", false)
  | 8 => ("LeaningRicksModel", "isInText", "Z", false)
  | 9 => ("LeaningRicksModel", "list", "[I", true)
  | 10 => ("LeaningRicksModel", "listed", "I", false)
  | 11 => ("LeaningRicksModel", "depths", "[I", true)
  | 12 => ("LeaningRicksModel", "text", "[I", true)
  | 13 => ("LeaningRicksModel", "length", "I", false)
  | 14 => ("LeaningRicksModel", "at", "I", false)
  | 15 => ("LeaningRicksModel", "told", "I", false)
  | 16 => ("LeaningRicksModel", "one", "I", false)
  | 17 => ("LeaningRicksModel", "other", "I", false)
  | 18 => ("LeaningRicksModel", "number", "I", false)
  | 19 => ("LeaningRicksModel", "isWrong", "Z", false)
  | 20 => ("LeaningRicksModel", "line", "[I", true)
  | _ => ("LeaningRicksModel", "written", "I", false)
def tyX5 : Nat → FieldType := fun k => match k with
  | 0 => .array .int
  | 1 => .array .int
  | 2 => .array .int
  | 3 => .array (.array .int)
  | 4 => .int
  | 5 => .int
  | 6 => .int
  | 7 => .boolean
  | 8 => .boolean
  | 9 => .array .int
  | 10 => .int
  | 11 => .array .int
  | 12 => .array .int
  | 13 => .int
  | 14 => .int
  | 15 => .int
  | 16 => .int
  | 17 => .int
  | 18 => .int
  | 19 => .boolean
  | 20 => .array .int
  | _ => .int
theorem nmX5 : ∀ a, a < 22 → ∀ b, b < 22 → a ≠ b → (TX5 a).2.1 ≠ (TX5 b).2.1 := by decide +kernel
theorem tyX5_ok : ∀ k, k < 22 → parseFieldDescriptor (TX5 k).2.2.1 = some (tyX5 k) := by decide +kernel
abbrev cX5_init : ByteArray := prog_7_method_1_code
def yX5_init : MethodName := ⟨RX5, "<init>", "()V"⟩
abbrev cX5_isBetween : ByteArray := prog_7_method_2_code
def yX5_isBetween : MethodName := ⟨RX5, "isBetween", "(III)Z"⟩
abbrev cX5_copyRow : ByteArray := prog_7_method_3_code
def yX5_copyRow : MethodName := ⟨RX5, "copyRow", "([I[I)V"⟩
abbrev cX5_refuse : ByteArray := prog_7_method_4_code
def yX5_refuse : MethodName := ⟨RX5, "refuse", "(ZII)Z"⟩
abbrev cX5_remember : ByteArray := prog_7_method_5_code
def yX5_remember : MethodName := ⟨RX5, "remember", "([I)V"⟩
abbrev cX5_change : ByteArray := prog_7_method_6_code
def yX5_change : MethodName := ⟨RX5, "change", "()V"⟩
abbrev cX5_isRick : ByteArray := prog_7_method_7_code
def yX5_isRick : MethodName := ⟨RX5, "isRick", "(I)Z"⟩
abbrev cX5_top : ByteArray := prog_7_method_8_code
def yX5_top : MethodName := ⟨RX5, "top", "(I)I"⟩
abbrev cX5_most : ByteArray := prog_7_method_9_code
def yX5_most : MethodName := ⟨RX5, "most", "(I)I"⟩
abbrev cX5_setTop : ByteArray := prog_7_method_10_code
def yX5_setTop : MethodName := ⟨RX5, "setTop", "(II)V"⟩
abbrev cX5_setMost : ByteArray := prog_7_method_11_code
def yX5_setMost : MethodName := ⟨RX5, "setMost", "(II)V"⟩
abbrev cX5_of : ByteArray := prog_7_method_12_code
def yX5_of : MethodName := ⟨RX5, "of", "(III)I"⟩
abbrev cX5_put : ByteArray := prog_7_method_13_code
def yX5_put : MethodName := ⟨RX5, "put", "(IIII)V"⟩
abbrev cX5_size : ByteArray := prog_7_method_14_code
def yX5_size : MethodName := ⟨RX5, "size", "(II)I"⟩
abbrev cX5_loads : ByteArray := prog_7_method_15_code
def yX5_loads : MethodName := ⟨RX5, "loads", "(II)I"⟩
abbrev cX5_count : ByteArray := prog_7_method_16_code
def yX5_count : MethodName := ⟨RX5, "count", "(I)I"⟩
abbrev cX5_find : ByteArray := prog_7_method_17_code
def yX5_find : MethodName := ⟨RX5, "find", "(II)I"⟩
abbrev cX5_above : ByteArray := prog_7_method_18_code
def yX5_above : MethodName := ⟨RX5, "above", "(II)I"⟩
abbrev cX5_depth : ByteArray := prog_7_method_19_code
def yX5_depth : MethodName := ⟨RX5, "depth", "(II)I"⟩
abbrev cX5_leans : ByteArray := prog_7_method_20_code
def yX5_leans : MethodName := ⟨RX5, "leans", "(II)Z"⟩
abbrev cX5_mayHave : ByteArray := prog_7_method_21_code
def yX5_mayHave : MethodName := ⟨RX5, "mayHave", "(I)I"⟩
abbrev cX5_listFrom : ByteArray := prog_7_method_22_code
def yX5_listFrom : MethodName := ⟨RX5, "listFrom", "(II)V"⟩
abbrev cX5_listAll : ByteArray := prog_7_method_23_code
def yX5_listAll : MethodName := ⟨RX5, "listAll", "(I)V"⟩
abbrev cX5_make : ByteArray := prog_7_method_24_code
def yX5_make : MethodName := ⟨RX5, "make", "(III)I"⟩
abbrev cX5_replace : ByteArray := prog_7_method_25_code
def yX5_replace : MethodName := ⟨RX5, "replace", "(IIII)V"⟩
abbrev cX5_buildPart : ByteArray := prog_7_method_26_code
def yX5_buildPart : MethodName := ⟨RX5, "buildPart", "(II)V"⟩
abbrev cX5_buildWhole : ByteArray := prog_7_method_27_code
def yX5_buildWhole : MethodName := ⟨RX5, "buildWhole", "(I)V"⟩
abbrev cX5_emptyStall : ByteArray := prog_7_method_28_code
def yX5_emptyStall : MethodName := ⟨RX5, "emptyStall", "(I)I"⟩
abbrev cX5_enter : ByteArray := prog_7_method_29_code
def yX5_enter : MethodName := ⟨RX5, "enter", "(III)I"⟩
abbrev cX5_hang : ByteArray := prog_7_method_30_code
def yX5_hang : MethodName := ⟨RX5, "hang", "(II)V"⟩
abbrev cX5_isWeight : ByteArray := prog_7_method_31_code
def yX5_isWeight : MethodName := ⟨RX5, "isWeight", "(I)Z"⟩
abbrev cX5_put_ : ByteArray := prog_7_method_32_code
def yX5_put_ : MethodName := ⟨RX5, "put", "(III)I"⟩
abbrev cX5_unhang : ByteArray := prog_7_method_33_code
def yX5_unhang : MethodName := ⟨RX5, "unhang", "(II)V"⟩
abbrev cX5_takeOut : ByteArray := prog_7_method_34_code
def yX5_takeOut : MethodName := ⟨RX5, "takeOut", "(II)V"⟩
abbrev cX5_clear : ByteArray := prog_7_method_35_code
def yX5_clear : MethodName := ⟨RX5, "clear", "(II)V"⟩
abbrev cX5_take : ByteArray := prog_7_method_36_code
def yX5_take : MethodName := ⟨RX5, "take", "(II)I"⟩
abbrev cX5_build : ByteArray := prog_7_method_37_code
def yX5_build : MethodName := ⟨RX5, "build", "(I)I"⟩
abbrev cX5_common : ByteArray := prog_7_method_38_code
def yX5_common : MethodName := ⟨RX5, "common", "(II)I"⟩
abbrev cX5_pour : ByteArray := prog_7_method_39_code
def yX5_pour : MethodName := ⟨RX5, "pour", "(II)I"⟩
abbrev cX5_limit : ByteArray := prog_7_method_40_code
def yX5_limit : MethodName := ⟨RX5, "limit", "(I)I"⟩
abbrev cX5_weightOr : ByteArray := prog_7_method_41_code
def yX5_weightOr : MethodName := ⟨RX5, "weightOr", "(II)I"⟩
abbrev cX5_sheafOf : ByteArray := prog_7_method_42_code
def yX5_sheafOf : MethodName := ⟨RX5, "sheafOf", "(III)I"⟩
abbrev cX5_greatestDepth : ByteArray := prog_7_method_43_code
def yX5_greatestDepth : MethodName := ⟨RX5, "greatestDepth", "(I)I"⟩
abbrev cX5_leaning : ByteArray := prog_7_method_44_code
def yX5_leaning : MethodName := ⟨RX5, "leaning", "(I)I"⟩
abbrev cX5_allDepths : ByteArray := prog_7_method_45_code
def yX5_allDepths : MethodName := ⟨RX5, "allDepths", "(I)I"⟩
abbrev cX5_lowest : ByteArray := prog_7_method_46_code
def yX5_lowest : MethodName := ⟨RX5, "lowest", "(I)I"⟩
abbrev cX5_rickOf : ByteArray := prog_7_method_47_code
def yX5_rickOf : MethodName := ⟨RX5, "rickOf", "(II)I"⟩
abbrev cX5_rank : ByteArray := prog_7_method_48_code
def yX5_rank : MethodName := ⟨RX5, "rank", "(II)I"⟩
abbrev cX5_rankAgain : ByteArray := prog_7_method_49_code
def yX5_rankAgain : MethodName := ⟨RX5, "rankAgain", "(II)I"⟩
abbrev cX5_at : ByteArray := prog_7_method_50_code
def yX5_at : MethodName := ⟨RX5, "at", "(II)I"⟩
abbrev cX5_between : ByteArray := prog_7_method_51_code
def yX5_between : MethodName := ⟨RX5, "between", "(III)I"⟩
abbrev cX5_betweenAgain : ByteArray := prog_7_method_52_code
def yX5_betweenAgain : MethodName := ⟨RX5, "betweenAgain", "(III)I"⟩
abbrev cX5_isThere : ByteArray := prog_7_method_53_code
def yX5_isThere : MethodName := ⟨RX5, "isThere", "(I)Z"⟩
abbrev cX5_ofAll : ByteArray := prog_7_method_54_code
def yX5_ofAll : MethodName := ⟨RX5, "ofAll", "(II)I"⟩
abbrev cX5_isAhead : ByteArray := prog_7_method_55_code
def yX5_isAhead : MethodName := ⟨RX5, "isAhead", "(II)Z"⟩
abbrev cX5_heaviest : ByteArray := prog_7_method_56_code
def yX5_heaviest : MethodName := ⟨RX5, "heaviest", "(I)I"⟩
abbrev cX5_load : ByteArray := prog_7_method_57_code
def yX5_load : MethodName := ⟨RX5, "load", "(III)I"⟩
abbrev cX5_isBearing : ByteArray := prog_7_method_58_code
def yX5_isBearing : MethodName := ⟨RX5, "isBearing", "(I)Z"⟩
abbrev cX5_carts : ByteArray := prog_7_method_59_code
def yX5_carts : MethodName := ⟨RX5, "carts", "(II)I"⟩
abbrev cX5_cartOf : ByteArray := prog_7_method_60_code
def yX5_cartOf : MethodName := ⟨RX5, "cartOf", "(III)I"⟩
abbrev cX5_bits : ByteArray := prog_7_method_61_code
def yX5_bits : MethodName := ⟨RX5, "bits", "(IIJ)J"⟩
abbrev cX5_shape : ByteArray := prog_7_method_62_code
def yX5_shape : MethodName := ⟨RX5, "shape", "(I)J"⟩
abbrev cX5_weights : ByteArray := prog_7_method_63_code
def yX5_weights : MethodName := ⟨RX5, "weights", "(II)J"⟩
abbrev cX5_leaningShare : ByteArray := prog_7_method_64_code
def yX5_leaningShare : MethodName := ⟨RX5, "leaningShare", "(I)I"⟩
abbrev cX5_meanDepth : ByteArray := prog_7_method_65_code
def yX5_meanDepth : MethodName := ⟨RX5, "meanDepth", "(I)J"⟩
abbrev cX5_append : ByteArray := prog_7_method_66_code
def yX5_append : MethodName := ⟨RX5, "append", "(I)I"⟩
abbrev cX5_sees : ByteArray := prog_7_method_67_code
def yX5_sees : MethodName := ⟨RX5, "sees", "(II)Z"⟩
abbrev cX5_must : ByteArray := prog_7_method_68_code
def yX5_must : MethodName := ⟨RX5, "must", "(I)V"⟩
abbrev cX5_readNumber : ByteArray := prog_7_method_69_code
def yX5_readNumber : MethodName := ⟨RX5, "readNumber", "(I)I"⟩
abbrev cX5_readSheaf : ByteArray := prog_7_method_70_code
def yX5_readSheaf : MethodName := ⟨RX5, "readSheaf", "()V"⟩
abbrev cX5_readOrder : ByteArray := prog_7_method_71_code
def yX5_readOrder : MethodName := ⟨RX5, "readOrder", "()V"⟩
abbrev cX5_countOrders : ByteArray := prog_7_method_72_code
def yX5_countOrders : MethodName := ⟨RX5, "countOrders", "()I"⟩
abbrev cX5_carryOut : ByteArray := prog_7_method_73_code
def yX5_carryOut : MethodName := ⟨RX5, "carryOut", "()I"⟩
abbrev cX5_run : ByteArray := prog_7_method_74_code
def yX5_run : MethodName := ⟨RX5, "run", "()I"⟩
abbrev cX5_write : ByteArray := prog_7_method_75_code
def yX5_write : MethodName := ⟨RX5, "write", "(I)V"⟩
abbrev cX5_writeNumber : ByteArray := prog_7_method_76_code
def yX5_writeNumber : MethodName := ⟨RX5, "writeNumber", "(I)V"⟩
abbrev cX5_writeSheaf : ByteArray := prog_7_method_77_code
def yX5_writeSheaf : MethodName := ⟨RX5, "writeSheaf", "(II)V"⟩
abbrev cX5_tell : ByteArray := prog_7_method_78_code
def yX5_tell : MethodName := ⟨RX5, "tell", "(I)I"⟩
abbrev cX5_character : ByteArray := prog_7_method_79_code
def yX5_character : MethodName := ⟨RX5, "character", "(I)I"⟩
abbrev cX5_reason : ByteArray := prog_7_method_80_code
def yX5_reason : MethodName := ⟨RX5, "reason", "(Z)I"⟩
abbrev cX5_allSheaves : ByteArray := prog_7_method_81_code
def yX5_allSheaves : MethodName := ⟨RX5, "allSheaves", "()I"⟩
abbrev cX5_account : ByteArray := prog_7_method_82_code
def yX5_account : MethodName := ⟨RX5, "account", "(I)I"⟩
abbrev cX5_isBalanced : ByteArray := prog_7_method_83_code
def yX5_isBalanced : MethodName := ⟨RX5, "isBalanced", "()I"⟩
abbrev cX5_undo : ByteArray := prog_7_method_84_code
def yX5_undo : MethodName := ⟨RX5, "undo", "()I"⟩
abbrev cX5_save : ByteArray := prog_7_method_85_code
def yX5_save : MethodName := ⟨RX5, "save", "()I"⟩
abbrev cX5_restore : ByteArray := prog_7_method_86_code
def yX5_restore : MethodName := ⟨RX5, "restore", "()I"⟩
def RJ11 : String := "java/lang/Character"
abbrev cJ11_isValidCodePoint_9a6ad : ByteArray := prog_8_method_11_code
def yJ11_isValidCodePoint_9a6ad : MethodName := ⟨RJ11, "isValidCodePoint", "(I)Z"⟩
abbrev cJ11_highSurrogate_5068e : ByteArray := prog_8_method_28_code
def yJ11_highSurrogate_5068e : MethodName := ⟨RJ11, "highSurrogate", "(I)C"⟩
abbrev cJ11_lowSurrogate_5068e : ByteArray := prog_8_method_29_code
def yJ11_lowSurrogate_5068e : MethodName := ⟨RJ11, "lowSurrogate", "(I)C"⟩
def RJxe99ae : String := "java/lang/Double"
abbrev cJxe99ae_isNaN_b9ae7 : ByteArray := prog_9_method_6_code
def yJxe99ae_isNaN_b9ae7 : MethodName := ⟨RJxe99ae, "isNaN", "(D)Z"⟩
abbrev cJxe99ae_doubleToLongBits_ccdee : ByteArray := prog_9_method_23_code
def yJxe99ae_doubleToLongBits_ccdee : MethodName := ⟨RJxe99ae, "doubleToLongBits", "(D)J"⟩
def RJxf58ca : String := "java/lang/Float"
abbrev cJxf58ca_isNaN_12338 : ByteArray := prog_10_method_6_code
def yJxf58ca_isNaN_12338 : MethodName := ⟨RJxf58ca, "isNaN", "(F)Z"⟩
abbrev cJxf58ca_floatToIntBits_5c35a : ByteArray := prog_10_method_24_code
def yJxf58ca_floatToIntBits_5c35a : MethodName := ⟨RJxf58ca, "floatToIntBits", "(F)I"⟩
def RJ9 : String := "java/lang/Math"
abbrev cJ9_max_7cf53 : ByteArray := prog_11_method_65_code
def yJ9_max_7cf53 : MethodName := ⟨RJ9, "max", "(II)I"⟩
abbrev cJ9_min_7cf53 : ByteArray := prog_11_method_69_code
def yJ9_min_7cf53 : MethodName := ⟨RJ9, "min", "(II)I"⟩
def RJ0 : String := "java/lang/String"
abbrev cJ0_length_8abf5 : ByteArray := prog_12_method_54_code
def yJ0_length_8abf5 : MethodName := ⟨RJ0, "length", "()I"⟩
abbrev cJ0_indexOf_0f7a4 : ByteArray := prog_12_method_79_code
def yJ0_indexOf_0f7a4 : MethodName := ⟨RJ0, "indexOf", "(I)I"⟩
abbrev cJ0_indexOf_7cf53 : ByteArray := prog_12_method_80_code
def yJ0_indexOf_7cf53 : MethodName := ⟨RJ0, "indexOf", "(II)I"⟩
abbrev cJ0_coder_7d493 : ByteArray := prog_12_method_152_code
def yJ0_coder_7d493 : MethodName := ⟨RJ0, "coder", "()B"⟩
abbrev cJ0_isLatin1_aae02 : ByteArray := prog_12_method_154_code
def yJ0_isLatin1_aae02 : MethodName := ⟨RJ0, "isLatin1", "()Z"⟩
abbrev cJ0_checkBoundsBeginEnd_23922 : ByteArray := prog_12_method_158_code
def yJ0_checkBoundsBeginEnd_23922 : MethodName := ⟨RJ0, "checkBoundsBeginEnd", "(III)V"⟩
def RJ1 : String := "java/lang/StringLatin1"
abbrev cJ1_canEncode_9a6ad : ByteArray := prog_13_method_4_code
def yJ1_canEncode_9a6ad : MethodName := ⟨RJ1, "canEncode", "(I)Z"⟩
abbrev cJ1_indexOf_4cfef : ByteArray := prog_13_method_22_code
def yJ1_indexOf_4cfef : MethodName := ⟨RJ1, "indexOf", "([BIII)I"⟩
abbrev cJ1_indexOfChar_4cfef : ByteArray := prog_13_method_23_code
def yJ1_indexOfChar_4cfef : MethodName := ⟨RJ1, "indexOfChar", "([BIII)I"⟩
def RJ2 : String := "java/lang/StringUTF16"
abbrev cJ2_getChar_3b067 : ByteArray := prog_14_method_5_code
def yJ2_getChar_3b067 : MethodName := ⟨RJ2, "getChar", "([BI)C"⟩
abbrev cJ2_length_9d52b : ByteArray := prog_14_method_6_code
def yJ2_length_9d52b : MethodName := ⟨RJ2, "length", "([B)I"⟩
abbrev cJ2_indexOf_4cfef : ByteArray := prog_14_method_40_code
def yJ2_indexOf_4cfef : MethodName := ⟨RJ2, "indexOf", "([BIII)I"⟩
abbrev cJ2_indexOfChar_4cfef : ByteArray := prog_14_method_47_code
def yJ2_indexOfChar_4cfef : MethodName := ⟨RJ2, "indexOfChar", "([BIII)I"⟩
abbrev cJ2_indexOfCharUnsafe_4cfef : ByteArray := prog_14_method_48_code
def yJ2_indexOfCharUnsafe_4cfef : MethodName := ⟨RJ2, "indexOfCharUnsafe", "([BIII)I"⟩
abbrev cJ2_indexOfSupplementary_4cfef : ByteArray := prog_14_method_49_code
def yJ2_indexOfSupplementary_4cfef : MethodName := ⟨RJ2, "indexOfSupplementary", "([BIII)I"⟩
abbrev cJ2_checkBoundsBeginEnd_d044e : ByteArray := prog_14_method_93_code
def yJ2_checkBoundsBeginEnd_d044e : MethodName := ⟨RJ2, "checkBoundsBeginEnd", "(II[B)V"⟩
def RJ10 : String := "java/lang/System"
def RJ3 : String := "jdk/internal/util/Preconditions"
abbrev cJ3_checkFromToIndex_8c36e : ByteArray := prog_16_method_12_code
def yJ3_checkFromToIndex_8c36e : MethodName := ⟨RJ3, "checkFromToIndex", "(IIILjava/util/function/BiFunction;)I"⟩
def RL : String := "LeaningRicksLaw"
abbrev cL_law : ByteArray := code
def yL_law : MethodName := ⟨RL, "law", "([I)Z"⟩
abbrev vwCl : List vw_C := [(RX0, TX0, 4), (RX1, TX1, 5), (RX2, TX2, 2), (RX3, TX3, 8), (RX4, TX4, 11), (RX5, TX5, 22)]
theorem inX0 : ∀ w ∈ u_ws RX0 TX0 4, w ∈ lw_tbl := by decide +kernel
theorem inX1 : ∀ w ∈ u_ws RX1 TX1 5, w ∈ lw_tbl := by decide +kernel
theorem inX2 : ∀ w ∈ u_ws RX2 TX2 2, w ∈ lw_tbl := by decide +kernel
theorem inX3 : ∀ w ∈ u_ws RX3 TX3 8, w ∈ lw_tbl := by decide +kernel
theorem inX4 : ∀ w ∈ u_ws RX4 TX4 11, w ∈ lw_tbl := by decide +kernel
theorem inX5 : ∀ w ∈ u_ws RX5 TX5 22, w ∈ lw_tbl := by decide +kernel
