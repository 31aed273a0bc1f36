section
-- ===== PART A: goes FIRST, ahead of the names: the tables' words, and 'selects' of the private methods out of them =====
/-- a private method of a class that the tables say can be made, by its rows of tables_1 -/
def lw_okq (q : MethodName × Nat) : Prop := (q.1.cls ≠ "java/lang/invoke/MethodHandle" ∧ q.1.cls ≠ "java/lang/invoke/VarHandle") ∧ Cond.instantiable q.1.cls q.2 ∈ tables_1 ∧ Cond.privateMethod q.1 ∈ tables_1 ∧ Cond.instanceMethod q.1 ∈ tables_1
theorem lw_p0 : lw_okq (⟨"LeaningRicks", "hold", "()V"⟩, 11) := ⟨⟨by decide +kernel, by decide +kernel⟩, List.mem_of_getElem? (i := 17) (by decide +kernel), List.mem_of_getElem? (i := 163) (by decide +kernel), List.mem_of_getElem? (i := 164) (by decide +kernel)⟩
theorem lw_p1 : lw_okq (⟨"LeaningRicks", "beforeNow", "()LLeaningRicks$Yard;"⟩, 11) := ⟨⟨by decide +kernel, by decide +kernel⟩, List.mem_of_getElem? (i := 17) (by decide +kernel), List.mem_of_getElem? (i := 167) (by decide +kernel), List.mem_of_getElem? (i := 168) (by decide +kernel)⟩
theorem lw_p2 : lw_okq (⟨"LeaningRicks", "putNow", "(III)I"⟩, 11) := ⟨⟨by decide +kernel, by decide +kernel⟩, List.mem_of_getElem? (i := 17) (by decide +kernel), List.mem_of_getElem? (i := 186) (by decide +kernel), List.mem_of_getElem? (i := 187) (by decide +kernel)⟩
theorem lw_p3 : lw_okq (⟨"LeaningRicks", "refuse", "(II)I"⟩, 11) := ⟨⟨by decide +kernel, by decide +kernel⟩, List.mem_of_getElem? (i := 17) (by decide +kernel), List.mem_of_getElem? (i := 199) (by decide +kernel), List.mem_of_getElem? (i := 200) (by decide +kernel)⟩
theorem lw_p4 : lw_okq (⟨"LeaningRicks$Rick", "set", "(IIII)V"⟩, 5) := ⟨⟨by decide +kernel, by decide +kernel⟩, List.mem_of_getElem? (i := 32) (by decide +kernel), List.mem_of_getElem? (i := 222) (by decide +kernel), List.mem_of_getElem? (i := 223) (by decide +kernel)⟩
theorem lw_p5 : lw_okq (⟨"LeaningRicks$Rick", "setDepth", "(II)V"⟩, 5) := ⟨⟨by decide +kernel, by decide +kernel⟩, List.mem_of_getElem? (i := 32) (by decide +kernel), List.mem_of_getElem? (i := 258) (by decide +kernel), List.mem_of_getElem? (i := 259) (by decide +kernel)⟩
theorem lw_p6 : lw_okq (⟨"LeaningRicks", "keep", "(I)I"⟩, 11) := ⟨⟨by decide +kernel, by decide +kernel⟩, List.mem_of_getElem? (i := 17) (by decide +kernel), List.mem_of_getElem? (i := 262) (by decide +kernel), List.mem_of_getElem? (i := 263) (by decide +kernel)⟩
theorem lw_p7 : lw_okq (⟨"LeaningRicks", "takeNow", "(II)I"⟩, 11) := ⟨⟨by decide +kernel, by decide +kernel⟩, List.mem_of_getElem? (i := 17) (by decide +kernel), List.mem_of_getElem? (i := 273) (by decide +kernel), List.mem_of_getElem? (i := 274) (by decide +kernel)⟩
theorem lw_p8 : lw_okq (⟨"LeaningRicks$Rick", "raise", "(II)V"⟩, 5) := ⟨⟨by decide +kernel, by decide +kernel⟩, List.mem_of_getElem? (i := 32) (by decide +kernel), List.mem_of_getElem? (i := 282) (by decide +kernel), List.mem_of_getElem? (i := 283) (by decide +kernel)⟩
theorem lw_p9 : lw_okq (⟨"LeaningRicks", "buildWhole", "(LLeaningRicks$Rick;)I"⟩, 11) := ⟨⟨by decide +kernel, by decide +kernel⟩, List.mem_of_getElem? (i := 17) (by decide +kernel), List.mem_of_getElem? (i := 286) (by decide +kernel), List.mem_of_getElem? (i := 287) (by decide +kernel)⟩
theorem lw_p10 : lw_okq (⟨"LeaningRicks", "buildNow", "(I)I"⟩, 11) := ⟨⟨by decide +kernel, by decide +kernel⟩, List.mem_of_getElem? (i := 17) (by decide +kernel), List.mem_of_getElem? (i := 298) (by decide +kernel), List.mem_of_getElem? (i := 299) (by decide +kernel)⟩
theorem lw_p11 : lw_okq (⟨"LeaningRicks", "pourNow", "(II)I"⟩, 11) := ⟨⟨by decide +kernel, by decide +kernel⟩, List.mem_of_getElem? (i := 17) (by decide +kernel), List.mem_of_getElem? (i := 306) (by decide +kernel), List.mem_of_getElem? (i := 307) (by decide +kernel)⟩
theorem lw_p12 : lw_okq (⟨"LeaningRicks", "limitNow", "(I)I"⟩, 11) := ⟨⟨by decide +kernel, by decide +kernel⟩, List.mem_of_getElem? (i := 17) (by decide +kernel), List.mem_of_getElem? (i := 315) (by decide +kernel), List.mem_of_getElem? (i := 316) (by decide +kernel)⟩
theorem lw_p13 : lw_okq (⟨"LeaningRicks$Rick", "loadsOfLighter", "(J)I"⟩, 5) := ⟨⟨by decide +kernel, by decide +kernel⟩, List.mem_of_getElem? (i := 32) (by decide +kernel), List.mem_of_getElem? (i := 382) (by decide +kernel), List.mem_of_getElem? (i := 383) (by decide +kernel)⟩
theorem lw_p14 : lw_okq (⟨"LeaningRicks$Orders", "isOrder", "(LLeaningRicks$Row;)Z"⟩, 4) := ⟨⟨by decide +kernel, by decide +kernel⟩, List.mem_of_getElem? (i := 106) (by decide +kernel), List.mem_of_getElem? (i := 472) (by decide +kernel), List.mem_of_getElem? (i := 473) (by decide +kernel)⟩
theorem lw_p15 : lw_okq (⟨"LeaningRicks$Orders", "isCode", "(LLeaningRicks$Row;I)Z"⟩, 4) := ⟨⟨by decide +kernel, by decide +kernel⟩, List.mem_of_getElem? (i := 106) (by decide +kernel), List.mem_of_getElem? (i := 480) (by decide +kernel), List.mem_of_getElem? (i := 481) (by decide +kernel)⟩
def lw_privs_1 : List (MethodName × Nat) := [(⟨"LeaningRicks", "hold", "()V"⟩, 11), (⟨"LeaningRicks", "beforeNow", "()LLeaningRicks$Yard;"⟩, 11), (⟨"LeaningRicks", "putNow", "(III)I"⟩, 11), (⟨"LeaningRicks", "refuse", "(II)I"⟩, 11), (⟨"LeaningRicks$Rick", "set", "(IIII)V"⟩, 5), (⟨"LeaningRicks$Rick", "setDepth", "(II)V"⟩, 5), (⟨"LeaningRicks", "keep", "(I)I"⟩, 11), (⟨"LeaningRicks", "takeNow", "(II)I"⟩, 11), (⟨"LeaningRicks$Rick", "raise", "(II)V"⟩, 5), (⟨"LeaningRicks", "buildWhole", "(LLeaningRicks$Rick;)I"⟩, 11), (⟨"LeaningRicks", "buildNow", "(I)I"⟩, 11), (⟨"LeaningRicks", "pourNow", "(II)I"⟩, 11), (⟨"LeaningRicks", "limitNow", "(I)I"⟩, 11), (⟨"LeaningRicks$Rick", "loadsOfLighter", "(J)I"⟩, 5), (⟨"LeaningRicks$Orders", "isOrder", "(LLeaningRicks$Row;)Z"⟩, 4), (⟨"LeaningRicks$Orders", "isCode", "(LLeaningRicks$Row;I)Z"⟩, 4)]
theorem lw_r1 : ∀ q ∈ lw_privs_1, lw_okq q := List.forall_mem_cons.mpr ⟨lw_p0, List.forall_mem_cons.mpr ⟨lw_p1, List.forall_mem_cons.mpr ⟨lw_p2, List.forall_mem_cons.mpr ⟨lw_p3, List.forall_mem_cons.mpr ⟨lw_p4, List.forall_mem_cons.mpr ⟨lw_p5, List.forall_mem_cons.mpr ⟨lw_p6, List.forall_mem_cons.mpr ⟨lw_p7, List.forall_mem_cons.mpr ⟨lw_p8, List.forall_mem_cons.mpr ⟨lw_p9, List.forall_mem_cons.mpr ⟨lw_p10, List.forall_mem_cons.mpr ⟨lw_p11, List.forall_mem_cons.mpr ⟨lw_p12, List.forall_mem_cons.mpr ⟨lw_p13, List.forall_mem_cons.mpr ⟨lw_p14, List.forall_mem_cons.mpr ⟨lw_p15, fun _ h => absurd h List.not_mem_nil⟩⟩⟩⟩⟩⟩⟩⟩⟩⟩⟩⟩⟩⟩⟩⟩
theorem lw_p16 : lw_okq (⟨"LeaningRicks$Orders", "isNumber", "(LLeaningRicks$Row;II)Z"⟩, 4) := ⟨⟨by decide +kernel, by decide +kernel⟩, List.mem_of_getElem? (i := 106) (by decide +kernel), List.mem_of_getElem? (i := 484) (by decide +kernel), List.mem_of_getElem? (i := 485) (by decide +kernel)⟩
theorem lw_p17 : lw_okq (⟨"LeaningRicks", "carryOut", "(I)I"⟩, 11) := ⟨⟨by decide +kernel, by decide +kernel⟩, List.mem_of_getElem? (i := 17) (by decide +kernel), List.mem_of_getElem? (i := 495) (by decide +kernel), List.mem_of_getElem? (i := 496) (by decide +kernel)⟩
theorem lw_p18 : lw_okq (⟨"LeaningRicks", "giveBack", "()V"⟩, 11) := ⟨⟨by decide +kernel, by decide +kernel⟩, List.mem_of_getElem? (i := 17) (by decide +kernel), List.mem_of_getElem? (i := 507) (by decide +kernel), List.mem_of_getElem? (i := 508) (by decide +kernel)⟩
theorem lw_p19 : lw_okq (⟨"LeaningRicksModel", "find", "(II)I"⟩, 22) := ⟨⟨by decide +kernel, by decide +kernel⟩, List.mem_of_getElem? (i := 567) (by decide +kernel), List.mem_of_getElem? (i := 655) (by decide +kernel), List.mem_of_getElem? (i := 656) (by decide +kernel)⟩
theorem lw_p20 : lw_okq (⟨"LeaningRicksModel", "top", "(I)I"⟩, 22) := ⟨⟨by decide +kernel, by decide +kernel⟩, List.mem_of_getElem? (i := 567) (by decide +kernel), List.mem_of_getElem? (i := 659) (by decide +kernel), List.mem_of_getElem? (i := 660) (by decide +kernel)⟩
theorem lw_p21 : lw_okq (⟨"LeaningRicksModel", "of", "(III)I"⟩, 22) := ⟨⟨by decide +kernel, by decide +kernel⟩, List.mem_of_getElem? (i := 567) (by decide +kernel), List.mem_of_getElem? (i := 663) (by decide +kernel), List.mem_of_getElem? (i := 664) (by decide +kernel)⟩
theorem lw_p22 : lw_okq (⟨"LeaningRicksModel", "refuse", "(ZII)Z"⟩, 22) := ⟨⟨by decide +kernel, by decide +kernel⟩, List.mem_of_getElem? (i := 567) (by decide +kernel), List.mem_of_getElem? (i := 667) (by decide +kernel), List.mem_of_getElem? (i := 668) (by decide +kernel)⟩
theorem lw_p23 : lw_okq (⟨"LeaningRicksModel", "count", "(I)I"⟩, 22) := ⟨⟨by decide +kernel, by decide +kernel⟩, List.mem_of_getElem? (i := 567) (by decide +kernel), List.mem_of_getElem? (i := 671) (by decide +kernel), List.mem_of_getElem? (i := 672) (by decide +kernel)⟩
theorem lw_p24 : lw_okq (⟨"LeaningRicksModel", "size", "(II)I"⟩, 22) := ⟨⟨by decide +kernel, by decide +kernel⟩, List.mem_of_getElem? (i := 567) (by decide +kernel), List.mem_of_getElem? (i := 675) (by decide +kernel), List.mem_of_getElem? (i := 676) (by decide +kernel)⟩
theorem lw_p25 : lw_okq (⟨"LeaningRicksModel", "change", "()V"⟩, 22) := ⟨⟨by decide +kernel, by decide +kernel⟩, List.mem_of_getElem? (i := 567) (by decide +kernel), List.mem_of_getElem? (i := 679) (by decide +kernel), List.mem_of_getElem? (i := 680) (by decide +kernel)⟩
theorem lw_p26 : lw_okq (⟨"LeaningRicksModel", "remember", "([I)V"⟩, 22) := ⟨⟨by decide +kernel, by decide +kernel⟩, List.mem_of_getElem? (i := 567) (by decide +kernel), List.mem_of_getElem? (i := 683) (by decide +kernel), List.mem_of_getElem? (i := 684) (by decide +kernel)⟩
theorem lw_p27 : lw_okq (⟨"LeaningRicksModel", "enter", "(III)I"⟩, 22) := ⟨⟨by decide +kernel, by decide +kernel⟩, List.mem_of_getElem? (i := 567) (by decide +kernel), List.mem_of_getElem? (i := 690) (by decide +kernel), List.mem_of_getElem? (i := 691) (by decide +kernel)⟩
theorem lw_p28 : lw_okq (⟨"LeaningRicksModel", "emptyStall", "(I)I"⟩, 22) := ⟨⟨by decide +kernel, by decide +kernel⟩, List.mem_of_getElem? (i := 567) (by decide +kernel), List.mem_of_getElem? (i := 694) (by decide +kernel), List.mem_of_getElem? (i := 695) (by decide +kernel)⟩
theorem lw_p29 : lw_okq (⟨"LeaningRicksModel", "put", "(IIII)V"⟩, 22) := ⟨⟨by decide +kernel, by decide +kernel⟩, List.mem_of_getElem? (i := 567) (by decide +kernel), List.mem_of_getElem? (i := 698) (by decide +kernel), List.mem_of_getElem? (i := 699) (by decide +kernel)⟩
theorem lw_p30 : lw_okq (⟨"LeaningRicksModel", "hang", "(II)V"⟩, 22) := ⟨⟨by decide +kernel, by decide +kernel⟩, List.mem_of_getElem? (i := 567) (by decide +kernel), List.mem_of_getElem? (i := 702) (by decide +kernel), List.mem_of_getElem? (i := 703) (by decide +kernel)⟩
theorem lw_p31 : lw_okq (⟨"LeaningRicksModel", "setTop", "(II)V"⟩, 22) := ⟨⟨by decide +kernel, by decide +kernel⟩, List.mem_of_getElem? (i := 567) (by decide +kernel), List.mem_of_getElem? (i := 706) (by decide +kernel), List.mem_of_getElem? (i := 707) (by decide +kernel)⟩
def lw_privs_2 : List (MethodName × Nat) := [(⟨"LeaningRicks$Orders", "isNumber", "(LLeaningRicks$Row;II)Z"⟩, 4), (⟨"LeaningRicks", "carryOut", "(I)I"⟩, 11), (⟨"LeaningRicks", "giveBack", "()V"⟩, 11), (⟨"LeaningRicksModel", "find", "(II)I"⟩, 22), (⟨"LeaningRicksModel", "top", "(I)I"⟩, 22), (⟨"LeaningRicksModel", "of", "(III)I"⟩, 22), (⟨"LeaningRicksModel", "refuse", "(ZII)Z"⟩, 22), (⟨"LeaningRicksModel", "count", "(I)I"⟩, 22), (⟨"LeaningRicksModel", "size", "(II)I"⟩, 22), (⟨"LeaningRicksModel", "change", "()V"⟩, 22), (⟨"LeaningRicksModel", "remember", "([I)V"⟩, 22), (⟨"LeaningRicksModel", "enter", "(III)I"⟩, 22), (⟨"LeaningRicksModel", "emptyStall", "(I)I"⟩, 22), (⟨"LeaningRicksModel", "put", "(IIII)V"⟩, 22), (⟨"LeaningRicksModel", "hang", "(II)V"⟩, 22), (⟨"LeaningRicksModel", "setTop", "(II)V"⟩, 22)]
theorem lw_r2 : ∀ q ∈ lw_privs_2, lw_okq q := List.forall_mem_cons.mpr ⟨lw_p16, List.forall_mem_cons.mpr ⟨lw_p17, List.forall_mem_cons.mpr ⟨lw_p18, List.forall_mem_cons.mpr ⟨lw_p19, List.forall_mem_cons.mpr ⟨lw_p20, List.forall_mem_cons.mpr ⟨lw_p21, List.forall_mem_cons.mpr ⟨lw_p22, List.forall_mem_cons.mpr ⟨lw_p23, List.forall_mem_cons.mpr ⟨lw_p24, List.forall_mem_cons.mpr ⟨lw_p25, List.forall_mem_cons.mpr ⟨lw_p26, List.forall_mem_cons.mpr ⟨lw_p27, List.forall_mem_cons.mpr ⟨lw_p28, List.forall_mem_cons.mpr ⟨lw_p29, List.forall_mem_cons.mpr ⟨lw_p30, List.forall_mem_cons.mpr ⟨lw_p31, fun _ h => absurd h List.not_mem_nil⟩⟩⟩⟩⟩⟩⟩⟩⟩⟩⟩⟩⟩⟩⟩⟩
theorem lw_p32 : lw_okq (⟨"LeaningRicksModel", "most", "(I)I"⟩, 22) := ⟨⟨by decide +kernel, by decide +kernel⟩, List.mem_of_getElem? (i := 567) (by decide +kernel), List.mem_of_getElem? (i := 710) (by decide +kernel), List.mem_of_getElem? (i := 711) (by decide +kernel)⟩
theorem lw_p33 : lw_okq (⟨"LeaningRicksModel", "setMost", "(II)V"⟩, 22) := ⟨⟨by decide +kernel, by decide +kernel⟩, List.mem_of_getElem? (i := 567) (by decide +kernel), List.mem_of_getElem? (i := 714) (by decide +kernel), List.mem_of_getElem? (i := 715) (by decide +kernel)⟩
theorem lw_p34 : lw_okq (⟨"LeaningRicksModel", "depth", "(II)I"⟩, 22) := ⟨⟨by decide +kernel, by decide +kernel⟩, List.mem_of_getElem? (i := 567) (by decide +kernel), List.mem_of_getElem? (i := 718) (by decide +kernel), List.mem_of_getElem? (i := 719) (by decide +kernel)⟩
theorem lw_p35 : lw_okq (⟨"LeaningRicksModel", "above", "(II)I"⟩, 22) := ⟨⟨by decide +kernel, by decide +kernel⟩, List.mem_of_getElem? (i := 567) (by decide +kernel), List.mem_of_getElem? (i := 722) (by decide +kernel), List.mem_of_getElem? (i := 723) (by decide +kernel)⟩
theorem lw_p36 : lw_okq (⟨"LeaningRicksModel", "mayHave", "(I)I"⟩, 22) := ⟨⟨by decide +kernel, by decide +kernel⟩, List.mem_of_getElem? (i := 567) (by decide +kernel), List.mem_of_getElem? (i := 726) (by decide +kernel), List.mem_of_getElem? (i := 727) (by decide +kernel)⟩
theorem lw_p37 : lw_okq (⟨"LeaningRicksModel", "leans", "(II)Z"⟩, 22) := ⟨⟨by decide +kernel, by decide +kernel⟩, List.mem_of_getElem? (i := 567) (by decide +kernel), List.mem_of_getElem? (i := 730) (by decide +kernel), List.mem_of_getElem? (i := 731) (by decide +kernel)⟩
theorem lw_p38 : lw_okq (⟨"LeaningRicksModel", "buildPart", "(II)V"⟩, 22) := ⟨⟨by decide +kernel, by decide +kernel⟩, List.mem_of_getElem? (i := 567) (by decide +kernel), List.mem_of_getElem? (i := 734) (by decide +kernel), List.mem_of_getElem? (i := 735) (by decide +kernel)⟩
theorem lw_p39 : lw_okq (⟨"LeaningRicksModel", "listFrom", "(II)V"⟩, 22) := ⟨⟨by decide +kernel, by decide +kernel⟩, List.mem_of_getElem? (i := 567) (by decide +kernel), List.mem_of_getElem? (i := 738) (by decide +kernel), List.mem_of_getElem? (i := 739) (by decide +kernel)⟩
theorem lw_p40 : lw_okq (⟨"LeaningRicksModel", "make", "(III)I"⟩, 22) := ⟨⟨by decide +kernel, by decide +kernel⟩, List.mem_of_getElem? (i := 567) (by decide +kernel), List.mem_of_getElem? (i := 742) (by decide +kernel), List.mem_of_getElem? (i := 743) (by decide +kernel)⟩
theorem lw_p41 : lw_okq (⟨"LeaningRicksModel", "replace", "(IIII)V"⟩, 22) := ⟨⟨by decide +kernel, by decide +kernel⟩, List.mem_of_getElem? (i := 567) (by decide +kernel), List.mem_of_getElem? (i := 746) (by decide +kernel), List.mem_of_getElem? (i := 747) (by decide +kernel)⟩
theorem lw_p42 : lw_okq (⟨"LeaningRicksModel", "takeOut", "(II)V"⟩, 22) := ⟨⟨by decide +kernel, by decide +kernel⟩, List.mem_of_getElem? (i := 567) (by decide +kernel), List.mem_of_getElem? (i := 754) (by decide +kernel), List.mem_of_getElem? (i := 755) (by decide +kernel)⟩
theorem lw_p43 : lw_okq (⟨"LeaningRicksModel", "unhang", "(II)V"⟩, 22) := ⟨⟨by decide +kernel, by decide +kernel⟩, List.mem_of_getElem? (i := 567) (by decide +kernel), List.mem_of_getElem? (i := 758) (by decide +kernel), List.mem_of_getElem? (i := 759) (by decide +kernel)⟩
theorem lw_p44 : lw_okq (⟨"LeaningRicksModel", "clear", "(II)V"⟩, 22) := ⟨⟨by decide +kernel, by decide +kernel⟩, List.mem_of_getElem? (i := 567) (by decide +kernel), List.mem_of_getElem? (i := 762) (by decide +kernel), List.mem_of_getElem? (i := 763) (by decide +kernel)⟩
theorem lw_p45 : lw_okq (⟨"LeaningRicksModel", "buildWhole", "(I)V"⟩, 22) := ⟨⟨by decide +kernel, by decide +kernel⟩, List.mem_of_getElem? (i := 567) (by decide +kernel), List.mem_of_getElem? (i := 766) (by decide +kernel), List.mem_of_getElem? (i := 767) (by decide +kernel)⟩
theorem lw_p46 : lw_okq (⟨"LeaningRicksModel", "listAll", "(I)V"⟩, 22) := ⟨⟨by decide +kernel, by decide +kernel⟩, List.mem_of_getElem? (i := 567) (by decide +kernel), List.mem_of_getElem? (i := 770) (by decide +kernel), List.mem_of_getElem? (i := 771) (by decide +kernel)⟩
theorem lw_p47 : lw_okq (⟨"LeaningRicksModel", "common", "(II)I"⟩, 22) := ⟨⟨by decide +kernel, by decide +kernel⟩, List.mem_of_getElem? (i := 567) (by decide +kernel), List.mem_of_getElem? (i := 782) (by decide +kernel), List.mem_of_getElem? (i := 783) (by decide +kernel)⟩
def lw_privs_3 : List (MethodName × Nat) := [(⟨"LeaningRicksModel", "most", "(I)I"⟩, 22), (⟨"LeaningRicksModel", "setMost", "(II)V"⟩, 22), (⟨"LeaningRicksModel", "depth", "(II)I"⟩, 22), (⟨"LeaningRicksModel", "above", "(II)I"⟩, 22), (⟨"LeaningRicksModel", "mayHave", "(I)I"⟩, 22), (⟨"LeaningRicksModel", "leans", "(II)Z"⟩, 22), (⟨"LeaningRicksModel", "buildPart", "(II)V"⟩, 22), (⟨"LeaningRicksModel", "listFrom", "(II)V"⟩, 22), (⟨"LeaningRicksModel", "make", "(III)I"⟩, 22), (⟨"LeaningRicksModel", "replace", "(IIII)V"⟩, 22), (⟨"LeaningRicksModel", "takeOut", "(II)V"⟩, 22), (⟨"LeaningRicksModel", "unhang", "(II)V"⟩, 22), (⟨"LeaningRicksModel", "clear", "(II)V"⟩, 22), (⟨"LeaningRicksModel", "buildWhole", "(I)V"⟩, 22), (⟨"LeaningRicksModel", "listAll", "(I)V"⟩, 22), (⟨"LeaningRicksModel", "common", "(II)I"⟩, 22)]
theorem lw_r3 : ∀ q ∈ lw_privs_3, lw_okq q := List.forall_mem_cons.mpr ⟨lw_p32, List.forall_mem_cons.mpr ⟨lw_p33, List.forall_mem_cons.mpr ⟨lw_p34, List.forall_mem_cons.mpr ⟨lw_p35, List.forall_mem_cons.mpr ⟨lw_p36, List.forall_mem_cons.mpr ⟨lw_p37, List.forall_mem_cons.mpr ⟨lw_p38, List.forall_mem_cons.mpr ⟨lw_p39, List.forall_mem_cons.mpr ⟨lw_p40, List.forall_mem_cons.mpr ⟨lw_p41, List.forall_mem_cons.mpr ⟨lw_p42, List.forall_mem_cons.mpr ⟨lw_p43, List.forall_mem_cons.mpr ⟨lw_p44, List.forall_mem_cons.mpr ⟨lw_p45, List.forall_mem_cons.mpr ⟨lw_p46, List.forall_mem_cons.mpr ⟨lw_p47, fun _ h => absurd h List.not_mem_nil⟩⟩⟩⟩⟩⟩⟩⟩⟩⟩⟩⟩⟩⟩⟩⟩
theorem lw_p48 : lw_okq (⟨"LeaningRicksModel", "loads", "(II)I"⟩, 22) := ⟨⟨by decide +kernel, by decide +kernel⟩, List.mem_of_getElem? (i := 567) (by decide +kernel), List.mem_of_getElem? (i := 794) (by decide +kernel), List.mem_of_getElem? (i := 795) (by decide +kernel)⟩
theorem lw_p49 : lw_okq (⟨"LeaningRicksModel", "weightOr", "(II)I"⟩, 22) := ⟨⟨by decide +kernel, by decide +kernel⟩, List.mem_of_getElem? (i := 567) (by decide +kernel), List.mem_of_getElem? (i := 798) (by decide +kernel), List.mem_of_getElem? (i := 799) (by decide +kernel)⟩
theorem lw_p50 : lw_okq (⟨"LeaningRicksModel", "greatestDepth", "(I)I"⟩, 22) := ⟨⟨by decide +kernel, by decide +kernel⟩, List.mem_of_getElem? (i := 567) (by decide +kernel), List.mem_of_getElem? (i := 806) (by decide +kernel), List.mem_of_getElem? (i := 807) (by decide +kernel)⟩
theorem lw_p51 : lw_okq (⟨"LeaningRicksModel", "leaning", "(I)I"⟩, 22) := ⟨⟨by decide +kernel, by decide +kernel⟩, List.mem_of_getElem? (i := 567) (by decide +kernel), List.mem_of_getElem? (i := 810) (by decide +kernel), List.mem_of_getElem? (i := 811) (by decide +kernel)⟩
theorem lw_p52 : lw_okq (⟨"LeaningRicksModel", "allDepths", "(I)I"⟩, 22) := ⟨⟨by decide +kernel, by decide +kernel⟩, List.mem_of_getElem? (i := 567) (by decide +kernel), List.mem_of_getElem? (i := 814) (by decide +kernel), List.mem_of_getElem? (i := 815) (by decide +kernel)⟩
theorem lw_p53 : lw_okq (⟨"LeaningRicksModel", "lowest", "(I)I"⟩, 22) := ⟨⟨by decide +kernel, by decide +kernel⟩, List.mem_of_getElem? (i := 567) (by decide +kernel), List.mem_of_getElem? (i := 818) (by decide +kernel), List.mem_of_getElem? (i := 819) (by decide +kernel)⟩
theorem lw_p54 : lw_okq (⟨"LeaningRicksModel", "isThere", "(I)Z"⟩, 22) := ⟨⟨by decide +kernel, by decide +kernel⟩, List.mem_of_getElem? (i := 567) (by decide +kernel), List.mem_of_getElem? (i := 848) (by decide +kernel), List.mem_of_getElem? (i := 849) (by decide +kernel)⟩
theorem lw_p55 : lw_okq (⟨"LeaningRicksModel", "isAhead", "(II)Z"⟩, 22) := ⟨⟨by decide +kernel, by decide +kernel⟩, List.mem_of_getElem? (i := 567) (by decide +kernel), List.mem_of_getElem? (i := 852) (by decide +kernel), List.mem_of_getElem? (i := 853) (by decide +kernel)⟩
theorem lw_p56 : lw_okq (⟨"LeaningRicksModel", "ofAll", "(II)I"⟩, 22) := ⟨⟨by decide +kernel, by decide +kernel⟩, List.mem_of_getElem? (i := 567) (by decide +kernel), List.mem_of_getElem? (i := 856) (by decide +kernel), List.mem_of_getElem? (i := 857) (by decide +kernel)⟩
theorem lw_p57 : lw_okq (⟨"LeaningRicksModel", "load", "(III)I"⟩, 22) := ⟨⟨by decide +kernel, by decide +kernel⟩, List.mem_of_getElem? (i := 567) (by decide +kernel), List.mem_of_getElem? (i := 867) (by decide +kernel), List.mem_of_getElem? (i := 868) (by decide +kernel)⟩
theorem lw_p58 : lw_okq (⟨"LeaningRicksModel", "bits", "(IIJ)J"⟩, 22) := ⟨⟨by decide +kernel, by decide +kernel⟩, List.mem_of_getElem? (i := 567) (by decide +kernel), List.mem_of_getElem? (i := 879) (by decide +kernel), List.mem_of_getElem? (i := 880) (by decide +kernel)⟩
theorem lw_p59 : lw_okq (⟨"LeaningRicksModel", "countOrders", "()I"⟩, 22) := ⟨⟨by decide +kernel, by decide +kernel⟩, List.mem_of_getElem? (i := 567) (by decide +kernel), List.mem_of_getElem? (i := 925) (by decide +kernel), List.mem_of_getElem? (i := 926) (by decide +kernel)⟩
theorem lw_p60 : lw_okq (⟨"LeaningRicksModel", "readOrder", "()V"⟩, 22) := ⟨⟨by decide +kernel, by decide +kernel⟩, List.mem_of_getElem? (i := 567) (by decide +kernel), List.mem_of_getElem? (i := 929) (by decide +kernel), List.mem_of_getElem? (i := 930) (by decide +kernel)⟩
theorem lw_p61 : lw_okq (⟨"LeaningRicksModel", "readSheaf", "()V"⟩, 22) := ⟨⟨by decide +kernel, by decide +kernel⟩, List.mem_of_getElem? (i := 567) (by decide +kernel), List.mem_of_getElem? (i := 1016) (by decide +kernel), List.mem_of_getElem? (i := 1017) (by decide +kernel)⟩
theorem lw_p62 : lw_okq (⟨"LeaningRicksModel", "readNumber", "(I)I"⟩, 22) := ⟨⟨by decide +kernel, by decide +kernel⟩, List.mem_of_getElem? (i := 567) (by decide +kernel), List.mem_of_getElem? (i := 1020) (by decide +kernel), List.mem_of_getElem? (i := 1021) (by decide +kernel)⟩
theorem lw_p63 : lw_okq (⟨"LeaningRicksModel", "sees", "(II)Z"⟩, 22) := ⟨⟨by decide +kernel, by decide +kernel⟩, List.mem_of_getElem? (i := 567) (by decide +kernel), List.mem_of_getElem? (i := 1024) (by decide +kernel), List.mem_of_getElem? (i := 1025) (by decide +kernel)⟩
def lw_privs_4 : List (MethodName × Nat) := [(⟨"LeaningRicksModel", "loads", "(II)I"⟩, 22), (⟨"LeaningRicksModel", "weightOr", "(II)I"⟩, 22), (⟨"LeaningRicksModel", "greatestDepth", "(I)I"⟩, 22), (⟨"LeaningRicksModel", "leaning", "(I)I"⟩, 22), (⟨"LeaningRicksModel", "allDepths", "(I)I"⟩, 22), (⟨"LeaningRicksModel", "lowest", "(I)I"⟩, 22), (⟨"LeaningRicksModel", "isThere", "(I)Z"⟩, 22), (⟨"LeaningRicksModel", "isAhead", "(II)Z"⟩, 22), (⟨"LeaningRicksModel", "ofAll", "(II)I"⟩, 22), (⟨"LeaningRicksModel", "load", "(III)I"⟩, 22), (⟨"LeaningRicksModel", "bits", "(IIJ)J"⟩, 22), (⟨"LeaningRicksModel", "countOrders", "()I"⟩, 22), (⟨"LeaningRicksModel", "readOrder", "()V"⟩, 22), (⟨"LeaningRicksModel", "readSheaf", "()V"⟩, 22), (⟨"LeaningRicksModel", "readNumber", "(I)I"⟩, 22), (⟨"LeaningRicksModel", "sees", "(II)Z"⟩, 22)]
theorem lw_r4 : ∀ q ∈ lw_privs_4, lw_okq q := List.forall_mem_cons.mpr ⟨lw_p48, List.forall_mem_cons.mpr ⟨lw_p49, List.forall_mem_cons.mpr ⟨lw_p50, List.forall_mem_cons.mpr ⟨lw_p51, List.forall_mem_cons.mpr ⟨lw_p52, List.forall_mem_cons.mpr ⟨lw_p53, List.forall_mem_cons.mpr ⟨lw_p54, List.forall_mem_cons.mpr ⟨lw_p55, List.forall_mem_cons.mpr ⟨lw_p56, List.forall_mem_cons.mpr ⟨lw_p57, List.forall_mem_cons.mpr ⟨lw_p58, List.forall_mem_cons.mpr ⟨lw_p59, List.forall_mem_cons.mpr ⟨lw_p60, List.forall_mem_cons.mpr ⟨lw_p61, List.forall_mem_cons.mpr ⟨lw_p62, List.forall_mem_cons.mpr ⟨lw_p63, fun _ h => absurd h List.not_mem_nil⟩⟩⟩⟩⟩⟩⟩⟩⟩⟩⟩⟩⟩⟩⟩⟩
theorem lw_p64 : lw_okq (⟨"LeaningRicksModel", "must", "(I)V"⟩, 22) := ⟨⟨by decide +kernel, by decide +kernel⟩, List.mem_of_getElem? (i := 567) (by decide +kernel), List.mem_of_getElem? (i := 1028) (by decide +kernel), List.mem_of_getElem? (i := 1029) (by decide +kernel)⟩
theorem lw_p65 : lw_okq (⟨"LeaningRicksModel", "carryOut", "()I"⟩, 22) := ⟨⟨by decide +kernel, by decide +kernel⟩, List.mem_of_getElem? (i := 567) (by decide +kernel), List.mem_of_getElem? (i := 1032) (by decide +kernel), List.mem_of_getElem? (i := 1033) (by decide +kernel)⟩
theorem lw_p66 : lw_okq (⟨"LeaningRicksModel", "writeSheaf", "(II)V"⟩, 22) := ⟨⟨by decide +kernel, by decide +kernel⟩, List.mem_of_getElem? (i := 567) (by decide +kernel), List.mem_of_getElem? (i := 1046) (by decide +kernel), List.mem_of_getElem? (i := 1047) (by decide +kernel)⟩
theorem lw_p67 : lw_okq (⟨"LeaningRicksModel", "write", "(I)V"⟩, 22) := ⟨⟨by decide +kernel, by decide +kernel⟩, List.mem_of_getElem? (i := 567) (by decide +kernel), List.mem_of_getElem? (i := 1050) (by decide +kernel), List.mem_of_getElem? (i := 1051) (by decide +kernel)⟩
theorem lw_p68 : lw_okq (⟨"LeaningRicksModel", "writeNumber", "(I)V"⟩, 22) := ⟨⟨by decide +kernel, by decide +kernel⟩, List.mem_of_getElem? (i := 567) (by decide +kernel), List.mem_of_getElem? (i := 1054) (by decide +kernel), List.mem_of_getElem? (i := 1055) (by decide +kernel)⟩
theorem lw_p69 : lw_okq (⟨"LeaningRicksModel", "allSheaves", "()I"⟩, 22) := ⟨⟨by decide +kernel, by decide +kernel⟩, List.mem_of_getElem? (i := 567) (by decide +kernel), List.mem_of_getElem? (i := 1070) (by decide +kernel), List.mem_of_getElem? (i := 1071) (by decide +kernel)⟩
def lw_privs_5 : List (MethodName × Nat) := [(⟨"LeaningRicksModel", "must", "(I)V"⟩, 22), (⟨"LeaningRicksModel", "carryOut", "()I"⟩, 22), (⟨"LeaningRicksModel", "writeSheaf", "(II)V"⟩, 22), (⟨"LeaningRicksModel", "write", "(I)V"⟩, 22), (⟨"LeaningRicksModel", "writeNumber", "(I)V"⟩, 22), (⟨"LeaningRicksModel", "allSheaves", "()I"⟩, 22)]
theorem lw_r5 : ∀ q ∈ lw_privs_5, lw_okq q := List.forall_mem_cons.mpr ⟨lw_p64, List.forall_mem_cons.mpr ⟨lw_p65, List.forall_mem_cons.mpr ⟨lw_p66, List.forall_mem_cons.mpr ⟨lw_p67, List.forall_mem_cons.mpr ⟨lw_p68, List.forall_mem_cons.mpr ⟨lw_p69, fun _ h => absurd h List.not_mem_nil⟩⟩⟩⟩⟩⟩
def lw_privs : List (MethodName × Nat) := lw_privs_1 ++ (lw_privs_2 ++ (lw_privs_3 ++ (lw_privs_4 ++ (lw_privs_5))))
def lw_tbl : List Cond := k2_sels lw_privs ++ tables_1
theorem lw_privs_ok : ∀ q ∈ lw_privs, lw_okq q := by
  show ∀ q ∈ lw_privs_1 ++ (lw_privs_2 ++ (lw_privs_3 ++ (lw_privs_4 ++ (lw_privs_5)))), lw_okq q
  exact List.forall_mem_append.mpr ⟨lw_r1, List.forall_mem_append.mpr ⟨lw_r2, List.forall_mem_append.mpr ⟨lw_r3, List.forall_mem_append.mpr ⟨lw_r4, lw_r5⟩⟩⟩⟩
/-- the streams that the claim lets the run draw from -/
abbrev lw_cs : List Choice := [Jvm.Choice.named "NaN.bits"]
theorem lw_bits : nanBits ∈ lw_cs := by first | decide | exact List.mem_cons_self | simp [lw_cs, nanBits]
def RX0 : String := "LeaningRicks$Orders"
def TX0 : u_T := fun k => match k with
  | 0 => ("LeaningRicks$Orders", "sign", "[I", true)
  | 1 => ("LeaningRicks$Orders", "number", "[I", true)
  | 2 => ("LeaningRicks$Orders", "count", "I", false)
  | _ => ("LeaningRicks$Orders", "index", "I", false)
def tyX0 : Nat → FieldType := fun k => match k with
  | 0 => .array .int
  | 1 => .array .int
  | 2 => .int
  | _ => .int
theorem nmX0 : ∀ a, a < 4 → ∀ b, b < 4 → a ≠ b → (TX0 a).2.1 ≠ (TX0 b).2.1 := by decide +kernel
theorem tyX0_ok : ∀ k, k < 4 → parseFieldDescriptor (TX0 k).2.2.1 = some (tyX0 k) := by decide +kernel
abbrev cX0_init : ByteArray := prog_2_method_1_code
def yX0_init : MethodName := ⟨RX0, "<init>", "()V"⟩
abbrev cX0_signOf : ByteArray := prog_2_method_2_code
def yX0_signOf : MethodName := ⟨RX0, "signOf", "(I)I"⟩
abbrev cX0_numberOf : ByteArray := prog_2_method_3_code
def yX0_numberOf : MethodName := ⟨RX0, "numberOf", "(II)I"⟩
abbrev cX0_read : ByteArray := prog_2_method_4_code
def yX0_read : MethodName := ⟨RX0, "read", "(LLeaningRicks$Row;)I"⟩
abbrev cX0_isOrder : ByteArray := prog_2_method_5_code
def yX0_isOrder : MethodName := ⟨RX0, "isOrder", "(LLeaningRicks$Row;)Z"⟩
abbrev cX0_isCode : ByteArray := prog_2_method_6_code
def yX0_isCode : MethodName := ⟨RX0, "isCode", "(LLeaningRicks$Row;I)Z"⟩
abbrev cX0_isNumber : ByteArray := prog_2_method_7_code
def yX0_isNumber : MethodName := ⟨RX0, "isNumber", "(LLeaningRicks$Row;II)Z"⟩
abbrev cX0_isDigit : ByteArray := prog_2_method_8_code
def yX0_isDigit : MethodName := ⟨RX0, "isDigit", "(I)Z"⟩
def RX1 : String := "LeaningRicks$Rick"
def TX1 : u_T := fun k => match k with
  | 0 => ("LeaningRicks$Rick", "weight", "[I", true)
  | 1 => ("LeaningRicks$Rick", "load", "[I", true)
  | 2 => ("LeaningRicks$Rick", "depth", "[I", true)
  | 3 => ("LeaningRicks$Rick", "count", "I", false)
  | _ => ("LeaningRicks$Rick", "most", "I", false)
def tyX1 : Nat → FieldType := fun k => match k with
  | 0 => .array .int
  | 1 => .array .int
  | 2 => .array .int
  | 3 => .int
  | _ => .int
theorem nmX1 : ∀ a, a < 5 → ∀ b, b < 5 → a ≠ b → (TX1 a).2.1 ≠ (TX1 b).2.1 := by decide +kernel
theorem tyX1_ok : ∀ k, k < 5 → parseFieldDescriptor (TX1 k).2.2.1 = some (tyX1 k) := by decide +kernel
abbrev cX1_init : ByteArray := prog_3_method_1_code
def yX1_init : MethodName := ⟨RX1, "<init>", "()V"⟩
abbrev cX1_isPlace : ByteArray := prog_3_method_2_code
def yX1_isPlace : MethodName := ⟨RX1, "isPlace", "(I)Z"⟩
abbrev cX1_weightAt : ByteArray := prog_3_method_3_code
def yX1_weightAt : MethodName := ⟨RX1, "weightAt", "(I)I"⟩
abbrev cX1_loadAt : ByteArray := prog_3_method_4_code
def yX1_loadAt : MethodName := ⟨RX1, "loadAt", "(I)I"⟩
abbrev cX1_depthAt : ByteArray := prog_3_method_5_code
def yX1_depthAt : MethodName := ⟨RX1, "depthAt", "(I)I"⟩
abbrev cX1_find : ByteArray := prog_3_method_6_code
def yX1_find : MethodName := ⟨RX1, "find", "(I)I"⟩
abbrev cX1_firstOf : ByteArray := prog_3_method_7_code
def yX1_firstOf : MethodName := ⟨RX1, "firstOf", "(I)I"⟩
abbrev cX1_lastOf : ByteArray := prog_3_method_8_code
def yX1_lastOf : MethodName := ⟨RX1, "lastOf", "(I)I"⟩
abbrev cX1_topOf : ByteArray := prog_3_method_9_code
def yX1_topOf : MethodName := ⟨RX1, "topOf", "(II)I"⟩
abbrev cX1_above : ByteArray := prog_3_method_10_code
def yX1_above : MethodName := ⟨RX1, "above", "(I)I"⟩
abbrev cX1_leans : ByteArray := prog_3_method_11_code
def yX1_leans : MethodName := ⟨RX1, "leans", "(II)Z"⟩
abbrev cX1_loadsFrom : ByteArray := prog_3_method_12_code
def yX1_loadsFrom : MethodName := ⟨RX1, "loadsFrom", "(II)I"⟩
abbrev cX1_depths : ByteArray := prog_3_method_13_code
def yX1_depths : MethodName := ⟨RX1, "depths", "()I"⟩
abbrev cX1_greatestDepth : ByteArray := prog_3_method_14_code
def yX1_greatestDepth : MethodName := ⟨RX1, "greatestDepth", "()I"⟩
abbrev cX1_leaning : ByteArray := prog_3_method_15_code
def yX1_leaning : MethodName := ⟨RX1, "leaning", "(I)I"⟩
abbrev cX1_lowest : ByteArray := prog_3_method_16_code
def yX1_lowest : MethodName := ⟨RX1, "lowest", "()I"⟩
abbrev cX1_cartsUpTo : ByteArray := prog_3_method_17_code
def yX1_cartsUpTo : MethodName := ⟨RX1, "cartsUpTo", "(II)I"⟩
abbrev cX1_lighterByParts : ByteArray := prog_3_method_18_code
def yX1_lighterByParts : MethodName := ⟨RX1, "lighterByParts", "(I)I"⟩
abbrev cX1_lighterOneByOne : ByteArray := prog_3_method_19_code
def yX1_lighterOneByOne : MethodName := ⟨RX1, "lighterOneByOne", "(I)I"⟩
abbrev cX1_loadsByParts : ByteArray := prog_3_method_20_code
def yX1_loadsByParts : MethodName := ⟨RX1, "loadsByParts", "(II)I"⟩
abbrev cX1_loadsOfLighter : ByteArray := prog_3_method_21_code
def yX1_loadsOfLighter : MethodName := ⟨RX1, "loadsOfLighter", "(J)I"⟩
abbrev cX1_loadsOneByOne : ByteArray := prog_3_method_22_code
def yX1_loadsOneByOne : MethodName := ⟨RX1, "loadsOneByOne", "(II)I"⟩
abbrev cX1_isInOrder : ByteArray := prog_3_method_23_code
def yX1_isInOrder : MethodName := ⟨RX1, "isInOrder", "()Z"⟩
abbrev cX1_lay : ByteArray := prog_3_method_24_code
def yX1_lay : MethodName := ⟨RX1, "lay", "(II)I"⟩
abbrev cX1_lift : ByteArray := prog_3_method_25_code
def yX1_lift : MethodName := ⟨RX1, "lift", "(I)V"⟩
abbrev cX1_buildPartAbove : ByteArray := prog_3_method_26_code
def yX1_buildPartAbove : MethodName := ⟨RX1, "buildPartAbove", "(II)I"⟩
abbrev cX1_buildWhole : ByteArray := prog_3_method_27_code
def yX1_buildWhole : MethodName := ⟨RX1, "buildWhole", "()I"⟩
abbrev cX1_spread : ByteArray := prog_3_method_28_code
def yX1_spread : MethodName := ⟨RX1, "spread", "(LLeaningRicks$Rick;III)I"⟩
abbrev cX1_raise : ByteArray := prog_3_method_29_code
def yX1_raise : MethodName := ⟨RX1, "raise", "(II)V"⟩
abbrev cX1_set : ByteArray := prog_3_method_30_code
def yX1_set : MethodName := ⟨RX1, "set", "(IIII)V"⟩
abbrev cX1_setDepth : ByteArray := prog_3_method_31_code
def yX1_setDepth : MethodName := ⟨RX1, "setDepth", "(II)V"⟩
abbrev cX1_copyFrom : ByteArray := prog_3_method_32_code
def yX1_copyFrom : MethodName := ⟨RX1, "copyFrom", "(LLeaningRicks$Rick;)V"⟩
def RX2 : String := "LeaningRicks$Row"
def TX2 : u_T := fun k => match k with
  | 0 => ("LeaningRicks$Row", "code", "[I", true)
  | _ => ("LeaningRicks$Row", "length", "I", false)
def tyX2 : Nat → FieldType := fun k => match k with
  | 0 => .array .int
  | _ => .int
theorem nmX2 : ∀ a, a < 2 → ∀ b, b < 2 → a ≠ b → (TX2 a).2.1 ≠ (TX2 b).2.1 := by decide +kernel
theorem tyX2_ok : ∀ k, k < 2 → parseFieldDescriptor (TX2 k).2.2.1 = some (tyX2 k) := by decide +kernel
abbrev cX2_init : ByteArray := prog_4_method_1_code
def yX2_init : MethodName := ⟨RX2, "<init>", "()V"⟩
abbrev cX2_clear : ByteArray := prog_4_method_2_code
def yX2_clear : MethodName := ⟨RX2, "clear", "()V"⟩
abbrev cX2_add : ByteArray := prog_4_method_3_code
def yX2_add : MethodName := ⟨RX2, "add", "(I)Z"⟩
abbrev cX2_addNumber : ByteArray := prog_4_method_4_code
def yX2_addNumber : MethodName := ⟨RX2, "addNumber", "(I)V"⟩
abbrev cX2_codeAt : ByteArray := prog_4_method_5_code
def yX2_codeAt : MethodName := ⟨RX2, "codeAt", "(I)I"⟩
def RX3 : String := "LeaningRicks$Yard"
def TX3 : u_T := fun k => match k with
  | 0 => ("LeaningRicks$Yard", "ricks", "[LLeaningRicks$Rick;", true)
  | 1 => ("LeaningRicks$Yard", "limit", "I", false)
  | 2 => ("LeaningRicks$Yard", "sheavesPut", "I", false)
  | 3 => ("LeaningRicks$Yard", "sheavesTaken", "I", false)
  | 4 => ("LeaningRicks$Yard", "partsBuilt", "I", false)
  | 5 => ("LeaningRicks$Yard", "ricksBuilt", "I", false)
  | 6 => ("LeaningRicks$Yard", "sheavesBuilt", "I", false)
  | _ => ("LeaningRicks$Yard", "ricksPoured", "I", false)
def tyX3 : Nat → FieldType := fun k => match k with
  | 0 => .array (.object "LeaningRicks$Rick")
  | 1 => .int
  | 2 => .int
  | 3 => .int
  | 4 => .int
  | 5 => .int
  | 6 => .int
  | _ => .int
theorem nmX3 : ∀ a, a < 8 → ∀ b, b < 8 → a ≠ b → (TX3 a).2.1 ≠ (TX3 b).2.1 := by decide +kernel
theorem tyX3_ok : ∀ k, k < 8 → parseFieldDescriptor (TX3 k).2.2.1 = some (tyX3 k) := by decide +kernel
abbrev cX3_init : ByteArray := prog_5_method_1_code
def yX3_init : MethodName := ⟨RX3, "<init>", "()V"⟩
abbrev cX3_rickAt : ByteArray := prog_5_method_2_code
def yX3_rickAt : MethodName := ⟨RX3, "rickAt", "(I)LLeaningRicks$Rick;"⟩
abbrev cX3_sheaves : ByteArray := prog_5_method_3_code
def yX3_sheaves : MethodName := ⟨RX3, "sheaves", "()I"⟩
abbrev cX3_loads : ByteArray := prog_5_method_4_code
def yX3_loads : MethodName := ⟨RX3, "loads", "()I"⟩
abbrev cX3_keyAfter : ByteArray := prog_5_method_5_code
def yX3_keyAfter : MethodName := ⟨RX3, "keyAfter", "(I)I"⟩
abbrev cX3_copyFrom : ByteArray := prog_5_method_6_code
def yX3_copyFrom : MethodName := ⟨RX3, "copyFrom", "(LLeaningRicks$Yard;)V"⟩
def RX4 : String := "LeaningRicks"
def TX4 : u_T := fun k => match k with
  | 0 => ("LeaningRicks", "now", "LLeaningRicks$Yard;", true)
  | 1 => ("LeaningRicks", "saved", "LLeaningRicks$Yard;", true)
  | 2 => ("LeaningRicks", "isSaved", "Z", false)
  | 3 => ("LeaningRicks", "past", "[LLeaningRicks$Yard;", true)
  | 4 => ("LeaningRicks", "next", "I", false)
  | 5 => ("LeaningRicks", "undoable", "I", false)
  | 6 => ("LeaningRicks", "text", "LLeaningRicks$Row;", true)
  | 7 => ("LeaningRicks", "line", "LLeaningRicks$Row;", true)
  | 8 => ("LeaningRicks", "orders", "LLeaningRicks$Orders;", true)
  | 9 => ("LeaningRicks", "latestReason", "I", false)
  | _ => ("LeaningRicks", "latestDetail", "I", false)
def tyX4 : Nat → FieldType := fun k => match k with
  | 0 => .object "LeaningRicks$Yard"
  | 1 => .object "LeaningRicks$Yard"
  | 2 => .boolean
  | 3 => .array (.object "LeaningRicks$Yard")
  | 4 => .int
  | 5 => .int
  | 6 => .object "LeaningRicks$Row"
  | 7 => .object "LeaningRicks$Row"
  | 8 => .object "LeaningRicks$Orders"
  | 9 => .int
  | _ => .int
theorem nmX4 : ∀ a, a < 11 → ∀ b, b < 11 → a ≠ b → (TX4 a).2.1 ≠ (TX4 b).2.1 := by decide +kernel
theorem tyX4_ok : ∀ k, k < 11 → parseFieldDescriptor (TX4 k).2.2.1 = some (tyX4 k) := by decide +kernel
abbrev cX4_init : ByteArray := prog_1_method_1_code
def yX4_init : MethodName := ⟨RX4, "<init>", "()V"⟩
abbrev cX4_put : ByteArray := prog_1_method_2_code
def yX4_put : MethodName := ⟨RX4, "put", "(III)I"⟩
abbrev cX4_take : ByteArray := prog_1_method_3_code
def yX4_take : MethodName := ⟨RX4, "take", "(II)I"⟩
abbrev cX4_build : ByteArray := prog_1_method_4_code
def yX4_build : MethodName := ⟨RX4, "build", "(I)I"⟩
abbrev cX4_pour : ByteArray := prog_1_method_5_code
def yX4_pour : MethodName := ⟨RX4, "pour", "(II)I"⟩
abbrev cX4_limit : ByteArray := prog_1_method_6_code
def yX4_limit : MethodName := ⟨RX4, "limit", "(I)I"⟩
abbrev cX4_sheafOf : ByteArray := prog_1_method_7_code
def yX4_sheafOf : MethodName := ⟨RX4, "sheafOf", "(III)I"⟩
abbrev cX4_rickOf : ByteArray := prog_1_method_8_code
def yX4_rickOf : MethodName := ⟨RX4, "rickOf", "(II)I"⟩
abbrev cX4_rank : ByteArray := prog_1_method_9_code
def yX4_rank : MethodName := ⟨RX4, "rank", "(II)I"⟩
abbrev cX4_rankAgain : ByteArray := prog_1_method_10_code
def yX4_rankAgain : MethodName := ⟨RX4, "rankAgain", "(II)I"⟩
abbrev cX4_at : ByteArray := prog_1_method_11_code
def yX4_at : MethodName := ⟨RX4, "at", "(II)I"⟩
abbrev cX4_between : ByteArray := prog_1_method_12_code
def yX4_between : MethodName := ⟨RX4, "between", "(III)I"⟩
abbrev cX4_betweenAgain : ByteArray := prog_1_method_13_code
def yX4_betweenAgain : MethodName := ⟨RX4, "betweenAgain", "(III)I"⟩
abbrev cX4_heaviest : ByteArray := prog_1_method_14_code
def yX4_heaviest : MethodName := ⟨RX4, "heaviest", "(I)I"⟩
abbrev cX4_carts : ByteArray := prog_1_method_15_code
def yX4_carts : MethodName := ⟨RX4, "carts", "(II)I"⟩
abbrev cX4_cartOf : ByteArray := prog_1_method_16_code
def yX4_cartOf : MethodName := ⟨RX4, "cartOf", "(III)I"⟩
abbrev cX4_shape : ByteArray := prog_1_method_17_code
def yX4_shape : MethodName := ⟨RX4, "shape", "(I)J"⟩
abbrev cX4_weights : ByteArray := prog_1_method_18_code
def yX4_weights : MethodName := ⟨RX4, "weights", "(II)J"⟩
abbrev cX4_leaningShare : ByteArray := prog_1_method_19_code
def yX4_leaningShare : MethodName := ⟨RX4, "leaningShare", "(I)I"⟩
abbrev cX4_meanDepth : ByteArray := prog_1_method_20_code
def yX4_meanDepth : MethodName := ⟨RX4, "meanDepth", "(I)J"⟩
abbrev cX4_append : ByteArray := prog_1_method_21_code
def yX4_append : MethodName := ⟨RX4, "append", "(I)I"⟩
abbrev cX4_run : ByteArray := prog_1_method_22_code
def yX4_run : MethodName := ⟨RX4, "run", "()I"⟩
abbrev cX4_tell : ByteArray := prog_1_method_23_code
def yX4_tell : MethodName := ⟨RX4, "tell", "(I)I"⟩
abbrev cX4_character : ByteArray := prog_1_method_24_code
def yX4_character : MethodName := ⟨RX4, "character", "(I)I"⟩
abbrev cX4_reason : ByteArray := prog_1_method_25_code
def yX4_reason : MethodName := ⟨RX4, "reason", "(Z)I"⟩
abbrev cX4_account : ByteArray := prog_1_method_26_code
def yX4_account : MethodName := ⟨RX4, "account", "(I)I"⟩
abbrev cX4_isBalanced : ByteArray := prog_1_method_27_code
def yX4_isBalanced : MethodName := ⟨RX4, "isBalanced", "()I"⟩
abbrev cX4_undo : ByteArray := prog_1_method_28_code
def yX4_undo : MethodName := ⟨RX4, "undo", "()I"⟩
abbrev cX4_save : ByteArray := prog_1_method_29_code
def yX4_save : MethodName := ⟨RX4, "save", "()I"⟩
abbrev cX4_restore : ByteArray := prog_1_method_30_code
def yX4_restore : MethodName := ⟨RX4, "restore", "()I"⟩
abbrev cX4_putNow : ByteArray := prog_1_method_31_code
def yX4_putNow : MethodName := ⟨RX4, "putNow", "(III)I"⟩
abbrev cX4_takeNow : ByteArray := prog_1_method_32_code
def yX4_takeNow : MethodName := ⟨RX4, "takeNow", "(II)I"⟩
abbrev cX4_buildNow : ByteArray := prog_1_method_33_code
def yX4_buildNow : MethodName := ⟨RX4, "buildNow", "(I)I"⟩
abbrev cX4_pourNow : ByteArray := prog_1_method_34_code
def yX4_pourNow : MethodName := ⟨RX4, "pourNow", "(II)I"⟩
abbrev cX4_limitNow : ByteArray := prog_1_method_35_code
def yX4_limitNow : MethodName := ⟨RX4, "limitNow", "(I)I"⟩
abbrev cX4_buildWhole : ByteArray := prog_1_method_36_code
def yX4_buildWhole : MethodName := ⟨RX4, "buildWhole", "(LLeaningRicks$Rick;)I"⟩
abbrev cX4_carryOut : ByteArray := prog_1_method_37_code
def yX4_carryOut : MethodName := ⟨RX4, "carryOut", "(I)I"⟩
abbrev cX4_refuse : ByteArray := prog_1_method_38_code
def yX4_refuse : MethodName := ⟨RX4, "refuse", "(II)I"⟩
abbrev cX4_hold : ByteArray := prog_1_method_39_code
def yX4_hold : MethodName := ⟨RX4, "hold", "()V"⟩
abbrev cX4_keep : ByteArray := prog_1_method_40_code
def yX4_keep : MethodName := ⟨RX4, "keep", "(I)I"⟩
abbrev cX4_giveBack : ByteArray := prog_1_method_41_code
def yX4_giveBack : MethodName := ⟨RX4, "giveBack", "()V"⟩
abbrev cX4_beforeNow : ByteArray := prog_1_method_42_code
def yX4_beforeNow : MethodName := ⟨RX4, "beforeNow", "()LLeaningRicks$Yard;"⟩
abbrev cX4_isBears : ByteArray := prog_1_method_43_code
def yX4_isBears : MethodName := ⟨RX4, "isBears", "(I)Z"⟩
abbrev cX4_depthFor : ByteArray := prog_1_method_44_code
def yX4_depthFor : MethodName := ⟨RX4, "depthFor", "(II)I"⟩
abbrev cX4_shapeOf : ByteArray := prog_1_method_45_code
def yX4_shapeOf : MethodName := ⟨RX4, "shapeOf", "(LLeaningRicks$Rick;IIJI)J"⟩
abbrev cX4_write : ByteArray := prog_1_method_46_code
def yX4_write : MethodName := ⟨RX4, "write", "(LLeaningRicks$Row;LLeaningRicks$Rick;IIII)V"⟩
abbrev cX4_isSound : ByteArray := prog_1_method_47_code
def yX4_isSound : MethodName := ⟨RX4, "isSound", "(LLeaningRicks$Rick;)Z"⟩
abbrev cX4_isTree : ByteArray := prog_1_method_48_code
def yX4_isTree : MethodName := ⟨RX4, "isTree", "(LLeaningRicks$Rick;III)Z"⟩
abbrev cX4_shareBits : ByteArray := prog_1_method_49_code
def yX4_shareBits : MethodName := ⟨RX4, "shareBits", "(F)I"⟩
abbrev cX4_meanBits : ByteArray := prog_1_method_50_code
def yX4_meanBits : MethodName := ⟨RX4, "meanBits", "(D)J"⟩
def RX5 : String := "LeaningRicksModel"
def TX5 : u_T := fun k => match k with
  | 0 => ("LeaningRicksModel", "now", "[I", true)
  | 1 => ("LeaningRicksModel", "saved", "[I", true)
  | 2 => ("LeaningRicksModel", "before", "[I", true)
  | 3 => ("LeaningRicksModel", "history", "[[I", true)
  | 4 => ("LeaningRicksModel", "kept", "I", false)
  | 5 => ("LeaningRicksModel", "reason", "I", false)
  | 6 => ("LeaningRicksModel", "detail", "I", false)
  | 7 => ("LeaningRicksModel", "isSaved", "Z", false)
  | 8 => ("LeaningRicksModel", "isInText", "Z", false)
  | 9 => ("LeaningRicksModel", "list", "[I", true)
  | 10 => ("LeaningRicksModel", "listed", "I", false)
  | 11 => ("LeaningRicksModel", "depths", "[I", true)
  | 12 => ("LeaningRicksModel", "text", "[I", true)
  | 13 => ("LeaningRicksModel", "length", "I", false)
  | 14 => ("LeaningRicksModel", "at", "I", false)
  | 15 => ("LeaningRicksModel", "told", "I", false)
  | 16 => ("LeaningRicksModel", "one", "I", false)
  | 17 => ("LeaningRicksModel", "other", "I", false)
  | 18 => ("LeaningRicksModel", "number", "I", false)
  | 19 => ("LeaningRicksModel", "isWrong", "Z", false)
  | 20 => ("LeaningRicksModel", "line", "[I", true)
  | _ => ("LeaningRicksModel", "written", "I", false)
def tyX5 : Nat → FieldType := fun k => match k with
  | 0 => .array .int
  | 1 => .array .int
  | 2 => .array .int
  | 3 => .array (.array .int)
  | 4 => .int
  | 5 => .int
  | 6 => .int
  | 7 => .boolean
  | 8 => .boolean
  | 9 => .array .int
  | 10 => .int
  | 11 => .array .int
  | 12 => .array .int
  | 13 => .int
  | 14 => .int
  | 15 => .int
  | 16 => .int
  | 17 => .int
  | 18 => .int
  | 19 => .boolean
  | 20 => .array .int
  | _ => .int
theorem nmX5 : ∀ a, a < 22 → ∀ b, b < 22 → a ≠ b → (TX5 a).2.1 ≠ (TX5 b).2.1 := by decide +kernel
theorem tyX5_ok : ∀ k, k < 22 → parseFieldDescriptor (TX5 k).2.2.1 = some (tyX5 k) := by decide +kernel
abbrev cX5_init : ByteArray := prog_7_method_1_code
def yX5_init : MethodName := ⟨RX5, "<init>", "()V"⟩
abbrev cX5_isBetween : ByteArray := prog_7_method_2_code
def yX5_isBetween : MethodName := ⟨RX5, "isBetween", "(III)Z"⟩
abbrev cX5_copyRow : ByteArray := prog_7_method_3_code
def yX5_copyRow : MethodName := ⟨RX5, "copyRow", "([I[I)V"⟩
abbrev cX5_refuse : ByteArray := prog_7_method_4_code
def yX5_refuse : MethodName := ⟨RX5, "refuse", "(ZII)Z"⟩
abbrev cX5_remember : ByteArray := prog_7_method_5_code
def yX5_remember : MethodName := ⟨RX5, "remember", "([I)V"⟩
abbrev cX5_change : ByteArray := prog_7_method_6_code
def yX5_change : MethodName := ⟨RX5, "change", "()V"⟩
abbrev cX5_isRick : ByteArray := prog_7_method_7_code
def yX5_isRick : MethodName := ⟨RX5, "isRick", "(I)Z"⟩
abbrev cX5_top : ByteArray := prog_7_method_8_code
def yX5_top : MethodName := ⟨RX5, "top", "(I)I"⟩
abbrev cX5_most : ByteArray := prog_7_method_9_code
def yX5_most : MethodName := ⟨RX5, "most", "(I)I"⟩
abbrev cX5_setTop : ByteArray := prog_7_method_10_code
def yX5_setTop : MethodName := ⟨RX5, "setTop", "(II)V"⟩
abbrev cX5_setMost : ByteArray := prog_7_method_11_code
def yX5_setMost : MethodName := ⟨RX5, "setMost", "(II)V"⟩
abbrev cX5_of : ByteArray := prog_7_method_12_code
def yX5_of : MethodName := ⟨RX5, "of", "(III)I"⟩
abbrev cX5_put : ByteArray := prog_7_method_13_code
def yX5_put : MethodName := ⟨RX5, "put", "(IIII)V"⟩
abbrev cX5_size : ByteArray := prog_7_method_14_code
def yX5_size : MethodName := ⟨RX5, "size", "(II)I"⟩
abbrev cX5_loads : ByteArray := prog_7_method_15_code
def yX5_loads : MethodName := ⟨RX5, "loads", "(II)I"⟩
abbrev cX5_count : ByteArray := prog_7_method_16_code
def yX5_count : MethodName := ⟨RX5, "count", "(I)I"⟩
abbrev cX5_find : ByteArray := prog_7_method_17_code
def yX5_find : MethodName := ⟨RX5, "find", "(II)I"⟩
abbrev cX5_above : ByteArray := prog_7_method_18_code
def yX5_above : MethodName := ⟨RX5, "above", "(II)I"⟩
abbrev cX5_depth : ByteArray := prog_7_method_19_code
def yX5_depth : MethodName := ⟨RX5, "depth", "(II)I"⟩
abbrev cX5_leans : ByteArray := prog_7_method_20_code
def yX5_leans : MethodName := ⟨RX5, "leans", "(II)Z"⟩
abbrev cX5_mayHave : ByteArray := prog_7_method_21_code
def yX5_mayHave : MethodName := ⟨RX5, "mayHave", "(I)I"⟩
abbrev cX5_listFrom : ByteArray := prog_7_method_22_code
def yX5_listFrom : MethodName := ⟨RX5, "listFrom", "(II)V"⟩
abbrev cX5_listAll : ByteArray := prog_7_method_23_code
def yX5_listAll : MethodName := ⟨RX5, "listAll", "(I)V"⟩
abbrev cX5_make : ByteArray := prog_7_method_24_code
def yX5_make : MethodName := ⟨RX5, "make", "(III)I"⟩
abbrev cX5_replace : ByteArray := prog_7_method_25_code
def yX5_replace : MethodName := ⟨RX5, "replace", "(IIII)V"⟩
abbrev cX5_buildPart : ByteArray := prog_7_method_26_code
def yX5_buildPart : MethodName := ⟨RX5, "buildPart", "(II)V"⟩
abbrev cX5_buildWhole : ByteArray := prog_7_method_27_code
def yX5_buildWhole : MethodName := ⟨RX5, "buildWhole", "(I)V"⟩
abbrev cX5_emptyStall : ByteArray := prog_7_method_28_code
def yX5_emptyStall : MethodName := ⟨RX5, "emptyStall", "(I)I"⟩
abbrev cX5_enter : ByteArray := prog_7_method_29_code
def yX5_enter : MethodName := ⟨RX5, "enter", "(III)I"⟩
abbrev cX5_hang : ByteArray := prog_7_method_30_code
def yX5_hang : MethodName := ⟨RX5, "hang", "(II)V"⟩
abbrev cX5_isWeight : ByteArray := prog_7_method_31_code
def yX5_isWeight : MethodName := ⟨RX5, "isWeight", "(I)Z"⟩
abbrev cX5_put_ : ByteArray := prog_7_method_32_code
def yX5_put_ : MethodName := ⟨RX5, "put", "(III)I"⟩
abbrev cX5_unhang : ByteArray := prog_7_method_33_code
def yX5_unhang : MethodName := ⟨RX5, "unhang", "(II)V"⟩
abbrev cX5_takeOut : ByteArray := prog_7_method_34_code
def yX5_takeOut : MethodName := ⟨RX5, "takeOut", "(II)V"⟩
abbrev cX5_clear : ByteArray := prog_7_method_35_code
def yX5_clear : MethodName := ⟨RX5, "clear", "(II)V"⟩
abbrev cX5_take : ByteArray := prog_7_method_36_code
def yX5_take : MethodName := ⟨RX5, "take", "(II)I"⟩
abbrev cX5_build : ByteArray := prog_7_method_37_code
def yX5_build : MethodName := ⟨RX5, "build", "(I)I"⟩
abbrev cX5_common : ByteArray := prog_7_method_38_code
def yX5_common : MethodName := ⟨RX5, "common", "(II)I"⟩
abbrev cX5_pour : ByteArray := prog_7_method_39_code
def yX5_pour : MethodName := ⟨RX5, "pour", "(II)I"⟩
abbrev cX5_limit : ByteArray := prog_7_method_40_code
def yX5_limit : MethodName := ⟨RX5, "limit", "(I)I"⟩
abbrev cX5_weightOr : ByteArray := prog_7_method_41_code
def yX5_weightOr : MethodName := ⟨RX5, "weightOr", "(II)I"⟩
abbrev cX5_sheafOf : ByteArray := prog_7_method_42_code
def yX5_sheafOf : MethodName := ⟨RX5, "sheafOf", "(III)I"⟩
abbrev cX5_greatestDepth : ByteArray := prog_7_method_43_code
def yX5_greatestDepth : MethodName := ⟨RX5, "greatestDepth", "(I)I"⟩
abbrev cX5_leaning : ByteArray := prog_7_method_44_code
def yX5_leaning : MethodName := ⟨RX5, "leaning", "(I)I"⟩
abbrev cX5_allDepths : ByteArray := prog_7_method_45_code
def yX5_allDepths : MethodName := ⟨RX5, "allDepths", "(I)I"⟩
abbrev cX5_lowest : ByteArray := prog_7_method_46_code
def yX5_lowest : MethodName := ⟨RX5, "lowest", "(I)I"⟩
abbrev cX5_rickOf : ByteArray := prog_7_method_47_code
def yX5_rickOf : MethodName := ⟨RX5, "rickOf", "(II)I"⟩
abbrev cX5_rank : ByteArray := prog_7_method_48_code
def yX5_rank : MethodName := ⟨RX5, "rank", "(II)I"⟩
abbrev cX5_rankAgain : ByteArray := prog_7_method_49_code
def yX5_rankAgain : MethodName := ⟨RX5, "rankAgain", "(II)I"⟩
abbrev cX5_at : ByteArray := prog_7_method_50_code
def yX5_at : MethodName := ⟨RX5, "at", "(II)I"⟩
abbrev cX5_between : ByteArray := prog_7_method_51_code
def yX5_between : MethodName := ⟨RX5, "between", "(III)I"⟩
abbrev cX5_betweenAgain : ByteArray := prog_7_method_52_code
def yX5_betweenAgain : MethodName := ⟨RX5, "betweenAgain", "(III)I"⟩
abbrev cX5_isThere : ByteArray := prog_7_method_53_code
def yX5_isThere : MethodName := ⟨RX5, "isThere", "(I)Z"⟩
abbrev cX5_ofAll : ByteArray := prog_7_method_54_code
def yX5_ofAll : MethodName := ⟨RX5, "ofAll", "(II)I"⟩
abbrev cX5_isAhead : ByteArray := prog_7_method_55_code
def yX5_isAhead : MethodName := ⟨RX5, "isAhead", "(II)Z"⟩
abbrev cX5_heaviest : ByteArray := prog_7_method_56_code
def yX5_heaviest : MethodName := ⟨RX5, "heaviest", "(I)I"⟩
abbrev cX5_load : ByteArray := prog_7_method_57_code
def yX5_load : MethodName := ⟨RX5, "load", "(III)I"⟩
abbrev cX5_isBearing : ByteArray := prog_7_method_58_code
def yX5_isBearing : MethodName := ⟨RX5, "isBearing", "(I)Z"⟩
abbrev cX5_carts : ByteArray := prog_7_method_59_code
def yX5_carts : MethodName := ⟨RX5, "carts", "(II)I"⟩
abbrev cX5_cartOf : ByteArray := prog_7_method_60_code
def yX5_cartOf : MethodName := ⟨RX5, "cartOf", "(III)I"⟩
abbrev cX5_bits : ByteArray := prog_7_method_61_code
def yX5_bits : MethodName := ⟨RX5, "bits", "(IIJ)J"⟩
abbrev cX5_shape : ByteArray := prog_7_method_62_code
def yX5_shape : MethodName := ⟨RX5, "shape", "(I)J"⟩
abbrev cX5_weights : ByteArray := prog_7_method_63_code
def yX5_weights : MethodName := ⟨RX5, "weights", "(II)J"⟩
abbrev cX5_leaningShare : ByteArray := prog_7_method_64_code
def yX5_leaningShare : MethodName := ⟨RX5, "leaningShare", "(I)I"⟩
abbrev cX5_meanDepth : ByteArray := prog_7_method_65_code
def yX5_meanDepth : MethodName := ⟨RX5, "meanDepth", "(I)J"⟩
abbrev cX5_append : ByteArray := prog_7_method_66_code
def yX5_append : MethodName := ⟨RX5, "append", "(I)I"⟩
abbrev cX5_sees : ByteArray := prog_7_method_67_code
def yX5_sees : MethodName := ⟨RX5, "sees", "(II)Z"⟩
abbrev cX5_must : ByteArray := prog_7_method_68_code
def yX5_must : MethodName := ⟨RX5, "must", "(I)V"⟩
abbrev cX5_readNumber : ByteArray := prog_7_method_69_code
def yX5_readNumber : MethodName := ⟨RX5, "readNumber", "(I)I"⟩
abbrev cX5_readSheaf : ByteArray := prog_7_method_70_code
def yX5_readSheaf : MethodName := ⟨RX5, "readSheaf", "()V"⟩
abbrev cX5_readOrder : ByteArray := prog_7_method_71_code
def yX5_readOrder : MethodName := ⟨RX5, "readOrder", "()V"⟩
abbrev cX5_countOrders : ByteArray := prog_7_method_72_code
def yX5_countOrders : MethodName := ⟨RX5, "countOrders", "()I"⟩
abbrev cX5_carryOut : ByteArray := prog_7_method_73_code
def yX5_carryOut : MethodName := ⟨RX5, "carryOut", "()I"⟩
abbrev cX5_run : ByteArray := prog_7_method_74_code
def yX5_run : MethodName := ⟨RX5, "run", "()I"⟩
abbrev cX5_write : ByteArray := prog_7_method_75_code
def yX5_write : MethodName := ⟨RX5, "write", "(I)V"⟩
abbrev cX5_writeNumber : ByteArray := prog_7_method_76_code
def yX5_writeNumber : MethodName := ⟨RX5, "writeNumber", "(I)V"⟩
abbrev cX5_writeSheaf : ByteArray := prog_7_method_77_code
def yX5_writeSheaf : MethodName := ⟨RX5, "writeSheaf", "(II)V"⟩
abbrev cX5_tell : ByteArray := prog_7_method_78_code
def yX5_tell : MethodName := ⟨RX5, "tell", "(I)I"⟩
abbrev cX5_character : ByteArray := prog_7_method_79_code
def yX5_character : MethodName := ⟨RX5, "character", "(I)I"⟩
abbrev cX5_reason : ByteArray := prog_7_method_80_code
def yX5_reason : MethodName := ⟨RX5, "reason", "(Z)I"⟩
abbrev cX5_allSheaves : ByteArray := prog_7_method_81_code
def yX5_allSheaves : MethodName := ⟨RX5, "allSheaves", "()I"⟩
abbrev cX5_account : ByteArray := prog_7_method_82_code
def yX5_account : MethodName := ⟨RX5, "account", "(I)I"⟩
abbrev cX5_isBalanced : ByteArray := prog_7_method_83_code
def yX5_isBalanced : MethodName := ⟨RX5, "isBalanced", "()I"⟩
abbrev cX5_undo : ByteArray := prog_7_method_84_code
def yX5_undo : MethodName := ⟨RX5, "undo", "()I"⟩
abbrev cX5_save : ByteArray := prog_7_method_85_code
def yX5_save : MethodName := ⟨RX5, "save", "()I"⟩
abbrev cX5_restore : ByteArray := prog_7_method_86_code
def yX5_restore : MethodName := ⟨RX5, "restore", "()I"⟩
def RJ11 : String := "java/lang/Character"
abbrev cJ11_isValidCodePoint_9a6ad : ByteArray := prog_8_method_11_code
def yJ11_isValidCodePoint_9a6ad : MethodName := ⟨RJ11, "isValidCodePoint", "(I)Z"⟩
abbrev cJ11_highSurrogate_5068e : ByteArray := prog_8_method_28_code
def yJ11_highSurrogate_5068e : MethodName := ⟨RJ11, "highSurrogate", "(I)C"⟩
abbrev cJ11_lowSurrogate_5068e : ByteArray := prog_8_method_29_code
def yJ11_lowSurrogate_5068e : MethodName := ⟨RJ11, "lowSurrogate", "(I)C"⟩
def RJxe99ae : String := "java/lang/Double"
abbrev cJxe99ae_isNaN_b9ae7 : ByteArray := prog_9_method_6_code
def yJxe99ae_isNaN_b9ae7 : MethodName := ⟨RJxe99ae, "isNaN", "(D)Z"⟩
abbrev cJxe99ae_doubleToLongBits_ccdee : ByteArray := prog_9_method_23_code
def yJxe99ae_doubleToLongBits_ccdee : MethodName := ⟨RJxe99ae, "doubleToLongBits", "(D)J"⟩
def RJxf58ca : String := "java/lang/Float"
abbrev cJxf58ca_isNaN_12338 : ByteArray := prog_10_method_6_code
def yJxf58ca_isNaN_12338 : MethodName := ⟨RJxf58ca, "isNaN", "(F)Z"⟩
abbrev cJxf58ca_floatToIntBits_5c35a : ByteArray := prog_10_method_24_code
def yJxf58ca_floatToIntBits_5c35a : MethodName := ⟨RJxf58ca, "floatToIntBits", "(F)I"⟩
def RJ9 : String := "java/lang/Math"
abbrev cJ9_max_7cf53 : ByteArray := prog_11_method_65_code
def yJ9_max_7cf53 : MethodName := ⟨RJ9, "max", "(II)I"⟩
abbrev cJ9_min_7cf53 : ByteArray := prog_11_method_69_code
def yJ9_min_7cf53 : MethodName := ⟨RJ9, "min", "(II)I"⟩
def RJ0 : String := "java/lang/String"
abbrev cJ0_length_8abf5 : ByteArray := prog_12_method_54_code
def yJ0_length_8abf5 : MethodName := ⟨RJ0, "length", "()I"⟩
abbrev cJ0_indexOf_0f7a4 : ByteArray := prog_12_method_79_code
def yJ0_indexOf_0f7a4 : MethodName := ⟨RJ0, "indexOf", "(I)I"⟩
abbrev cJ0_indexOf_7cf53 : ByteArray := prog_12_method_80_code
def yJ0_indexOf_7cf53 : MethodName := ⟨RJ0, "indexOf", "(II)I"⟩
abbrev cJ0_coder_7d493 : ByteArray := prog_12_method_152_code
def yJ0_coder_7d493 : MethodName := ⟨RJ0, "coder", "()B"⟩
abbrev cJ0_isLatin1_aae02 : ByteArray := prog_12_method_154_code
def yJ0_isLatin1_aae02 : MethodName := ⟨RJ0, "isLatin1", "()Z"⟩
abbrev cJ0_checkBoundsBeginEnd_23922 : ByteArray := prog_12_method_158_code
def yJ0_checkBoundsBeginEnd_23922 : MethodName := ⟨RJ0, "checkBoundsBeginEnd", "(III)V"⟩
def RJ1 : String := "java/lang/StringLatin1"
abbrev cJ1_canEncode_9a6ad : ByteArray := prog_13_method_4_code
def yJ1_canEncode_9a6ad : MethodName := ⟨RJ1, "canEncode", "(I)Z"⟩
abbrev cJ1_indexOf_4cfef : ByteArray := prog_13_method_22_code
def yJ1_indexOf_4cfef : MethodName := ⟨RJ1, "indexOf", "([BIII)I"⟩
abbrev cJ1_indexOfChar_4cfef : ByteArray := prog_13_method_23_code
def yJ1_indexOfChar_4cfef : MethodName := ⟨RJ1, "indexOfChar", "([BIII)I"⟩
def RJ2 : String := "java/lang/StringUTF16"
abbrev cJ2_getChar_3b067 : ByteArray := prog_14_method_5_code
def yJ2_getChar_3b067 : MethodName := ⟨RJ2, "getChar", "([BI)C"⟩
abbrev cJ2_length_9d52b : ByteArray := prog_14_method_6_code
def yJ2_length_9d52b : MethodName := ⟨RJ2, "length", "([B)I"⟩
abbrev cJ2_indexOf_4cfef : ByteArray := prog_14_method_40_code
def yJ2_indexOf_4cfef : MethodName := ⟨RJ2, "indexOf", "([BIII)I"⟩
abbrev cJ2_indexOfChar_4cfef : ByteArray := prog_14_method_47_code
def yJ2_indexOfChar_4cfef : MethodName := ⟨RJ2, "indexOfChar", "([BIII)I"⟩
abbrev cJ2_indexOfCharUnsafe_4cfef : ByteArray := prog_14_method_48_code
def yJ2_indexOfCharUnsafe_4cfef : MethodName := ⟨RJ2, "indexOfCharUnsafe", "([BIII)I"⟩
abbrev cJ2_indexOfSupplementary_4cfef : ByteArray := prog_14_method_49_code
def yJ2_indexOfSupplementary_4cfef : MethodName := ⟨RJ2, "indexOfSupplementary", "([BIII)I"⟩
abbrev cJ2_checkBoundsBeginEnd_d044e : ByteArray := prog_14_method_93_code
def yJ2_checkBoundsBeginEnd_d044e : MethodName := ⟨RJ2, "checkBoundsBeginEnd", "(II[B)V"⟩
def RJ10 : String := "java/lang/System"
def RJ3 : String := "jdk/internal/util/Preconditions"
abbrev cJ3_checkFromToIndex_8c36e : ByteArray := prog_16_method_12_code
def yJ3_checkFromToIndex_8c36e : MethodName := ⟨RJ3, "checkFromToIndex", "(IIILjava/util/function/BiFunction;)I"⟩
def RL : String := "LeaningRicksLaw"
abbrev cL_law : ByteArray := code
def yL_law : MethodName := ⟨RL, "law", "([I)Z"⟩
abbrev vwCl : List vw_C := [(RX0, TX0, 4), (RX1, TX1, 5), (RX2, TX2, 2), (RX3, TX3, 8), (RX4, TX4, 11), (RX5, TX5, 22)]
theorem inX0 : ∀ w ∈ u_ws RX0 TX0 4, w ∈ lw_tbl := by decide +kernel
theorem inX1 : ∀ w ∈ u_ws RX1 TX1 5, w ∈ lw_tbl := by decide +kernel
theorem inX2 : ∀ w ∈ u_ws RX2 TX2 2, w ∈ lw_tbl := by decide +kernel
theorem inX3 : ∀ w ∈ u_ws RX3 TX3 8, w ∈ lw_tbl := by decide +kernel
theorem inX4 : ∀ w ∈ u_ws RX4 TX4 11, w ∈ lw_tbl := by decide +kernel
theorem inX5 : ∀ w ∈ u_ws RX5 TX5 22, w ∈ lw_tbl := by decide +kernel
end
section
theorem dX0_init_0 : decode cX0_init 0 = .ok (.aload_n 0, 1) := by decide +kernel
theorem dX0_init_1 : decode cX0_init 1 = .ok (.invokespecial 3, 3) := by decide +kernel
theorem dX0_init_4 : decode cX0_init 4 = .ok (.aload_n 0, 1) := by decide +kernel
theorem dX0_init_5 : decode cX0_init 5 = .ok (.bipush 20, 2) := by decide +kernel
theorem dX0_init_7 : decode cX0_init 7 = .ok (.newarray .int, 2) := by decide +kernel
theorem dX0_init_9 : decode cX0_init 9 = .ok (.putfield 9, 3) := by decide +kernel
theorem dX0_init_12 : decode cX0_init 12 = .ok (.aload_n 0, 1) := by decide +kernel
theorem dX0_init_13 : decode cX0_init 13 = .ok (.bipush 60, 2) := by decide +kernel
theorem dX0_init_15 : decode cX0_init 15 = .ok (.newarray .int, 2) := by decide +kernel
theorem dX0_init_17 : decode cX0_init 17 = .ok (.putfield 15, 3) := by decide +kernel
theorem dX0_init_20 : decode cX0_init 20 = .ok (.return_, 1) := by decide +kernel
theorem dX0_signOf_0 : decode cX0_signOf 0 = .ok (.iload_n 1, 1) := by decide +kernel
theorem dX0_signOf_1 : decode cX0_signOf 1 = .ok (.ifCond .lt 18, 3) := by decide +kernel
theorem dX0_signOf_4 : decode cX0_signOf 4 = .ok (.iload_n 1, 1) := by decide +kernel
theorem dX0_signOf_5 : decode cX0_signOf 5 = .ok (.bipush 20, 2) := by decide +kernel
theorem dX0_signOf_7 : decode cX0_signOf 7 = .ok (.if_icmp .ge 12, 3) := by decide +kernel
theorem dX0_signOf_10 : decode cX0_signOf 10 = .ok (.aload_n 0, 1) := by decide +kernel
theorem dX0_signOf_11 : decode cX0_signOf 11 = .ok (.getfield 9, 3) := by decide +kernel
theorem dX0_signOf_14 : decode cX0_signOf 14 = .ok (.iload_n 1, 1) := by decide +kernel
theorem dX0_signOf_15 : decode cX0_signOf 15 = .ok (.iaload, 1) := by decide +kernel
theorem dX0_signOf_16 : decode cX0_signOf 16 = .ok (.goto 5, 3) := by decide +kernel
theorem dX0_signOf_19 : decode cX0_signOf 19 = .ok (.bipush (-11), 2) := by decide +kernel
theorem dX0_signOf_21 : decode cX0_signOf 21 = .ok (.ireturn, 1) := by decide +kernel
theorem dX0_numberOf_0 : decode cX0_numberOf 0 = .ok (.iload_n 1, 1) := by decide +kernel
theorem dX0_numberOf_1 : decode cX0_numberOf 1 = .ok (.iconst 3, 1) := by decide +kernel
theorem dX0_numberOf_2 : decode cX0_numberOf 2 = .ok (.imul, 1) := by decide +kernel
theorem dX0_numberOf_3 : decode cX0_numberOf 3 = .ok (.iload_n 2, 1) := by decide +kernel
theorem dX0_numberOf_4 : decode cX0_numberOf 4 = .ok (.iadd, 1) := by decide +kernel
theorem dX0_numberOf_5 : decode cX0_numberOf 5 = .ok (.istore_n 3, 1) := by decide +kernel
theorem dX0_numberOf_6 : decode cX0_numberOf 6 = .ok (.iload_n 1, 1) := by decide +kernel
theorem dX0_numberOf_7 : decode cX0_numberOf 7 = .ok (.ifCond .lt 27, 3) := by decide +kernel
theorem dX0_numberOf_10 : decode cX0_numberOf 10 = .ok (.iload_n 1, 1) := by decide +kernel
theorem dX0_numberOf_11 : decode cX0_numberOf 11 = .ok (.bipush 20, 2) := by decide +kernel
theorem dX0_numberOf_13 : decode cX0_numberOf 13 = .ok (.if_icmp .ge 21, 3) := by decide +kernel
theorem dX0_numberOf_16 : decode cX0_numberOf 16 = .ok (.iload_n 2, 1) := by decide +kernel
theorem dX0_numberOf_17 : decode cX0_numberOf 17 = .ok (.ifCond .lt 17, 3) := by decide +kernel
theorem dX0_numberOf_20 : decode cX0_numberOf 20 = .ok (.iload_n 2, 1) := by decide +kernel
theorem dX0_numberOf_21 : decode cX0_numberOf 21 = .ok (.iconst 3, 1) := by decide +kernel
theorem dX0_numberOf_22 : decode cX0_numberOf 22 = .ok (.if_icmp .ge 12, 3) := by decide +kernel
theorem dX0_numberOf_25 : decode cX0_numberOf 25 = .ok (.aload_n 0, 1) := by decide +kernel
theorem dX0_numberOf_26 : decode cX0_numberOf 26 = .ok (.getfield 15, 3) := by decide +kernel
theorem dX0_numberOf_29 : decode cX0_numberOf 29 = .ok (.iload_n 3, 1) := by decide +kernel
theorem dX0_numberOf_30 : decode cX0_numberOf 30 = .ok (.iaload, 1) := by decide +kernel
theorem dX0_numberOf_31 : decode cX0_numberOf 31 = .ok (.goto 5, 3) := by decide +kernel
theorem dX0_numberOf_34 : decode cX0_numberOf 34 = .ok (.bipush (-11), 2) := by decide +kernel
theorem dX0_numberOf_36 : decode cX0_numberOf 36 = .ok (.ireturn, 1) := by decide +kernel
theorem dX0_read_0 : decode cX0_read 0 = .ok (.aload_n 0, 1) := by decide +kernel
theorem dX0_read_1 : decode cX0_read 1 = .ok (.iconst 0, 1) := by decide +kernel
theorem dX0_read_2 : decode cX0_read 2 = .ok (.putfield 18, 3) := by decide +kernel
theorem dX0_read_5 : decode cX0_read 5 = .ok (.aload_n 0, 1) := by decide +kernel
theorem dX0_read_6 : decode cX0_read 6 = .ok (.iconst 0, 1) := by decide +kernel
theorem dX0_read_7 : decode cX0_read 7 = .ok (.putfield 22, 3) := by decide +kernel
theorem dX0_read_10 : decode cX0_read 10 = .ok (.iconst 1, 1) := by decide +kernel
theorem dX0_read_11 : decode cX0_read 11 = .ok (.istore_n 2, 1) := by decide +kernel
theorem dX0_read_12 : decode cX0_read 12 = .ok (.iconst 0, 1) := by decide +kernel
theorem dX0_read_13 : decode cX0_read 13 = .ok (.istore_n 3, 1) := by decide +kernel
theorem dX0_read_14 : decode cX0_read 14 = .ok (.iload_n 3, 1) := by decide +kernel
theorem dX0_read_15 : decode cX0_read 15 = .ok (.bipush 20, 2) := by decide +kernel
theorem dX0_read_17 : decode cX0_read 17 = .ok (.if_icmp .gt 80, 3) := by decide +kernel
theorem dX0_read_20 : decode cX0_read 20 = .ok (.iload_n 2, 1) := by decide +kernel
theorem dX0_read_21 : decode cX0_read 21 = .ok (.ifCond .eq 76, 3) := by decide +kernel
theorem dX0_read_24 : decode cX0_read 24 = .ok (.aload_n 0, 1) := by decide +kernel
theorem dX0_read_25 : decode cX0_read 25 = .ok (.aload_n 1, 1) := by decide +kernel
theorem dX0_read_26 : decode cX0_read 26 = .ok (.invokevirtual 25, 3) := by decide +kernel
theorem dX0_read_29 : decode cX0_read 29 = .ok (.ifCond .ne 12, 3) := by decide +kernel
theorem dX0_read_32 : decode cX0_read 32 = .ok (.sipush (-1000), 3) := by decide +kernel
theorem dX0_read_35 : decode cX0_read 35 = .ok (.aload_n 0, 1) := by decide +kernel
theorem dX0_read_36 : decode cX0_read 36 = .ok (.getfield 22, 3) := by decide +kernel
theorem dX0_read_39 : decode cX0_read 39 = .ok (.isub, 1) := by decide +kernel
theorem dX0_read_40 : decode cX0_read 40 = .ok (.ireturn, 1) := by decide +kernel
theorem dX0_read_41 : decode cX0_read 41 = .ok (.aload_n 0, 1) := by decide +kernel
theorem dX0_read_42 : decode cX0_read 42 = .ok (.dup, 1) := by decide +kernel
theorem dX0_read_43 : decode cX0_read 43 = .ok (.getfield 18, 3) := by decide +kernel
theorem dX0_read_46 : decode cX0_read 46 = .ok (.iconst 1, 1) := by decide +kernel
theorem dX0_read_47 : decode cX0_read 47 = .ok (.iadd, 1) := by decide +kernel
theorem dX0_read_48 : decode cX0_read 48 = .ok (.putfield 18, 3) := by decide +kernel
theorem dX0_read_51 : decode cX0_read 51 = .ok (.aload_n 0, 1) := by decide +kernel
theorem dX0_read_52 : decode cX0_read 52 = .ok (.getfield 22, 3) := by decide +kernel
theorem dX0_read_55 : decode cX0_read 55 = .ok (.aload_n 1, 1) := by decide +kernel
theorem dX0_read_56 : decode cX0_read 56 = .ok (.getfield 29, 3) := by decide +kernel
theorem dX0_read_59 : decode cX0_read 59 = .ok (.if_icmp .ge 7, 3) := by decide +kernel
theorem dX0_read_62 : decode cX0_read 62 = .ok (.iconst 1, 1) := by decide +kernel
theorem dX0_read_63 : decode cX0_read 63 = .ok (.goto 4, 3) := by decide +kernel
theorem dX0_read_66 : decode cX0_read 66 = .ok (.iconst 0, 1) := by decide +kernel
theorem dX0_read_67 : decode cX0_read 67 = .ok (.istore_n 2, 1) := by decide +kernel
theorem dX0_read_68 : decode cX0_read 68 = .ok (.iload_n 2, 1) := by decide +kernel
theorem dX0_read_69 : decode cX0_read 69 = .ok (.ifCond .eq 22, 3) := by decide +kernel
theorem dX0_read_72 : decode cX0_read 72 = .ok (.aload_n 0, 1) := by decide +kernel
theorem dX0_read_73 : decode cX0_read 73 = .ok (.aload_n 1, 1) := by decide +kernel
theorem dX0_read_74 : decode cX0_read 74 = .ok (.bipush 59, 2) := by decide +kernel
theorem dX0_read_76 : decode cX0_read 76 = .ok (.invokevirtual 34, 3) := by decide +kernel
theorem dX0_read_79 : decode cX0_read 79 = .ok (.ifCond .ne 12, 3) := by decide +kernel
theorem dX0_read_82 : decode cX0_read 82 = .ok (.sipush (-1000), 3) := by decide +kernel
theorem dX0_read_85 : decode cX0_read 85 = .ok (.aload_n 0, 1) := by decide +kernel
theorem dX0_read_86 : decode cX0_read 86 = .ok (.getfield 22, 3) := by decide +kernel
theorem dX0_read_89 : decode cX0_read 89 = .ok (.isub, 1) := by decide +kernel
theorem dX0_read_90 : decode cX0_read 90 = .ok (.ireturn, 1) := by decide +kernel
theorem dX0_read_91 : decode cX0_read 91 = .ok (.iinc 3 1, 3) := by decide +kernel
theorem dX0_read_94 : decode cX0_read 94 = .ok (.goto (-80), 3) := by decide +kernel
theorem dX0_read_97 : decode cX0_read 97 = .ok (.aload_n 0, 1) := by decide +kernel
theorem dX0_read_98 : decode cX0_read 98 = .ok (.getfield 18, 3) := by decide +kernel
theorem dX0_read_101 : decode cX0_read 101 = .ok (.ireturn, 1) := by decide +kernel
theorem dX0_isOrder_0 : decode cX0_isOrder 0 = .ok (.aload_n 1, 1) := by decide +kernel
theorem dX0_isOrder_1 : decode cX0_isOrder 1 = .ok (.aload_n 0, 1) := by decide +kernel
theorem dX0_isOrder_2 : decode cX0_isOrder 2 = .ok (.getfield 22, 3) := by decide +kernel
theorem dX0_isOrder_5 : decode cX0_isOrder 5 = .ok (.invokevirtual 38, 3) := by decide +kernel
theorem dX0_isOrder_8 : decode cX0_isOrder 8 = .ok (.istore_n 2, 1) := by decide +kernel
theorem dX0_isOrder_9 : decode cX0_isOrder 9 = .ok (.aload_n 0, 1) := by decide +kernel
theorem dX0_isOrder_10 : decode cX0_isOrder 10 = .ok (.getfield 18, 3) := by decide +kernel
theorem dX0_isOrder_13 : decode cX0_isOrder 13 = .ok (.bipush 20, 2) := by decide +kernel
theorem dX0_isOrder_15 : decode cX0_isOrder 15 = .ok (.if_icmp .ge 20, 3) := by decide +kernel
theorem dX0_isOrder_18 : decode cX0_isOrder 18 = .ok (.aload_n 0, 1) := by decide +kernel
theorem dX0_isOrder_19 : decode cX0_isOrder 19 = .ok (.getfield 18, 3) := by decide +kernel
theorem dX0_isOrder_22 : decode cX0_isOrder 22 = .ok (.ifCond .lt 13, 3) := by decide +kernel
theorem dX0_isOrder_25 : decode cX0_isOrder 25 = .ok (.aload_n 0, 1) := by decide +kernel
theorem dX0_isOrder_26 : decode cX0_isOrder 26 = .ok (.getfield 9, 3) := by decide +kernel
theorem dX0_isOrder_29 : decode cX0_isOrder 29 = .ok (.aload_n 0, 1) := by decide +kernel
theorem dX0_isOrder_30 : decode cX0_isOrder 30 = .ok (.getfield 18, 3) := by decide +kernel
theorem dX0_isOrder_33 : decode cX0_isOrder 33 = .ok (.iload_n 2, 1) := by decide +kernel
theorem dX0_isOrder_34 : decode cX0_isOrder 34 = .ok (.iastore, 1) := by decide +kernel
theorem dX0_isOrder_35 : decode cX0_isOrder 35 = .ok (.iload_n 2, 1) := by decide +kernel
theorem dX0_isOrder_36 : decode cX0_isOrder 36 = .ok (.lookupswitch 247 #[(37, 222), (43, 52), (45, 117), (61, 162), (62, 187)], 52) := by decide +kernel
theorem dX0_isOrder_88 : decode cX0_isOrder 88 = .ok (.aload_n 0, 1) := by decide +kernel
theorem dX0_isOrder_89 : decode cX0_isOrder 89 = .ok (.aload_n 1, 1) := by decide +kernel
theorem dX0_isOrder_90 : decode cX0_isOrder 90 = .ok (.iload_n 2, 1) := by decide +kernel
theorem dX0_isOrder_91 : decode cX0_isOrder 91 = .ok (.invokevirtual 34, 3) := by decide +kernel
theorem dX0_isOrder_94 : decode cX0_isOrder 94 = .ok (.ifCond .eq 57, 3) := by decide +kernel
theorem dX0_isOrder_97 : decode cX0_isOrder 97 = .ok (.aload_n 0, 1) := by decide +kernel
theorem dX0_isOrder_98 : decode cX0_isOrder 98 = .ok (.aload_n 1, 1) := by decide +kernel
theorem dX0_isOrder_99 : decode cX0_isOrder 99 = .ok (.iconst 0, 1) := by decide +kernel
theorem dX0_isOrder_100 : decode cX0_isOrder 100 = .ok (.iconst 1, 1) := by decide +kernel
theorem dX0_isOrder_101 : decode cX0_isOrder 101 = .ok (.invokevirtual 42, 3) := by decide +kernel
theorem dX0_isOrder_104 : decode cX0_isOrder 104 = .ok (.ifCond .eq 47, 3) := by decide +kernel
theorem dX0_isOrder_107 : decode cX0_isOrder 107 = .ok (.aload_n 0, 1) := by decide +kernel
theorem dX0_isOrder_108 : decode cX0_isOrder 108 = .ok (.aload_n 1, 1) := by decide +kernel
theorem dX0_isOrder_109 : decode cX0_isOrder 109 = .ok (.bipush 58, 2) := by decide +kernel
theorem dX0_isOrder_111 : decode cX0_isOrder 111 = .ok (.invokevirtual 34, 3) := by decide +kernel
theorem dX0_isOrder_114 : decode cX0_isOrder 114 = .ok (.ifCond .eq 37, 3) := by decide +kernel
theorem dX0_isOrder_117 : decode cX0_isOrder 117 = .ok (.aload_n 0, 1) := by decide +kernel
theorem dX0_isOrder_118 : decode cX0_isOrder 118 = .ok (.aload_n 1, 1) := by decide +kernel
theorem dX0_isOrder_119 : decode cX0_isOrder 119 = .ok (.iconst 1, 1) := by decide +kernel
theorem dX0_isOrder_120 : decode cX0_isOrder 120 = .ok (.iconst 3, 1) := by decide +kernel
theorem dX0_isOrder_121 : decode cX0_isOrder 121 = .ok (.invokevirtual 42, 3) := by decide +kernel
theorem dX0_isOrder_124 : decode cX0_isOrder 124 = .ok (.ifCond .eq 27, 3) := by decide +kernel
theorem dX0_isOrder_127 : decode cX0_isOrder 127 = .ok (.aload_n 0, 1) := by decide +kernel
theorem dX0_isOrder_128 : decode cX0_isOrder 128 = .ok (.aload_n 1, 1) := by decide +kernel
theorem dX0_isOrder_129 : decode cX0_isOrder 129 = .ok (.bipush 42, 2) := by decide +kernel
theorem dX0_isOrder_131 : decode cX0_isOrder 131 = .ok (.invokevirtual 34, 3) := by decide +kernel
theorem dX0_isOrder_134 : decode cX0_isOrder 134 = .ok (.ifCond .eq 17, 3) := by decide +kernel
theorem dX0_isOrder_137 : decode cX0_isOrder 137 = .ok (.aload_n 0, 1) := by decide +kernel
theorem dX0_isOrder_138 : decode cX0_isOrder 138 = .ok (.aload_n 1, 1) := by decide +kernel
theorem dX0_isOrder_139 : decode cX0_isOrder 139 = .ok (.iconst 2, 1) := by decide +kernel
theorem dX0_isOrder_140 : decode cX0_isOrder 140 = .ok (.iconst 2, 1) := by decide +kernel
theorem dX0_isOrder_141 : decode cX0_isOrder 141 = .ok (.invokevirtual 42, 3) := by decide +kernel
theorem dX0_isOrder_144 : decode cX0_isOrder 144 = .ok (.ifCond .eq 7, 3) := by decide +kernel
theorem dX0_isOrder_147 : decode cX0_isOrder 147 = .ok (.iconst 1, 1) := by decide +kernel
theorem dX0_isOrder_148 : decode cX0_isOrder 148 = .ok (.goto 4, 3) := by decide +kernel
theorem dX0_isOrder_151 : decode cX0_isOrder 151 = .ok (.iconst 0, 1) := by decide +kernel
theorem dX0_isOrder_152 : decode cX0_isOrder 152 = .ok (.ireturn, 1) := by decide +kernel
theorem dX0_isOrder_153 : decode cX0_isOrder 153 = .ok (.aload_n 0, 1) := by decide +kernel
theorem dX0_isOrder_154 : decode cX0_isOrder 154 = .ok (.aload_n 1, 1) := by decide +kernel
theorem dX0_isOrder_155 : decode cX0_isOrder 155 = .ok (.iload_n 2, 1) := by decide +kernel
theorem dX0_isOrder_156 : decode cX0_isOrder 156 = .ok (.invokevirtual 34, 3) := by decide +kernel
theorem dX0_isOrder_159 : decode cX0_isOrder 159 = .ok (.ifCond .eq 37, 3) := by decide +kernel
theorem dX0_isOrder_162 : decode cX0_isOrder 162 = .ok (.aload_n 0, 1) := by decide +kernel
theorem dX0_isOrder_163 : decode cX0_isOrder 163 = .ok (.aload_n 1, 1) := by decide +kernel
theorem dX0_isOrder_164 : decode cX0_isOrder 164 = .ok (.iconst 0, 1) := by decide +kernel
theorem dX0_isOrder_165 : decode cX0_isOrder 165 = .ok (.iconst 1, 1) := by decide +kernel
theorem dX0_isOrder_166 : decode cX0_isOrder 166 = .ok (.invokevirtual 42, 3) := by decide +kernel
theorem dX0_isOrder_169 : decode cX0_isOrder 169 = .ok (.ifCond .eq 27, 3) := by decide +kernel
theorem dX0_isOrder_172 : decode cX0_isOrder 172 = .ok (.aload_n 0, 1) := by decide +kernel
theorem dX0_isOrder_173 : decode cX0_isOrder 173 = .ok (.aload_n 1, 1) := by decide +kernel
theorem dX0_isOrder_174 : decode cX0_isOrder 174 = .ok (.bipush 58, 2) := by decide +kernel
theorem dX0_isOrder_176 : decode cX0_isOrder 176 = .ok (.invokevirtual 34, 3) := by decide +kernel
theorem dX0_isOrder_179 : decode cX0_isOrder 179 = .ok (.ifCond .eq 17, 3) := by decide +kernel
theorem dX0_isOrder_182 : decode cX0_isOrder 182 = .ok (.aload_n 0, 1) := by decide +kernel
theorem dX0_isOrder_183 : decode cX0_isOrder 183 = .ok (.aload_n 1, 1) := by decide +kernel
theorem dX0_isOrder_184 : decode cX0_isOrder 184 = .ok (.iconst 1, 1) := by decide +kernel
theorem dX0_isOrder_185 : decode cX0_isOrder 185 = .ok (.iconst 3, 1) := by decide +kernel
theorem dX0_isOrder_186 : decode cX0_isOrder 186 = .ok (.invokevirtual 42, 3) := by decide +kernel
theorem dX0_isOrder_189 : decode cX0_isOrder 189 = .ok (.ifCond .eq 7, 3) := by decide +kernel
theorem dX0_isOrder_192 : decode cX0_isOrder 192 = .ok (.iconst 1, 1) := by decide +kernel
theorem dX0_isOrder_193 : decode cX0_isOrder 193 = .ok (.goto 4, 3) := by decide +kernel
theorem dX0_isOrder_196 : decode cX0_isOrder 196 = .ok (.iconst 0, 1) := by decide +kernel
theorem dX0_isOrder_197 : decode cX0_isOrder 197 = .ok (.ireturn, 1) := by decide +kernel
theorem dX0_isOrder_198 : decode cX0_isOrder 198 = .ok (.aload_n 0, 1) := by decide +kernel
theorem dX0_isOrder_199 : decode cX0_isOrder 199 = .ok (.aload_n 1, 1) := by decide +kernel
theorem dX0_isOrder_200 : decode cX0_isOrder 200 = .ok (.iload_n 2, 1) := by decide +kernel
theorem dX0_isOrder_201 : decode cX0_isOrder 201 = .ok (.invokevirtual 34, 3) := by decide +kernel
theorem dX0_isOrder_204 : decode cX0_isOrder 204 = .ok (.ifCond .eq 17, 3) := by decide +kernel
theorem dX0_isOrder_207 : decode cX0_isOrder 207 = .ok (.aload_n 0, 1) := by decide +kernel
theorem dX0_isOrder_208 : decode cX0_isOrder 208 = .ok (.aload_n 1, 1) := by decide +kernel
theorem dX0_isOrder_209 : decode cX0_isOrder 209 = .ok (.iconst 0, 1) := by decide +kernel
theorem dX0_isOrder_210 : decode cX0_isOrder 210 = .ok (.iconst 1, 1) := by decide +kernel
theorem dX0_isOrder_211 : decode cX0_isOrder 211 = .ok (.invokevirtual 42, 3) := by decide +kernel
theorem dX0_isOrder_214 : decode cX0_isOrder 214 = .ok (.ifCond .eq 7, 3) := by decide +kernel
theorem dX0_isOrder_217 : decode cX0_isOrder 217 = .ok (.iconst 1, 1) := by decide +kernel
theorem dX0_isOrder_218 : decode cX0_isOrder 218 = .ok (.goto 4, 3) := by decide +kernel
theorem dX0_isOrder_221 : decode cX0_isOrder 221 = .ok (.iconst 0, 1) := by decide +kernel
theorem dX0_isOrder_222 : decode cX0_isOrder 222 = .ok (.ireturn, 1) := by decide +kernel
theorem dX0_isOrder_223 : decode cX0_isOrder 223 = .ok (.aload_n 0, 1) := by decide +kernel
theorem dX0_isOrder_224 : decode cX0_isOrder 224 = .ok (.aload_n 1, 1) := by decide +kernel
theorem dX0_isOrder_225 : decode cX0_isOrder 225 = .ok (.iload_n 2, 1) := by decide +kernel
theorem dX0_isOrder_226 : decode cX0_isOrder 226 = .ok (.invokevirtual 34, 3) := by decide +kernel
theorem dX0_isOrder_229 : decode cX0_isOrder 229 = .ok (.ifCond .eq 27, 3) := by decide +kernel
theorem dX0_isOrder_232 : decode cX0_isOrder 232 = .ok (.aload_n 0, 1) := by decide +kernel
theorem dX0_isOrder_233 : decode cX0_isOrder 233 = .ok (.aload_n 1, 1) := by decide +kernel
theorem dX0_isOrder_234 : decode cX0_isOrder 234 = .ok (.iconst 0, 1) := by decide +kernel
theorem dX0_isOrder_235 : decode cX0_isOrder 235 = .ok (.iconst 1, 1) := by decide +kernel
theorem dX0_isOrder_236 : decode cX0_isOrder 236 = .ok (.invokevirtual 42, 3) := by decide +kernel
theorem dX0_isOrder_239 : decode cX0_isOrder 239 = .ok (.ifCond .eq 17, 3) := by decide +kernel
theorem dX0_isOrder_242 : decode cX0_isOrder 242 = .ok (.aload_n 0, 1) := by decide +kernel
theorem dX0_isOrder_243 : decode cX0_isOrder 243 = .ok (.aload_n 1, 1) := by decide +kernel
theorem dX0_isOrder_244 : decode cX0_isOrder 244 = .ok (.iconst 1, 1) := by decide +kernel
theorem dX0_isOrder_245 : decode cX0_isOrder 245 = .ok (.iconst 1, 1) := by decide +kernel
theorem dX0_isOrder_246 : decode cX0_isOrder 246 = .ok (.invokevirtual 42, 3) := by decide +kernel
theorem dX0_isOrder_249 : decode cX0_isOrder 249 = .ok (.ifCond .eq 7, 3) := by decide +kernel
theorem dX0_isOrder_252 : decode cX0_isOrder 252 = .ok (.iconst 1, 1) := by decide +kernel
theorem dX0_isOrder_253 : decode cX0_isOrder 253 = .ok (.goto 4, 3) := by decide +kernel
theorem dX0_isOrder_256 : decode cX0_isOrder 256 = .ok (.iconst 0, 1) := by decide +kernel
theorem dX0_isOrder_257 : decode cX0_isOrder 257 = .ok (.ireturn, 1) := by decide +kernel
theorem dX0_isOrder_258 : decode cX0_isOrder 258 = .ok (.aload_n 0, 1) := by decide +kernel
theorem dX0_isOrder_259 : decode cX0_isOrder 259 = .ok (.aload_n 1, 1) := by decide +kernel
theorem dX0_isOrder_260 : decode cX0_isOrder 260 = .ok (.iload_n 2, 1) := by decide +kernel
theorem dX0_isOrder_261 : decode cX0_isOrder 261 = .ok (.invokevirtual 34, 3) := by decide +kernel
theorem dX0_isOrder_264 : decode cX0_isOrder 264 = .ok (.ifCond .eq 17, 3) := by decide +kernel
theorem dX0_isOrder_267 : decode cX0_isOrder 267 = .ok (.aload_n 0, 1) := by decide +kernel
theorem dX0_isOrder_268 : decode cX0_isOrder 268 = .ok (.aload_n 1, 1) := by decide +kernel
theorem dX0_isOrder_269 : decode cX0_isOrder 269 = .ok (.iconst 0, 1) := by decide +kernel
theorem dX0_isOrder_270 : decode cX0_isOrder 270 = .ok (.iconst 2, 1) := by decide +kernel
theorem dX0_isOrder_271 : decode cX0_isOrder 271 = .ok (.invokevirtual 42, 3) := by decide +kernel
theorem dX0_isOrder_274 : decode cX0_isOrder 274 = .ok (.ifCond .eq 7, 3) := by decide +kernel
theorem dX0_isOrder_277 : decode cX0_isOrder 277 = .ok (.iconst 1, 1) := by decide +kernel
theorem dX0_isOrder_278 : decode cX0_isOrder 278 = .ok (.goto 4, 3) := by decide +kernel
theorem dX0_isOrder_281 : decode cX0_isOrder 281 = .ok (.iconst 0, 1) := by decide +kernel
theorem dX0_isOrder_282 : decode cX0_isOrder 282 = .ok (.ireturn, 1) := by decide +kernel
theorem dX0_isOrder_283 : decode cX0_isOrder 283 = .ok (.iconst 0, 1) := by decide +kernel
theorem dX0_isOrder_284 : decode cX0_isOrder 284 = .ok (.ireturn, 1) := by decide +kernel
theorem dX0_isCode_0 : decode cX0_isCode 0 = .ok (.aload_n 1, 1) := by decide +kernel
theorem dX0_isCode_1 : decode cX0_isCode 1 = .ok (.aload_n 0, 1) := by decide +kernel
theorem dX0_isCode_2 : decode cX0_isCode 2 = .ok (.getfield 22, 3) := by decide +kernel
theorem dX0_isCode_5 : decode cX0_isCode 5 = .ok (.invokevirtual 38, 3) := by decide +kernel
theorem dX0_isCode_8 : decode cX0_isCode 8 = .ok (.iload_n 2, 1) := by decide +kernel
theorem dX0_isCode_9 : decode cX0_isCode 9 = .ok (.if_icmp .eq 5, 3) := by decide +kernel
theorem dX0_isCode_12 : decode cX0_isCode 12 = .ok (.iconst 0, 1) := by decide +kernel
theorem dX0_isCode_13 : decode cX0_isCode 13 = .ok (.ireturn, 1) := by decide +kernel
theorem dX0_isCode_14 : decode cX0_isCode 14 = .ok (.aload_n 0, 1) := by decide +kernel
theorem dX0_isCode_15 : decode cX0_isCode 15 = .ok (.dup, 1) := by decide +kernel
theorem dX0_isCode_16 : decode cX0_isCode 16 = .ok (.getfield 22, 3) := by decide +kernel
theorem dX0_isCode_19 : decode cX0_isCode 19 = .ok (.iconst 1, 1) := by decide +kernel
theorem dX0_isCode_20 : decode cX0_isCode 20 = .ok (.iadd, 1) := by decide +kernel
theorem dX0_isCode_21 : decode cX0_isCode 21 = .ok (.putfield 22, 3) := by decide +kernel
theorem dX0_isCode_24 : decode cX0_isCode 24 = .ok (.iconst 1, 1) := by decide +kernel
theorem dX0_isCode_25 : decode cX0_isCode 25 = .ok (.ireturn, 1) := by decide +kernel
theorem dX0_isNumber_0 : decode cX0_isNumber 0 = .ok (.iconst 0, 1) := by decide +kernel
theorem dX0_isNumber_1 : decode cX0_isNumber 1 = .ok (.istore 4, 2) := by decide +kernel
theorem dX0_isNumber_3 : decode cX0_isNumber 3 = .ok (.iconst 0, 1) := by decide +kernel
theorem dX0_isNumber_4 : decode cX0_isNumber 4 = .ok (.istore 5, 2) := by decide +kernel
theorem dX0_isNumber_6 : decode cX0_isNumber 6 = .ok (.iload 5, 2) := by decide +kernel
theorem dX0_isNumber_8 : decode cX0_isNumber 8 = .ok (.iload_n 3, 1) := by decide +kernel
theorem dX0_isNumber_9 : decode cX0_isNumber 9 = .ok (.if_icmp .ge 52, 3) := by decide +kernel
theorem dX0_isNumber_12 : decode cX0_isNumber 12 = .ok (.aload_n 1, 1) := by decide +kernel
theorem dX0_isNumber_13 : decode cX0_isNumber 13 = .ok (.aload_n 0, 1) := by decide +kernel
theorem dX0_isNumber_14 : decode cX0_isNumber 14 = .ok (.getfield 22, 3) := by decide +kernel
theorem dX0_isNumber_17 : decode cX0_isNumber 17 = .ok (.invokevirtual 38, 3) := by decide +kernel
theorem dX0_isNumber_20 : decode cX0_isNumber 20 = .ok (.invokestatic 46, 3) := by decide +kernel
theorem dX0_isNumber_23 : decode cX0_isNumber 23 = .ok (.ifCond .eq 38, 3) := by decide +kernel
theorem dX0_isNumber_26 : decode cX0_isNumber 26 = .ok (.iload 4, 2) := by decide +kernel
theorem dX0_isNumber_28 : decode cX0_isNumber 28 = .ok (.bipush 10, 2) := by decide +kernel
theorem dX0_isNumber_30 : decode cX0_isNumber 30 = .ok (.imul, 1) := by decide +kernel
theorem dX0_isNumber_31 : decode cX0_isNumber 31 = .ok (.aload_n 1, 1) := by decide +kernel
theorem dX0_isNumber_32 : decode cX0_isNumber 32 = .ok (.aload_n 0, 1) := by decide +kernel
theorem dX0_isNumber_33 : decode cX0_isNumber 33 = .ok (.getfield 22, 3) := by decide +kernel
theorem dX0_isNumber_36 : decode cX0_isNumber 36 = .ok (.invokevirtual 38, 3) := by decide +kernel
theorem dX0_isNumber_39 : decode cX0_isNumber 39 = .ok (.iadd, 1) := by decide +kernel
theorem dX0_isNumber_40 : decode cX0_isNumber 40 = .ok (.bipush 48, 2) := by decide +kernel
theorem dX0_isNumber_42 : decode cX0_isNumber 42 = .ok (.isub, 1) := by decide +kernel
theorem dX0_isNumber_43 : decode cX0_isNumber 43 = .ok (.istore 4, 2) := by decide +kernel
theorem dX0_isNumber_45 : decode cX0_isNumber 45 = .ok (.aload_n 0, 1) := by decide +kernel
theorem dX0_isNumber_46 : decode cX0_isNumber 46 = .ok (.dup, 1) := by decide +kernel
theorem dX0_isNumber_47 : decode cX0_isNumber 47 = .ok (.getfield 22, 3) := by decide +kernel
theorem dX0_isNumber_50 : decode cX0_isNumber 50 = .ok (.iconst 1, 1) := by decide +kernel
theorem dX0_isNumber_51 : decode cX0_isNumber 51 = .ok (.iadd, 1) := by decide +kernel
theorem dX0_isNumber_52 : decode cX0_isNumber 52 = .ok (.putfield 22, 3) := by decide +kernel
theorem dX0_isNumber_55 : decode cX0_isNumber 55 = .ok (.iinc 5 1, 3) := by decide +kernel
theorem dX0_isNumber_58 : decode cX0_isNumber 58 = .ok (.goto (-52), 3) := by decide +kernel
theorem dX0_isNumber_61 : decode cX0_isNumber 61 = .ok (.iload 5, 2) := by decide +kernel
theorem dX0_isNumber_63 : decode cX0_isNumber 63 = .ok (.ifCond .le 43, 3) := by decide +kernel
theorem dX0_isNumber_66 : decode cX0_isNumber 66 = .ok (.aload_n 0, 1) := by decide +kernel
theorem dX0_isNumber_67 : decode cX0_isNumber 67 = .ok (.getfield 18, 3) := by decide +kernel
theorem dX0_isNumber_70 : decode cX0_isNumber 70 = .ok (.ifCond .lt 36, 3) := by decide +kernel
theorem dX0_isNumber_73 : decode cX0_isNumber 73 = .ok (.aload_n 0, 1) := by decide +kernel
theorem dX0_isNumber_74 : decode cX0_isNumber 74 = .ok (.getfield 18, 3) := by decide +kernel
theorem dX0_isNumber_77 : decode cX0_isNumber 77 = .ok (.bipush 20, 2) := by decide +kernel
theorem dX0_isNumber_79 : decode cX0_isNumber 79 = .ok (.if_icmp .ge 27, 3) := by decide +kernel
theorem dX0_isNumber_82 : decode cX0_isNumber 82 = .ok (.iload_n 2, 1) := by decide +kernel
theorem dX0_isNumber_83 : decode cX0_isNumber 83 = .ok (.ifCond .lt 23, 3) := by decide +kernel
theorem dX0_isNumber_86 : decode cX0_isNumber 86 = .ok (.iload_n 2, 1) := by decide +kernel
theorem dX0_isNumber_87 : decode cX0_isNumber 87 = .ok (.iconst 3, 1) := by decide +kernel
theorem dX0_isNumber_88 : decode cX0_isNumber 88 = .ok (.if_icmp .ge 18, 3) := by decide +kernel
theorem dX0_isNumber_91 : decode cX0_isNumber 91 = .ok (.aload_n 0, 1) := by decide +kernel
theorem dX0_isNumber_92 : decode cX0_isNumber 92 = .ok (.getfield 15, 3) := by decide +kernel
theorem dX0_isNumber_95 : decode cX0_isNumber 95 = .ok (.aload_n 0, 1) := by decide +kernel
theorem dX0_isNumber_96 : decode cX0_isNumber 96 = .ok (.getfield 18, 3) := by decide +kernel
theorem dX0_isNumber_99 : decode cX0_isNumber 99 = .ok (.iconst 3, 1) := by decide +kernel
theorem dX0_isNumber_100 : decode cX0_isNumber 100 = .ok (.imul, 1) := by decide +kernel
theorem dX0_isNumber_101 : decode cX0_isNumber 101 = .ok (.iload_n 2, 1) := by decide +kernel
theorem dX0_isNumber_102 : decode cX0_isNumber 102 = .ok (.iadd, 1) := by decide +kernel
theorem dX0_isNumber_103 : decode cX0_isNumber 103 = .ok (.iload 4, 2) := by decide +kernel
theorem dX0_isNumber_105 : decode cX0_isNumber 105 = .ok (.iastore, 1) := by decide +kernel
theorem dX0_isNumber_106 : decode cX0_isNumber 106 = .ok (.iload 5, 2) := by decide +kernel
theorem dX0_isNumber_108 : decode cX0_isNumber 108 = .ok (.ifCond .le 7, 3) := by decide +kernel
theorem dX0_isNumber_111 : decode cX0_isNumber 111 = .ok (.iconst 1, 1) := by decide +kernel
theorem dX0_isNumber_112 : decode cX0_isNumber 112 = .ok (.goto 4, 3) := by decide +kernel
theorem dX0_isNumber_115 : decode cX0_isNumber 115 = .ok (.iconst 0, 1) := by decide +kernel
theorem dX0_isNumber_116 : decode cX0_isNumber 116 = .ok (.ireturn, 1) := by decide +kernel
theorem dX0_isDigit_0 : decode cX0_isDigit 0 = .ok (.iload_n 0, 1) := by decide +kernel
theorem dX0_isDigit_1 : decode cX0_isDigit 1 = .ok (.bipush 48, 2) := by decide +kernel
theorem dX0_isDigit_3 : decode cX0_isDigit 3 = .ok (.if_icmp .lt 13, 3) := by decide +kernel
theorem dX0_isDigit_6 : decode cX0_isDigit 6 = .ok (.iload_n 0, 1) := by decide +kernel
theorem dX0_isDigit_7 : decode cX0_isDigit 7 = .ok (.bipush 57, 2) := by decide +kernel
theorem dX0_isDigit_9 : decode cX0_isDigit 9 = .ok (.if_icmp .gt 7, 3) := by decide +kernel
theorem dX0_isDigit_12 : decode cX0_isDigit 12 = .ok (.iconst 1, 1) := by decide +kernel
theorem dX0_isDigit_13 : decode cX0_isDigit 13 = .ok (.goto 4, 3) := by decide +kernel
theorem dX0_isDigit_16 : decode cX0_isDigit 16 = .ok (.iconst 0, 1) := by decide +kernel
theorem dX0_isDigit_17 : decode cX0_isDigit 17 = .ok (.ireturn, 1) := by decide +kernel
theorem dX1_init_0 : decode cX1_init 0 = .ok (.aload_n 0, 1) := by decide +kernel
theorem dX1_init_1 : decode cX1_init 1 = .ok (.invokespecial 3, 3) := by decide +kernel
theorem dX1_init_4 : decode cX1_init 4 = .ok (.aload_n 0, 1) := by decide +kernel
theorem dX1_init_5 : decode cX1_init 5 = .ok (.bipush 30, 2) := by decide +kernel
theorem dX1_init_7 : decode cX1_init 7 = .ok (.newarray .int, 2) := by decide +kernel
theorem dX1_init_9 : decode cX1_init 9 = .ok (.putfield 9, 3) := by decide +kernel
theorem dX1_init_12 : decode cX1_init 12 = .ok (.aload_n 0, 1) := by decide +kernel
theorem dX1_init_13 : decode cX1_init 13 = .ok (.bipush 30, 2) := by decide +kernel
theorem dX1_init_15 : decode cX1_init 15 = .ok (.newarray .int, 2) := by decide +kernel
theorem dX1_init_17 : decode cX1_init 17 = .ok (.putfield 15, 3) := by decide +kernel
theorem dX1_init_20 : decode cX1_init 20 = .ok (.aload_n 0, 1) := by decide +kernel
theorem dX1_init_21 : decode cX1_init 21 = .ok (.bipush 30, 2) := by decide +kernel
theorem dX1_init_23 : decode cX1_init 23 = .ok (.newarray .int, 2) := by decide +kernel
theorem dX1_init_25 : decode cX1_init 25 = .ok (.putfield 18, 3) := by decide +kernel
theorem dX1_init_28 : decode cX1_init 28 = .ok (.return_, 1) := by decide +kernel
theorem dX1_isPlace_0 : decode cX1_isPlace 0 = .ok (.iload_n 1, 1) := by decide +kernel
theorem dX1_isPlace_1 : decode cX1_isPlace 1 = .ok (.ifCond .lt 15, 3) := by decide +kernel
theorem dX1_isPlace_4 : decode cX1_isPlace 4 = .ok (.iload_n 1, 1) := by decide +kernel
theorem dX1_isPlace_5 : decode cX1_isPlace 5 = .ok (.aload_n 0, 1) := by decide +kernel
theorem dX1_isPlace_6 : decode cX1_isPlace 6 = .ok (.getfield 21, 3) := by decide +kernel
theorem dX1_isPlace_9 : decode cX1_isPlace 9 = .ok (.if_icmp .ge 7, 3) := by decide +kernel
theorem dX1_isPlace_12 : decode cX1_isPlace 12 = .ok (.iconst 1, 1) := by decide +kernel
theorem dX1_isPlace_13 : decode cX1_isPlace 13 = .ok (.goto 4, 3) := by decide +kernel
theorem dX1_isPlace_16 : decode cX1_isPlace 16 = .ok (.iconst 0, 1) := by decide +kernel
theorem dX1_isPlace_17 : decode cX1_isPlace 17 = .ok (.ireturn, 1) := by decide +kernel
theorem dX1_weightAt_0 : decode cX1_weightAt 0 = .ok (.iload_n 1, 1) := by decide +kernel
theorem dX1_weightAt_1 : decode cX1_weightAt 1 = .ok (.ifCond .lt 26, 3) := by decide +kernel
theorem dX1_weightAt_4 : decode cX1_weightAt 4 = .ok (.iload_n 1, 1) := by decide +kernel
theorem dX1_weightAt_5 : decode cX1_weightAt 5 = .ok (.aload_n 0, 1) := by decide +kernel
theorem dX1_weightAt_6 : decode cX1_weightAt 6 = .ok (.getfield 21, 3) := by decide +kernel
theorem dX1_weightAt_9 : decode cX1_weightAt 9 = .ok (.if_icmp .ge 18, 3) := by decide +kernel
theorem dX1_weightAt_12 : decode cX1_weightAt 12 = .ok (.iload_n 1, 1) := by decide +kernel
theorem dX1_weightAt_13 : decode cX1_weightAt 13 = .ok (.bipush 30, 2) := by decide +kernel
theorem dX1_weightAt_15 : decode cX1_weightAt 15 = .ok (.if_icmp .ge 12, 3) := by decide +kernel
theorem dX1_weightAt_18 : decode cX1_weightAt 18 = .ok (.aload_n 0, 1) := by decide +kernel
theorem dX1_weightAt_19 : decode cX1_weightAt 19 = .ok (.getfield 9, 3) := by decide +kernel
theorem dX1_weightAt_22 : decode cX1_weightAt 22 = .ok (.iload_n 1, 1) := by decide +kernel
theorem dX1_weightAt_23 : decode cX1_weightAt 23 = .ok (.iaload, 1) := by decide +kernel
theorem dX1_weightAt_24 : decode cX1_weightAt 24 = .ok (.goto 5, 3) := by decide +kernel
theorem dX1_weightAt_27 : decode cX1_weightAt 27 = .ok (.bipush (-15), 2) := by decide +kernel
theorem dX1_weightAt_29 : decode cX1_weightAt 29 = .ok (.ireturn, 1) := by decide +kernel
theorem dX1_loadAt_0 : decode cX1_loadAt 0 = .ok (.iload_n 1, 1) := by decide +kernel
theorem dX1_loadAt_1 : decode cX1_loadAt 1 = .ok (.ifCond .lt 26, 3) := by decide +kernel
theorem dX1_loadAt_4 : decode cX1_loadAt 4 = .ok (.iload_n 1, 1) := by decide +kernel
theorem dX1_loadAt_5 : decode cX1_loadAt 5 = .ok (.aload_n 0, 1) := by decide +kernel
theorem dX1_loadAt_6 : decode cX1_loadAt 6 = .ok (.getfield 21, 3) := by decide +kernel
theorem dX1_loadAt_9 : decode cX1_loadAt 9 = .ok (.if_icmp .ge 18, 3) := by decide +kernel
theorem dX1_loadAt_12 : decode cX1_loadAt 12 = .ok (.iload_n 1, 1) := by decide +kernel
theorem dX1_loadAt_13 : decode cX1_loadAt 13 = .ok (.bipush 30, 2) := by decide +kernel
theorem dX1_loadAt_15 : decode cX1_loadAt 15 = .ok (.if_icmp .ge 12, 3) := by decide +kernel
theorem dX1_loadAt_18 : decode cX1_loadAt 18 = .ok (.aload_n 0, 1) := by decide +kernel
theorem dX1_loadAt_19 : decode cX1_loadAt 19 = .ok (.getfield 15, 3) := by decide +kernel
theorem dX1_loadAt_22 : decode cX1_loadAt 22 = .ok (.iload_n 1, 1) := by decide +kernel
theorem dX1_loadAt_23 : decode cX1_loadAt 23 = .ok (.iaload, 1) := by decide +kernel
theorem dX1_loadAt_24 : decode cX1_loadAt 24 = .ok (.goto 4, 3) := by decide +kernel
theorem dX1_loadAt_27 : decode cX1_loadAt 27 = .ok (.iconst 0, 1) := by decide +kernel
theorem dX1_loadAt_28 : decode cX1_loadAt 28 = .ok (.ireturn, 1) := by decide +kernel
theorem dX1_depthAt_0 : decode cX1_depthAt 0 = .ok (.iload_n 1, 1) := by decide +kernel
theorem dX1_depthAt_1 : decode cX1_depthAt 1 = .ok (.ifCond .lt 26, 3) := by decide +kernel
theorem dX1_depthAt_4 : decode cX1_depthAt 4 = .ok (.iload_n 1, 1) := by decide +kernel
theorem dX1_depthAt_5 : decode cX1_depthAt 5 = .ok (.aload_n 0, 1) := by decide +kernel
theorem dX1_depthAt_6 : decode cX1_depthAt 6 = .ok (.getfield 21, 3) := by decide +kernel
theorem dX1_depthAt_9 : decode cX1_depthAt 9 = .ok (.if_icmp .ge 18, 3) := by decide +kernel
theorem dX1_depthAt_12 : decode cX1_depthAt 12 = .ok (.iload_n 1, 1) := by decide +kernel
theorem dX1_depthAt_13 : decode cX1_depthAt 13 = .ok (.bipush 30, 2) := by decide +kernel
theorem dX1_depthAt_15 : decode cX1_depthAt 15 = .ok (.if_icmp .ge 12, 3) := by decide +kernel
theorem dX1_depthAt_18 : decode cX1_depthAt 18 = .ok (.aload_n 0, 1) := by decide +kernel
theorem dX1_depthAt_19 : decode cX1_depthAt 19 = .ok (.getfield 18, 3) := by decide +kernel
theorem dX1_depthAt_22 : decode cX1_depthAt 22 = .ok (.iload_n 1, 1) := by decide +kernel
theorem dX1_depthAt_23 : decode cX1_depthAt 23 = .ok (.iaload, 1) := by decide +kernel
theorem dX1_depthAt_24 : decode cX1_depthAt 24 = .ok (.goto 4, 3) := by decide +kernel
theorem dX1_depthAt_27 : decode cX1_depthAt 27 = .ok (.iconst (-1), 1) := by decide +kernel
theorem dX1_depthAt_28 : decode cX1_depthAt 28 = .ok (.ireturn, 1) := by decide +kernel
theorem dX1_find_0 : decode cX1_find 0 = .ok (.iconst 0, 1) := by decide +kernel
theorem dX1_find_1 : decode cX1_find 1 = .ok (.istore_n 2, 1) := by decide +kernel
theorem dX1_find_2 : decode cX1_find 2 = .ok (.iload_n 2, 1) := by decide +kernel
theorem dX1_find_3 : decode cX1_find 3 = .ok (.aload_n 0, 1) := by decide +kernel
theorem dX1_find_4 : decode cX1_find 4 = .ok (.getfield 21, 3) := by decide +kernel
theorem dX1_find_7 : decode cX1_find 7 = .ok (.if_icmp .ge 20, 3) := by decide +kernel
theorem dX1_find_10 : decode cX1_find 10 = .ok (.aload_n 0, 1) := by decide +kernel
theorem dX1_find_11 : decode cX1_find 11 = .ok (.iload_n 2, 1) := by decide +kernel
theorem dX1_find_12 : decode cX1_find 12 = .ok (.invokevirtual 25, 3) := by decide +kernel
theorem dX1_find_15 : decode cX1_find 15 = .ok (.iload_n 1, 1) := by decide +kernel
theorem dX1_find_16 : decode cX1_find 16 = .ok (.if_icmp .ne 5, 3) := by decide +kernel
theorem dX1_find_19 : decode cX1_find 19 = .ok (.iload_n 2, 1) := by decide +kernel
theorem dX1_find_20 : decode cX1_find 20 = .ok (.ireturn, 1) := by decide +kernel
theorem dX1_find_21 : decode cX1_find 21 = .ok (.iinc 2 1, 3) := by decide +kernel
theorem dX1_find_24 : decode cX1_find 24 = .ok (.goto (-22), 3) := by decide +kernel
theorem dX1_find_27 : decode cX1_find 27 = .ok (.iconst (-1), 1) := by decide +kernel
theorem dX1_find_28 : decode cX1_find 28 = .ok (.ireturn, 1) := by decide +kernel
theorem dX1_firstOf_0 : decode cX1_firstOf 0 = .ok (.iload_n 1, 1) := by decide +kernel
theorem dX1_firstOf_1 : decode cX1_firstOf 1 = .ok (.istore_n 2, 1) := by decide +kernel
theorem dX1_firstOf_2 : decode cX1_firstOf 2 = .ok (.iload_n 2, 1) := by decide +kernel
theorem dX1_firstOf_3 : decode cX1_firstOf 3 = .ok (.ifCond .le 24, 3) := by decide +kernel
theorem dX1_firstOf_6 : decode cX1_firstOf 6 = .ok (.aload_n 0, 1) := by decide +kernel
theorem dX1_firstOf_7 : decode cX1_firstOf 7 = .ok (.iload_n 2, 1) := by decide +kernel
theorem dX1_firstOf_8 : decode cX1_firstOf 8 = .ok (.iconst 1, 1) := by decide +kernel
theorem dX1_firstOf_9 : decode cX1_firstOf 9 = .ok (.isub, 1) := by decide +kernel
theorem dX1_firstOf_10 : decode cX1_firstOf 10 = .ok (.invokevirtual 29, 3) := by decide +kernel
theorem dX1_firstOf_13 : decode cX1_firstOf 13 = .ok (.aload_n 0, 1) := by decide +kernel
theorem dX1_firstOf_14 : decode cX1_firstOf 14 = .ok (.iload_n 1, 1) := by decide +kernel
theorem dX1_firstOf_15 : decode cX1_firstOf 15 = .ok (.invokevirtual 29, 3) := by decide +kernel
theorem dX1_firstOf_18 : decode cX1_firstOf 18 = .ok (.if_icmp .le 9, 3) := by decide +kernel
theorem dX1_firstOf_21 : decode cX1_firstOf 21 = .ok (.iinc 2 (-1), 3) := by decide +kernel
theorem dX1_firstOf_24 : decode cX1_firstOf 24 = .ok (.goto (-22), 3) := by decide +kernel
theorem dX1_firstOf_27 : decode cX1_firstOf 27 = .ok (.iload_n 2, 1) := by decide +kernel
theorem dX1_firstOf_28 : decode cX1_firstOf 28 = .ok (.ireturn, 1) := by decide +kernel
theorem dX1_lastOf_0 : decode cX1_lastOf 0 = .ok (.iload_n 1, 1) := by decide +kernel
theorem dX1_lastOf_1 : decode cX1_lastOf 1 = .ok (.istore_n 2, 1) := by decide +kernel
theorem dX1_lastOf_2 : decode cX1_lastOf 2 = .ok (.iload_n 2, 1) := by decide +kernel
theorem dX1_lastOf_3 : decode cX1_lastOf 3 = .ok (.aload_n 0, 1) := by decide +kernel
theorem dX1_lastOf_4 : decode cX1_lastOf 4 = .ok (.getfield 21, 3) := by decide +kernel
theorem dX1_lastOf_7 : decode cX1_lastOf 7 = .ok (.iconst 1, 1) := by decide +kernel
theorem dX1_lastOf_8 : decode cX1_lastOf 8 = .ok (.isub, 1) := by decide +kernel
theorem dX1_lastOf_9 : decode cX1_lastOf 9 = .ok (.if_icmp .ge 24, 3) := by decide +kernel
theorem dX1_lastOf_12 : decode cX1_lastOf 12 = .ok (.aload_n 0, 1) := by decide +kernel
theorem dX1_lastOf_13 : decode cX1_lastOf 13 = .ok (.iload_n 2, 1) := by decide +kernel
theorem dX1_lastOf_14 : decode cX1_lastOf 14 = .ok (.iconst 1, 1) := by decide +kernel
theorem dX1_lastOf_15 : decode cX1_lastOf 15 = .ok (.iadd, 1) := by decide +kernel
theorem dX1_lastOf_16 : decode cX1_lastOf 16 = .ok (.invokevirtual 29, 3) := by decide +kernel
theorem dX1_lastOf_19 : decode cX1_lastOf 19 = .ok (.aload_n 0, 1) := by decide +kernel
theorem dX1_lastOf_20 : decode cX1_lastOf 20 = .ok (.iload_n 1, 1) := by decide +kernel
theorem dX1_lastOf_21 : decode cX1_lastOf 21 = .ok (.invokevirtual 29, 3) := by decide +kernel
theorem dX1_lastOf_24 : decode cX1_lastOf 24 = .ok (.if_icmp .le 9, 3) := by decide +kernel
theorem dX1_lastOf_27 : decode cX1_lastOf 27 = .ok (.iinc 2 1, 3) := by decide +kernel
theorem dX1_lastOf_30 : decode cX1_lastOf 30 = .ok (.goto (-28), 3) := by decide +kernel
theorem dX1_lastOf_33 : decode cX1_lastOf 33 = .ok (.iload_n 2, 1) := by decide +kernel
theorem dX1_lastOf_34 : decode cX1_lastOf 34 = .ok (.ireturn, 1) := by decide +kernel
theorem dX1_topOf_0 : decode cX1_topOf 0 = .ok (.iconst (-1), 1) := by decide +kernel
theorem dX1_topOf_1 : decode cX1_topOf 1 = .ok (.istore_n 3, 1) := by decide +kernel
theorem dX1_topOf_2 : decode cX1_topOf 2 = .ok (.iload_n 1, 1) := by decide +kernel
theorem dX1_topOf_3 : decode cX1_topOf 3 = .ok (.iconst 0, 1) := by decide +kernel
theorem dX1_topOf_4 : decode cX1_topOf 4 = .ok (.invokestatic 32, 3) := by decide +kernel
theorem dX1_topOf_7 : decode cX1_topOf 7 = .ok (.istore 4, 2) := by decide +kernel
theorem dX1_topOf_9 : decode cX1_topOf 9 = .ok (.iload 4, 2) := by decide +kernel
theorem dX1_topOf_11 : decode cX1_topOf 11 = .ok (.iload_n 2, 1) := by decide +kernel
theorem dX1_topOf_12 : decode cX1_topOf 12 = .ok (.if_icmp .gt 40, 3) := by decide +kernel
theorem dX1_topOf_15 : decode cX1_topOf 15 = .ok (.iload 4, 2) := by decide +kernel
theorem dX1_topOf_17 : decode cX1_topOf 17 = .ok (.aload_n 0, 1) := by decide +kernel
theorem dX1_topOf_18 : decode cX1_topOf 18 = .ok (.getfield 21, 3) := by decide +kernel
theorem dX1_topOf_21 : decode cX1_topOf 21 = .ok (.if_icmp .ge 31, 3) := by decide +kernel
theorem dX1_topOf_24 : decode cX1_topOf 24 = .ok (.iload_n 3, 1) := by decide +kernel
theorem dX1_topOf_25 : decode cX1_topOf 25 = .ok (.iconst (-1), 1) := by decide +kernel
theorem dX1_topOf_26 : decode cX1_topOf 26 = .ok (.if_icmp .eq 17, 3) := by decide +kernel
theorem dX1_topOf_29 : decode cX1_topOf 29 = .ok (.aload_n 0, 1) := by decide +kernel
theorem dX1_topOf_30 : decode cX1_topOf 30 = .ok (.iload 4, 2) := by decide +kernel
theorem dX1_topOf_32 : decode cX1_topOf 32 = .ok (.invokevirtual 29, 3) := by decide +kernel
theorem dX1_topOf_35 : decode cX1_topOf 35 = .ok (.aload_n 0, 1) := by decide +kernel
theorem dX1_topOf_36 : decode cX1_topOf 36 = .ok (.iload_n 3, 1) := by decide +kernel
theorem dX1_topOf_37 : decode cX1_topOf 37 = .ok (.invokevirtual 29, 3) := by decide +kernel
theorem dX1_topOf_40 : decode cX1_topOf 40 = .ok (.if_icmp .ge 6, 3) := by decide +kernel
theorem dX1_topOf_43 : decode cX1_topOf 43 = .ok (.iload 4, 2) := by decide +kernel
theorem dX1_topOf_45 : decode cX1_topOf 45 = .ok (.istore_n 3, 1) := by decide +kernel
theorem dX1_topOf_46 : decode cX1_topOf 46 = .ok (.iinc 4 1, 3) := by decide +kernel
theorem dX1_topOf_49 : decode cX1_topOf 49 = .ok (.goto (-40), 3) := by decide +kernel
theorem dX1_topOf_52 : decode cX1_topOf 52 = .ok (.iload_n 3, 1) := by decide +kernel
theorem dX1_topOf_53 : decode cX1_topOf 53 = .ok (.ireturn, 1) := by decide +kernel
theorem dX1_above_0 : decode cX1_above 0 = .ok (.aload_n 0, 1) := by decide +kernel
theorem dX1_above_1 : decode cX1_above 1 = .ok (.iload_n 1, 1) := by decide +kernel
theorem dX1_above_2 : decode cX1_above 2 = .ok (.invokevirtual 38, 3) := by decide +kernel
theorem dX1_above_5 : decode cX1_above 5 = .ok (.iconst 1, 1) := by decide +kernel
theorem dX1_above_6 : decode cX1_above 6 = .ok (.isub, 1) := by decide +kernel
theorem dX1_above_7 : decode cX1_above 7 = .ok (.istore_n 2, 1) := by decide +kernel
theorem dX1_above_8 : decode cX1_above 8 = .ok (.aload_n 0, 1) := by decide +kernel
theorem dX1_above_9 : decode cX1_above 9 = .ok (.iload_n 1, 1) := by decide +kernel
theorem dX1_above_10 : decode cX1_above 10 = .ok (.invokevirtual 41, 3) := by decide +kernel
theorem dX1_above_13 : decode cX1_above 13 = .ok (.iconst 1, 1) := by decide +kernel
theorem dX1_above_14 : decode cX1_above 14 = .ok (.iadd, 1) := by decide +kernel
theorem dX1_above_15 : decode cX1_above 15 = .ok (.istore_n 3, 1) := by decide +kernel
theorem dX1_above_16 : decode cX1_above 16 = .ok (.aload_n 0, 1) := by decide +kernel
theorem dX1_above_17 : decode cX1_above 17 = .ok (.iload_n 2, 1) := by decide +kernel
theorem dX1_above_18 : decode cX1_above 18 = .ok (.invokevirtual 29, 3) := by decide +kernel
theorem dX1_above_21 : decode cX1_above 21 = .ok (.aload_n 0, 1) := by decide +kernel
theorem dX1_above_22 : decode cX1_above 22 = .ok (.iload_n 3, 1) := by decide +kernel
theorem dX1_above_23 : decode cX1_above 23 = .ok (.invokevirtual 29, 3) := by decide +kernel
theorem dX1_above_26 : decode cX1_above 26 = .ok (.if_icmp .le 7, 3) := by decide +kernel
theorem dX1_above_29 : decode cX1_above 29 = .ok (.iload_n 2, 1) := by decide +kernel
theorem dX1_above_30 : decode cX1_above 30 = .ok (.goto 4, 3) := by decide +kernel
theorem dX1_above_33 : decode cX1_above 33 = .ok (.iload_n 3, 1) := by decide +kernel
theorem dX1_above_34 : decode cX1_above 34 = .ok (.istore 4, 2) := by decide +kernel
theorem dX1_above_36 : decode cX1_above 36 = .ok (.aload_n 0, 1) := by decide +kernel
theorem dX1_above_37 : decode cX1_above 37 = .ok (.iload 4, 2) := by decide +kernel
theorem dX1_above_39 : decode cX1_above 39 = .ok (.invokevirtual 44, 3) := by decide +kernel
theorem dX1_above_42 : decode cX1_above 42 = .ok (.ifCond .eq 8, 3) := by decide +kernel
theorem dX1_above_45 : decode cX1_above 45 = .ok (.iload 4, 2) := by decide +kernel
theorem dX1_above_47 : decode cX1_above 47 = .ok (.goto 4, 3) := by decide +kernel
theorem dX1_above_50 : decode cX1_above 50 = .ok (.iconst (-1), 1) := by decide +kernel
theorem dX1_above_51 : decode cX1_above 51 = .ok (.ireturn, 1) := by decide +kernel
theorem dX1_leans_0 : decode cX1_leans 0 = .ok (.aload_n 0, 1) := by decide +kernel
theorem dX1_leans_1 : decode cX1_leans 1 = .ok (.iload_n 1, 1) := by decide +kernel
theorem dX1_leans_2 : decode cX1_leans 2 = .ok (.invokevirtual 38, 3) := by decide +kernel
theorem dX1_leans_5 : decode cX1_leans 5 = .ok (.istore_n 3, 1) := by decide +kernel
theorem dX1_leans_6 : decode cX1_leans 6 = .ok (.aload_n 0, 1) := by decide +kernel
theorem dX1_leans_7 : decode cX1_leans 7 = .ok (.iload_n 1, 1) := by decide +kernel
theorem dX1_leans_8 : decode cX1_leans 8 = .ok (.invokevirtual 41, 3) := by decide +kernel
theorem dX1_leans_11 : decode cX1_leans 11 = .ok (.istore 4, 2) := by decide +kernel
theorem dX1_leans_13 : decode cX1_leans 13 = .ok (.iload_n 1, 1) := by decide +kernel
theorem dX1_leans_14 : decode cX1_leans 14 = .ok (.iload_n 3, 1) := by decide +kernel
theorem dX1_leans_15 : decode cX1_leans 15 = .ok (.isub, 1) := by decide +kernel
theorem dX1_leans_16 : decode cX1_leans 16 = .ok (.iload 4, 2) := by decide +kernel
theorem dX1_leans_18 : decode cX1_leans 18 = .ok (.iload_n 1, 1) := by decide +kernel
theorem dX1_leans_19 : decode cX1_leans 19 = .ok (.isub, 1) := by decide +kernel
theorem dX1_leans_20 : decode cX1_leans 20 = .ok (.invokestatic 32, 3) := by decide +kernel
theorem dX1_leans_23 : decode cX1_leans 23 = .ok (.istore 5, 2) := by decide +kernel
theorem dX1_leans_25 : decode cX1_leans 25 = .ok (.bipush 100, 2) := by decide +kernel
theorem dX1_leans_27 : decode cX1_leans 27 = .ok (.iload 5, 2) := by decide +kernel
theorem dX1_leans_29 : decode cX1_leans 29 = .ok (.imul, 1) := by decide +kernel
theorem dX1_leans_30 : decode cX1_leans 30 = .ok (.iload_n 2, 1) := by decide +kernel
theorem dX1_leans_31 : decode cX1_leans 31 = .ok (.iload 4, 2) := by decide +kernel
theorem dX1_leans_33 : decode cX1_leans 33 = .ok (.iload_n 3, 1) := by decide +kernel
theorem dX1_leans_34 : decode cX1_leans 34 = .ok (.isub, 1) := by decide +kernel
theorem dX1_leans_35 : decode cX1_leans 35 = .ok (.iconst 1, 1) := by decide +kernel
theorem dX1_leans_36 : decode cX1_leans 36 = .ok (.iadd, 1) := by decide +kernel
theorem dX1_leans_37 : decode cX1_leans 37 = .ok (.imul, 1) := by decide +kernel
theorem dX1_leans_38 : decode cX1_leans 38 = .ok (.if_icmp .le 7, 3) := by decide +kernel
theorem dX1_leans_41 : decode cX1_leans 41 = .ok (.iconst 1, 1) := by decide +kernel
theorem dX1_leans_42 : decode cX1_leans 42 = .ok (.goto 4, 3) := by decide +kernel
theorem dX1_leans_45 : decode cX1_leans 45 = .ok (.iconst 0, 1) := by decide +kernel
theorem dX1_leans_46 : decode cX1_leans 46 = .ok (.ireturn, 1) := by decide +kernel
theorem dX1_loadsFrom_0 : decode cX1_loadsFrom 0 = .ok (.iconst 0, 1) := by decide +kernel
theorem dX1_loadsFrom_1 : decode cX1_loadsFrom 1 = .ok (.istore_n 3, 1) := by decide +kernel
theorem dX1_loadsFrom_2 : decode cX1_loadsFrom 2 = .ok (.iload_n 1, 1) := by decide +kernel
theorem dX1_loadsFrom_3 : decode cX1_loadsFrom 3 = .ok (.iconst 0, 1) := by decide +kernel
theorem dX1_loadsFrom_4 : decode cX1_loadsFrom 4 = .ok (.invokestatic 32, 3) := by decide +kernel
theorem dX1_loadsFrom_7 : decode cX1_loadsFrom 7 = .ok (.istore 4, 2) := by decide +kernel
theorem dX1_loadsFrom_9 : decode cX1_loadsFrom 9 = .ok (.iload 4, 2) := by decide +kernel
theorem dX1_loadsFrom_11 : decode cX1_loadsFrom 11 = .ok (.iload_n 2, 1) := by decide +kernel
theorem dX1_loadsFrom_12 : decode cX1_loadsFrom 12 = .ok (.if_icmp .gt 27, 3) := by decide +kernel
theorem dX1_loadsFrom_15 : decode cX1_loadsFrom 15 = .ok (.iload 4, 2) := by decide +kernel
theorem dX1_loadsFrom_17 : decode cX1_loadsFrom 17 = .ok (.aload_n 0, 1) := by decide +kernel
theorem dX1_loadsFrom_18 : decode cX1_loadsFrom 18 = .ok (.getfield 21, 3) := by decide +kernel
theorem dX1_loadsFrom_21 : decode cX1_loadsFrom 21 = .ok (.if_icmp .ge 18, 3) := by decide +kernel
theorem dX1_loadsFrom_24 : decode cX1_loadsFrom 24 = .ok (.iload_n 3, 1) := by decide +kernel
theorem dX1_loadsFrom_25 : decode cX1_loadsFrom 25 = .ok (.aload_n 0, 1) := by decide +kernel
theorem dX1_loadsFrom_26 : decode cX1_loadsFrom 26 = .ok (.iload 4, 2) := by decide +kernel
theorem dX1_loadsFrom_28 : decode cX1_loadsFrom 28 = .ok (.invokevirtual 48, 3) := by decide +kernel
theorem dX1_loadsFrom_31 : decode cX1_loadsFrom 31 = .ok (.iadd, 1) := by decide +kernel
theorem dX1_loadsFrom_32 : decode cX1_loadsFrom 32 = .ok (.istore_n 3, 1) := by decide +kernel
theorem dX1_loadsFrom_33 : decode cX1_loadsFrom 33 = .ok (.iinc 4 1, 3) := by decide +kernel
theorem dX1_loadsFrom_36 : decode cX1_loadsFrom 36 = .ok (.goto (-27), 3) := by decide +kernel
theorem dX1_loadsFrom_39 : decode cX1_loadsFrom 39 = .ok (.iload_n 3, 1) := by decide +kernel
theorem dX1_loadsFrom_40 : decode cX1_loadsFrom 40 = .ok (.ireturn, 1) := by decide +kernel
theorem dX1_depths_0 : decode cX1_depths 0 = .ok (.iconst 0, 1) := by decide +kernel
theorem dX1_depths_1 : decode cX1_depths 1 = .ok (.istore_n 1, 1) := by decide +kernel
theorem dX1_depths_2 : decode cX1_depths 2 = .ok (.iconst 0, 1) := by decide +kernel
theorem dX1_depths_3 : decode cX1_depths 3 = .ok (.istore_n 2, 1) := by decide +kernel
theorem dX1_depths_4 : decode cX1_depths 4 = .ok (.iload_n 2, 1) := by decide +kernel
theorem dX1_depths_5 : decode cX1_depths 5 = .ok (.aload_n 0, 1) := by decide +kernel
theorem dX1_depths_6 : decode cX1_depths 6 = .ok (.getfield 21, 3) := by decide +kernel
theorem dX1_depths_9 : decode cX1_depths 9 = .ok (.if_icmp .ge 17, 3) := by decide +kernel
theorem dX1_depths_12 : decode cX1_depths 12 = .ok (.iload_n 1, 1) := by decide +kernel
theorem dX1_depths_13 : decode cX1_depths 13 = .ok (.aload_n 0, 1) := by decide +kernel
theorem dX1_depths_14 : decode cX1_depths 14 = .ok (.iload_n 2, 1) := by decide +kernel
theorem dX1_depths_15 : decode cX1_depths 15 = .ok (.invokevirtual 29, 3) := by decide +kernel
theorem dX1_depths_18 : decode cX1_depths 18 = .ok (.iadd, 1) := by decide +kernel
theorem dX1_depths_19 : decode cX1_depths 19 = .ok (.istore_n 1, 1) := by decide +kernel
theorem dX1_depths_20 : decode cX1_depths 20 = .ok (.iinc 2 1, 3) := by decide +kernel
theorem dX1_depths_23 : decode cX1_depths 23 = .ok (.goto (-19), 3) := by decide +kernel
theorem dX1_depths_26 : decode cX1_depths 26 = .ok (.iload_n 1, 1) := by decide +kernel
theorem dX1_depths_27 : decode cX1_depths 27 = .ok (.ireturn, 1) := by decide +kernel
theorem dX1_greatestDepth_0 : decode cX1_greatestDepth 0 = .ok (.iconst (-1), 1) := by decide +kernel
theorem dX1_greatestDepth_1 : decode cX1_greatestDepth 1 = .ok (.istore_n 1, 1) := by decide +kernel
theorem dX1_greatestDepth_2 : decode cX1_greatestDepth 2 = .ok (.iconst 0, 1) := by decide +kernel
theorem dX1_greatestDepth_3 : decode cX1_greatestDepth 3 = .ok (.istore_n 2, 1) := by decide +kernel
theorem dX1_greatestDepth_4 : decode cX1_greatestDepth 4 = .ok (.iload_n 2, 1) := by decide +kernel
theorem dX1_greatestDepth_5 : decode cX1_greatestDepth 5 = .ok (.aload_n 0, 1) := by decide +kernel
theorem dX1_greatestDepth_6 : decode cX1_greatestDepth 6 = .ok (.getfield 21, 3) := by decide +kernel
theorem dX1_greatestDepth_9 : decode cX1_greatestDepth 9 = .ok (.if_icmp .ge 19, 3) := by decide +kernel
theorem dX1_greatestDepth_12 : decode cX1_greatestDepth 12 = .ok (.iload_n 1, 1) := by decide +kernel
theorem dX1_greatestDepth_13 : decode cX1_greatestDepth 13 = .ok (.aload_n 0, 1) := by decide +kernel
theorem dX1_greatestDepth_14 : decode cX1_greatestDepth 14 = .ok (.iload_n 2, 1) := by decide +kernel
theorem dX1_greatestDepth_15 : decode cX1_greatestDepth 15 = .ok (.invokevirtual 29, 3) := by decide +kernel
theorem dX1_greatestDepth_18 : decode cX1_greatestDepth 18 = .ok (.invokestatic 32, 3) := by decide +kernel
theorem dX1_greatestDepth_21 : decode cX1_greatestDepth 21 = .ok (.istore_n 1, 1) := by decide +kernel
theorem dX1_greatestDepth_22 : decode cX1_greatestDepth 22 = .ok (.iinc 2 1, 3) := by decide +kernel
theorem dX1_greatestDepth_25 : decode cX1_greatestDepth 25 = .ok (.goto (-21), 3) := by decide +kernel
theorem dX1_greatestDepth_28 : decode cX1_greatestDepth 28 = .ok (.iload_n 1, 1) := by decide +kernel
theorem dX1_greatestDepth_29 : decode cX1_greatestDepth 29 = .ok (.ireturn, 1) := by decide +kernel
theorem dX1_leaning_0 : decode cX1_leaning 0 = .ok (.iconst 0, 1) := by decide +kernel
theorem dX1_leaning_1 : decode cX1_leaning 1 = .ok (.istore_n 2, 1) := by decide +kernel
theorem dX1_leaning_2 : decode cX1_leaning 2 = .ok (.iconst 0, 1) := by decide +kernel
theorem dX1_leaning_3 : decode cX1_leaning 3 = .ok (.istore_n 3, 1) := by decide +kernel
theorem dX1_leaning_4 : decode cX1_leaning 4 = .ok (.iload_n 3, 1) := by decide +kernel
theorem dX1_leaning_5 : decode cX1_leaning 5 = .ok (.aload_n 0, 1) := by decide +kernel
theorem dX1_leaning_6 : decode cX1_leaning 6 = .ok (.getfield 21, 3) := by decide +kernel
theorem dX1_leaning_9 : decode cX1_leaning 9 = .ok (.if_icmp .ge 21, 3) := by decide +kernel
theorem dX1_leaning_12 : decode cX1_leaning 12 = .ok (.aload_n 0, 1) := by decide +kernel
theorem dX1_leaning_13 : decode cX1_leaning 13 = .ok (.iload_n 3, 1) := by decide +kernel
theorem dX1_leaning_14 : decode cX1_leaning 14 = .ok (.iload_n 1, 1) := by decide +kernel
theorem dX1_leaning_15 : decode cX1_leaning 15 = .ok (.invokevirtual 51, 3) := by decide +kernel
theorem dX1_leaning_18 : decode cX1_leaning 18 = .ok (.ifCond .eq 6, 3) := by decide +kernel
theorem dX1_leaning_21 : decode cX1_leaning 21 = .ok (.iinc 2 1, 3) := by decide +kernel
theorem dX1_leaning_24 : decode cX1_leaning 24 = .ok (.iinc 3 1, 3) := by decide +kernel
theorem dX1_leaning_27 : decode cX1_leaning 27 = .ok (.goto (-23), 3) := by decide +kernel
theorem dX1_leaning_30 : decode cX1_leaning 30 = .ok (.iload_n 2, 1) := by decide +kernel
theorem dX1_leaning_31 : decode cX1_leaning 31 = .ok (.ireturn, 1) := by decide +kernel
theorem dX1_lowest_0 : decode cX1_lowest 0 = .ok (.iconst 0, 1) := by decide +kernel
theorem dX1_lowest_1 : decode cX1_lowest 1 = .ok (.istore_n 1, 1) := by decide +kernel
theorem dX1_lowest_2 : decode cX1_lowest 2 = .ok (.iconst 0, 1) := by decide +kernel
theorem dX1_lowest_3 : decode cX1_lowest 3 = .ok (.istore_n 2, 1) := by decide +kernel
theorem dX1_lowest_4 : decode cX1_lowest 4 = .ok (.iload_n 2, 1) := by decide +kernel
theorem dX1_lowest_5 : decode cX1_lowest 5 = .ok (.aload_n 0, 1) := by decide +kernel
theorem dX1_lowest_6 : decode cX1_lowest 6 = .ok (.getfield 21, 3) := by decide +kernel
theorem dX1_lowest_9 : decode cX1_lowest 9 = .ok (.if_icmp .ge 42, 3) := by decide +kernel
theorem dX1_lowest_12 : decode cX1_lowest 12 = .ok (.aload_n 0, 1) := by decide +kernel
theorem dX1_lowest_13 : decode cX1_lowest 13 = .ok (.iload_n 2, 1) := by decide +kernel
theorem dX1_lowest_14 : decode cX1_lowest 14 = .ok (.iconst 1, 1) := by decide +kernel
theorem dX1_lowest_15 : decode cX1_lowest 15 = .ok (.isub, 1) := by decide +kernel
theorem dX1_lowest_16 : decode cX1_lowest 16 = .ok (.invokevirtual 29, 3) := by decide +kernel
theorem dX1_lowest_19 : decode cX1_lowest 19 = .ok (.aload_n 0, 1) := by decide +kernel
theorem dX1_lowest_20 : decode cX1_lowest 20 = .ok (.iload_n 2, 1) := by decide +kernel
theorem dX1_lowest_21 : decode cX1_lowest 21 = .ok (.invokevirtual 29, 3) := by decide +kernel
theorem dX1_lowest_24 : decode cX1_lowest 24 = .ok (.if_icmp .gt 21, 3) := by decide +kernel
theorem dX1_lowest_27 : decode cX1_lowest 27 = .ok (.aload_n 0, 1) := by decide +kernel
theorem dX1_lowest_28 : decode cX1_lowest 28 = .ok (.iload_n 2, 1) := by decide +kernel
theorem dX1_lowest_29 : decode cX1_lowest 29 = .ok (.iconst 1, 1) := by decide +kernel
theorem dX1_lowest_30 : decode cX1_lowest 30 = .ok (.iadd, 1) := by decide +kernel
theorem dX1_lowest_31 : decode cX1_lowest 31 = .ok (.invokevirtual 29, 3) := by decide +kernel
theorem dX1_lowest_34 : decode cX1_lowest 34 = .ok (.aload_n 0, 1) := by decide +kernel
theorem dX1_lowest_35 : decode cX1_lowest 35 = .ok (.iload_n 2, 1) := by decide +kernel
theorem dX1_lowest_36 : decode cX1_lowest 36 = .ok (.invokevirtual 29, 3) := by decide +kernel
theorem dX1_lowest_39 : decode cX1_lowest 39 = .ok (.if_icmp .gt 6, 3) := by decide +kernel
theorem dX1_lowest_42 : decode cX1_lowest 42 = .ok (.iinc 1 1, 3) := by decide +kernel
theorem dX1_lowest_45 : decode cX1_lowest 45 = .ok (.iinc 2 1, 3) := by decide +kernel
theorem dX1_lowest_48 : decode cX1_lowest 48 = .ok (.goto (-44), 3) := by decide +kernel
theorem dX1_lowest_51 : decode cX1_lowest 51 = .ok (.iload_n 1, 1) := by decide +kernel
theorem dX1_lowest_52 : decode cX1_lowest 52 = .ok (.ireturn, 1) := by decide +kernel
theorem dX1_cartsUpTo_0 : decode cX1_cartsUpTo 0 = .ok (.iconst 0, 1) := by decide +kernel
theorem dX1_cartsUpTo_1 : decode cX1_cartsUpTo 1 = .ok (.istore_n 3, 1) := by decide +kernel
theorem dX1_cartsUpTo_2 : decode cX1_cartsUpTo 2 = .ok (.iconst 0, 1) := by decide +kernel
theorem dX1_cartsUpTo_3 : decode cX1_cartsUpTo 3 = .ok (.istore 4, 2) := by decide +kernel
theorem dX1_cartsUpTo_5 : decode cX1_cartsUpTo 5 = .ok (.iconst 0, 1) := by decide +kernel
theorem dX1_cartsUpTo_6 : decode cX1_cartsUpTo 6 = .ok (.istore 5, 2) := by decide +kernel
theorem dX1_cartsUpTo_8 : decode cX1_cartsUpTo 8 = .ok (.iload 5, 2) := by decide +kernel
theorem dX1_cartsUpTo_10 : decode cX1_cartsUpTo 10 = .ok (.iload_n 1, 1) := by decide +kernel
theorem dX1_cartsUpTo_11 : decode cX1_cartsUpTo 11 = .ok (.if_icmp .gt 52, 3) := by decide +kernel
theorem dX1_cartsUpTo_14 : decode cX1_cartsUpTo 14 = .ok (.iload 5, 2) := by decide +kernel
theorem dX1_cartsUpTo_16 : decode cX1_cartsUpTo 16 = .ok (.aload_n 0, 1) := by decide +kernel
theorem dX1_cartsUpTo_17 : decode cX1_cartsUpTo 17 = .ok (.getfield 21, 3) := by decide +kernel
theorem dX1_cartsUpTo_20 : decode cX1_cartsUpTo 20 = .ok (.if_icmp .ge 43, 3) := by decide +kernel
theorem dX1_cartsUpTo_23 : decode cX1_cartsUpTo 23 = .ok (.iload_n 3, 1) := by decide +kernel
theorem dX1_cartsUpTo_24 : decode cX1_cartsUpTo 24 = .ok (.ifCond .eq 16, 3) := by decide +kernel
theorem dX1_cartsUpTo_27 : decode cX1_cartsUpTo 27 = .ok (.iload 4, 2) := by decide +kernel
theorem dX1_cartsUpTo_29 : decode cX1_cartsUpTo 29 = .ok (.aload_n 0, 1) := by decide +kernel
theorem dX1_cartsUpTo_30 : decode cX1_cartsUpTo 30 = .ok (.iload 5, 2) := by decide +kernel
theorem dX1_cartsUpTo_32 : decode cX1_cartsUpTo 32 = .ok (.invokevirtual 48, 3) := by decide +kernel
theorem dX1_cartsUpTo_35 : decode cX1_cartsUpTo 35 = .ok (.iadd, 1) := by decide +kernel
theorem dX1_cartsUpTo_36 : decode cX1_cartsUpTo 36 = .ok (.iload_n 2, 1) := by decide +kernel
theorem dX1_cartsUpTo_37 : decode cX1_cartsUpTo 37 = .ok (.if_icmp .le 9, 3) := by decide +kernel
theorem dX1_cartsUpTo_40 : decode cX1_cartsUpTo 40 = .ok (.iinc 3 1, 3) := by decide +kernel
theorem dX1_cartsUpTo_43 : decode cX1_cartsUpTo 43 = .ok (.iconst 0, 1) := by decide +kernel
theorem dX1_cartsUpTo_44 : decode cX1_cartsUpTo 44 = .ok (.istore 4, 2) := by decide +kernel
theorem dX1_cartsUpTo_46 : decode cX1_cartsUpTo 46 = .ok (.iload 4, 2) := by decide +kernel
theorem dX1_cartsUpTo_48 : decode cX1_cartsUpTo 48 = .ok (.aload_n 0, 1) := by decide +kernel
theorem dX1_cartsUpTo_49 : decode cX1_cartsUpTo 49 = .ok (.iload 5, 2) := by decide +kernel
theorem dX1_cartsUpTo_51 : decode cX1_cartsUpTo 51 = .ok (.invokevirtual 48, 3) := by decide +kernel
theorem dX1_cartsUpTo_54 : decode cX1_cartsUpTo 54 = .ok (.iadd, 1) := by decide +kernel
theorem dX1_cartsUpTo_55 : decode cX1_cartsUpTo 55 = .ok (.istore 4, 2) := by decide +kernel
theorem dX1_cartsUpTo_57 : decode cX1_cartsUpTo 57 = .ok (.iinc 5 1, 3) := by decide +kernel
theorem dX1_cartsUpTo_60 : decode cX1_cartsUpTo 60 = .ok (.goto (-52), 3) := by decide +kernel
theorem dX1_cartsUpTo_63 : decode cX1_cartsUpTo 63 = .ok (.iload_n 3, 1) := by decide +kernel
theorem dX1_cartsUpTo_64 : decode cX1_cartsUpTo 64 = .ok (.ireturn, 1) := by decide +kernel
theorem dX1_lighterByParts_0 : decode cX1_lighterByParts 0 = .ok (.iconst 0, 1) := by decide +kernel
theorem dX1_lighterByParts_1 : decode cX1_lighterByParts 1 = .ok (.istore_n 2, 1) := by decide +kernel
theorem dX1_lighterByParts_2 : decode cX1_lighterByParts 2 = .ok (.iconst 0, 1) := by decide +kernel
theorem dX1_lighterByParts_3 : decode cX1_lighterByParts 3 = .ok (.istore_n 3, 1) := by decide +kernel
theorem dX1_lighterByParts_4 : decode cX1_lighterByParts 4 = .ok (.aload_n 0, 1) := by decide +kernel
theorem dX1_lighterByParts_5 : decode cX1_lighterByParts 5 = .ok (.getfield 21, 3) := by decide +kernel
theorem dX1_lighterByParts_8 : decode cX1_lighterByParts 8 = .ok (.iconst 1, 1) := by decide +kernel
theorem dX1_lighterByParts_9 : decode cX1_lighterByParts 9 = .ok (.isub, 1) := by decide +kernel
theorem dX1_lighterByParts_10 : decode cX1_lighterByParts 10 = .ok (.istore 4, 2) := by decide +kernel
theorem dX1_lighterByParts_12 : decode cX1_lighterByParts 12 = .ok (.iconst 0, 1) := by decide +kernel
theorem dX1_lighterByParts_13 : decode cX1_lighterByParts 13 = .ok (.istore 5, 2) := by decide +kernel
theorem dX1_lighterByParts_15 : decode cX1_lighterByParts 15 = .ok (.iload 5, 2) := by decide +kernel
theorem dX1_lighterByParts_17 : decode cX1_lighterByParts 17 = .ok (.bipush 30, 2) := by decide +kernel
theorem dX1_lighterByParts_19 : decode cX1_lighterByParts 19 = .ok (.if_icmp .ge 57, 3) := by decide +kernel
theorem dX1_lighterByParts_22 : decode cX1_lighterByParts 22 = .ok (.iload_n 3, 1) := by decide +kernel
theorem dX1_lighterByParts_23 : decode cX1_lighterByParts 23 = .ok (.iload 4, 2) := by decide +kernel
theorem dX1_lighterByParts_25 : decode cX1_lighterByParts 25 = .ok (.if_icmp .gt 51, 3) := by decide +kernel
theorem dX1_lighterByParts_28 : decode cX1_lighterByParts 28 = .ok (.aload_n 0, 1) := by decide +kernel
theorem dX1_lighterByParts_29 : decode cX1_lighterByParts 29 = .ok (.iload_n 3, 1) := by decide +kernel
theorem dX1_lighterByParts_30 : decode cX1_lighterByParts 30 = .ok (.iload 4, 2) := by decide +kernel
theorem dX1_lighterByParts_32 : decode cX1_lighterByParts 32 = .ok (.invokevirtual 55, 3) := by decide +kernel
theorem dX1_lighterByParts_35 : decode cX1_lighterByParts 35 = .ok (.istore 6, 2) := by decide +kernel
theorem dX1_lighterByParts_37 : decode cX1_lighterByParts 37 = .ok (.aload_n 0, 1) := by decide +kernel
theorem dX1_lighterByParts_38 : decode cX1_lighterByParts 38 = .ok (.iload 6, 2) := by decide +kernel
theorem dX1_lighterByParts_40 : decode cX1_lighterByParts 40 = .ok (.invokevirtual 25, 3) := by decide +kernel
theorem dX1_lighterByParts_43 : decode cX1_lighterByParts 43 = .ok (.iload_n 1, 1) := by decide +kernel
theorem dX1_lighterByParts_44 : decode cX1_lighterByParts 44 = .ok (.if_icmp .ge 20, 3) := by decide +kernel
theorem dX1_lighterByParts_47 : decode cX1_lighterByParts 47 = .ok (.iload_n 2, 1) := by decide +kernel
theorem dX1_lighterByParts_48 : decode cX1_lighterByParts 48 = .ok (.iload 6, 2) := by decide +kernel
theorem dX1_lighterByParts_50 : decode cX1_lighterByParts 50 = .ok (.iload_n 3, 1) := by decide +kernel
theorem dX1_lighterByParts_51 : decode cX1_lighterByParts 51 = .ok (.isub, 1) := by decide +kernel
theorem dX1_lighterByParts_52 : decode cX1_lighterByParts 52 = .ok (.iconst 1, 1) := by decide +kernel
theorem dX1_lighterByParts_53 : decode cX1_lighterByParts 53 = .ok (.iadd, 1) := by decide +kernel
theorem dX1_lighterByParts_54 : decode cX1_lighterByParts 54 = .ok (.iadd, 1) := by decide +kernel
theorem dX1_lighterByParts_55 : decode cX1_lighterByParts 55 = .ok (.istore_n 2, 1) := by decide +kernel
theorem dX1_lighterByParts_56 : decode cX1_lighterByParts 56 = .ok (.iload 6, 2) := by decide +kernel
theorem dX1_lighterByParts_58 : decode cX1_lighterByParts 58 = .ok (.iconst 1, 1) := by decide +kernel
theorem dX1_lighterByParts_59 : decode cX1_lighterByParts 59 = .ok (.iadd, 1) := by decide +kernel
theorem dX1_lighterByParts_60 : decode cX1_lighterByParts 60 = .ok (.istore_n 3, 1) := by decide +kernel
theorem dX1_lighterByParts_61 : decode cX1_lighterByParts 61 = .ok (.goto 9, 3) := by decide +kernel
theorem dX1_lighterByParts_64 : decode cX1_lighterByParts 64 = .ok (.iload 6, 2) := by decide +kernel
theorem dX1_lighterByParts_66 : decode cX1_lighterByParts 66 = .ok (.iconst 1, 1) := by decide +kernel
theorem dX1_lighterByParts_67 : decode cX1_lighterByParts 67 = .ok (.isub, 1) := by decide +kernel
theorem dX1_lighterByParts_68 : decode cX1_lighterByParts 68 = .ok (.istore 4, 2) := by decide +kernel
theorem dX1_lighterByParts_70 : decode cX1_lighterByParts 70 = .ok (.iinc 5 1, 3) := by decide +kernel
theorem dX1_lighterByParts_73 : decode cX1_lighterByParts 73 = .ok (.goto (-58), 3) := by decide +kernel
theorem dX1_lighterByParts_76 : decode cX1_lighterByParts 76 = .ok (.iload_n 2, 1) := by decide +kernel
theorem dX1_lighterByParts_77 : decode cX1_lighterByParts 77 = .ok (.ireturn, 1) := by decide +kernel
theorem dX1_lighterOneByOne_0 : decode cX1_lighterOneByOne 0 = .ok (.iconst 0, 1) := by decide +kernel
theorem dX1_lighterOneByOne_1 : decode cX1_lighterOneByOne 1 = .ok (.istore_n 2, 1) := by decide +kernel
theorem dX1_lighterOneByOne_2 : decode cX1_lighterOneByOne 2 = .ok (.iconst 0, 1) := by decide +kernel
theorem dX1_lighterOneByOne_3 : decode cX1_lighterOneByOne 3 = .ok (.istore_n 3, 1) := by decide +kernel
theorem dX1_lighterOneByOne_4 : decode cX1_lighterOneByOne 4 = .ok (.iload_n 3, 1) := by decide +kernel
theorem dX1_lighterOneByOne_5 : decode cX1_lighterOneByOne 5 = .ok (.aload_n 0, 1) := by decide +kernel
theorem dX1_lighterOneByOne_6 : decode cX1_lighterOneByOne 6 = .ok (.getfield 21, 3) := by decide +kernel
theorem dX1_lighterOneByOne_9 : decode cX1_lighterOneByOne 9 = .ok (.if_icmp .ge 21, 3) := by decide +kernel
theorem dX1_lighterOneByOne_12 : decode cX1_lighterOneByOne 12 = .ok (.aload_n 0, 1) := by decide +kernel
theorem dX1_lighterOneByOne_13 : decode cX1_lighterOneByOne 13 = .ok (.iload_n 3, 1) := by decide +kernel
theorem dX1_lighterOneByOne_14 : decode cX1_lighterOneByOne 14 = .ok (.invokevirtual 25, 3) := by decide +kernel
theorem dX1_lighterOneByOne_17 : decode cX1_lighterOneByOne 17 = .ok (.iload_n 1, 1) := by decide +kernel
theorem dX1_lighterOneByOne_18 : decode cX1_lighterOneByOne 18 = .ok (.if_icmp .ge 6, 3) := by decide +kernel
theorem dX1_lighterOneByOne_21 : decode cX1_lighterOneByOne 21 = .ok (.iinc 2 1, 3) := by decide +kernel
theorem dX1_lighterOneByOne_24 : decode cX1_lighterOneByOne 24 = .ok (.iinc 3 1, 3) := by decide +kernel
theorem dX1_lighterOneByOne_27 : decode cX1_lighterOneByOne 27 = .ok (.goto (-23), 3) := by decide +kernel
theorem dX1_lighterOneByOne_30 : decode cX1_lighterOneByOne 30 = .ok (.iload_n 2, 1) := by decide +kernel
theorem dX1_lighterOneByOne_31 : decode cX1_lighterOneByOne 31 = .ok (.ireturn, 1) := by decide +kernel
theorem dX1_loadsByParts_0 : decode cX1_loadsByParts 0 = .ok (.iload_n 1, 1) := by decide +kernel
theorem dX1_loadsByParts_1 : decode cX1_loadsByParts 1 = .ok (.iload_n 2, 1) := by decide +kernel
theorem dX1_loadsByParts_2 : decode cX1_loadsByParts 2 = .ok (.if_icmp .le 7, 3) := by decide +kernel
theorem dX1_loadsByParts_5 : decode cX1_loadsByParts 5 = .ok (.iconst 0, 1) := by decide +kernel
theorem dX1_loadsByParts_6 : decode cX1_loadsByParts 6 = .ok (.goto 18, 3) := by decide +kernel
theorem dX1_loadsByParts_9 : decode cX1_loadsByParts 9 = .ok (.aload_n 0, 1) := by decide +kernel
theorem dX1_loadsByParts_10 : decode cX1_loadsByParts 10 = .ok (.iload_n 2, 1) := by decide +kernel
theorem dX1_loadsByParts_11 : decode cX1_loadsByParts 11 = .ok (.i2l, 1) := by decide +kernel
theorem dX1_loadsByParts_12 : decode cX1_loadsByParts 12 = .ok (.lconst 1, 1) := by decide +kernel
theorem dX1_loadsByParts_13 : decode cX1_loadsByParts 13 = .ok (.ladd, 1) := by decide +kernel
theorem dX1_loadsByParts_14 : decode cX1_loadsByParts 14 = .ok (.invokevirtual 58, 3) := by decide +kernel
theorem dX1_loadsByParts_17 : decode cX1_loadsByParts 17 = .ok (.aload_n 0, 1) := by decide +kernel
theorem dX1_loadsByParts_18 : decode cX1_loadsByParts 18 = .ok (.iload_n 1, 1) := by decide +kernel
theorem dX1_loadsByParts_19 : decode cX1_loadsByParts 19 = .ok (.i2l, 1) := by decide +kernel
theorem dX1_loadsByParts_20 : decode cX1_loadsByParts 20 = .ok (.invokevirtual 58, 3) := by decide +kernel
theorem dX1_loadsByParts_23 : decode cX1_loadsByParts 23 = .ok (.isub, 1) := by decide +kernel
theorem dX1_loadsByParts_24 : decode cX1_loadsByParts 24 = .ok (.ireturn, 1) := by decide +kernel
theorem dX1_loadsOfLighter_0 : decode cX1_loadsOfLighter 0 = .ok (.iconst 0, 1) := by decide +kernel
theorem dX1_loadsOfLighter_1 : decode cX1_loadsOfLighter 1 = .ok (.istore_n 3, 1) := by decide +kernel
theorem dX1_loadsOfLighter_2 : decode cX1_loadsOfLighter 2 = .ok (.iconst 0, 1) := by decide +kernel
theorem dX1_loadsOfLighter_3 : decode cX1_loadsOfLighter 3 = .ok (.istore 4, 2) := by decide +kernel
theorem dX1_loadsOfLighter_5 : decode cX1_loadsOfLighter 5 = .ok (.aload_n 0, 1) := by decide +kernel
theorem dX1_loadsOfLighter_6 : decode cX1_loadsOfLighter 6 = .ok (.getfield 21, 3) := by decide +kernel
theorem dX1_loadsOfLighter_9 : decode cX1_loadsOfLighter 9 = .ok (.iconst 1, 1) := by decide +kernel
theorem dX1_loadsOfLighter_10 : decode cX1_loadsOfLighter 10 = .ok (.isub, 1) := by decide +kernel
theorem dX1_loadsOfLighter_11 : decode cX1_loadsOfLighter 11 = .ok (.istore 5, 2) := by decide +kernel
theorem dX1_loadsOfLighter_13 : decode cX1_loadsOfLighter 13 = .ok (.iconst 0, 1) := by decide +kernel
theorem dX1_loadsOfLighter_14 : decode cX1_loadsOfLighter 14 = .ok (.istore 6, 2) := by decide +kernel
theorem dX1_loadsOfLighter_16 : decode cX1_loadsOfLighter 16 = .ok (.iload 6, 2) := by decide +kernel
theorem dX1_loadsOfLighter_18 : decode cX1_loadsOfLighter 18 = .ok (.bipush 30, 2) := by decide +kernel
theorem dX1_loadsOfLighter_20 : decode cX1_loadsOfLighter 20 = .ok (.if_icmp .ge 64, 3) := by decide +kernel
theorem dX1_loadsOfLighter_23 : decode cX1_loadsOfLighter 23 = .ok (.iload 4, 2) := by decide +kernel
theorem dX1_loadsOfLighter_25 : decode cX1_loadsOfLighter 25 = .ok (.iload 5, 2) := by decide +kernel
theorem dX1_loadsOfLighter_27 : decode cX1_loadsOfLighter 27 = .ok (.if_icmp .gt 57, 3) := by decide +kernel
theorem dX1_loadsOfLighter_30 : decode cX1_loadsOfLighter 30 = .ok (.aload_n 0, 1) := by decide +kernel
theorem dX1_loadsOfLighter_31 : decode cX1_loadsOfLighter 31 = .ok (.iload 4, 2) := by decide +kernel
theorem dX1_loadsOfLighter_33 : decode cX1_loadsOfLighter 33 = .ok (.iload 5, 2) := by decide +kernel
theorem dX1_loadsOfLighter_35 : decode cX1_loadsOfLighter 35 = .ok (.invokevirtual 55, 3) := by decide +kernel
theorem dX1_loadsOfLighter_38 : decode cX1_loadsOfLighter 38 = .ok (.istore 7, 2) := by decide +kernel
theorem dX1_loadsOfLighter_40 : decode cX1_loadsOfLighter 40 = .ok (.aload_n 0, 1) := by decide +kernel
theorem dX1_loadsOfLighter_41 : decode cX1_loadsOfLighter 41 = .ok (.iload 7, 2) := by decide +kernel
theorem dX1_loadsOfLighter_43 : decode cX1_loadsOfLighter 43 = .ok (.invokevirtual 25, 3) := by decide +kernel
theorem dX1_loadsOfLighter_46 : decode cX1_loadsOfLighter 46 = .ok (.i2l, 1) := by decide +kernel
theorem dX1_loadsOfLighter_47 : decode cX1_loadsOfLighter 47 = .ok (.lload_n 1, 1) := by decide +kernel
theorem dX1_loadsOfLighter_48 : decode cX1_loadsOfLighter 48 = .ok (.lcmp, 1) := by decide +kernel
theorem dX1_loadsOfLighter_49 : decode cX1_loadsOfLighter 49 = .ok (.ifCond .ge 23, 3) := by decide +kernel
theorem dX1_loadsOfLighter_52 : decode cX1_loadsOfLighter 52 = .ok (.iload_n 3, 1) := by decide +kernel
theorem dX1_loadsOfLighter_53 : decode cX1_loadsOfLighter 53 = .ok (.aload_n 0, 1) := by decide +kernel
theorem dX1_loadsOfLighter_54 : decode cX1_loadsOfLighter 54 = .ok (.iload 4, 2) := by decide +kernel
theorem dX1_loadsOfLighter_56 : decode cX1_loadsOfLighter 56 = .ok (.iload 7, 2) := by decide +kernel
theorem dX1_loadsOfLighter_58 : decode cX1_loadsOfLighter 58 = .ok (.invokevirtual 62, 3) := by decide +kernel
theorem dX1_loadsOfLighter_61 : decode cX1_loadsOfLighter 61 = .ok (.iadd, 1) := by decide +kernel
theorem dX1_loadsOfLighter_62 : decode cX1_loadsOfLighter 62 = .ok (.istore_n 3, 1) := by decide +kernel
theorem dX1_loadsOfLighter_63 : decode cX1_loadsOfLighter 63 = .ok (.iload 7, 2) := by decide +kernel
theorem dX1_loadsOfLighter_65 : decode cX1_loadsOfLighter 65 = .ok (.iconst 1, 1) := by decide +kernel
theorem dX1_loadsOfLighter_66 : decode cX1_loadsOfLighter 66 = .ok (.iadd, 1) := by decide +kernel
theorem dX1_loadsOfLighter_67 : decode cX1_loadsOfLighter 67 = .ok (.istore 4, 2) := by decide +kernel
theorem dX1_loadsOfLighter_69 : decode cX1_loadsOfLighter 69 = .ok (.goto 9, 3) := by decide +kernel
theorem dX1_loadsOfLighter_72 : decode cX1_loadsOfLighter 72 = .ok (.iload 7, 2) := by decide +kernel
theorem dX1_loadsOfLighter_74 : decode cX1_loadsOfLighter 74 = .ok (.iconst 1, 1) := by decide +kernel
theorem dX1_loadsOfLighter_75 : decode cX1_loadsOfLighter 75 = .ok (.isub, 1) := by decide +kernel
theorem dX1_loadsOfLighter_76 : decode cX1_loadsOfLighter 76 = .ok (.istore 5, 2) := by decide +kernel
theorem dX1_loadsOfLighter_78 : decode cX1_loadsOfLighter 78 = .ok (.iinc 6 1, 3) := by decide +kernel
theorem dX1_loadsOfLighter_81 : decode cX1_loadsOfLighter 81 = .ok (.goto (-65), 3) := by decide +kernel
theorem dX1_loadsOfLighter_84 : decode cX1_loadsOfLighter 84 = .ok (.iload_n 3, 1) := by decide +kernel
theorem dX1_loadsOfLighter_85 : decode cX1_loadsOfLighter 85 = .ok (.ireturn, 1) := by decide +kernel
theorem dX1_loadsOneByOne_0 : decode cX1_loadsOneByOne 0 = .ok (.iconst 0, 1) := by decide +kernel
theorem dX1_loadsOneByOne_1 : decode cX1_loadsOneByOne 1 = .ok (.istore_n 3, 1) := by decide +kernel
theorem dX1_loadsOneByOne_2 : decode cX1_loadsOneByOne 2 = .ok (.iconst 0, 1) := by decide +kernel
theorem dX1_loadsOneByOne_3 : decode cX1_loadsOneByOne 3 = .ok (.istore 4, 2) := by decide +kernel
theorem dX1_loadsOneByOne_5 : decode cX1_loadsOneByOne 5 = .ok (.iload 4, 2) := by decide +kernel
theorem dX1_loadsOneByOne_7 : decode cX1_loadsOneByOne 7 = .ok (.aload_n 0, 1) := by decide +kernel
theorem dX1_loadsOneByOne_8 : decode cX1_loadsOneByOne 8 = .ok (.getfield 21, 3) := by decide +kernel
theorem dX1_loadsOneByOne_11 : decode cX1_loadsOneByOne 11 = .ok (.if_icmp .ge 38, 3) := by decide +kernel
theorem dX1_loadsOneByOne_14 : decode cX1_loadsOneByOne 14 = .ok (.aload_n 0, 1) := by decide +kernel
theorem dX1_loadsOneByOne_15 : decode cX1_loadsOneByOne 15 = .ok (.iload 4, 2) := by decide +kernel
theorem dX1_loadsOneByOne_17 : decode cX1_loadsOneByOne 17 = .ok (.invokevirtual 25, 3) := by decide +kernel
theorem dX1_loadsOneByOne_20 : decode cX1_loadsOneByOne 20 = .ok (.iload_n 1, 1) := by decide +kernel
theorem dX1_loadsOneByOne_21 : decode cX1_loadsOneByOne 21 = .ok (.if_icmp .lt 22, 3) := by decide +kernel
theorem dX1_loadsOneByOne_24 : decode cX1_loadsOneByOne 24 = .ok (.aload_n 0, 1) := by decide +kernel
theorem dX1_loadsOneByOne_25 : decode cX1_loadsOneByOne 25 = .ok (.iload 4, 2) := by decide +kernel
theorem dX1_loadsOneByOne_27 : decode cX1_loadsOneByOne 27 = .ok (.invokevirtual 25, 3) := by decide +kernel
theorem dX1_loadsOneByOne_30 : decode cX1_loadsOneByOne 30 = .ok (.iload_n 2, 1) := by decide +kernel
theorem dX1_loadsOneByOne_31 : decode cX1_loadsOneByOne 31 = .ok (.if_icmp .gt 12, 3) := by decide +kernel
theorem dX1_loadsOneByOne_34 : decode cX1_loadsOneByOne 34 = .ok (.iload_n 3, 1) := by decide +kernel
theorem dX1_loadsOneByOne_35 : decode cX1_loadsOneByOne 35 = .ok (.aload_n 0, 1) := by decide +kernel
theorem dX1_loadsOneByOne_36 : decode cX1_loadsOneByOne 36 = .ok (.iload 4, 2) := by decide +kernel
theorem dX1_loadsOneByOne_38 : decode cX1_loadsOneByOne 38 = .ok (.invokevirtual 48, 3) := by decide +kernel
theorem dX1_loadsOneByOne_41 : decode cX1_loadsOneByOne 41 = .ok (.iadd, 1) := by decide +kernel
theorem dX1_loadsOneByOne_42 : decode cX1_loadsOneByOne 42 = .ok (.istore_n 3, 1) := by decide +kernel
theorem dX1_loadsOneByOne_43 : decode cX1_loadsOneByOne 43 = .ok (.iinc 4 1, 3) := by decide +kernel
theorem dX1_loadsOneByOne_46 : decode cX1_loadsOneByOne 46 = .ok (.goto (-41), 3) := by decide +kernel
theorem dX1_loadsOneByOne_49 : decode cX1_loadsOneByOne 49 = .ok (.iload_n 3, 1) := by decide +kernel
theorem dX1_loadsOneByOne_50 : decode cX1_loadsOneByOne 50 = .ok (.ireturn, 1) := by decide +kernel
theorem dX1_isInOrder_0 : decode cX1_isInOrder 0 = .ok (.iconst 1, 1) := by decide +kernel
theorem dX1_isInOrder_1 : decode cX1_isInOrder 1 = .ok (.istore_n 1, 1) := by decide +kernel
theorem dX1_isInOrder_2 : decode cX1_isInOrder 2 = .ok (.iload_n 1, 1) := by decide +kernel
theorem dX1_isInOrder_3 : decode cX1_isInOrder 3 = .ok (.aload_n 0, 1) := by decide +kernel
theorem dX1_isInOrder_4 : decode cX1_isInOrder 4 = .ok (.getfield 21, 3) := by decide +kernel
theorem dX1_isInOrder_7 : decode cX1_isInOrder 7 = .ok (.if_icmp .ge 26, 3) := by decide +kernel
theorem dX1_isInOrder_10 : decode cX1_isInOrder 10 = .ok (.aload_n 0, 1) := by decide +kernel
theorem dX1_isInOrder_11 : decode cX1_isInOrder 11 = .ok (.iload_n 1, 1) := by decide +kernel
theorem dX1_isInOrder_12 : decode cX1_isInOrder 12 = .ok (.iconst 1, 1) := by decide +kernel
theorem dX1_isInOrder_13 : decode cX1_isInOrder 13 = .ok (.isub, 1) := by decide +kernel
theorem dX1_isInOrder_14 : decode cX1_isInOrder 14 = .ok (.invokevirtual 25, 3) := by decide +kernel
theorem dX1_isInOrder_17 : decode cX1_isInOrder 17 = .ok (.aload_n 0, 1) := by decide +kernel
theorem dX1_isInOrder_18 : decode cX1_isInOrder 18 = .ok (.iload_n 1, 1) := by decide +kernel
theorem dX1_isInOrder_19 : decode cX1_isInOrder 19 = .ok (.invokevirtual 25, 3) := by decide +kernel
theorem dX1_isInOrder_22 : decode cX1_isInOrder 22 = .ok (.if_icmp .lt 5, 3) := by decide +kernel
theorem dX1_isInOrder_25 : decode cX1_isInOrder 25 = .ok (.iconst 0, 1) := by decide +kernel
theorem dX1_isInOrder_26 : decode cX1_isInOrder 26 = .ok (.ireturn, 1) := by decide +kernel
theorem dX1_isInOrder_27 : decode cX1_isInOrder 27 = .ok (.iinc 1 1, 3) := by decide +kernel
theorem dX1_isInOrder_30 : decode cX1_isInOrder 30 = .ok (.goto (-28), 3) := by decide +kernel
theorem dX1_isInOrder_33 : decode cX1_isInOrder 33 = .ok (.iconst 1, 1) := by decide +kernel
theorem dX1_isInOrder_34 : decode cX1_isInOrder 34 = .ok (.ireturn, 1) := by decide +kernel
theorem dX1_lay_0 : decode cX1_lay 0 = .ok (.aload_n 0, 1) := by decide +kernel
theorem dX1_lay_1 : decode cX1_lay 1 = .ok (.getfield 21, 3) := by decide +kernel
theorem dX1_lay_4 : decode cX1_lay 4 = .ok (.ifCond .lt 12, 3) := by decide +kernel
theorem dX1_lay_7 : decode cX1_lay 7 = .ok (.aload_n 0, 1) := by decide +kernel
theorem dX1_lay_8 : decode cX1_lay 8 = .ok (.getfield 21, 3) := by decide +kernel
theorem dX1_lay_11 : decode cX1_lay 11 = .ok (.bipush 30, 2) := by decide +kernel
theorem dX1_lay_13 : decode cX1_lay 13 = .ok (.if_icmp .lt 5, 3) := by decide +kernel
theorem dX1_lay_16 : decode cX1_lay 16 = .ok (.iconst (-1), 1) := by decide +kernel
theorem dX1_lay_17 : decode cX1_lay 17 = .ok (.ireturn, 1) := by decide +kernel
theorem dX1_lay_18 : decode cX1_lay 18 = .ok (.aload_n 0, 1) := by decide +kernel
theorem dX1_lay_19 : decode cX1_lay 19 = .ok (.iload_n 1, 1) := by decide +kernel
theorem dX1_lay_20 : decode cX1_lay 20 = .ok (.invokevirtual 65, 3) := by decide +kernel
theorem dX1_lay_23 : decode cX1_lay 23 = .ok (.istore_n 3, 1) := by decide +kernel
theorem dX1_lay_24 : decode cX1_lay 24 = .ok (.aload_n 0, 1) := by decide +kernel
theorem dX1_lay_25 : decode cX1_lay 25 = .ok (.iload_n 3, 1) := by decide +kernel
theorem dX1_lay_26 : decode cX1_lay 26 = .ok (.iconst 1, 1) := by decide +kernel
theorem dX1_lay_27 : decode cX1_lay 27 = .ok (.isub, 1) := by decide +kernel
theorem dX1_lay_28 : decode cX1_lay 28 = .ok (.invokevirtual 29, 3) := by decide +kernel
theorem dX1_lay_31 : decode cX1_lay 31 = .ok (.aload_n 0, 1) := by decide +kernel
theorem dX1_lay_32 : decode cX1_lay 32 = .ok (.iload_n 3, 1) := by decide +kernel
theorem dX1_lay_33 : decode cX1_lay 33 = .ok (.invokevirtual 29, 3) := by decide +kernel
theorem dX1_lay_36 : decode cX1_lay 36 = .ok (.invokestatic 32, 3) := by decide +kernel
theorem dX1_lay_39 : decode cX1_lay 39 = .ok (.iconst 1, 1) := by decide +kernel
theorem dX1_lay_40 : decode cX1_lay 40 = .ok (.iadd, 1) := by decide +kernel
theorem dX1_lay_41 : decode cX1_lay 41 = .ok (.istore 4, 2) := by decide +kernel
theorem dX1_lay_43 : decode cX1_lay 43 = .ok (.aload_n 0, 1) := by decide +kernel
theorem dX1_lay_44 : decode cX1_lay 44 = .ok (.getfield 21, 3) := by decide +kernel
theorem dX1_lay_47 : decode cX1_lay 47 = .ok (.istore 5, 2) := by decide +kernel
theorem dX1_lay_49 : decode cX1_lay 49 = .ok (.iload 5, 2) := by decide +kernel
theorem dX1_lay_51 : decode cX1_lay 51 = .ok (.iload_n 3, 1) := by decide +kernel
theorem dX1_lay_52 : decode cX1_lay 52 = .ok (.if_icmp .le 39, 3) := by decide +kernel
theorem dX1_lay_55 : decode cX1_lay 55 = .ok (.aload_n 0, 1) := by decide +kernel
theorem dX1_lay_56 : decode cX1_lay 56 = .ok (.iload 5, 2) := by decide +kernel
theorem dX1_lay_58 : decode cX1_lay 58 = .ok (.aload_n 0, 1) := by decide +kernel
theorem dX1_lay_59 : decode cX1_lay 59 = .ok (.iload 5, 2) := by decide +kernel
theorem dX1_lay_61 : decode cX1_lay 61 = .ok (.iconst 1, 1) := by decide +kernel
theorem dX1_lay_62 : decode cX1_lay 62 = .ok (.isub, 1) := by decide +kernel
theorem dX1_lay_63 : decode cX1_lay 63 = .ok (.invokevirtual 25, 3) := by decide +kernel
theorem dX1_lay_66 : decode cX1_lay 66 = .ok (.aload_n 0, 1) := by decide +kernel
theorem dX1_lay_67 : decode cX1_lay 67 = .ok (.iload 5, 2) := by decide +kernel
theorem dX1_lay_69 : decode cX1_lay 69 = .ok (.iconst 1, 1) := by decide +kernel
theorem dX1_lay_70 : decode cX1_lay 70 = .ok (.isub, 1) := by decide +kernel
theorem dX1_lay_71 : decode cX1_lay 71 = .ok (.invokevirtual 48, 3) := by decide +kernel
theorem dX1_lay_74 : decode cX1_lay 74 = .ok (.aload_n 0, 1) := by decide +kernel
theorem dX1_lay_75 : decode cX1_lay 75 = .ok (.iload 5, 2) := by decide +kernel
theorem dX1_lay_77 : decode cX1_lay 77 = .ok (.iconst 1, 1) := by decide +kernel
theorem dX1_lay_78 : decode cX1_lay 78 = .ok (.isub, 1) := by decide +kernel
theorem dX1_lay_79 : decode cX1_lay 79 = .ok (.invokevirtual 29, 3) := by decide +kernel
theorem dX1_lay_82 : decode cX1_lay 82 = .ok (.invokevirtual 68, 3) := by decide +kernel
theorem dX1_lay_85 : decode cX1_lay 85 = .ok (.iinc 5 (-1), 3) := by decide +kernel
theorem dX1_lay_88 : decode cX1_lay 88 = .ok (.goto (-39), 3) := by decide +kernel
theorem dX1_lay_91 : decode cX1_lay 91 = .ok (.aload_n 0, 1) := by decide +kernel
theorem dX1_lay_92 : decode cX1_lay 92 = .ok (.iload_n 3, 1) := by decide +kernel
theorem dX1_lay_93 : decode cX1_lay 93 = .ok (.iload_n 1, 1) := by decide +kernel
theorem dX1_lay_94 : decode cX1_lay 94 = .ok (.iload_n 2, 1) := by decide +kernel
theorem dX1_lay_95 : decode cX1_lay 95 = .ok (.iload 4, 2) := by decide +kernel
theorem dX1_lay_97 : decode cX1_lay 97 = .ok (.invokevirtual 68, 3) := by decide +kernel
theorem dX1_lay_100 : decode cX1_lay 100 = .ok (.aload_n 0, 1) := by decide +kernel
theorem dX1_lay_101 : decode cX1_lay 101 = .ok (.dup, 1) := by decide +kernel
theorem dX1_lay_102 : decode cX1_lay 102 = .ok (.getfield 21, 3) := by decide +kernel
theorem dX1_lay_105 : decode cX1_lay 105 = .ok (.iconst 1, 1) := by decide +kernel
theorem dX1_lay_106 : decode cX1_lay 106 = .ok (.iadd, 1) := by decide +kernel
theorem dX1_lay_107 : decode cX1_lay 107 = .ok (.putfield 21, 3) := by decide +kernel
theorem dX1_lay_110 : decode cX1_lay 110 = .ok (.iload_n 3, 1) := by decide +kernel
theorem dX1_lay_111 : decode cX1_lay 111 = .ok (.ireturn, 1) := by decide +kernel
theorem dX1_lift_0 : decode cX1_lift 0 = .ok (.aload_n 0, 1) := by decide +kernel
theorem dX1_lift_1 : decode cX1_lift 1 = .ok (.iload_n 1, 1) := by decide +kernel
theorem dX1_lift_2 : decode cX1_lift 2 = .ok (.invokevirtual 44, 3) := by decide +kernel
theorem dX1_lift_5 : decode cX1_lift 5 = .ok (.ifCond .ne 4, 3) := by decide +kernel
theorem dX1_lift_8 : decode cX1_lift 8 = .ok (.return_, 1) := by decide +kernel
theorem dX1_lift_9 : decode cX1_lift 9 = .ok (.aload_n 0, 1) := by decide +kernel
theorem dX1_lift_10 : decode cX1_lift 10 = .ok (.iload_n 1, 1) := by decide +kernel
theorem dX1_lift_11 : decode cX1_lift 11 = .ok (.invokevirtual 38, 3) := by decide +kernel
theorem dX1_lift_14 : decode cX1_lift 14 = .ok (.istore_n 2, 1) := by decide +kernel
theorem dX1_lift_15 : decode cX1_lift 15 = .ok (.aload_n 0, 1) := by decide +kernel
theorem dX1_lift_16 : decode cX1_lift 16 = .ok (.iload_n 1, 1) := by decide +kernel
theorem dX1_lift_17 : decode cX1_lift 17 = .ok (.invokevirtual 41, 3) := by decide +kernel
theorem dX1_lift_20 : decode cX1_lift 20 = .ok (.istore_n 3, 1) := by decide +kernel
theorem dX1_lift_21 : decode cX1_lift 21 = .ok (.iload_n 2, 1) := by decide +kernel
theorem dX1_lift_22 : decode cX1_lift 22 = .ok (.iload_n 1, 1) := by decide +kernel
theorem dX1_lift_23 : decode cX1_lift 23 = .ok (.if_icmp .ge 41, 3) := by decide +kernel
theorem dX1_lift_26 : decode cX1_lift 26 = .ok (.iload_n 1, 1) := by decide +kernel
theorem dX1_lift_27 : decode cX1_lift 27 = .ok (.iload_n 3, 1) := by decide +kernel
theorem dX1_lift_28 : decode cX1_lift 28 = .ok (.if_icmp .ge 36, 3) := by decide +kernel
theorem dX1_lift_31 : decode cX1_lift 31 = .ok (.iload_n 1, 1) := by decide +kernel
theorem dX1_lift_32 : decode cX1_lift 32 = .ok (.iconst 1, 1) := by decide +kernel
theorem dX1_lift_33 : decode cX1_lift 33 = .ok (.iadd, 1) := by decide +kernel
theorem dX1_lift_34 : decode cX1_lift 34 = .ok (.istore 4, 2) := by decide +kernel
theorem dX1_lift_36 : decode cX1_lift 36 = .ok (.aload_n 0, 1) := by decide +kernel
theorem dX1_lift_37 : decode cX1_lift 37 = .ok (.iload 4, 2) := by decide +kernel
theorem dX1_lift_39 : decode cX1_lift 39 = .ok (.iconst 1, 1) := by decide +kernel
theorem dX1_lift_40 : decode cX1_lift 40 = .ok (.iadd, 1) := by decide +kernel
theorem dX1_lift_41 : decode cX1_lift 41 = .ok (.aload_n 0, 1) := by decide +kernel
theorem dX1_lift_42 : decode cX1_lift 42 = .ok (.iload 4, 2) := by decide +kernel
theorem dX1_lift_44 : decode cX1_lift 44 = .ok (.invokevirtual 41, 3) := by decide +kernel
theorem dX1_lift_47 : decode cX1_lift 47 = .ok (.invokevirtual 72, 3) := by decide +kernel
theorem dX1_lift_50 : decode cX1_lift 50 = .ok (.aload_n 0, 1) := by decide +kernel
theorem dX1_lift_51 : decode cX1_lift 51 = .ok (.iload 4, 2) := by decide +kernel
theorem dX1_lift_53 : decode cX1_lift 53 = .ok (.aload_n 0, 1) := by decide +kernel
theorem dX1_lift_54 : decode cX1_lift 54 = .ok (.iload_n 1, 1) := by decide +kernel
theorem dX1_lift_55 : decode cX1_lift 55 = .ok (.invokevirtual 29, 3) := by decide +kernel
theorem dX1_lift_58 : decode cX1_lift 58 = .ok (.invokevirtual 76, 3) := by decide +kernel
theorem dX1_lift_61 : decode cX1_lift 61 = .ok (.goto 9, 3) := by decide +kernel
theorem dX1_lift_64 : decode cX1_lift 64 = .ok (.aload_n 0, 1) := by decide +kernel
theorem dX1_lift_65 : decode cX1_lift 65 = .ok (.iload_n 2, 1) := by decide +kernel
theorem dX1_lift_66 : decode cX1_lift 66 = .ok (.iload_n 3, 1) := by decide +kernel
theorem dX1_lift_67 : decode cX1_lift 67 = .ok (.invokevirtual 72, 3) := by decide +kernel
theorem dX1_lift_70 : decode cX1_lift 70 = .ok (.iload_n 1, 1) := by decide +kernel
theorem dX1_lift_71 : decode cX1_lift 71 = .ok (.istore 4, 2) := by decide +kernel
theorem dX1_lift_73 : decode cX1_lift 73 = .ok (.iload 4, 2) := by decide +kernel
theorem dX1_lift_75 : decode cX1_lift 75 = .ok (.aload_n 0, 1) := by decide +kernel
theorem dX1_lift_76 : decode cX1_lift 76 = .ok (.getfield 21, 3) := by decide +kernel
theorem dX1_lift_79 : decode cX1_lift 79 = .ok (.iconst 1, 1) := by decide +kernel
theorem dX1_lift_80 : decode cX1_lift 80 = .ok (.isub, 1) := by decide +kernel
theorem dX1_lift_81 : decode cX1_lift 81 = .ok (.if_icmp .ge 39, 3) := by decide +kernel
theorem dX1_lift_84 : decode cX1_lift 84 = .ok (.aload_n 0, 1) := by decide +kernel
theorem dX1_lift_85 : decode cX1_lift 85 = .ok (.iload 4, 2) := by decide +kernel
theorem dX1_lift_87 : decode cX1_lift 87 = .ok (.aload_n 0, 1) := by decide +kernel
theorem dX1_lift_88 : decode cX1_lift 88 = .ok (.iload 4, 2) := by decide +kernel
theorem dX1_lift_90 : decode cX1_lift 90 = .ok (.iconst 1, 1) := by decide +kernel
theorem dX1_lift_91 : decode cX1_lift 91 = .ok (.iadd, 1) := by decide +kernel
theorem dX1_lift_92 : decode cX1_lift 92 = .ok (.invokevirtual 25, 3) := by decide +kernel
theorem dX1_lift_95 : decode cX1_lift 95 = .ok (.aload_n 0, 1) := by decide +kernel
theorem dX1_lift_96 : decode cX1_lift 96 = .ok (.iload 4, 2) := by decide +kernel
theorem dX1_lift_98 : decode cX1_lift 98 = .ok (.iconst 1, 1) := by decide +kernel
theorem dX1_lift_99 : decode cX1_lift 99 = .ok (.iadd, 1) := by decide +kernel
theorem dX1_lift_100 : decode cX1_lift 100 = .ok (.invokevirtual 48, 3) := by decide +kernel
theorem dX1_lift_103 : decode cX1_lift 103 = .ok (.aload_n 0, 1) := by decide +kernel
theorem dX1_lift_104 : decode cX1_lift 104 = .ok (.iload 4, 2) := by decide +kernel
theorem dX1_lift_106 : decode cX1_lift 106 = .ok (.iconst 1, 1) := by decide +kernel
theorem dX1_lift_107 : decode cX1_lift 107 = .ok (.iadd, 1) := by decide +kernel
theorem dX1_lift_108 : decode cX1_lift 108 = .ok (.invokevirtual 29, 3) := by decide +kernel
theorem dX1_lift_111 : decode cX1_lift 111 = .ok (.invokevirtual 68, 3) := by decide +kernel
theorem dX1_lift_114 : decode cX1_lift 114 = .ok (.iinc 4 1, 3) := by decide +kernel
theorem dX1_lift_117 : decode cX1_lift 117 = .ok (.goto (-44), 3) := by decide +kernel
theorem dX1_lift_120 : decode cX1_lift 120 = .ok (.aload_n 0, 1) := by decide +kernel
theorem dX1_lift_121 : decode cX1_lift 121 = .ok (.dup, 1) := by decide +kernel
theorem dX1_lift_122 : decode cX1_lift 122 = .ok (.getfield 21, 3) := by decide +kernel
theorem dX1_lift_125 : decode cX1_lift 125 = .ok (.iconst 1, 1) := by decide +kernel
theorem dX1_lift_126 : decode cX1_lift 126 = .ok (.isub, 1) := by decide +kernel
theorem dX1_lift_127 : decode cX1_lift 127 = .ok (.putfield 21, 3) := by decide +kernel
theorem dX1_lift_130 : decode cX1_lift 130 = .ok (.return_, 1) := by decide +kernel
theorem dX1_buildPartAbove_0 : decode cX1_buildPartAbove 0 = .ok (.aload_n 0, 1) := by decide +kernel
theorem dX1_buildPartAbove_1 : decode cX1_buildPartAbove 1 = .ok (.iload_n 1, 1) := by decide +kernel
theorem dX1_buildPartAbove_2 : decode cX1_buildPartAbove 2 = .ok (.invokevirtual 79, 3) := by decide +kernel
theorem dX1_buildPartAbove_5 : decode cX1_buildPartAbove 5 = .ok (.istore_n 3, 1) := by decide +kernel
theorem dX1_buildPartAbove_6 : decode cX1_buildPartAbove 6 = .ok (.iconst 0, 1) := by decide +kernel
theorem dX1_buildPartAbove_7 : decode cX1_buildPartAbove 7 = .ok (.istore 4, 2) := by decide +kernel
theorem dX1_buildPartAbove_9 : decode cX1_buildPartAbove 9 = .ok (.iload 4, 2) := by decide +kernel
theorem dX1_buildPartAbove_11 : decode cX1_buildPartAbove 11 = .ok (.bipush 30, 2) := by decide +kernel
theorem dX1_buildPartAbove_13 : decode cX1_buildPartAbove 13 = .ok (.if_icmp .ge 68, 3) := by decide +kernel
theorem dX1_buildPartAbove_16 : decode cX1_buildPartAbove 16 = .ok (.aload_n 0, 1) := by decide +kernel
theorem dX1_buildPartAbove_17 : decode cX1_buildPartAbove 17 = .ok (.iload_n 3, 1) := by decide +kernel
theorem dX1_buildPartAbove_18 : decode cX1_buildPartAbove 18 = .ok (.invokevirtual 44, 3) := by decide +kernel
theorem dX1_buildPartAbove_21 : decode cX1_buildPartAbove 21 = .ok (.ifCond .eq 60, 3) := by decide +kernel
theorem dX1_buildPartAbove_24 : decode cX1_buildPartAbove 24 = .ok (.aload_n 0, 1) := by decide +kernel
theorem dX1_buildPartAbove_25 : decode cX1_buildPartAbove 25 = .ok (.iload_n 3, 1) := by decide +kernel
theorem dX1_buildPartAbove_26 : decode cX1_buildPartAbove 26 = .ok (.iload_n 2, 1) := by decide +kernel
theorem dX1_buildPartAbove_27 : decode cX1_buildPartAbove 27 = .ok (.invokevirtual 51, 3) := by decide +kernel
theorem dX1_buildPartAbove_30 : decode cX1_buildPartAbove 30 = .ok (.ifCond .eq 39, 3) := by decide +kernel
theorem dX1_buildPartAbove_33 : decode cX1_buildPartAbove 33 = .ok (.aload_n 0, 1) := by decide +kernel
theorem dX1_buildPartAbove_34 : decode cX1_buildPartAbove 34 = .ok (.iload_n 3, 1) := by decide +kernel
theorem dX1_buildPartAbove_35 : decode cX1_buildPartAbove 35 = .ok (.invokevirtual 38, 3) := by decide +kernel
theorem dX1_buildPartAbove_38 : decode cX1_buildPartAbove 38 = .ok (.istore 5, 2) := by decide +kernel
theorem dX1_buildPartAbove_40 : decode cX1_buildPartAbove 40 = .ok (.aload_n 0, 1) := by decide +kernel
theorem dX1_buildPartAbove_41 : decode cX1_buildPartAbove 41 = .ok (.iload_n 3, 1) := by decide +kernel
theorem dX1_buildPartAbove_42 : decode cX1_buildPartAbove 42 = .ok (.invokevirtual 41, 3) := by decide +kernel
theorem dX1_buildPartAbove_45 : decode cX1_buildPartAbove 45 = .ok (.istore 6, 2) := by decide +kernel
theorem dX1_buildPartAbove_47 : decode cX1_buildPartAbove 47 = .ok (.aload_n 0, 1) := by decide +kernel
theorem dX1_buildPartAbove_48 : decode cX1_buildPartAbove 48 = .ok (.iload 5, 2) := by decide +kernel
theorem dX1_buildPartAbove_50 : decode cX1_buildPartAbove 50 = .ok (.iload 6, 2) := by decide +kernel
theorem dX1_buildPartAbove_52 : decode cX1_buildPartAbove 52 = .ok (.aload_n 0, 1) := by decide +kernel
theorem dX1_buildPartAbove_53 : decode cX1_buildPartAbove 53 = .ok (.iload_n 3, 1) := by decide +kernel
theorem dX1_buildPartAbove_54 : decode cX1_buildPartAbove 54 = .ok (.invokevirtual 29, 3) := by decide +kernel
theorem dX1_buildPartAbove_57 : decode cX1_buildPartAbove 57 = .ok (.invokestatic 82, 3) := by decide +kernel
theorem dX1_buildPartAbove_60 : decode cX1_buildPartAbove 60 = .ok (.pop, 1) := by decide +kernel
theorem dX1_buildPartAbove_61 : decode cX1_buildPartAbove 61 = .ok (.iload 6, 2) := by decide +kernel
theorem dX1_buildPartAbove_63 : decode cX1_buildPartAbove 63 = .ok (.iload 5, 2) := by decide +kernel
theorem dX1_buildPartAbove_65 : decode cX1_buildPartAbove 65 = .ok (.isub, 1) := by decide +kernel
theorem dX1_buildPartAbove_66 : decode cX1_buildPartAbove 66 = .ok (.iconst 1, 1) := by decide +kernel
theorem dX1_buildPartAbove_67 : decode cX1_buildPartAbove 67 = .ok (.iadd, 1) := by decide +kernel
theorem dX1_buildPartAbove_68 : decode cX1_buildPartAbove 68 = .ok (.ireturn, 1) := by decide +kernel
theorem dX1_buildPartAbove_69 : decode cX1_buildPartAbove 69 = .ok (.aload_n 0, 1) := by decide +kernel
theorem dX1_buildPartAbove_70 : decode cX1_buildPartAbove 70 = .ok (.iload_n 3, 1) := by decide +kernel
theorem dX1_buildPartAbove_71 : decode cX1_buildPartAbove 71 = .ok (.invokevirtual 79, 3) := by decide +kernel
theorem dX1_buildPartAbove_74 : decode cX1_buildPartAbove 74 = .ok (.istore_n 3, 1) := by decide +kernel
theorem dX1_buildPartAbove_75 : decode cX1_buildPartAbove 75 = .ok (.iinc 4 1, 3) := by decide +kernel
theorem dX1_buildPartAbove_78 : decode cX1_buildPartAbove 78 = .ok (.goto (-69), 3) := by decide +kernel
theorem dX1_buildPartAbove_81 : decode cX1_buildPartAbove 81 = .ok (.iconst 0, 1) := by decide +kernel
theorem dX1_buildPartAbove_82 : decode cX1_buildPartAbove 82 = .ok (.ireturn, 1) := by decide +kernel
theorem dX1_buildWhole_0 : decode cX1_buildWhole 0 = .ok (.aload_n 0, 1) := by decide +kernel
theorem dX1_buildWhole_1 : decode cX1_buildWhole 1 = .ok (.aload_n 0, 1) := by decide +kernel
theorem dX1_buildWhole_2 : decode cX1_buildWhole 2 = .ok (.getfield 21, 3) := by decide +kernel
theorem dX1_buildWhole_5 : decode cX1_buildWhole 5 = .ok (.putfield 86, 3) := by decide +kernel
theorem dX1_buildWhole_8 : decode cX1_buildWhole 8 = .ok (.aload_n 0, 1) := by decide +kernel
theorem dX1_buildWhole_9 : decode cX1_buildWhole 9 = .ok (.iconst 0, 1) := by decide +kernel
theorem dX1_buildWhole_10 : decode cX1_buildWhole 10 = .ok (.aload_n 0, 1) := by decide +kernel
theorem dX1_buildWhole_11 : decode cX1_buildWhole 11 = .ok (.getfield 21, 3) := by decide +kernel
theorem dX1_buildWhole_14 : decode cX1_buildWhole 14 = .ok (.iconst 1, 1) := by decide +kernel
theorem dX1_buildWhole_15 : decode cX1_buildWhole 15 = .ok (.isub, 1) := by decide +kernel
theorem dX1_buildWhole_16 : decode cX1_buildWhole 16 = .ok (.iconst 0, 1) := by decide +kernel
theorem dX1_buildWhole_17 : decode cX1_buildWhole 17 = .ok (.invokestatic 82, 3) := by decide +kernel
theorem dX1_buildWhole_20 : decode cX1_buildWhole 20 = .ok (.ireturn, 1) := by decide +kernel
theorem dX1_spread_0 : decode cX1_spread 0 = .ok (.iload_n 1, 1) := by decide +kernel
theorem dX1_spread_1 : decode cX1_spread 1 = .ok (.iload_n 2, 1) := by decide +kernel
theorem dX1_spread_2 : decode cX1_spread 2 = .ok (.if_icmp .gt 9, 3) := by decide +kernel
theorem dX1_spread_5 : decode cX1_spread 5 = .ok (.iload_n 3, 1) := by decide +kernel
theorem dX1_spread_6 : decode cX1_spread 6 = .ok (.bipush 30, 2) := by decide +kernel
theorem dX1_spread_8 : decode cX1_spread 8 = .ok (.if_icmp .le 5, 3) := by decide +kernel
theorem dX1_spread_11 : decode cX1_spread 11 = .ok (.iconst 0, 1) := by decide +kernel
theorem dX1_spread_12 : decode cX1_spread 12 = .ok (.ireturn, 1) := by decide +kernel
theorem dX1_spread_13 : decode cX1_spread 13 = .ok (.iload_n 1, 1) := by decide +kernel
theorem dX1_spread_14 : decode cX1_spread 14 = .ok (.iload_n 2, 1) := by decide +kernel
theorem dX1_spread_15 : decode cX1_spread 15 = .ok (.iadd, 1) := by decide +kernel
theorem dX1_spread_16 : decode cX1_spread 16 = .ok (.iconst 2, 1) := by decide +kernel
theorem dX1_spread_17 : decode cX1_spread 17 = .ok (.idiv, 1) := by decide +kernel
theorem dX1_spread_18 : decode cX1_spread 18 = .ok (.istore 4, 2) := by decide +kernel
theorem dX1_spread_20 : decode cX1_spread 20 = .ok (.aload_n 0, 1) := by decide +kernel
theorem dX1_spread_21 : decode cX1_spread 21 = .ok (.iload 4, 2) := by decide +kernel
theorem dX1_spread_23 : decode cX1_spread 23 = .ok (.invokevirtual 29, 3) := by decide +kernel
theorem dX1_spread_26 : decode cX1_spread 26 = .ok (.iload_n 3, 1) := by decide +kernel
theorem dX1_spread_27 : decode cX1_spread 27 = .ok (.if_icmp .ne 7, 3) := by decide +kernel
theorem dX1_spread_30 : decode cX1_spread 30 = .ok (.iconst 0, 1) := by decide +kernel
theorem dX1_spread_31 : decode cX1_spread 31 = .ok (.goto 4, 3) := by decide +kernel
theorem dX1_spread_34 : decode cX1_spread 34 = .ok (.iconst 1, 1) := by decide +kernel
theorem dX1_spread_35 : decode cX1_spread 35 = .ok (.istore 5, 2) := by decide +kernel
theorem dX1_spread_37 : decode cX1_spread 37 = .ok (.aload_n 0, 1) := by decide +kernel
theorem dX1_spread_38 : decode cX1_spread 38 = .ok (.iload 4, 2) := by decide +kernel
theorem dX1_spread_40 : decode cX1_spread 40 = .ok (.iload_n 3, 1) := by decide +kernel
theorem dX1_spread_41 : decode cX1_spread 41 = .ok (.invokevirtual 76, 3) := by decide +kernel
theorem dX1_spread_44 : decode cX1_spread 44 = .ok (.iload 5, 2) := by decide +kernel
theorem dX1_spread_46 : decode cX1_spread 46 = .ok (.aload_n 0, 1) := by decide +kernel
theorem dX1_spread_47 : decode cX1_spread 47 = .ok (.iload_n 1, 1) := by decide +kernel
theorem dX1_spread_48 : decode cX1_spread 48 = .ok (.iload 4, 2) := by decide +kernel
theorem dX1_spread_50 : decode cX1_spread 50 = .ok (.iconst 1, 1) := by decide +kernel
theorem dX1_spread_51 : decode cX1_spread 51 = .ok (.isub, 1) := by decide +kernel
theorem dX1_spread_52 : decode cX1_spread 52 = .ok (.iload_n 3, 1) := by decide +kernel
theorem dX1_spread_53 : decode cX1_spread 53 = .ok (.iconst 1, 1) := by decide +kernel
theorem dX1_spread_54 : decode cX1_spread 54 = .ok (.iadd, 1) := by decide +kernel
theorem dX1_spread_55 : decode cX1_spread 55 = .ok (.invokestatic 82, 3) := by decide +kernel
theorem dX1_spread_58 : decode cX1_spread 58 = .ok (.iadd, 1) := by decide +kernel
theorem dX1_spread_59 : decode cX1_spread 59 = .ok (.aload_n 0, 1) := by decide +kernel
theorem dX1_spread_60 : decode cX1_spread 60 = .ok (.iload 4, 2) := by decide +kernel
theorem dX1_spread_62 : decode cX1_spread 62 = .ok (.iconst 1, 1) := by decide +kernel
theorem dX1_spread_63 : decode cX1_spread 63 = .ok (.iadd, 1) := by decide +kernel
theorem dX1_spread_64 : decode cX1_spread 64 = .ok (.iload_n 2, 1) := by decide +kernel
theorem dX1_spread_65 : decode cX1_spread 65 = .ok (.iload_n 3, 1) := by decide +kernel
theorem dX1_spread_66 : decode cX1_spread 66 = .ok (.iconst 1, 1) := by decide +kernel
theorem dX1_spread_67 : decode cX1_spread 67 = .ok (.iadd, 1) := by decide +kernel
theorem dX1_spread_68 : decode cX1_spread 68 = .ok (.invokestatic 82, 3) := by decide +kernel
theorem dX1_spread_71 : decode cX1_spread 71 = .ok (.iadd, 1) := by decide +kernel
theorem dX1_spread_72 : decode cX1_spread 72 = .ok (.ireturn, 1) := by decide +kernel
theorem dX1_raise_0 : decode cX1_raise 0 = .ok (.iload_n 1, 1) := by decide +kernel
theorem dX1_raise_1 : decode cX1_raise 1 = .ok (.istore_n 3, 1) := by decide +kernel
theorem dX1_raise_2 : decode cX1_raise 2 = .ok (.iload_n 3, 1) := by decide +kernel
theorem dX1_raise_3 : decode cX1_raise 3 = .ok (.iload_n 2, 1) := by decide +kernel
theorem dX1_raise_4 : decode cX1_raise 4 = .ok (.if_icmp .gt 29, 3) := by decide +kernel
theorem dX1_raise_7 : decode cX1_raise 7 = .ok (.iload_n 3, 1) := by decide +kernel
theorem dX1_raise_8 : decode cX1_raise 8 = .ok (.aload_n 0, 1) := by decide +kernel
theorem dX1_raise_9 : decode cX1_raise 9 = .ok (.getfield 21, 3) := by decide +kernel
theorem dX1_raise_12 : decode cX1_raise 12 = .ok (.if_icmp .ge 21, 3) := by decide +kernel
theorem dX1_raise_15 : decode cX1_raise 15 = .ok (.aload_n 0, 1) := by decide +kernel
theorem dX1_raise_16 : decode cX1_raise 16 = .ok (.iload_n 3, 1) := by decide +kernel
theorem dX1_raise_17 : decode cX1_raise 17 = .ok (.aload_n 0, 1) := by decide +kernel
theorem dX1_raise_18 : decode cX1_raise 18 = .ok (.iload_n 3, 1) := by decide +kernel
theorem dX1_raise_19 : decode cX1_raise 19 = .ok (.invokevirtual 29, 3) := by decide +kernel
theorem dX1_raise_22 : decode cX1_raise 22 = .ok (.iconst 1, 1) := by decide +kernel
theorem dX1_raise_23 : decode cX1_raise 23 = .ok (.isub, 1) := by decide +kernel
theorem dX1_raise_24 : decode cX1_raise 24 = .ok (.invokevirtual 76, 3) := by decide +kernel
theorem dX1_raise_27 : decode cX1_raise 27 = .ok (.iinc 3 1, 3) := by decide +kernel
theorem dX1_raise_30 : decode cX1_raise 30 = .ok (.goto (-28), 3) := by decide +kernel
theorem dX1_raise_33 : decode cX1_raise 33 = .ok (.return_, 1) := by decide +kernel
theorem dX1_set_0 : decode cX1_set 0 = .ok (.iload_n 1, 1) := by decide +kernel
theorem dX1_set_1 : decode cX1_set 1 = .ok (.ifCond .lt 31, 3) := by decide +kernel
theorem dX1_set_4 : decode cX1_set 4 = .ok (.iload_n 1, 1) := by decide +kernel
theorem dX1_set_5 : decode cX1_set 5 = .ok (.bipush 30, 2) := by decide +kernel
theorem dX1_set_7 : decode cX1_set 7 = .ok (.if_icmp .ge 25, 3) := by decide +kernel
theorem dX1_set_10 : decode cX1_set 10 = .ok (.aload_n 0, 1) := by decide +kernel
theorem dX1_set_11 : decode cX1_set 11 = .ok (.getfield 9, 3) := by decide +kernel
theorem dX1_set_14 : decode cX1_set 14 = .ok (.iload_n 1, 1) := by decide +kernel
theorem dX1_set_15 : decode cX1_set 15 = .ok (.iload_n 2, 1) := by decide +kernel
theorem dX1_set_16 : decode cX1_set 16 = .ok (.iastore, 1) := by decide +kernel
theorem dX1_set_17 : decode cX1_set 17 = .ok (.aload_n 0, 1) := by decide +kernel
theorem dX1_set_18 : decode cX1_set 18 = .ok (.getfield 15, 3) := by decide +kernel
theorem dX1_set_21 : decode cX1_set 21 = .ok (.iload_n 1, 1) := by decide +kernel
theorem dX1_set_22 : decode cX1_set 22 = .ok (.iload_n 3, 1) := by decide +kernel
theorem dX1_set_23 : decode cX1_set 23 = .ok (.iastore, 1) := by decide +kernel
theorem dX1_set_24 : decode cX1_set 24 = .ok (.aload_n 0, 1) := by decide +kernel
theorem dX1_set_25 : decode cX1_set 25 = .ok (.getfield 18, 3) := by decide +kernel
theorem dX1_set_28 : decode cX1_set 28 = .ok (.iload_n 1, 1) := by decide +kernel
theorem dX1_set_29 : decode cX1_set 29 = .ok (.iload 4, 2) := by decide +kernel
theorem dX1_set_31 : decode cX1_set 31 = .ok (.iastore, 1) := by decide +kernel
theorem dX1_set_32 : decode cX1_set 32 = .ok (.return_, 1) := by decide +kernel
theorem dX1_setDepth_0 : decode cX1_setDepth 0 = .ok (.iload_n 1, 1) := by decide +kernel
theorem dX1_setDepth_1 : decode cX1_setDepth 1 = .ok (.ifCond .lt 16, 3) := by decide +kernel
theorem dX1_setDepth_4 : decode cX1_setDepth 4 = .ok (.iload_n 1, 1) := by decide +kernel
theorem dX1_setDepth_5 : decode cX1_setDepth 5 = .ok (.bipush 30, 2) := by decide +kernel
theorem dX1_setDepth_7 : decode cX1_setDepth 7 = .ok (.if_icmp .ge 10, 3) := by decide +kernel
theorem dX1_setDepth_10 : decode cX1_setDepth 10 = .ok (.aload_n 0, 1) := by decide +kernel
theorem dX1_setDepth_11 : decode cX1_setDepth 11 = .ok (.getfield 18, 3) := by decide +kernel
theorem dX1_setDepth_14 : decode cX1_setDepth 14 = .ok (.iload_n 1, 1) := by decide +kernel
theorem dX1_setDepth_15 : decode cX1_setDepth 15 = .ok (.iload_n 2, 1) := by decide +kernel
theorem dX1_setDepth_16 : decode cX1_setDepth 16 = .ok (.iastore, 1) := by decide +kernel
theorem dX1_setDepth_17 : decode cX1_setDepth 17 = .ok (.return_, 1) := by decide +kernel
theorem dX1_copyFrom_0 : decode cX1_copyFrom 0 = .ok (.aload_n 1, 1) := by decide +kernel
theorem dX1_copyFrom_1 : decode cX1_copyFrom 1 = .ok (.getfield 9, 3) := by decide +kernel
theorem dX1_copyFrom_4 : decode cX1_copyFrom 4 = .ok (.iconst 0, 1) := by decide +kernel
theorem dX1_copyFrom_5 : decode cX1_copyFrom 5 = .ok (.aload_n 0, 1) := by decide +kernel
theorem dX1_copyFrom_6 : decode cX1_copyFrom 6 = .ok (.getfield 9, 3) := by decide +kernel
theorem dX1_copyFrom_9 : decode cX1_copyFrom 9 = .ok (.iconst 0, 1) := by decide +kernel
theorem dX1_copyFrom_10 : decode cX1_copyFrom 10 = .ok (.bipush 30, 2) := by decide +kernel
theorem dX1_copyFrom_12 : decode cX1_copyFrom 12 = .ok (.invokestatic 89, 3) := by decide +kernel
theorem dX1_copyFrom_15 : decode cX1_copyFrom 15 = .ok (.aload_n 1, 1) := by decide +kernel
theorem dX1_copyFrom_16 : decode cX1_copyFrom 16 = .ok (.getfield 15, 3) := by decide +kernel
theorem dX1_copyFrom_19 : decode cX1_copyFrom 19 = .ok (.iconst 0, 1) := by decide +kernel
theorem dX1_copyFrom_20 : decode cX1_copyFrom 20 = .ok (.aload_n 0, 1) := by decide +kernel
theorem dX1_copyFrom_21 : decode cX1_copyFrom 21 = .ok (.getfield 15, 3) := by decide +kernel
theorem dX1_copyFrom_24 : decode cX1_copyFrom 24 = .ok (.iconst 0, 1) := by decide +kernel
theorem dX1_copyFrom_25 : decode cX1_copyFrom 25 = .ok (.bipush 30, 2) := by decide +kernel
theorem dX1_copyFrom_27 : decode cX1_copyFrom 27 = .ok (.invokestatic 89, 3) := by decide +kernel
theorem dX1_copyFrom_30 : decode cX1_copyFrom 30 = .ok (.aload_n 1, 1) := by decide +kernel
theorem dX1_copyFrom_31 : decode cX1_copyFrom 31 = .ok (.getfield 18, 3) := by decide +kernel
theorem dX1_copyFrom_34 : decode cX1_copyFrom 34 = .ok (.iconst 0, 1) := by decide +kernel
theorem dX1_copyFrom_35 : decode cX1_copyFrom 35 = .ok (.aload_n 0, 1) := by decide +kernel
theorem dX1_copyFrom_36 : decode cX1_copyFrom 36 = .ok (.getfield 18, 3) := by decide +kernel
theorem dX1_copyFrom_39 : decode cX1_copyFrom 39 = .ok (.iconst 0, 1) := by decide +kernel
theorem dX1_copyFrom_40 : decode cX1_copyFrom 40 = .ok (.bipush 30, 2) := by decide +kernel
theorem dX1_copyFrom_42 : decode cX1_copyFrom 42 = .ok (.invokestatic 89, 3) := by decide +kernel
theorem dX1_copyFrom_45 : decode cX1_copyFrom 45 = .ok (.aload_n 0, 1) := by decide +kernel
theorem dX1_copyFrom_46 : decode cX1_copyFrom 46 = .ok (.aload_n 1, 1) := by decide +kernel
theorem dX1_copyFrom_47 : decode cX1_copyFrom 47 = .ok (.getfield 21, 3) := by decide +kernel
theorem dX1_copyFrom_50 : decode cX1_copyFrom 50 = .ok (.putfield 21, 3) := by decide +kernel
theorem dX1_copyFrom_53 : decode cX1_copyFrom 53 = .ok (.aload_n 0, 1) := by decide +kernel
theorem dX1_copyFrom_54 : decode cX1_copyFrom 54 = .ok (.aload_n 1, 1) := by decide +kernel
theorem dX1_copyFrom_55 : decode cX1_copyFrom 55 = .ok (.getfield 86, 3) := by decide +kernel
theorem dX1_copyFrom_58 : decode cX1_copyFrom 58 = .ok (.putfield 86, 3) := by decide +kernel
theorem dX1_copyFrom_61 : decode cX1_copyFrom 61 = .ok (.return_, 1) := by decide +kernel
theorem dX2_init_0 : decode cX2_init 0 = .ok (.aload_n 0, 1) := by decide +kernel
theorem dX2_init_1 : decode cX2_init 1 = .ok (.invokespecial 3, 3) := by decide +kernel
theorem dX2_init_4 : decode cX2_init 4 = .ok (.aload_n 0, 1) := by decide +kernel
theorem dX2_init_5 : decode cX2_init 5 = .ok (.bipush 60, 2) := by decide +kernel
theorem dX2_init_7 : decode cX2_init 7 = .ok (.newarray .int, 2) := by decide +kernel
theorem dX2_init_9 : decode cX2_init 9 = .ok (.putfield 9, 3) := by decide +kernel
theorem dX2_init_12 : decode cX2_init 12 = .ok (.return_, 1) := by decide +kernel
theorem dX2_clear_0 : decode cX2_clear 0 = .ok (.aload_n 0, 1) := by decide +kernel
theorem dX2_clear_1 : decode cX2_clear 1 = .ok (.iconst 0, 1) := by decide +kernel
theorem dX2_clear_2 : decode cX2_clear 2 = .ok (.putfield 15, 3) := by decide +kernel
theorem dX2_clear_5 : decode cX2_clear 5 = .ok (.return_, 1) := by decide +kernel
theorem dX2_add_0 : decode cX2_add 0 = .ok (.aload_n 0, 1) := by decide +kernel
theorem dX2_add_1 : decode cX2_add 1 = .ok (.getfield 15, 3) := by decide +kernel
theorem dX2_add_4 : decode cX2_add 4 = .ok (.ifCond .lt 12, 3) := by decide +kernel
theorem dX2_add_7 : decode cX2_add 7 = .ok (.aload_n 0, 1) := by decide +kernel
theorem dX2_add_8 : decode cX2_add 8 = .ok (.getfield 15, 3) := by decide +kernel
theorem dX2_add_11 : decode cX2_add 11 = .ok (.bipush 60, 2) := by decide +kernel
theorem dX2_add_13 : decode cX2_add 13 = .ok (.if_icmp .lt 5, 3) := by decide +kernel
theorem dX2_add_16 : decode cX2_add 16 = .ok (.iconst 0, 1) := by decide +kernel
theorem dX2_add_17 : decode cX2_add 17 = .ok (.ireturn, 1) := by decide +kernel
theorem dX2_add_18 : decode cX2_add 18 = .ok (.aload_n 0, 1) := by decide +kernel
theorem dX2_add_19 : decode cX2_add 19 = .ok (.getfield 9, 3) := by decide +kernel
theorem dX2_add_22 : decode cX2_add 22 = .ok (.aload_n 0, 1) := by decide +kernel
theorem dX2_add_23 : decode cX2_add 23 = .ok (.getfield 15, 3) := by decide +kernel
theorem dX2_add_26 : decode cX2_add 26 = .ok (.iload_n 1, 1) := by decide +kernel
theorem dX2_add_27 : decode cX2_add 27 = .ok (.iastore, 1) := by decide +kernel
theorem dX2_add_28 : decode cX2_add 28 = .ok (.aload_n 0, 1) := by decide +kernel
theorem dX2_add_29 : decode cX2_add 29 = .ok (.dup, 1) := by decide +kernel
theorem dX2_add_30 : decode cX2_add 30 = .ok (.getfield 15, 3) := by decide +kernel
theorem dX2_add_33 : decode cX2_add 33 = .ok (.iconst 1, 1) := by decide +kernel
theorem dX2_add_34 : decode cX2_add 34 = .ok (.iadd, 1) := by decide +kernel
theorem dX2_add_35 : decode cX2_add 35 = .ok (.putfield 15, 3) := by decide +kernel
theorem dX2_add_38 : decode cX2_add 38 = .ok (.iconst 1, 1) := by decide +kernel
theorem dX2_add_39 : decode cX2_add 39 = .ok (.ireturn, 1) := by decide +kernel
theorem dX2_addNumber_0 : decode cX2_addNumber 0 = .ok (.iload_n 1, 1) := by decide +kernel
theorem dX2_addNumber_1 : decode cX2_addNumber 1 = .ok (.bipush 100, 2) := by decide +kernel
theorem dX2_addNumber_3 : decode cX2_addNumber 3 = .ok (.if_icmp .lt 18, 3) := by decide +kernel
theorem dX2_addNumber_6 : decode cX2_addNumber 6 = .ok (.aload_n 0, 1) := by decide +kernel
theorem dX2_addNumber_7 : decode cX2_addNumber 7 = .ok (.bipush 48, 2) := by decide +kernel
theorem dX2_addNumber_9 : decode cX2_addNumber 9 = .ok (.iload_n 1, 1) := by decide +kernel
theorem dX2_addNumber_10 : decode cX2_addNumber 10 = .ok (.bipush 100, 2) := by decide +kernel
theorem dX2_addNumber_12 : decode cX2_addNumber 12 = .ok (.idiv, 1) := by decide +kernel
theorem dX2_addNumber_13 : decode cX2_addNumber 13 = .ok (.bipush 10, 2) := by decide +kernel
theorem dX2_addNumber_15 : decode cX2_addNumber 15 = .ok (.irem, 1) := by decide +kernel
theorem dX2_addNumber_16 : decode cX2_addNumber 16 = .ok (.iadd, 1) := by decide +kernel
theorem dX2_addNumber_17 : decode cX2_addNumber 17 = .ok (.invokevirtual 19, 3) := by decide +kernel
theorem dX2_addNumber_20 : decode cX2_addNumber 20 = .ok (.pop, 1) := by decide +kernel
theorem dX2_addNumber_21 : decode cX2_addNumber 21 = .ok (.iload_n 1, 1) := by decide +kernel
theorem dX2_addNumber_22 : decode cX2_addNumber 22 = .ok (.bipush 10, 2) := by decide +kernel
theorem dX2_addNumber_24 : decode cX2_addNumber 24 = .ok (.if_icmp .lt 18, 3) := by decide +kernel
theorem dX2_addNumber_27 : decode cX2_addNumber 27 = .ok (.aload_n 0, 1) := by decide +kernel
theorem dX2_addNumber_28 : decode cX2_addNumber 28 = .ok (.bipush 48, 2) := by decide +kernel
theorem dX2_addNumber_30 : decode cX2_addNumber 30 = .ok (.iload_n 1, 1) := by decide +kernel
theorem dX2_addNumber_31 : decode cX2_addNumber 31 = .ok (.bipush 10, 2) := by decide +kernel
theorem dX2_addNumber_33 : decode cX2_addNumber 33 = .ok (.idiv, 1) := by decide +kernel
theorem dX2_addNumber_34 : decode cX2_addNumber 34 = .ok (.bipush 10, 2) := by decide +kernel
theorem dX2_addNumber_36 : decode cX2_addNumber 36 = .ok (.irem, 1) := by decide +kernel
theorem dX2_addNumber_37 : decode cX2_addNumber 37 = .ok (.iadd, 1) := by decide +kernel
theorem dX2_addNumber_38 : decode cX2_addNumber 38 = .ok (.invokevirtual 19, 3) := by decide +kernel
theorem dX2_addNumber_41 : decode cX2_addNumber 41 = .ok (.pop, 1) := by decide +kernel
theorem dX2_addNumber_42 : decode cX2_addNumber 42 = .ok (.aload_n 0, 1) := by decide +kernel
theorem dX2_addNumber_43 : decode cX2_addNumber 43 = .ok (.bipush 48, 2) := by decide +kernel
theorem dX2_addNumber_45 : decode cX2_addNumber 45 = .ok (.iload_n 1, 1) := by decide +kernel
theorem dX2_addNumber_46 : decode cX2_addNumber 46 = .ok (.bipush 10, 2) := by decide +kernel
theorem dX2_addNumber_48 : decode cX2_addNumber 48 = .ok (.irem, 1) := by decide +kernel
theorem dX2_addNumber_49 : decode cX2_addNumber 49 = .ok (.iadd, 1) := by decide +kernel
theorem dX2_addNumber_50 : decode cX2_addNumber 50 = .ok (.invokevirtual 19, 3) := by decide +kernel
theorem dX2_addNumber_53 : decode cX2_addNumber 53 = .ok (.pop, 1) := by decide +kernel
theorem dX2_addNumber_54 : decode cX2_addNumber 54 = .ok (.return_, 1) := by decide +kernel
theorem dX2_codeAt_0 : decode cX2_codeAt 0 = .ok (.iload_n 1, 1) := by decide +kernel
theorem dX2_codeAt_1 : decode cX2_codeAt 1 = .ok (.ifCond .lt 26, 3) := by decide +kernel
theorem dX2_codeAt_4 : decode cX2_codeAt 4 = .ok (.iload_n 1, 1) := by decide +kernel
theorem dX2_codeAt_5 : decode cX2_codeAt 5 = .ok (.aload_n 0, 1) := by decide +kernel
theorem dX2_codeAt_6 : decode cX2_codeAt 6 = .ok (.getfield 15, 3) := by decide +kernel
theorem dX2_codeAt_9 : decode cX2_codeAt 9 = .ok (.if_icmp .ge 18, 3) := by decide +kernel
theorem dX2_codeAt_12 : decode cX2_codeAt 12 = .ok (.iload_n 1, 1) := by decide +kernel
theorem dX2_codeAt_13 : decode cX2_codeAt 13 = .ok (.bipush 60, 2) := by decide +kernel
theorem dX2_codeAt_15 : decode cX2_codeAt 15 = .ok (.if_icmp .ge 12, 3) := by decide +kernel
theorem dX2_codeAt_18 : decode cX2_codeAt 18 = .ok (.aload_n 0, 1) := by decide +kernel
theorem dX2_codeAt_19 : decode cX2_codeAt 19 = .ok (.getfield 9, 3) := by decide +kernel
theorem dX2_codeAt_22 : decode cX2_codeAt 22 = .ok (.iload_n 1, 1) := by decide +kernel
theorem dX2_codeAt_23 : decode cX2_codeAt 23 = .ok (.iaload, 1) := by decide +kernel
theorem dX2_codeAt_24 : decode cX2_codeAt 24 = .ok (.goto 5, 3) := by decide +kernel
theorem dX2_codeAt_27 : decode cX2_codeAt 27 = .ok (.bipush (-11), 2) := by decide +kernel
theorem dX2_codeAt_29 : decode cX2_codeAt 29 = .ok (.ireturn, 1) := by decide +kernel
theorem dX3_init_0 : decode cX3_init 0 = .ok (.aload_n 0, 1) := by decide +kernel
theorem dX3_init_1 : decode cX3_init 1 = .ok (.invokespecial 3, 3) := by decide +kernel
theorem dX3_init_4 : decode cX3_init 4 = .ok (.aload_n 0, 1) := by decide +kernel
theorem dX3_init_5 : decode cX3_init 5 = .ok (.iconst 3, 1) := by decide +kernel
theorem dX3_init_6 : decode cX3_init 6 = .ok (.anewarray 9, 3) := by decide +kernel
theorem dX3_init_9 : decode cX3_init 9 = .ok (.putfield 11, 3) := by decide +kernel
theorem dX3_init_12 : decode cX3_init 12 = .ok (.aload_n 0, 1) := by decide +kernel
theorem dX3_init_13 : decode cX3_init 13 = .ok (.bipush 70, 2) := by decide +kernel
theorem dX3_init_15 : decode cX3_init 15 = .ok (.putfield 17, 3) := by decide +kernel
theorem dX3_init_18 : decode cX3_init 18 = .ok (.iconst 0, 1) := by decide +kernel
theorem dX3_init_19 : decode cX3_init 19 = .ok (.istore_n 1, 1) := by decide +kernel
theorem dX3_init_20 : decode cX3_init 20 = .ok (.iload_n 1, 1) := by decide +kernel
theorem dX3_init_21 : decode cX3_init 21 = .ok (.aload_n 0, 1) := by decide +kernel
theorem dX3_init_22 : decode cX3_init 22 = .ok (.getfield 11, 3) := by decide +kernel
theorem dX3_init_25 : decode cX3_init 25 = .ok (.arraylength, 1) := by decide +kernel
theorem dX3_init_26 : decode cX3_init 26 = .ok (.if_icmp .ge 22, 3) := by decide +kernel
theorem dX3_init_29 : decode cX3_init 29 = .ok (.aload_n 0, 1) := by decide +kernel
theorem dX3_init_30 : decode cX3_init 30 = .ok (.getfield 11, 3) := by decide +kernel
theorem dX3_init_33 : decode cX3_init 33 = .ok (.iload_n 1, 1) := by decide +kernel
theorem dX3_init_34 : decode cX3_init 34 = .ok (.new 9, 3) := by decide +kernel
theorem dX3_init_37 : decode cX3_init 37 = .ok (.dup, 1) := by decide +kernel
theorem dX3_init_38 : decode cX3_init 38 = .ok (.invokespecial 21, 3) := by decide +kernel
theorem dX3_init_41 : decode cX3_init 41 = .ok (.aastore, 1) := by decide +kernel
theorem dX3_init_42 : decode cX3_init 42 = .ok (.iinc 1 1, 3) := by decide +kernel
theorem dX3_init_45 : decode cX3_init 45 = .ok (.goto (-25), 3) := by decide +kernel
theorem dX3_init_48 : decode cX3_init 48 = .ok (.return_, 1) := by decide +kernel
theorem dX3_rickAt_0 : decode cX3_rickAt 0 = .ok (.iload_n 1, 1) := by decide +kernel
theorem dX3_rickAt_1 : decode cX3_rickAt 1 = .ok (.ifCond .lt 21, 3) := by decide +kernel
theorem dX3_rickAt_4 : decode cX3_rickAt 4 = .ok (.iload_n 1, 1) := by decide +kernel
theorem dX3_rickAt_5 : decode cX3_rickAt 5 = .ok (.aload_n 0, 1) := by decide +kernel
theorem dX3_rickAt_6 : decode cX3_rickAt 6 = .ok (.getfield 11, 3) := by decide +kernel
theorem dX3_rickAt_9 : decode cX3_rickAt 9 = .ok (.arraylength, 1) := by decide +kernel
theorem dX3_rickAt_10 : decode cX3_rickAt 10 = .ok (.if_icmp .ge 12, 3) := by decide +kernel
theorem dX3_rickAt_13 : decode cX3_rickAt 13 = .ok (.aload_n 0, 1) := by decide +kernel
theorem dX3_rickAt_14 : decode cX3_rickAt 14 = .ok (.getfield 11, 3) := by decide +kernel
theorem dX3_rickAt_17 : decode cX3_rickAt 17 = .ok (.iload_n 1, 1) := by decide +kernel
theorem dX3_rickAt_18 : decode cX3_rickAt 18 = .ok (.aaload, 1) := by decide +kernel
theorem dX3_rickAt_19 : decode cX3_rickAt 19 = .ok (.goto 4, 3) := by decide +kernel
theorem dX3_rickAt_22 : decode cX3_rickAt 22 = .ok (.aconst_null, 1) := by decide +kernel
theorem dX3_rickAt_23 : decode cX3_rickAt 23 = .ok (.areturn, 1) := by decide +kernel
theorem dX3_sheaves_0 : decode cX3_sheaves 0 = .ok (.iconst 0, 1) := by decide +kernel
theorem dX3_sheaves_1 : decode cX3_sheaves 1 = .ok (.istore_n 1, 1) := by decide +kernel
theorem dX3_sheaves_2 : decode cX3_sheaves 2 = .ok (.iconst 0, 1) := by decide +kernel
theorem dX3_sheaves_3 : decode cX3_sheaves 3 = .ok (.istore_n 2, 1) := by decide +kernel
theorem dX3_sheaves_4 : decode cX3_sheaves 4 = .ok (.iload_n 2, 1) := by decide +kernel
theorem dX3_sheaves_5 : decode cX3_sheaves 5 = .ok (.iconst 3, 1) := by decide +kernel
theorem dX3_sheaves_6 : decode cX3_sheaves 6 = .ok (.if_icmp .ge 26, 3) := by decide +kernel
theorem dX3_sheaves_9 : decode cX3_sheaves 9 = .ok (.aload_n 0, 1) := by decide +kernel
theorem dX3_sheaves_10 : decode cX3_sheaves 10 = .ok (.iload_n 2, 1) := by decide +kernel
theorem dX3_sheaves_11 : decode cX3_sheaves 11 = .ok (.invokevirtual 22, 3) := by decide +kernel
theorem dX3_sheaves_14 : decode cX3_sheaves 14 = .ok (.astore_n 3, 1) := by decide +kernel
theorem dX3_sheaves_15 : decode cX3_sheaves 15 = .ok (.aload_n 3, 1) := by decide +kernel
theorem dX3_sheaves_16 : decode cX3_sheaves 16 = .ok (.ifnull 10, 3) := by decide +kernel
theorem dX3_sheaves_19 : decode cX3_sheaves 19 = .ok (.iload_n 1, 1) := by decide +kernel
theorem dX3_sheaves_20 : decode cX3_sheaves 20 = .ok (.aload_n 3, 1) := by decide +kernel
theorem dX3_sheaves_21 : decode cX3_sheaves 21 = .ok (.getfield 26, 3) := by decide +kernel
theorem dX3_sheaves_24 : decode cX3_sheaves 24 = .ok (.iadd, 1) := by decide +kernel
theorem dX3_sheaves_25 : decode cX3_sheaves 25 = .ok (.istore_n 1, 1) := by decide +kernel
theorem dX3_sheaves_26 : decode cX3_sheaves 26 = .ok (.iinc 2 1, 3) := by decide +kernel
theorem dX3_sheaves_29 : decode cX3_sheaves 29 = .ok (.goto (-25), 3) := by decide +kernel
theorem dX3_sheaves_32 : decode cX3_sheaves 32 = .ok (.iload_n 1, 1) := by decide +kernel
theorem dX3_sheaves_33 : decode cX3_sheaves 33 = .ok (.ireturn, 1) := by decide +kernel
theorem dX3_loads_0 : decode cX3_loads 0 = .ok (.iconst 0, 1) := by decide +kernel
theorem dX3_loads_1 : decode cX3_loads 1 = .ok (.istore_n 1, 1) := by decide +kernel
theorem dX3_loads_2 : decode cX3_loads 2 = .ok (.iconst 0, 1) := by decide +kernel
theorem dX3_loads_3 : decode cX3_loads 3 = .ok (.istore_n 2, 1) := by decide +kernel
theorem dX3_loads_4 : decode cX3_loads 4 = .ok (.iload_n 2, 1) := by decide +kernel
theorem dX3_loads_5 : decode cX3_loads 5 = .ok (.iconst 3, 1) := by decide +kernel
theorem dX3_loads_6 : decode cX3_loads 6 = .ok (.if_icmp .ge 33, 3) := by decide +kernel
theorem dX3_loads_9 : decode cX3_loads 9 = .ok (.aload_n 0, 1) := by decide +kernel
theorem dX3_loads_10 : decode cX3_loads 10 = .ok (.iload_n 2, 1) := by decide +kernel
theorem dX3_loads_11 : decode cX3_loads 11 = .ok (.invokevirtual 22, 3) := by decide +kernel
theorem dX3_loads_14 : decode cX3_loads 14 = .ok (.astore_n 3, 1) := by decide +kernel
theorem dX3_loads_15 : decode cX3_loads 15 = .ok (.aload_n 3, 1) := by decide +kernel
theorem dX3_loads_16 : decode cX3_loads 16 = .ok (.ifnull 17, 3) := by decide +kernel
theorem dX3_loads_19 : decode cX3_loads 19 = .ok (.iload_n 1, 1) := by decide +kernel
theorem dX3_loads_20 : decode cX3_loads 20 = .ok (.aload_n 3, 1) := by decide +kernel
theorem dX3_loads_21 : decode cX3_loads 21 = .ok (.iconst 0, 1) := by decide +kernel
theorem dX3_loads_22 : decode cX3_loads 22 = .ok (.aload_n 3, 1) := by decide +kernel
theorem dX3_loads_23 : decode cX3_loads 23 = .ok (.getfield 26, 3) := by decide +kernel
theorem dX3_loads_26 : decode cX3_loads 26 = .ok (.iconst 1, 1) := by decide +kernel
theorem dX3_loads_27 : decode cX3_loads 27 = .ok (.isub, 1) := by decide +kernel
theorem dX3_loads_28 : decode cX3_loads 28 = .ok (.invokevirtual 29, 3) := by decide +kernel
theorem dX3_loads_31 : decode cX3_loads 31 = .ok (.iadd, 1) := by decide +kernel
theorem dX3_loads_32 : decode cX3_loads 32 = .ok (.istore_n 1, 1) := by decide +kernel
theorem dX3_loads_33 : decode cX3_loads 33 = .ok (.iinc 2 1, 3) := by decide +kernel
theorem dX3_loads_36 : decode cX3_loads 36 = .ok (.goto (-32), 3) := by decide +kernel
theorem dX3_loads_39 : decode cX3_loads 39 = .ok (.iload_n 1, 1) := by decide +kernel
theorem dX3_loads_40 : decode cX3_loads 40 = .ok (.ireturn, 1) := by decide +kernel
theorem dX3_keyAfter_0 : decode cX3_keyAfter 0 = .ok (.ldc 35, 2) := by decide +kernel
theorem dX3_keyAfter_2 : decode cX3_keyAfter 2 = .ok (.istore_n 2, 1) := by decide +kernel
theorem dX3_keyAfter_3 : decode cX3_keyAfter 3 = .ok (.iconst 0, 1) := by decide +kernel
theorem dX3_keyAfter_4 : decode cX3_keyAfter 4 = .ok (.istore_n 3, 1) := by decide +kernel
theorem dX3_keyAfter_5 : decode cX3_keyAfter 5 = .ok (.iload_n 3, 1) := by decide +kernel
theorem dX3_keyAfter_6 : decode cX3_keyAfter 6 = .ok (.iconst 3, 1) := by decide +kernel
theorem dX3_keyAfter_7 : decode cX3_keyAfter 7 = .ok (.if_icmp .ge 87, 3) := by decide +kernel
theorem dX3_keyAfter_10 : decode cX3_keyAfter 10 = .ok (.aload_n 0, 1) := by decide +kernel
theorem dX3_keyAfter_11 : decode cX3_keyAfter 11 = .ok (.iload_n 3, 1) := by decide +kernel
theorem dX3_keyAfter_12 : decode cX3_keyAfter 12 = .ok (.invokevirtual 22, 3) := by decide +kernel
theorem dX3_keyAfter_15 : decode cX3_keyAfter 15 = .ok (.astore 4, 2) := by decide +kernel
theorem dX3_keyAfter_17 : decode cX3_keyAfter 17 = .ok (.iconst 0, 1) := by decide +kernel
theorem dX3_keyAfter_18 : decode cX3_keyAfter 18 = .ok (.istore 5, 2) := by decide +kernel
theorem dX3_keyAfter_20 : decode cX3_keyAfter 20 = .ok (.aload 4, 2) := by decide +kernel
theorem dX3_keyAfter_22 : decode cX3_keyAfter 22 = .ok (.ifnull 66, 3) := by decide +kernel
theorem dX3_keyAfter_25 : decode cX3_keyAfter 25 = .ok (.iload 5, 2) := by decide +kernel
theorem dX3_keyAfter_27 : decode cX3_keyAfter 27 = .ok (.aload 4, 2) := by decide +kernel
theorem dX3_keyAfter_29 : decode cX3_keyAfter 29 = .ok (.getfield 26, 3) := by decide +kernel
theorem dX3_keyAfter_32 : decode cX3_keyAfter 32 = .ok (.if_icmp .ge 56, 3) := by decide +kernel
theorem dX3_keyAfter_35 : decode cX3_keyAfter 35 = .ok (.bipush 99, 2) := by decide +kernel
theorem dX3_keyAfter_37 : decode cX3_keyAfter 37 = .ok (.aload 4, 2) := by decide +kernel
theorem dX3_keyAfter_39 : decode cX3_keyAfter 39 = .ok (.iload 5, 2) := by decide +kernel
theorem dX3_keyAfter_41 : decode cX3_keyAfter 41 = .ok (.invokevirtual 36, 3) := by decide +kernel
theorem dX3_keyAfter_44 : decode cX3_keyAfter 44 = .ok (.isub, 1) := by decide +kernel
theorem dX3_keyAfter_45 : decode cX3_keyAfter 45 = .ok (.istore 6, 2) := by decide +kernel
theorem dX3_keyAfter_47 : decode cX3_keyAfter 47 = .ok (.iload 6, 2) := by decide +kernel
theorem dX3_keyAfter_49 : decode cX3_keyAfter 49 = .ok (.sipush 1000, 3) := by decide +kernel
theorem dX3_keyAfter_52 : decode cX3_keyAfter 52 = .ok (.imul, 1) := by decide +kernel
theorem dX3_keyAfter_53 : decode cX3_keyAfter 53 = .ok (.aload 4, 2) := by decide +kernel
theorem dX3_keyAfter_55 : decode cX3_keyAfter 55 = .ok (.iload 5, 2) := by decide +kernel
theorem dX3_keyAfter_57 : decode cX3_keyAfter 57 = .ok (.invokevirtual 40, 3) := by decide +kernel
theorem dX3_keyAfter_60 : decode cX3_keyAfter 60 = .ok (.iadd, 1) := by decide +kernel
theorem dX3_keyAfter_61 : decode cX3_keyAfter 61 = .ok (.iconst 3, 1) := by decide +kernel
theorem dX3_keyAfter_62 : decode cX3_keyAfter 62 = .ok (.imul, 1) := by decide +kernel
theorem dX3_keyAfter_63 : decode cX3_keyAfter 63 = .ok (.iload_n 3, 1) := by decide +kernel
theorem dX3_keyAfter_64 : decode cX3_keyAfter 64 = .ok (.iadd, 1) := by decide +kernel
theorem dX3_keyAfter_65 : decode cX3_keyAfter 65 = .ok (.istore 7, 2) := by decide +kernel
theorem dX3_keyAfter_67 : decode cX3_keyAfter 67 = .ok (.iload 7, 2) := by decide +kernel
theorem dX3_keyAfter_69 : decode cX3_keyAfter 69 = .ok (.iload_n 1, 1) := by decide +kernel
theorem dX3_keyAfter_70 : decode cX3_keyAfter 70 = .ok (.if_icmp .le 12, 3) := by decide +kernel
theorem dX3_keyAfter_73 : decode cX3_keyAfter 73 = .ok (.iload 7, 2) := by decide +kernel
theorem dX3_keyAfter_75 : decode cX3_keyAfter 75 = .ok (.iload_n 2, 1) := by decide +kernel
theorem dX3_keyAfter_76 : decode cX3_keyAfter 76 = .ok (.if_icmp .ge 6, 3) := by decide +kernel
theorem dX3_keyAfter_79 : decode cX3_keyAfter 79 = .ok (.iload 7, 2) := by decide +kernel
theorem dX3_keyAfter_81 : decode cX3_keyAfter 81 = .ok (.istore_n 2, 1) := by decide +kernel
theorem dX3_keyAfter_82 : decode cX3_keyAfter 82 = .ok (.iinc 5 1, 3) := by decide +kernel
theorem dX3_keyAfter_85 : decode cX3_keyAfter 85 = .ok (.goto (-65), 3) := by decide +kernel
theorem dX3_keyAfter_88 : decode cX3_keyAfter 88 = .ok (.iinc 3 1, 3) := by decide +kernel
theorem dX3_keyAfter_91 : decode cX3_keyAfter 91 = .ok (.goto (-86), 3) := by decide +kernel
theorem dX3_keyAfter_94 : decode cX3_keyAfter 94 = .ok (.iload_n 2, 1) := by decide +kernel
theorem dX3_keyAfter_95 : decode cX3_keyAfter 95 = .ok (.ireturn, 1) := by decide +kernel
theorem dX3_copyFrom_0 : decode cX3_copyFrom 0 = .ok (.iconst 0, 1) := by decide +kernel
theorem dX3_copyFrom_1 : decode cX3_copyFrom 1 = .ok (.istore_n 2, 1) := by decide +kernel
theorem dX3_copyFrom_2 : decode cX3_copyFrom 2 = .ok (.iload_n 2, 1) := by decide +kernel
theorem dX3_copyFrom_3 : decode cX3_copyFrom 3 = .ok (.iconst 3, 1) := by decide +kernel
theorem dX3_copyFrom_4 : decode cX3_copyFrom 4 = .ok (.if_icmp .ge 37, 3) := by decide +kernel
theorem dX3_copyFrom_7 : decode cX3_copyFrom 7 = .ok (.aload_n 0, 1) := by decide +kernel
theorem dX3_copyFrom_8 : decode cX3_copyFrom 8 = .ok (.iload_n 2, 1) := by decide +kernel
theorem dX3_copyFrom_9 : decode cX3_copyFrom 9 = .ok (.invokevirtual 22, 3) := by decide +kernel
theorem dX3_copyFrom_12 : decode cX3_copyFrom 12 = .ok (.astore_n 3, 1) := by decide +kernel
theorem dX3_copyFrom_13 : decode cX3_copyFrom 13 = .ok (.aload_n 1, 1) := by decide +kernel
theorem dX3_copyFrom_14 : decode cX3_copyFrom 14 = .ok (.iload_n 2, 1) := by decide +kernel
theorem dX3_copyFrom_15 : decode cX3_copyFrom 15 = .ok (.invokevirtual 22, 3) := by decide +kernel
theorem dX3_copyFrom_18 : decode cX3_copyFrom 18 = .ok (.astore 4, 2) := by decide +kernel
theorem dX3_copyFrom_20 : decode cX3_copyFrom 20 = .ok (.aload_n 3, 1) := by decide +kernel
theorem dX3_copyFrom_21 : decode cX3_copyFrom 21 = .ok (.ifnull 14, 3) := by decide +kernel
theorem dX3_copyFrom_24 : decode cX3_copyFrom 24 = .ok (.aload 4, 2) := by decide +kernel
theorem dX3_copyFrom_26 : decode cX3_copyFrom 26 = .ok (.ifnull 9, 3) := by decide +kernel
theorem dX3_copyFrom_29 : decode cX3_copyFrom 29 = .ok (.aload_n 3, 1) := by decide +kernel
theorem dX3_copyFrom_30 : decode cX3_copyFrom 30 = .ok (.aload 4, 2) := by decide +kernel
theorem dX3_copyFrom_32 : decode cX3_copyFrom 32 = .ok (.invokevirtual 43, 3) := by decide +kernel
theorem dX3_copyFrom_35 : decode cX3_copyFrom 35 = .ok (.iinc 2 1, 3) := by decide +kernel
theorem dX3_copyFrom_38 : decode cX3_copyFrom 38 = .ok (.goto (-36), 3) := by decide +kernel
theorem dX3_copyFrom_41 : decode cX3_copyFrom 41 = .ok (.aload_n 0, 1) := by decide +kernel
theorem dX3_copyFrom_42 : decode cX3_copyFrom 42 = .ok (.aload_n 1, 1) := by decide +kernel
theorem dX3_copyFrom_43 : decode cX3_copyFrom 43 = .ok (.getfield 17, 3) := by decide +kernel
theorem dX3_copyFrom_46 : decode cX3_copyFrom 46 = .ok (.putfield 17, 3) := by decide +kernel
theorem dX3_copyFrom_49 : decode cX3_copyFrom 49 = .ok (.aload_n 0, 1) := by decide +kernel
theorem dX3_copyFrom_50 : decode cX3_copyFrom 50 = .ok (.aload_n 1, 1) := by decide +kernel
theorem dX3_copyFrom_51 : decode cX3_copyFrom 51 = .ok (.getfield 47, 3) := by decide +kernel
theorem dX3_copyFrom_54 : decode cX3_copyFrom 54 = .ok (.putfield 47, 3) := by decide +kernel
theorem dX3_copyFrom_57 : decode cX3_copyFrom 57 = .ok (.aload_n 0, 1) := by decide +kernel
theorem dX3_copyFrom_58 : decode cX3_copyFrom 58 = .ok (.aload_n 1, 1) := by decide +kernel
theorem dX3_copyFrom_59 : decode cX3_copyFrom 59 = .ok (.getfield 50, 3) := by decide +kernel
theorem dX3_copyFrom_62 : decode cX3_copyFrom 62 = .ok (.putfield 50, 3) := by decide +kernel
theorem dX3_copyFrom_65 : decode cX3_copyFrom 65 = .ok (.aload_n 0, 1) := by decide +kernel
theorem dX3_copyFrom_66 : decode cX3_copyFrom 66 = .ok (.aload_n 1, 1) := by decide +kernel
theorem dX3_copyFrom_67 : decode cX3_copyFrom 67 = .ok (.getfield 53, 3) := by decide +kernel
theorem dX3_copyFrom_70 : decode cX3_copyFrom 70 = .ok (.putfield 53, 3) := by decide +kernel
theorem dX3_copyFrom_73 : decode cX3_copyFrom 73 = .ok (.aload_n 0, 1) := by decide +kernel
theorem dX3_copyFrom_74 : decode cX3_copyFrom 74 = .ok (.aload_n 1, 1) := by decide +kernel
theorem dX3_copyFrom_75 : decode cX3_copyFrom 75 = .ok (.getfield 56, 3) := by decide +kernel
theorem dX3_copyFrom_78 : decode cX3_copyFrom 78 = .ok (.putfield 56, 3) := by decide +kernel
theorem dX3_copyFrom_81 : decode cX3_copyFrom 81 = .ok (.aload_n 0, 1) := by decide +kernel
theorem dX3_copyFrom_82 : decode cX3_copyFrom 82 = .ok (.aload_n 1, 1) := by decide +kernel
theorem dX3_copyFrom_83 : decode cX3_copyFrom 83 = .ok (.getfield 59, 3) := by decide +kernel
theorem dX3_copyFrom_86 : decode cX3_copyFrom 86 = .ok (.putfield 59, 3) := by decide +kernel
theorem dX3_copyFrom_89 : decode cX3_copyFrom 89 = .ok (.aload_n 0, 1) := by decide +kernel
theorem dX3_copyFrom_90 : decode cX3_copyFrom 90 = .ok (.aload_n 1, 1) := by decide +kernel
theorem dX3_copyFrom_91 : decode cX3_copyFrom 91 = .ok (.getfield 62, 3) := by decide +kernel
theorem dX3_copyFrom_94 : decode cX3_copyFrom 94 = .ok (.putfield 62, 3) := by decide +kernel
theorem dX3_copyFrom_97 : decode cX3_copyFrom 97 = .ok (.return_, 1) := by decide +kernel
theorem dX4_init_0 : decode cX4_init 0 = .ok (.aload_n 0, 1) := by decide +kernel
theorem dX4_init_1 : decode cX4_init 1 = .ok (.invokespecial 1, 3) := by decide +kernel
theorem dX4_init_4 : decode cX4_init 4 = .ok (.aload_n 0, 1) := by decide +kernel
theorem dX4_init_5 : decode cX4_init 5 = .ok (.new 7, 3) := by decide +kernel
theorem dX4_init_8 : decode cX4_init 8 = .ok (.dup, 1) := by decide +kernel
theorem dX4_init_9 : decode cX4_init 9 = .ok (.invokespecial 9, 3) := by decide +kernel
theorem dX4_init_12 : decode cX4_init 12 = .ok (.putfield 10, 3) := by decide +kernel
theorem dX4_init_15 : decode cX4_init 15 = .ok (.aload_n 0, 1) := by decide +kernel
theorem dX4_init_16 : decode cX4_init 16 = .ok (.new 7, 3) := by decide +kernel
theorem dX4_init_19 : decode cX4_init 19 = .ok (.dup, 1) := by decide +kernel
theorem dX4_init_20 : decode cX4_init 20 = .ok (.invokespecial 9, 3) := by decide +kernel
theorem dX4_init_23 : decode cX4_init 23 = .ok (.putfield 16, 3) := by decide +kernel
theorem dX4_init_26 : decode cX4_init 26 = .ok (.aload_n 0, 1) := by decide +kernel
theorem dX4_init_27 : decode cX4_init 27 = .ok (.bipush 9, 2) := by decide +kernel
theorem dX4_init_29 : decode cX4_init 29 = .ok (.anewarray 7, 3) := by decide +kernel
theorem dX4_init_32 : decode cX4_init 32 = .ok (.putfield 19, 3) := by decide +kernel
theorem dX4_init_35 : decode cX4_init 35 = .ok (.aload_n 0, 1) := by decide +kernel
theorem dX4_init_36 : decode cX4_init 36 = .ok (.new 23, 3) := by decide +kernel
end
section
theorem dX4_init_39 : decode cX4_init 39 = .ok (.dup, 1) := by decide +kernel
theorem dX4_init_40 : decode cX4_init 40 = .ok (.invokespecial 25, 3) := by decide +kernel
theorem dX4_init_43 : decode cX4_init 43 = .ok (.putfield 26, 3) := by decide +kernel
theorem dX4_init_46 : decode cX4_init 46 = .ok (.aload_n 0, 1) := by decide +kernel
theorem dX4_init_47 : decode cX4_init 47 = .ok (.new 23, 3) := by decide +kernel
theorem dX4_init_50 : decode cX4_init 50 = .ok (.dup, 1) := by decide +kernel
theorem dX4_init_51 : decode cX4_init 51 = .ok (.invokespecial 25, 3) := by decide +kernel
theorem dX4_init_54 : decode cX4_init 54 = .ok (.putfield 30, 3) := by decide +kernel
theorem dX4_init_57 : decode cX4_init 57 = .ok (.aload_n 0, 1) := by decide +kernel
theorem dX4_init_58 : decode cX4_init 58 = .ok (.new 33, 3) := by decide +kernel
theorem dX4_init_61 : decode cX4_init 61 = .ok (.dup, 1) := by decide +kernel
theorem dX4_init_62 : decode cX4_init 62 = .ok (.invokespecial 35, 3) := by decide +kernel
theorem dX4_init_65 : decode cX4_init 65 = .ok (.putfield 36, 3) := by decide +kernel
theorem dX4_init_68 : decode cX4_init 68 = .ok (.aload_n 0, 1) := by decide +kernel
theorem dX4_init_69 : decode cX4_init 69 = .ok (.bipush (-15), 2) := by decide +kernel
theorem dX4_init_71 : decode cX4_init 71 = .ok (.putfield 40, 3) := by decide +kernel
theorem dX4_init_74 : decode cX4_init 74 = .ok (.aload_n 0, 1) := by decide +kernel
theorem dX4_init_75 : decode cX4_init 75 = .ok (.bipush (-15), 2) := by decide +kernel
theorem dX4_init_77 : decode cX4_init 77 = .ok (.putfield 44, 3) := by decide +kernel
theorem dX4_init_80 : decode cX4_init 80 = .ok (.iconst 0, 1) := by decide +kernel
theorem dX4_init_81 : decode cX4_init 81 = .ok (.istore_n 1, 1) := by decide +kernel
theorem dX4_init_82 : decode cX4_init 82 = .ok (.iload_n 1, 1) := by decide +kernel
theorem dX4_init_83 : decode cX4_init 83 = .ok (.aload_n 0, 1) := by decide +kernel
theorem dX4_init_84 : decode cX4_init 84 = .ok (.getfield 19, 3) := by decide +kernel
theorem dX4_init_87 : decode cX4_init 87 = .ok (.arraylength, 1) := by decide +kernel
theorem dX4_init_88 : decode cX4_init 88 = .ok (.if_icmp .ge 22, 3) := by decide +kernel
theorem dX4_init_91 : decode cX4_init 91 = .ok (.aload_n 0, 1) := by decide +kernel
theorem dX4_init_92 : decode cX4_init 92 = .ok (.getfield 19, 3) := by decide +kernel
theorem dX4_init_95 : decode cX4_init 95 = .ok (.iload_n 1, 1) := by decide +kernel
theorem dX4_init_96 : decode cX4_init 96 = .ok (.new 7, 3) := by decide +kernel
theorem dX4_init_99 : decode cX4_init 99 = .ok (.dup, 1) := by decide +kernel
theorem dX4_init_100 : decode cX4_init 100 = .ok (.invokespecial 9, 3) := by decide +kernel
theorem dX4_init_103 : decode cX4_init 103 = .ok (.aastore, 1) := by decide +kernel
theorem dX4_init_104 : decode cX4_init 104 = .ok (.iinc 1 1, 3) := by decide +kernel
theorem dX4_init_107 : decode cX4_init 107 = .ok (.goto (-25), 3) := by decide +kernel
theorem dX4_init_110 : decode cX4_init 110 = .ok (.return_, 1) := by decide +kernel
theorem dX4_put_0 : decode cX4_put 0 = .ok (.aload_n 0, 1) := by decide +kernel
theorem dX4_put_1 : decode cX4_put 1 = .ok (.invokevirtual 47, 3) := by decide +kernel
theorem dX4_put_4 : decode cX4_put 4 = .ok (.aload_n 0, 1) := by decide +kernel
theorem dX4_put_5 : decode cX4_put 5 = .ok (.aload_n 0, 1) := by decide +kernel
theorem dX4_put_6 : decode cX4_put 6 = .ok (.iload_n 1, 1) := by decide +kernel
theorem dX4_put_7 : decode cX4_put 7 = .ok (.iload_n 2, 1) := by decide +kernel
theorem dX4_put_8 : decode cX4_put 8 = .ok (.iload_n 3, 1) := by decide +kernel
theorem dX4_put_9 : decode cX4_put 9 = .ok (.invokevirtual 50, 3) := by decide +kernel
theorem dX4_put_12 : decode cX4_put 12 = .ok (.invokevirtual 54, 3) := by decide +kernel
theorem dX4_put_15 : decode cX4_put 15 = .ok (.ireturn, 1) := by decide +kernel
theorem dX4_take_0 : decode cX4_take 0 = .ok (.aload_n 0, 1) := by decide +kernel
theorem dX4_take_1 : decode cX4_take 1 = .ok (.invokevirtual 47, 3) := by decide +kernel
theorem dX4_take_4 : decode cX4_take 4 = .ok (.aload_n 0, 1) := by decide +kernel
theorem dX4_take_5 : decode cX4_take 5 = .ok (.aload_n 0, 1) := by decide +kernel
theorem dX4_take_6 : decode cX4_take 6 = .ok (.iload_n 1, 1) := by decide +kernel
theorem dX4_take_7 : decode cX4_take 7 = .ok (.iload_n 2, 1) := by decide +kernel
theorem dX4_take_8 : decode cX4_take 8 = .ok (.invokevirtual 58, 3) := by decide +kernel
theorem dX4_take_11 : decode cX4_take 11 = .ok (.invokevirtual 54, 3) := by decide +kernel
theorem dX4_take_14 : decode cX4_take 14 = .ok (.ireturn, 1) := by decide +kernel
theorem dX4_build_0 : decode cX4_build 0 = .ok (.aload_n 0, 1) := by decide +kernel
theorem dX4_build_1 : decode cX4_build 1 = .ok (.invokevirtual 47, 3) := by decide +kernel
theorem dX4_build_4 : decode cX4_build 4 = .ok (.aload_n 0, 1) := by decide +kernel
theorem dX4_build_5 : decode cX4_build 5 = .ok (.aload_n 0, 1) := by decide +kernel
theorem dX4_build_6 : decode cX4_build 6 = .ok (.iload_n 1, 1) := by decide +kernel
theorem dX4_build_7 : decode cX4_build 7 = .ok (.invokevirtual 62, 3) := by decide +kernel
theorem dX4_build_10 : decode cX4_build 10 = .ok (.invokevirtual 54, 3) := by decide +kernel
theorem dX4_build_13 : decode cX4_build 13 = .ok (.ireturn, 1) := by decide +kernel
theorem dX4_pour_0 : decode cX4_pour 0 = .ok (.aload_n 0, 1) := by decide +kernel
theorem dX4_pour_1 : decode cX4_pour 1 = .ok (.invokevirtual 47, 3) := by decide +kernel
theorem dX4_pour_4 : decode cX4_pour 4 = .ok (.aload_n 0, 1) := by decide +kernel
theorem dX4_pour_5 : decode cX4_pour 5 = .ok (.aload_n 0, 1) := by decide +kernel
theorem dX4_pour_6 : decode cX4_pour 6 = .ok (.iload_n 1, 1) := by decide +kernel
theorem dX4_pour_7 : decode cX4_pour 7 = .ok (.iload_n 2, 1) := by decide +kernel
theorem dX4_pour_8 : decode cX4_pour 8 = .ok (.invokevirtual 65, 3) := by decide +kernel
theorem dX4_pour_11 : decode cX4_pour 11 = .ok (.invokevirtual 54, 3) := by decide +kernel
theorem dX4_pour_14 : decode cX4_pour 14 = .ok (.ireturn, 1) := by decide +kernel
theorem dX4_limit_0 : decode cX4_limit 0 = .ok (.aload_n 0, 1) := by decide +kernel
theorem dX4_limit_1 : decode cX4_limit 1 = .ok (.invokevirtual 47, 3) := by decide +kernel
theorem dX4_limit_4 : decode cX4_limit 4 = .ok (.aload_n 0, 1) := by decide +kernel
theorem dX4_limit_5 : decode cX4_limit 5 = .ok (.aload_n 0, 1) := by decide +kernel
theorem dX4_limit_6 : decode cX4_limit 6 = .ok (.iload_n 1, 1) := by decide +kernel
theorem dX4_limit_7 : decode cX4_limit 7 = .ok (.invokevirtual 68, 3) := by decide +kernel
theorem dX4_limit_10 : decode cX4_limit 10 = .ok (.invokevirtual 54, 3) := by decide +kernel
theorem dX4_limit_13 : decode cX4_limit 13 = .ok (.ireturn, 1) := by decide +kernel
theorem dX4_sheafOf_0 : decode cX4_sheafOf 0 = .ok (.aload_n 0, 1) := by decide +kernel
theorem dX4_sheafOf_1 : decode cX4_sheafOf 1 = .ok (.getfield 10, 3) := by decide +kernel
theorem dX4_sheafOf_4 : decode cX4_sheafOf 4 = .ok (.iload_n 1, 1) := by decide +kernel
theorem dX4_sheafOf_5 : decode cX4_sheafOf 5 = .ok (.invokevirtual 71, 3) := by decide +kernel
theorem dX4_sheafOf_8 : decode cX4_sheafOf 8 = .ok (.astore 4, 2) := by decide +kernel
theorem dX4_sheafOf_10 : decode cX4_sheafOf 10 = .ok (.aload 4, 2) := by decide +kernel
theorem dX4_sheafOf_12 : decode cX4_sheafOf 12 = .ok (.ifnonnull 6, 3) := by decide +kernel
theorem dX4_sheafOf_15 : decode cX4_sheafOf 15 = .ok (.bipush (-11), 2) := by decide +kernel
theorem dX4_sheafOf_17 : decode cX4_sheafOf 17 = .ok (.ireturn, 1) := by decide +kernel
theorem dX4_sheafOf_18 : decode cX4_sheafOf 18 = .ok (.aload 4, 2) := by decide +kernel
theorem dX4_sheafOf_20 : decode cX4_sheafOf 20 = .ok (.iload_n 2, 1) := by decide +kernel
theorem dX4_sheafOf_21 : decode cX4_sheafOf 21 = .ok (.invokevirtual 75, 3) := by decide +kernel
theorem dX4_sheafOf_24 : decode cX4_sheafOf 24 = .ok (.istore 5, 2) := by decide +kernel
theorem dX4_sheafOf_26 : decode cX4_sheafOf 26 = .ok (.iload 5, 2) := by decide +kernel
theorem dX4_sheafOf_28 : decode cX4_sheafOf 28 = .ok (.iconst (-1), 1) := by decide +kernel
theorem dX4_sheafOf_29 : decode cX4_sheafOf 29 = .ok (.if_icmp .ne 6, 3) := by decide +kernel
theorem dX4_sheafOf_32 : decode cX4_sheafOf 32 = .ok (.bipush (-11), 2) := by decide +kernel
theorem dX4_sheafOf_34 : decode cX4_sheafOf 34 = .ok (.ireturn, 1) := by decide +kernel
theorem dX4_sheafOf_35 : decode cX4_sheafOf 35 = .ok (.aload 4, 2) := by decide +kernel
theorem dX4_sheafOf_37 : decode cX4_sheafOf 37 = .ok (.iload 5, 2) := by decide +kernel
theorem dX4_sheafOf_39 : decode cX4_sheafOf 39 = .ok (.invokevirtual 80, 3) := by decide +kernel
theorem dX4_sheafOf_42 : decode cX4_sheafOf 42 = .ok (.istore 6, 2) := by decide +kernel
theorem dX4_sheafOf_44 : decode cX4_sheafOf 44 = .ok (.aload 4, 2) := by decide +kernel
theorem dX4_sheafOf_46 : decode cX4_sheafOf 46 = .ok (.iload 5, 2) := by decide +kernel
theorem dX4_sheafOf_48 : decode cX4_sheafOf 48 = .ok (.invokevirtual 83, 3) := by decide +kernel
theorem dX4_sheafOf_51 : decode cX4_sheafOf 51 = .ok (.istore 7, 2) := by decide +kernel
theorem dX4_sheafOf_53 : decode cX4_sheafOf 53 = .ok (.iload_n 3, 1) := by decide +kernel
theorem dX4_sheafOf_54 : decode cX4_sheafOf 54 = .ok (.tableswitch 150 0 7 #[46, 54, 62, 70, 80, 103, 116, 133], 46) := by decide +kernel
theorem dX4_sheafOf_100 : decode cX4_sheafOf 100 = .ok (.aload 4, 2) := by decide +kernel
theorem dX4_sheafOf_102 : decode cX4_sheafOf 102 = .ok (.iload 5, 2) := by decide +kernel
theorem dX4_sheafOf_104 : decode cX4_sheafOf 104 = .ok (.invokevirtual 86, 3) := by decide +kernel
theorem dX4_sheafOf_107 : decode cX4_sheafOf 107 = .ok (.ireturn, 1) := by decide +kernel
theorem dX4_sheafOf_108 : decode cX4_sheafOf 108 = .ok (.aload 4, 2) := by decide +kernel
theorem dX4_sheafOf_110 : decode cX4_sheafOf 110 = .ok (.iload 5, 2) := by decide +kernel
theorem dX4_sheafOf_112 : decode cX4_sheafOf 112 = .ok (.invokevirtual 89, 3) := by decide +kernel
theorem dX4_sheafOf_115 : decode cX4_sheafOf 115 = .ok (.ireturn, 1) := by decide +kernel
theorem dX4_sheafOf_116 : decode cX4_sheafOf 116 = .ok (.iload 7, 2) := by decide +kernel
theorem dX4_sheafOf_118 : decode cX4_sheafOf 118 = .ok (.iload 6, 2) := by decide +kernel
theorem dX4_sheafOf_120 : decode cX4_sheafOf 120 = .ok (.isub, 1) := by decide +kernel
theorem dX4_sheafOf_121 : decode cX4_sheafOf 121 = .ok (.iconst 1, 1) := by decide +kernel
theorem dX4_sheafOf_122 : decode cX4_sheafOf 122 = .ok (.iadd, 1) := by decide +kernel
theorem dX4_sheafOf_123 : decode cX4_sheafOf 123 = .ok (.ireturn, 1) := by decide +kernel
theorem dX4_sheafOf_124 : decode cX4_sheafOf 124 = .ok (.aload 4, 2) := by decide +kernel
theorem dX4_sheafOf_126 : decode cX4_sheafOf 126 = .ok (.iload 6, 2) := by decide +kernel
theorem dX4_sheafOf_128 : decode cX4_sheafOf 128 = .ok (.iload 7, 2) := by decide +kernel
theorem dX4_sheafOf_130 : decode cX4_sheafOf 130 = .ok (.invokevirtual 92, 3) := by decide +kernel
theorem dX4_sheafOf_133 : decode cX4_sheafOf 133 = .ok (.ireturn, 1) := by decide +kernel
theorem dX4_sheafOf_134 : decode cX4_sheafOf 134 = .ok (.aload 4, 2) := by decide +kernel
theorem dX4_sheafOf_136 : decode cX4_sheafOf 136 = .ok (.iload 5, 2) := by decide +kernel
theorem dX4_sheafOf_138 : decode cX4_sheafOf 138 = .ok (.aload_n 0, 1) := by decide +kernel
theorem dX4_sheafOf_139 : decode cX4_sheafOf 139 = .ok (.getfield 10, 3) := by decide +kernel
theorem dX4_sheafOf_142 : decode cX4_sheafOf 142 = .ok (.getfield 95, 3) := by decide +kernel
theorem dX4_sheafOf_145 : decode cX4_sheafOf 145 = .ok (.invokevirtual 98, 3) := by decide +kernel
theorem dX4_sheafOf_148 : decode cX4_sheafOf 148 = .ok (.ifCond .eq 7, 3) := by decide +kernel
theorem dX4_sheafOf_151 : decode cX4_sheafOf 151 = .ok (.iconst 1, 1) := by decide +kernel
theorem dX4_sheafOf_152 : decode cX4_sheafOf 152 = .ok (.goto 4, 3) := by decide +kernel
theorem dX4_sheafOf_155 : decode cX4_sheafOf 155 = .ok (.iconst 0, 1) := by decide +kernel
theorem dX4_sheafOf_156 : decode cX4_sheafOf 156 = .ok (.ireturn, 1) := by decide +kernel
theorem dX4_sheafOf_157 : decode cX4_sheafOf 157 = .ok (.aload 4, 2) := by decide +kernel
theorem dX4_sheafOf_159 : decode cX4_sheafOf 159 = .ok (.aload 4, 2) := by decide +kernel
theorem dX4_sheafOf_161 : decode cX4_sheafOf 161 = .ok (.iload 5, 2) := by decide +kernel
theorem dX4_sheafOf_163 : decode cX4_sheafOf 163 = .ok (.invokevirtual 102, 3) := by decide +kernel
theorem dX4_sheafOf_166 : decode cX4_sheafOf 166 = .ok (.invokevirtual 105, 3) := by decide +kernel
theorem dX4_sheafOf_169 : decode cX4_sheafOf 169 = .ok (.ireturn, 1) := by decide +kernel
theorem dX4_sheafOf_170 : decode cX4_sheafOf 170 = .ok (.aload 4, 2) := by decide +kernel
theorem dX4_sheafOf_172 : decode cX4_sheafOf 172 = .ok (.aload 4, 2) := by decide +kernel
theorem dX4_sheafOf_174 : decode cX4_sheafOf 174 = .ok (.iload 6, 2) := by decide +kernel
theorem dX4_sheafOf_176 : decode cX4_sheafOf 176 = .ok (.iload 5, 2) := by decide +kernel
theorem dX4_sheafOf_178 : decode cX4_sheafOf 178 = .ok (.iconst 1, 1) := by decide +kernel
theorem dX4_sheafOf_179 : decode cX4_sheafOf 179 = .ok (.isub, 1) := by decide +kernel
theorem dX4_sheafOf_180 : decode cX4_sheafOf 180 = .ok (.invokevirtual 108, 3) := by decide +kernel
theorem dX4_sheafOf_183 : decode cX4_sheafOf 183 = .ok (.invokevirtual 105, 3) := by decide +kernel
theorem dX4_sheafOf_186 : decode cX4_sheafOf 186 = .ok (.ireturn, 1) := by decide +kernel
theorem dX4_sheafOf_187 : decode cX4_sheafOf 187 = .ok (.aload 4, 2) := by decide +kernel
theorem dX4_sheafOf_189 : decode cX4_sheafOf 189 = .ok (.aload 4, 2) := by decide +kernel
theorem dX4_sheafOf_191 : decode cX4_sheafOf 191 = .ok (.iload 5, 2) := by decide +kernel
theorem dX4_sheafOf_193 : decode cX4_sheafOf 193 = .ok (.iconst 1, 1) := by decide +kernel
theorem dX4_sheafOf_194 : decode cX4_sheafOf 194 = .ok (.iadd, 1) := by decide +kernel
theorem dX4_sheafOf_195 : decode cX4_sheafOf 195 = .ok (.iload 7, 2) := by decide +kernel
theorem dX4_sheafOf_197 : decode cX4_sheafOf 197 = .ok (.invokevirtual 108, 3) := by decide +kernel
theorem dX4_sheafOf_200 : decode cX4_sheafOf 200 = .ok (.invokevirtual 105, 3) := by decide +kernel
theorem dX4_sheafOf_203 : decode cX4_sheafOf 203 = .ok (.ireturn, 1) := by decide +kernel
theorem dX4_sheafOf_204 : decode cX4_sheafOf 204 = .ok (.bipush (-12), 2) := by decide +kernel
theorem dX4_sheafOf_206 : decode cX4_sheafOf 206 = .ok (.ireturn, 1) := by decide +kernel
theorem dX4_rickOf_0 : decode cX4_rickOf 0 = .ok (.aload_n 0, 1) := by decide +kernel
theorem dX4_rickOf_1 : decode cX4_rickOf 1 = .ok (.getfield 10, 3) := by decide +kernel
theorem dX4_rickOf_4 : decode cX4_rickOf 4 = .ok (.iload_n 1, 1) := by decide +kernel
theorem dX4_rickOf_5 : decode cX4_rickOf 5 = .ok (.invokevirtual 71, 3) := by decide +kernel
theorem dX4_rickOf_8 : decode cX4_rickOf 8 = .ok (.astore_n 3, 1) := by decide +kernel
theorem dX4_rickOf_9 : decode cX4_rickOf 9 = .ok (.aload_n 3, 1) := by decide +kernel
theorem dX4_rickOf_10 : decode cX4_rickOf 10 = .ok (.ifnonnull 6, 3) := by decide +kernel
theorem dX4_rickOf_13 : decode cX4_rickOf 13 = .ok (.bipush (-11), 2) := by decide +kernel
theorem dX4_rickOf_15 : decode cX4_rickOf 15 = .ok (.ireturn, 1) := by decide +kernel
theorem dX4_rickOf_16 : decode cX4_rickOf 16 = .ok (.iload_n 2, 1) := by decide +kernel
theorem dX4_rickOf_17 : decode cX4_rickOf 17 = .ok (.tableswitch 131 0 8 #[51, 56, 68, 84, 89, 104, 109, 121, 126], 51) := by decide +kernel
theorem dX4_rickOf_68 : decode cX4_rickOf 68 = .ok (.aload_n 3, 1) := by decide +kernel
theorem dX4_rickOf_69 : decode cX4_rickOf 69 = .ok (.getfield 111, 3) := by decide +kernel
theorem dX4_rickOf_72 : decode cX4_rickOf 72 = .ok (.ireturn, 1) := by decide +kernel
theorem dX4_rickOf_73 : decode cX4_rickOf 73 = .ok (.aload_n 3, 1) := by decide +kernel
theorem dX4_rickOf_74 : decode cX4_rickOf 74 = .ok (.iconst 0, 1) := by decide +kernel
theorem dX4_rickOf_75 : decode cX4_rickOf 75 = .ok (.aload_n 3, 1) := by decide +kernel
theorem dX4_rickOf_76 : decode cX4_rickOf 76 = .ok (.getfield 111, 3) := by decide +kernel
theorem dX4_rickOf_79 : decode cX4_rickOf 79 = .ok (.iconst 1, 1) := by decide +kernel
theorem dX4_rickOf_80 : decode cX4_rickOf 80 = .ok (.isub, 1) := by decide +kernel
theorem dX4_rickOf_81 : decode cX4_rickOf 81 = .ok (.invokevirtual 92, 3) := by decide +kernel
theorem dX4_rickOf_84 : decode cX4_rickOf 84 = .ok (.ireturn, 1) := by decide +kernel
theorem dX4_rickOf_85 : decode cX4_rickOf 85 = .ok (.aload_n 3, 1) := by decide +kernel
theorem dX4_rickOf_86 : decode cX4_rickOf 86 = .ok (.aload_n 3, 1) := by decide +kernel
theorem dX4_rickOf_87 : decode cX4_rickOf 87 = .ok (.iconst 0, 1) := by decide +kernel
theorem dX4_rickOf_88 : decode cX4_rickOf 88 = .ok (.aload_n 3, 1) := by decide +kernel
theorem dX4_rickOf_89 : decode cX4_rickOf 89 = .ok (.getfield 111, 3) := by decide +kernel
theorem dX4_rickOf_92 : decode cX4_rickOf 92 = .ok (.iconst 1, 1) := by decide +kernel
theorem dX4_rickOf_93 : decode cX4_rickOf 93 = .ok (.isub, 1) := by decide +kernel
theorem dX4_rickOf_94 : decode cX4_rickOf 94 = .ok (.invokevirtual 108, 3) := by decide +kernel
theorem dX4_rickOf_97 : decode cX4_rickOf 97 = .ok (.invokevirtual 105, 3) := by decide +kernel
theorem dX4_rickOf_100 : decode cX4_rickOf 100 = .ok (.ireturn, 1) := by decide +kernel
theorem dX4_rickOf_101 : decode cX4_rickOf 101 = .ok (.aload_n 3, 1) := by decide +kernel
theorem dX4_rickOf_102 : decode cX4_rickOf 102 = .ok (.invokevirtual 114, 3) := by decide +kernel
theorem dX4_rickOf_105 : decode cX4_rickOf 105 = .ok (.ireturn, 1) := by decide +kernel
theorem dX4_rickOf_106 : decode cX4_rickOf 106 = .ok (.aload_n 3, 1) := by decide +kernel
theorem dX4_rickOf_107 : decode cX4_rickOf 107 = .ok (.getfield 111, 3) := by decide +kernel
theorem dX4_rickOf_110 : decode cX4_rickOf 110 = .ok (.aload_n 0, 1) := by decide +kernel
theorem dX4_rickOf_111 : decode cX4_rickOf 111 = .ok (.getfield 10, 3) := by decide +kernel
theorem dX4_rickOf_114 : decode cX4_rickOf 114 = .ok (.getfield 95, 3) := by decide +kernel
theorem dX4_rickOf_117 : decode cX4_rickOf 117 = .ok (.invokestatic 118, 3) := by decide +kernel
theorem dX4_rickOf_120 : decode cX4_rickOf 120 = .ok (.ireturn, 1) := by decide +kernel
theorem dX4_rickOf_121 : decode cX4_rickOf 121 = .ok (.aload_n 3, 1) := by decide +kernel
theorem dX4_rickOf_122 : decode cX4_rickOf 122 = .ok (.getfield 121, 3) := by decide +kernel
theorem dX4_rickOf_125 : decode cX4_rickOf 125 = .ok (.ireturn, 1) := by decide +kernel
theorem dX4_rickOf_126 : decode cX4_rickOf 126 = .ok (.aload_n 3, 1) := by decide +kernel
theorem dX4_rickOf_127 : decode cX4_rickOf 127 = .ok (.aload_n 0, 1) := by decide +kernel
theorem dX4_rickOf_128 : decode cX4_rickOf 128 = .ok (.getfield 10, 3) := by decide +kernel
theorem dX4_rickOf_131 : decode cX4_rickOf 131 = .ok (.getfield 95, 3) := by decide +kernel
theorem dX4_rickOf_134 : decode cX4_rickOf 134 = .ok (.invokevirtual 124, 3) := by decide +kernel
theorem dX4_rickOf_137 : decode cX4_rickOf 137 = .ok (.ireturn, 1) := by decide +kernel
theorem dX4_rickOf_138 : decode cX4_rickOf 138 = .ok (.aload_n 3, 1) := by decide +kernel
theorem dX4_rickOf_139 : decode cX4_rickOf 139 = .ok (.invokevirtual 127, 3) := by decide +kernel
theorem dX4_rickOf_142 : decode cX4_rickOf 142 = .ok (.ireturn, 1) := by decide +kernel
theorem dX4_rickOf_143 : decode cX4_rickOf 143 = .ok (.aload_n 3, 1) := by decide +kernel
theorem dX4_rickOf_144 : decode cX4_rickOf 144 = .ok (.invokevirtual 130, 3) := by decide +kernel
theorem dX4_rickOf_147 : decode cX4_rickOf 147 = .ok (.ireturn, 1) := by decide +kernel
theorem dX4_rickOf_148 : decode cX4_rickOf 148 = .ok (.bipush (-12), 2) := by decide +kernel
theorem dX4_rickOf_150 : decode cX4_rickOf 150 = .ok (.ireturn, 1) := by decide +kernel
theorem dX4_rank_0 : decode cX4_rank 0 = .ok (.aload_n 0, 1) := by decide +kernel
theorem dX4_rank_1 : decode cX4_rank 1 = .ok (.getfield 10, 3) := by decide +kernel
theorem dX4_rank_4 : decode cX4_rank 4 = .ok (.iload_n 1, 1) := by decide +kernel
theorem dX4_rank_5 : decode cX4_rank 5 = .ok (.invokevirtual 71, 3) := by decide +kernel
theorem dX4_rank_8 : decode cX4_rank 8 = .ok (.astore_n 3, 1) := by decide +kernel
theorem dX4_rank_9 : decode cX4_rank 9 = .ok (.aload_n 3, 1) := by decide +kernel
theorem dX4_rank_10 : decode cX4_rank 10 = .ok (.ifnonnull 8, 3) := by decide +kernel
theorem dX4_rank_13 : decode cX4_rank 13 = .ok (.bipush (-11), 2) := by decide +kernel
theorem dX4_rank_15 : decode cX4_rank 15 = .ok (.goto 8, 3) := by decide +kernel
theorem dX4_rank_18 : decode cX4_rank 18 = .ok (.aload_n 3, 1) := by decide +kernel
theorem dX4_rank_19 : decode cX4_rank 19 = .ok (.iload_n 2, 1) := by decide +kernel
theorem dX4_rank_20 : decode cX4_rank 20 = .ok (.invokevirtual 133, 3) := by decide +kernel
theorem dX4_rank_23 : decode cX4_rank 23 = .ok (.ireturn, 1) := by decide +kernel
theorem dX4_rankAgain_0 : decode cX4_rankAgain 0 = .ok (.aload_n 0, 1) := by decide +kernel
theorem dX4_rankAgain_1 : decode cX4_rankAgain 1 = .ok (.getfield 10, 3) := by decide +kernel
theorem dX4_rankAgain_4 : decode cX4_rankAgain 4 = .ok (.iload_n 1, 1) := by decide +kernel
theorem dX4_rankAgain_5 : decode cX4_rankAgain 5 = .ok (.invokevirtual 71, 3) := by decide +kernel
theorem dX4_rankAgain_8 : decode cX4_rankAgain 8 = .ok (.astore_n 3, 1) := by decide +kernel
theorem dX4_rankAgain_9 : decode cX4_rankAgain 9 = .ok (.aload_n 3, 1) := by decide +kernel
theorem dX4_rankAgain_10 : decode cX4_rankAgain 10 = .ok (.ifnonnull 8, 3) := by decide +kernel
theorem dX4_rankAgain_13 : decode cX4_rankAgain 13 = .ok (.bipush (-11), 2) := by decide +kernel
theorem dX4_rankAgain_15 : decode cX4_rankAgain 15 = .ok (.goto 8, 3) := by decide +kernel
theorem dX4_rankAgain_18 : decode cX4_rankAgain 18 = .ok (.aload_n 3, 1) := by decide +kernel
theorem dX4_rankAgain_19 : decode cX4_rankAgain 19 = .ok (.iload_n 2, 1) := by decide +kernel
theorem dX4_rankAgain_20 : decode cX4_rankAgain 20 = .ok (.invokevirtual 136, 3) := by decide +kernel
theorem dX4_rankAgain_23 : decode cX4_rankAgain 23 = .ok (.ireturn, 1) := by decide +kernel
theorem dX4_at_0 : decode cX4_at 0 = .ok (.aload_n 0, 1) := by decide +kernel
theorem dX4_at_1 : decode cX4_at 1 = .ok (.getfield 10, 3) := by decide +kernel
theorem dX4_at_4 : decode cX4_at 4 = .ok (.iload_n 1, 1) := by decide +kernel
theorem dX4_at_5 : decode cX4_at 5 = .ok (.invokevirtual 71, 3) := by decide +kernel
theorem dX4_at_8 : decode cX4_at 8 = .ok (.astore_n 3, 1) := by decide +kernel
theorem dX4_at_9 : decode cX4_at 9 = .ok (.aload_n 3, 1) := by decide +kernel
theorem dX4_at_10 : decode cX4_at 10 = .ok (.ifnull 11, 3) := by decide +kernel
theorem dX4_at_13 : decode cX4_at 13 = .ok (.aload_n 3, 1) := by decide +kernel
theorem dX4_at_14 : decode cX4_at 14 = .ok (.iload_n 2, 1) := by decide +kernel
theorem dX4_at_15 : decode cX4_at 15 = .ok (.invokevirtual 139, 3) := by decide +kernel
theorem dX4_at_18 : decode cX4_at 18 = .ok (.ifCond .ne 8, 3) := by decide +kernel
theorem dX4_at_21 : decode cX4_at 21 = .ok (.bipush (-11), 2) := by decide +kernel
theorem dX4_at_23 : decode cX4_at 23 = .ok (.goto 8, 3) := by decide +kernel
theorem dX4_at_26 : decode cX4_at 26 = .ok (.aload_n 3, 1) := by decide +kernel
theorem dX4_at_27 : decode cX4_at 27 = .ok (.iload_n 2, 1) := by decide +kernel
theorem dX4_at_28 : decode cX4_at 28 = .ok (.invokevirtual 105, 3) := by decide +kernel
theorem dX4_at_31 : decode cX4_at 31 = .ok (.ireturn, 1) := by decide +kernel
theorem dX4_between_0 : decode cX4_between 0 = .ok (.aload_n 0, 1) := by decide +kernel
theorem dX4_between_1 : decode cX4_between 1 = .ok (.getfield 10, 3) := by decide +kernel
theorem dX4_between_4 : decode cX4_between 4 = .ok (.iload_n 1, 1) := by decide +kernel
theorem dX4_between_5 : decode cX4_between 5 = .ok (.invokevirtual 71, 3) := by decide +kernel
theorem dX4_between_8 : decode cX4_between 8 = .ok (.astore 4, 2) := by decide +kernel
theorem dX4_between_10 : decode cX4_between 10 = .ok (.aload 4, 2) := by decide +kernel
theorem dX4_between_12 : decode cX4_between 12 = .ok (.ifnonnull 8, 3) := by decide +kernel
theorem dX4_between_15 : decode cX4_between 15 = .ok (.bipush (-11), 2) := by decide +kernel
theorem dX4_between_17 : decode cX4_between 17 = .ok (.goto 10, 3) := by decide +kernel
theorem dX4_between_20 : decode cX4_between 20 = .ok (.aload 4, 2) := by decide +kernel
theorem dX4_between_22 : decode cX4_between 22 = .ok (.iload_n 2, 1) := by decide +kernel
theorem dX4_between_23 : decode cX4_between 23 = .ok (.iload_n 3, 1) := by decide +kernel
theorem dX4_between_24 : decode cX4_between 24 = .ok (.invokevirtual 143, 3) := by decide +kernel
theorem dX4_between_27 : decode cX4_between 27 = .ok (.ireturn, 1) := by decide +kernel
theorem dX4_betweenAgain_0 : decode cX4_betweenAgain 0 = .ok (.aload_n 0, 1) := by decide +kernel
theorem dX4_betweenAgain_1 : decode cX4_betweenAgain 1 = .ok (.getfield 10, 3) := by decide +kernel
theorem dX4_betweenAgain_4 : decode cX4_betweenAgain 4 = .ok (.iload_n 1, 1) := by decide +kernel
theorem dX4_betweenAgain_5 : decode cX4_betweenAgain 5 = .ok (.invokevirtual 71, 3) := by decide +kernel
theorem dX4_betweenAgain_8 : decode cX4_betweenAgain 8 = .ok (.astore 4, 2) := by decide +kernel
theorem dX4_betweenAgain_10 : decode cX4_betweenAgain 10 = .ok (.aload 4, 2) := by decide +kernel
theorem dX4_betweenAgain_12 : decode cX4_betweenAgain 12 = .ok (.ifnonnull 8, 3) := by decide +kernel
theorem dX4_betweenAgain_15 : decode cX4_betweenAgain 15 = .ok (.bipush (-11), 2) := by decide +kernel
theorem dX4_betweenAgain_17 : decode cX4_betweenAgain 17 = .ok (.goto 10, 3) := by decide +kernel
theorem dX4_betweenAgain_20 : decode cX4_betweenAgain 20 = .ok (.aload 4, 2) := by decide +kernel
theorem dX4_betweenAgain_22 : decode cX4_betweenAgain 22 = .ok (.iload_n 2, 1) := by decide +kernel
theorem dX4_betweenAgain_23 : decode cX4_betweenAgain 23 = .ok (.iload_n 3, 1) := by decide +kernel
theorem dX4_betweenAgain_24 : decode cX4_betweenAgain 24 = .ok (.invokevirtual 146, 3) := by decide +kernel
theorem dX4_betweenAgain_27 : decode cX4_betweenAgain 27 = .ok (.ireturn, 1) := by decide +kernel
theorem dX4_heaviest_0 : decode cX4_heaviest 0 = .ok (.iload_n 1, 1) := by decide +kernel
theorem dX4_heaviest_1 : decode cX4_heaviest 1 = .ok (.ifCond .lt 14, 3) := by decide +kernel
theorem dX4_heaviest_4 : decode cX4_heaviest 4 = .ok (.iload_n 1, 1) := by decide +kernel
theorem dX4_heaviest_5 : decode cX4_heaviest 5 = .ok (.aload_n 0, 1) := by decide +kernel
theorem dX4_heaviest_6 : decode cX4_heaviest 6 = .ok (.getfield 10, 3) := by decide +kernel
theorem dX4_heaviest_9 : decode cX4_heaviest 9 = .ok (.invokevirtual 149, 3) := by decide +kernel
theorem dX4_heaviest_12 : decode cX4_heaviest 12 = .ok (.if_icmp .lt 6, 3) := by decide +kernel
theorem dX4_heaviest_15 : decode cX4_heaviest 15 = .ok (.bipush (-11), 2) := by decide +kernel
theorem dX4_heaviest_17 : decode cX4_heaviest 17 = .ok (.ireturn, 1) := by decide +kernel
theorem dX4_heaviest_18 : decode cX4_heaviest 18 = .ok (.iconst (-1), 1) := by decide +kernel
theorem dX4_heaviest_19 : decode cX4_heaviest 19 = .ok (.istore_n 2, 1) := by decide +kernel
theorem dX4_heaviest_20 : decode cX4_heaviest 20 = .ok (.iconst 0, 1) := by decide +kernel
theorem dX4_heaviest_21 : decode cX4_heaviest 21 = .ok (.istore_n 3, 1) := by decide +kernel
theorem dX4_heaviest_22 : decode cX4_heaviest 22 = .ok (.iload_n 3, 1) := by decide +kernel
theorem dX4_heaviest_23 : decode cX4_heaviest 23 = .ok (.iload_n 1, 1) := by decide +kernel
theorem dX4_heaviest_24 : decode cX4_heaviest 24 = .ok (.if_icmp .gt 18, 3) := by decide +kernel
theorem dX4_heaviest_27 : decode cX4_heaviest 27 = .ok (.aload_n 0, 1) := by decide +kernel
theorem dX4_heaviest_28 : decode cX4_heaviest 28 = .ok (.getfield 10, 3) := by decide +kernel
theorem dX4_heaviest_31 : decode cX4_heaviest 31 = .ok (.iload_n 2, 1) := by decide +kernel
theorem dX4_heaviest_32 : decode cX4_heaviest 32 = .ok (.invokevirtual 152, 3) := by decide +kernel
theorem dX4_heaviest_35 : decode cX4_heaviest 35 = .ok (.istore_n 2, 1) := by decide +kernel
theorem dX4_heaviest_36 : decode cX4_heaviest 36 = .ok (.iinc 3 1, 3) := by decide +kernel
theorem dX4_heaviest_39 : decode cX4_heaviest 39 = .ok (.goto (-17), 3) := by decide +kernel
theorem dX4_heaviest_42 : decode cX4_heaviest 42 = .ok (.iload_n 2, 1) := by decide +kernel
theorem dX4_heaviest_43 : decode cX4_heaviest 43 = .ok (.iconst 3, 1) := by decide +kernel
theorem dX4_heaviest_44 : decode cX4_heaviest 44 = .ok (.irem, 1) := by decide +kernel
theorem dX4_heaviest_45 : decode cX4_heaviest 45 = .ok (.sipush 1000, 3) := by decide +kernel
theorem dX4_heaviest_48 : decode cX4_heaviest 48 = .ok (.imul, 1) := by decide +kernel
theorem dX4_heaviest_49 : decode cX4_heaviest 49 = .ok (.iload_n 2, 1) := by decide +kernel
theorem dX4_heaviest_50 : decode cX4_heaviest 50 = .ok (.iconst 3, 1) := by decide +kernel
theorem dX4_heaviest_51 : decode cX4_heaviest 51 = .ok (.idiv, 1) := by decide +kernel
theorem dX4_heaviest_52 : decode cX4_heaviest 52 = .ok (.sipush 1000, 3) := by decide +kernel
theorem dX4_heaviest_55 : decode cX4_heaviest 55 = .ok (.irem, 1) := by decide +kernel
theorem dX4_heaviest_56 : decode cX4_heaviest 56 = .ok (.iadd, 1) := by decide +kernel
theorem dX4_heaviest_57 : decode cX4_heaviest 57 = .ok (.ireturn, 1) := by decide +kernel
theorem dX4_carts_0 : decode cX4_carts 0 = .ok (.aload_n 0, 1) := by decide +kernel
theorem dX4_carts_1 : decode cX4_carts 1 = .ok (.getfield 10, 3) := by decide +kernel
theorem dX4_carts_4 : decode cX4_carts 4 = .ok (.iload_n 1, 1) := by decide +kernel
theorem dX4_carts_5 : decode cX4_carts 5 = .ok (.invokevirtual 71, 3) := by decide +kernel
theorem dX4_carts_8 : decode cX4_carts 8 = .ok (.astore_n 3, 1) := by decide +kernel
theorem dX4_carts_9 : decode cX4_carts 9 = .ok (.aload_n 3, 1) := by decide +kernel
theorem dX4_carts_10 : decode cX4_carts 10 = .ok (.ifnonnull 6, 3) := by decide +kernel
theorem dX4_carts_13 : decode cX4_carts 13 = .ok (.bipush (-11), 2) := by decide +kernel
theorem dX4_carts_15 : decode cX4_carts 15 = .ok (.ireturn, 1) := by decide +kernel
theorem dX4_carts_16 : decode cX4_carts 16 = .ok (.iload_n 2, 1) := by decide +kernel
theorem dX4_carts_17 : decode cX4_carts 17 = .ok (.invokestatic 155, 3) := by decide +kernel
theorem dX4_carts_20 : decode cX4_carts 20 = .ok (.ifCond .eq 17, 3) := by decide +kernel
theorem dX4_carts_23 : decode cX4_carts 23 = .ok (.aload_n 3, 1) := by decide +kernel
theorem dX4_carts_24 : decode cX4_carts 24 = .ok (.aload_n 3, 1) := by decide +kernel
theorem dX4_carts_25 : decode cX4_carts 25 = .ok (.getfield 111, 3) := by decide +kernel
theorem dX4_carts_28 : decode cX4_carts 28 = .ok (.iconst 1, 1) := by decide +kernel
theorem dX4_carts_29 : decode cX4_carts 29 = .ok (.isub, 1) := by decide +kernel
theorem dX4_carts_30 : decode cX4_carts 30 = .ok (.iload_n 2, 1) := by decide +kernel
theorem dX4_carts_31 : decode cX4_carts 31 = .ok (.invokevirtual 158, 3) := by decide +kernel
theorem dX4_carts_34 : decode cX4_carts 34 = .ok (.goto 5, 3) := by decide +kernel
theorem dX4_carts_37 : decode cX4_carts 37 = .ok (.bipush (-12), 2) := by decide +kernel
theorem dX4_carts_39 : decode cX4_carts 39 = .ok (.ireturn, 1) := by decide +kernel
theorem dX4_cartOf_0 : decode cX4_cartOf 0 = .ok (.aload_n 0, 1) := by decide +kernel
theorem dX4_cartOf_1 : decode cX4_cartOf 1 = .ok (.getfield 10, 3) := by decide +kernel
theorem dX4_cartOf_4 : decode cX4_cartOf 4 = .ok (.iload_n 1, 1) := by decide +kernel
theorem dX4_cartOf_5 : decode cX4_cartOf 5 = .ok (.invokevirtual 71, 3) := by decide +kernel
theorem dX4_cartOf_8 : decode cX4_cartOf 8 = .ok (.astore 4, 2) := by decide +kernel
theorem dX4_cartOf_10 : decode cX4_cartOf 10 = .ok (.aload 4, 2) := by decide +kernel
theorem dX4_cartOf_12 : decode cX4_cartOf 12 = .ok (.ifnonnull 6, 3) := by decide +kernel
theorem dX4_cartOf_15 : decode cX4_cartOf 15 = .ok (.bipush (-11), 2) := by decide +kernel
theorem dX4_cartOf_17 : decode cX4_cartOf 17 = .ok (.ireturn, 1) := by decide +kernel
theorem dX4_cartOf_18 : decode cX4_cartOf 18 = .ok (.aload 4, 2) := by decide +kernel
theorem dX4_cartOf_20 : decode cX4_cartOf 20 = .ok (.iload_n 2, 1) := by decide +kernel
theorem dX4_cartOf_21 : decode cX4_cartOf 21 = .ok (.invokevirtual 75, 3) := by decide +kernel
theorem dX4_cartOf_24 : decode cX4_cartOf 24 = .ok (.istore 5, 2) := by decide +kernel
theorem dX4_cartOf_26 : decode cX4_cartOf 26 = .ok (.iload 5, 2) := by decide +kernel
theorem dX4_cartOf_28 : decode cX4_cartOf 28 = .ok (.iconst (-1), 1) := by decide +kernel
theorem dX4_cartOf_29 : decode cX4_cartOf 29 = .ok (.if_icmp .ne 6, 3) := by decide +kernel
theorem dX4_cartOf_32 : decode cX4_cartOf 32 = .ok (.bipush (-11), 2) := by decide +kernel
theorem dX4_cartOf_34 : decode cX4_cartOf 34 = .ok (.ireturn, 1) := by decide +kernel
theorem dX4_cartOf_35 : decode cX4_cartOf 35 = .ok (.iload_n 3, 1) := by decide +kernel
theorem dX4_cartOf_36 : decode cX4_cartOf 36 = .ok (.invokestatic 155, 3) := by decide +kernel
theorem dX4_cartOf_39 : decode cX4_cartOf 39 = .ok (.ifCond .eq 16, 3) := by decide +kernel
theorem dX4_cartOf_42 : decode cX4_cartOf 42 = .ok (.aload 4, 2) := by decide +kernel
theorem dX4_cartOf_44 : decode cX4_cartOf 44 = .ok (.iload 5, 2) := by decide +kernel
theorem dX4_cartOf_46 : decode cX4_cartOf 46 = .ok (.iload_n 3, 1) := by decide +kernel
theorem dX4_cartOf_47 : decode cX4_cartOf 47 = .ok (.invokevirtual 158, 3) := by decide +kernel
theorem dX4_cartOf_50 : decode cX4_cartOf 50 = .ok (.iconst 1, 1) := by decide +kernel
theorem dX4_cartOf_51 : decode cX4_cartOf 51 = .ok (.isub, 1) := by decide +kernel
theorem dX4_cartOf_52 : decode cX4_cartOf 52 = .ok (.goto 5, 3) := by decide +kernel
theorem dX4_cartOf_55 : decode cX4_cartOf 55 = .ok (.bipush (-12), 2) := by decide +kernel
theorem dX4_cartOf_57 : decode cX4_cartOf 57 = .ok (.ireturn, 1) := by decide +kernel
theorem dX4_shape_0 : decode cX4_shape 0 = .ok (.aload_n 0, 1) := by decide +kernel
theorem dX4_shape_1 : decode cX4_shape 1 = .ok (.getfield 10, 3) := by decide +kernel
theorem dX4_shape_4 : decode cX4_shape 4 = .ok (.iload_n 1, 1) := by decide +kernel
theorem dX4_shape_5 : decode cX4_shape 5 = .ok (.invokevirtual 71, 3) := by decide +kernel
theorem dX4_shape_8 : decode cX4_shape 8 = .ok (.astore_n 2, 1) := by decide +kernel
theorem dX4_shape_9 : decode cX4_shape 9 = .ok (.aload_n 2, 1) := by decide +kernel
theorem dX4_shape_10 : decode cX4_shape 10 = .ok (.ifnonnull 9, 3) := by decide +kernel
theorem dX4_shape_13 : decode cX4_shape 13 = .ok (.ldc2_w 161, 3) := by decide +kernel
theorem dX4_shape_16 : decode cX4_shape 16 = .ok (.goto 16, 3) := by decide +kernel
theorem dX4_shape_19 : decode cX4_shape 19 = .ok (.aload_n 2, 1) := by decide +kernel
theorem dX4_shape_20 : decode cX4_shape 20 = .ok (.iconst 0, 1) := by decide +kernel
theorem dX4_shape_21 : decode cX4_shape 21 = .ok (.aload_n 2, 1) := by decide +kernel
theorem dX4_shape_22 : decode cX4_shape 22 = .ok (.getfield 111, 3) := by decide +kernel
theorem dX4_shape_25 : decode cX4_shape 25 = .ok (.iconst 1, 1) := by decide +kernel
theorem dX4_shape_26 : decode cX4_shape 26 = .ok (.isub, 1) := by decide +kernel
theorem dX4_shape_27 : decode cX4_shape 27 = .ok (.lconst 0, 1) := by decide +kernel
theorem dX4_shape_28 : decode cX4_shape 28 = .ok (.iconst 0, 1) := by decide +kernel
theorem dX4_shape_29 : decode cX4_shape 29 = .ok (.invokestatic 163, 3) := by decide +kernel
theorem dX4_shape_32 : decode cX4_shape 32 = .ok (.lreturn, 1) := by decide +kernel
theorem dX4_weights_0 : decode cX4_weights 0 = .ok (.aload_n 0, 1) := by decide +kernel
theorem dX4_weights_1 : decode cX4_weights 1 = .ok (.getfield 10, 3) := by decide +kernel
theorem dX4_weights_4 : decode cX4_weights 4 = .ok (.iload_n 1, 1) := by decide +kernel
theorem dX4_weights_5 : decode cX4_weights 5 = .ok (.invokevirtual 71, 3) := by decide +kernel
theorem dX4_weights_8 : decode cX4_weights 8 = .ok (.astore_n 3, 1) := by decide +kernel
theorem dX4_weights_9 : decode cX4_weights 9 = .ok (.aload_n 3, 1) := by decide +kernel
theorem dX4_weights_10 : decode cX4_weights 10 = .ok (.ifnull 14, 3) := by decide +kernel
theorem dX4_weights_13 : decode cX4_weights 13 = .ok (.iload_n 2, 1) := by decide +kernel
theorem dX4_weights_14 : decode cX4_weights 14 = .ok (.ifCond .lt 10, 3) := by decide +kernel
theorem dX4_weights_17 : decode cX4_weights 17 = .ok (.iload_n 2, 1) := by decide +kernel
theorem dX4_weights_18 : decode cX4_weights 18 = .ok (.sipush 936, 3) := by decide +kernel
theorem dX4_weights_21 : decode cX4_weights 21 = .ok (.if_icmp .le 5, 3) := by decide +kernel
theorem dX4_weights_24 : decode cX4_weights 24 = .ok (.lconst 0, 1) := by decide +kernel
theorem dX4_weights_25 : decode cX4_weights 25 = .ok (.lreturn, 1) := by decide +kernel
theorem dX4_weights_26 : decode cX4_weights 26 = .ok (.lconst 0, 1) := by decide +kernel
theorem dX4_weights_27 : decode cX4_weights 27 = .ok (.lstore 4, 2) := by decide +kernel
theorem dX4_weights_29 : decode cX4_weights 29 = .ok (.iconst 0, 1) := by decide +kernel
theorem dX4_weights_30 : decode cX4_weights 30 = .ok (.istore 6, 2) := by decide +kernel
theorem dX4_weights_32 : decode cX4_weights 32 = .ok (.iload 6, 2) := by decide +kernel
theorem dX4_weights_34 : decode cX4_weights 34 = .ok (.aload_n 3, 1) := by decide +kernel
theorem dX4_weights_35 : decode cX4_weights 35 = .ok (.getfield 111, 3) := by decide +kernel
theorem dX4_weights_38 : decode cX4_weights 38 = .ok (.if_icmp .ge 40, 3) := by decide +kernel
theorem dX4_weights_41 : decode cX4_weights 41 = .ok (.aload_n 3, 1) := by decide +kernel
theorem dX4_weights_42 : decode cX4_weights 42 = .ok (.iload 6, 2) := by decide +kernel
theorem dX4_weights_44 : decode cX4_weights 44 = .ok (.invokevirtual 105, 3) := by decide +kernel
theorem dX4_weights_47 : decode cX4_weights 47 = .ok (.iload_n 2, 1) := by decide +kernel
theorem dX4_weights_48 : decode cX4_weights 48 = .ok (.isub, 1) := by decide +kernel
theorem dX4_weights_49 : decode cX4_weights 49 = .ok (.istore 7, 2) := by decide +kernel
theorem dX4_weights_51 : decode cX4_weights 51 = .ok (.iload 7, 2) := by decide +kernel
theorem dX4_weights_53 : decode cX4_weights 53 = .ok (.ifCond .lt 19, 3) := by decide +kernel
theorem dX4_weights_56 : decode cX4_weights 56 = .ok (.iload 7, 2) := by decide +kernel
theorem dX4_weights_58 : decode cX4_weights 58 = .ok (.bipush 64, 2) := by decide +kernel
theorem dX4_weights_60 : decode cX4_weights 60 = .ok (.if_icmp .ge 12, 3) := by decide +kernel
theorem dX4_weights_63 : decode cX4_weights 63 = .ok (.lload 4, 2) := by decide +kernel
theorem dX4_weights_65 : decode cX4_weights 65 = .ok (.lconst 1, 1) := by decide +kernel
theorem dX4_weights_66 : decode cX4_weights 66 = .ok (.iload 7, 2) := by decide +kernel
theorem dX4_weights_68 : decode cX4_weights 68 = .ok (.lshl, 1) := by decide +kernel
theorem dX4_weights_69 : decode cX4_weights 69 = .ok (.lor, 1) := by decide +kernel
theorem dX4_weights_70 : decode cX4_weights 70 = .ok (.lstore 4, 2) := by decide +kernel
theorem dX4_weights_72 : decode cX4_weights 72 = .ok (.iinc 6 1, 3) := by decide +kernel
theorem dX4_weights_75 : decode cX4_weights 75 = .ok (.goto (-43), 3) := by decide +kernel
theorem dX4_weights_78 : decode cX4_weights 78 = .ok (.lload 4, 2) := by decide +kernel
theorem dX4_weights_80 : decode cX4_weights 80 = .ok (.lreturn, 1) := by decide +kernel
theorem dX4_leaningShare_0 : decode cX4_leaningShare 0 = .ok (.aload_n 0, 1) := by decide +kernel
theorem dX4_leaningShare_1 : decode cX4_leaningShare 1 = .ok (.getfield 10, 3) := by decide +kernel
theorem dX4_leaningShare_4 : decode cX4_leaningShare 4 = .ok (.iload_n 1, 1) := by decide +kernel
theorem dX4_leaningShare_5 : decode cX4_leaningShare 5 = .ok (.invokevirtual 71, 3) := by decide +kernel
theorem dX4_leaningShare_8 : decode cX4_leaningShare 8 = .ok (.astore_n 2, 1) := by decide +kernel
theorem dX4_leaningShare_9 : decode cX4_leaningShare 9 = .ok (.aload_n 2, 1) := by decide +kernel
theorem dX4_leaningShare_10 : decode cX4_leaningShare 10 = .ok (.ifnonnull 6, 3) := by decide +kernel
theorem dX4_leaningShare_13 : decode cX4_leaningShare 13 = .ok (.bipush (-11), 2) := by decide +kernel
theorem dX4_leaningShare_15 : decode cX4_leaningShare 15 = .ok (.ireturn, 1) := by decide +kernel
theorem dX4_leaningShare_16 : decode cX4_leaningShare 16 = .ok (.aload_n 2, 1) := by decide +kernel
theorem dX4_leaningShare_17 : decode cX4_leaningShare 17 = .ok (.getfield 111, 3) := by decide +kernel
theorem dX4_leaningShare_20 : decode cX4_leaningShare 20 = .ok (.ifCond .gt 6, 3) := by decide +kernel
theorem dX4_leaningShare_23 : decode cX4_leaningShare 23 = .ok (.bipush (-15), 2) := by decide +kernel
theorem dX4_leaningShare_25 : decode cX4_leaningShare 25 = .ok (.ireturn, 1) := by decide +kernel
theorem dX4_leaningShare_26 : decode cX4_leaningShare 26 = .ok (.aload_n 2, 1) := by decide +kernel
theorem dX4_leaningShare_27 : decode cX4_leaningShare 27 = .ok (.aload_n 0, 1) := by decide +kernel
theorem dX4_leaningShare_28 : decode cX4_leaningShare 28 = .ok (.getfield 10, 3) := by decide +kernel
theorem dX4_leaningShare_31 : decode cX4_leaningShare 31 = .ok (.getfield 95, 3) := by decide +kernel
theorem dX4_leaningShare_34 : decode cX4_leaningShare 34 = .ok (.invokevirtual 124, 3) := by decide +kernel
theorem dX4_leaningShare_37 : decode cX4_leaningShare 37 = .ok (.i2f, 1) := by decide +kernel
theorem dX4_leaningShare_38 : decode cX4_leaningShare 38 = .ok (.aload_n 2, 1) := by decide +kernel
theorem dX4_leaningShare_39 : decode cX4_leaningShare 39 = .ok (.getfield 111, 3) := by decide +kernel
theorem dX4_leaningShare_42 : decode cX4_leaningShare 42 = .ok (.i2f, 1) := by decide +kernel
theorem dX4_leaningShare_43 : decode cX4_leaningShare 43 = .ok (.fdiv, 1) := by decide +kernel
theorem dX4_leaningShare_44 : decode cX4_leaningShare 44 = .ok (.invokestatic 167, 3) := by decide +kernel
theorem dX4_leaningShare_47 : decode cX4_leaningShare 47 = .ok (.ireturn, 1) := by decide +kernel
theorem dX4_meanDepth_0 : decode cX4_meanDepth 0 = .ok (.aload_n 0, 1) := by decide +kernel
theorem dX4_meanDepth_1 : decode cX4_meanDepth 1 = .ok (.getfield 10, 3) := by decide +kernel
theorem dX4_meanDepth_4 : decode cX4_meanDepth 4 = .ok (.iload_n 1, 1) := by decide +kernel
theorem dX4_meanDepth_5 : decode cX4_meanDepth 5 = .ok (.invokevirtual 71, 3) := by decide +kernel
theorem dX4_meanDepth_8 : decode cX4_meanDepth 8 = .ok (.astore_n 2, 1) := by decide +kernel
theorem dX4_meanDepth_9 : decode cX4_meanDepth 9 = .ok (.aload_n 2, 1) := by decide +kernel
theorem dX4_meanDepth_10 : decode cX4_meanDepth 10 = .ok (.ifnonnull 7, 3) := by decide +kernel
theorem dX4_meanDepth_13 : decode cX4_meanDepth 13 = .ok (.ldc2_w 161, 3) := by decide +kernel
theorem dX4_meanDepth_16 : decode cX4_meanDepth 16 = .ok (.lreturn, 1) := by decide +kernel
theorem dX4_meanDepth_17 : decode cX4_meanDepth 17 = .ok (.aload_n 2, 1) := by decide +kernel
theorem dX4_meanDepth_18 : decode cX4_meanDepth 18 = .ok (.getfield 111, 3) := by decide +kernel
theorem dX4_meanDepth_21 : decode cX4_meanDepth 21 = .ok (.ifCond .gt 7, 3) := by decide +kernel
theorem dX4_meanDepth_24 : decode cX4_meanDepth 24 = .ok (.ldc2_w 171, 3) := by decide +kernel
theorem dX4_meanDepth_27 : decode cX4_meanDepth 27 = .ok (.lreturn, 1) := by decide +kernel
theorem dX4_meanDepth_28 : decode cX4_meanDepth 28 = .ok (.aload_n 2, 1) := by decide +kernel
theorem dX4_meanDepth_29 : decode cX4_meanDepth 29 = .ok (.invokevirtual 127, 3) := by decide +kernel
theorem dX4_meanDepth_32 : decode cX4_meanDepth 32 = .ok (.i2d, 1) := by decide +kernel
theorem dX4_meanDepth_33 : decode cX4_meanDepth 33 = .ok (.aload_n 2, 1) := by decide +kernel
theorem dX4_meanDepth_34 : decode cX4_meanDepth 34 = .ok (.getfield 111, 3) := by decide +kernel
theorem dX4_meanDepth_37 : decode cX4_meanDepth 37 = .ok (.i2d, 1) := by decide +kernel
theorem dX4_meanDepth_38 : decode cX4_meanDepth 38 = .ok (.ddiv, 1) := by decide +kernel
theorem dX4_meanDepth_39 : decode cX4_meanDepth 39 = .ok (.invokestatic 173, 3) := by decide +kernel
theorem dX4_meanDepth_42 : decode cX4_meanDepth 42 = .ok (.lreturn, 1) := by decide +kernel
theorem dX4_append_0 : decode cX4_append 0 = .ok (.iload_n 1, 1) := by decide +kernel
theorem dX4_append_1 : decode cX4_append 1 = .ok (.bipush 32, 2) := by decide +kernel
theorem dX4_append_3 : decode cX4_append 3 = .ok (.if_icmp .lt 9, 3) := by decide +kernel
theorem dX4_append_6 : decode cX4_append 6 = .ok (.iload_n 1, 1) := by decide +kernel
theorem dX4_append_7 : decode cX4_append 7 = .ok (.bipush 126, 2) := by decide +kernel
theorem dX4_append_9 : decode cX4_append 9 = .ok (.if_icmp .le 6, 3) := by decide +kernel
theorem dX4_append_12 : decode cX4_append 12 = .ok (.bipush (-12), 2) := by decide +kernel
theorem dX4_append_14 : decode cX4_append 14 = .ok (.ireturn, 1) := by decide +kernel
theorem dX4_append_15 : decode cX4_append 15 = .ok (.aload_n 0, 1) := by decide +kernel
theorem dX4_append_16 : decode cX4_append 16 = .ok (.getfield 26, 3) := by decide +kernel
theorem dX4_append_19 : decode cX4_append 19 = .ok (.iload_n 1, 1) := by decide +kernel
theorem dX4_append_20 : decode cX4_append 20 = .ok (.invokevirtual 177, 3) := by decide +kernel
theorem dX4_append_23 : decode cX4_append 23 = .ok (.ifCond .eq 13, 3) := by decide +kernel
theorem dX4_append_26 : decode cX4_append 26 = .ok (.aload_n 0, 1) := by decide +kernel
theorem dX4_append_27 : decode cX4_append 27 = .ok (.getfield 26, 3) := by decide +kernel
theorem dX4_append_30 : decode cX4_append 30 = .ok (.getfield 180, 3) := by decide +kernel
theorem dX4_append_33 : decode cX4_append 33 = .ok (.goto 5, 3) := by decide +kernel
theorem dX4_append_36 : decode cX4_append 36 = .ok (.bipush (-13), 2) := by decide +kernel
theorem dX4_append_38 : decode cX4_append 38 = .ok (.ireturn, 1) := by decide +kernel
theorem dX4_run_0 : decode cX4_run 0 = .ok (.aload_n 0, 1) := by decide +kernel
theorem dX4_run_1 : decode cX4_run 1 = .ok (.getfield 36, 3) := by decide +kernel
theorem dX4_run_4 : decode cX4_run 4 = .ok (.aload_n 0, 1) := by decide +kernel
theorem dX4_run_5 : decode cX4_run 5 = .ok (.getfield 26, 3) := by decide +kernel
theorem dX4_run_8 : decode cX4_run 8 = .ok (.invokevirtual 183, 3) := by decide +kernel
theorem dX4_run_11 : decode cX4_run 11 = .ok (.istore_n 1, 1) := by decide +kernel
theorem dX4_run_12 : decode cX4_run 12 = .ok (.aload_n 0, 1) := by decide +kernel
theorem dX4_run_13 : decode cX4_run 13 = .ok (.getfield 26, 3) := by decide +kernel
theorem dX4_run_16 : decode cX4_run 16 = .ok (.invokevirtual 187, 3) := by decide +kernel
theorem dX4_run_19 : decode cX4_run 19 = .ok (.iload_n 1, 1) := by decide +kernel
theorem dX4_run_20 : decode cX4_run 20 = .ok (.ifCond .ge 5, 3) := by decide +kernel
theorem dX4_run_23 : decode cX4_run 23 = .ok (.iload_n 1, 1) := by decide +kernel
theorem dX4_run_24 : decode cX4_run 24 = .ok (.ireturn, 1) := by decide +kernel
theorem dX4_run_25 : decode cX4_run 25 = .ok (.aload_n 0, 1) := by decide +kernel
theorem dX4_run_26 : decode cX4_run 26 = .ok (.invokevirtual 47, 3) := by decide +kernel
theorem dX4_run_29 : decode cX4_run 29 = .ok (.iconst 0, 1) := by decide +kernel
theorem dX4_run_30 : decode cX4_run 30 = .ok (.istore_n 2, 1) := by decide +kernel
theorem dX4_run_31 : decode cX4_run 31 = .ok (.iload_n 2, 1) := by decide +kernel
theorem dX4_run_32 : decode cX4_run 32 = .ok (.iload_n 1, 1) := by decide +kernel
theorem dX4_run_33 : decode cX4_run 33 = .ok (.if_icmp .ge 35, 3) := by decide +kernel
theorem dX4_run_36 : decode cX4_run 36 = .ok (.iload_n 2, 1) := by decide +kernel
theorem dX4_run_37 : decode cX4_run 37 = .ok (.bipush 20, 2) := by decide +kernel
theorem dX4_run_39 : decode cX4_run 39 = .ok (.if_icmp .ge 29, 3) := by decide +kernel
theorem dX4_run_42 : decode cX4_run 42 = .ok (.aload_n 0, 1) := by decide +kernel
theorem dX4_run_43 : decode cX4_run 43 = .ok (.iload_n 2, 1) := by decide +kernel
theorem dX4_run_44 : decode cX4_run 44 = .ok (.invokevirtual 190, 3) := by decide +kernel
theorem dX4_run_47 : decode cX4_run 47 = .ok (.ifCond .ge 15, 3) := by decide +kernel
theorem dX4_run_50 : decode cX4_run 50 = .ok (.aload_n 0, 1) := by decide +kernel
theorem dX4_run_51 : decode cX4_run 51 = .ok (.invokevirtual 193, 3) := by decide +kernel
theorem dX4_run_54 : decode cX4_run 54 = .ok (.aload_n 0, 1) := by decide +kernel
theorem dX4_run_55 : decode cX4_run 55 = .ok (.bipush 6, 2) := by decide +kernel
theorem dX4_run_57 : decode cX4_run 57 = .ok (.iload_n 2, 1) := by decide +kernel
theorem dX4_run_58 : decode cX4_run 58 = .ok (.invokevirtual 196, 3) := by decide +kernel
theorem dX4_run_61 : decode cX4_run 61 = .ok (.ireturn, 1) := by decide +kernel
theorem dX4_run_62 : decode cX4_run 62 = .ok (.iinc 2 1, 3) := by decide +kernel
theorem dX4_run_65 : decode cX4_run 65 = .ok (.goto (-34), 3) := by decide +kernel
theorem dX4_run_68 : decode cX4_run 68 = .ok (.aload_n 0, 1) := by decide +kernel
theorem dX4_run_69 : decode cX4_run 69 = .ok (.iload_n 1, 1) := by decide +kernel
theorem dX4_run_70 : decode cX4_run 70 = .ok (.invokevirtual 54, 3) := by decide +kernel
theorem dX4_run_73 : decode cX4_run 73 = .ok (.ireturn, 1) := by decide +kernel
theorem dX4_tell_0 : decode cX4_tell 0 = .ok (.aload_n 0, 1) := by decide +kernel
theorem dX4_tell_1 : decode cX4_tell 1 = .ok (.getfield 10, 3) := by decide +kernel
theorem dX4_tell_4 : decode cX4_tell 4 = .ok (.iload_n 1, 1) := by decide +kernel
theorem dX4_tell_5 : decode cX4_tell 5 = .ok (.invokevirtual 71, 3) := by decide +kernel
theorem dX4_tell_8 : decode cX4_tell 8 = .ok (.astore_n 2, 1) := by decide +kernel
theorem dX4_tell_9 : decode cX4_tell 9 = .ok (.aload_n 2, 1) := by decide +kernel
theorem dX4_tell_10 : decode cX4_tell 10 = .ok (.ifnonnull 6, 3) := by decide +kernel
theorem dX4_tell_13 : decode cX4_tell 13 = .ok (.bipush (-11), 2) := by decide +kernel
theorem dX4_tell_15 : decode cX4_tell 15 = .ok (.ireturn, 1) := by decide +kernel
theorem dX4_tell_16 : decode cX4_tell 16 = .ok (.aload_n 0, 1) := by decide +kernel
theorem dX4_tell_17 : decode cX4_tell 17 = .ok (.getfield 30, 3) := by decide +kernel
theorem dX4_tell_20 : decode cX4_tell 20 = .ok (.invokevirtual 187, 3) := by decide +kernel
theorem dX4_tell_23 : decode cX4_tell 23 = .ok (.aload_n 0, 1) := by decide +kernel
theorem dX4_tell_24 : decode cX4_tell 24 = .ok (.getfield 30, 3) := by decide +kernel
theorem dX4_tell_27 : decode cX4_tell 27 = .ok (.aload_n 2, 1) := by decide +kernel
theorem dX4_tell_28 : decode cX4_tell 28 = .ok (.iconst 0, 1) := by decide +kernel
theorem dX4_tell_29 : decode cX4_tell 29 = .ok (.aload_n 2, 1) := by decide +kernel
theorem dX4_tell_30 : decode cX4_tell 30 = .ok (.getfield 111, 3) := by decide +kernel
theorem dX4_tell_33 : decode cX4_tell 33 = .ok (.iconst 1, 1) := by decide +kernel
theorem dX4_tell_34 : decode cX4_tell 34 = .ok (.isub, 1) := by decide +kernel
theorem dX4_tell_35 : decode cX4_tell 35 = .ok (.aload_n 0, 1) := by decide +kernel
theorem dX4_tell_36 : decode cX4_tell 36 = .ok (.getfield 10, 3) := by decide +kernel
theorem dX4_tell_39 : decode cX4_tell 39 = .ok (.getfield 95, 3) := by decide +kernel
theorem dX4_tell_42 : decode cX4_tell 42 = .ok (.iconst 0, 1) := by decide +kernel
theorem dX4_tell_43 : decode cX4_tell 43 = .ok (.invokestatic 199, 3) := by decide +kernel
theorem dX4_tell_46 : decode cX4_tell 46 = .ok (.aload_n 0, 1) := by decide +kernel
theorem dX4_tell_47 : decode cX4_tell 47 = .ok (.getfield 30, 3) := by decide +kernel
theorem dX4_tell_50 : decode cX4_tell 50 = .ok (.getfield 180, 3) := by decide +kernel
theorem dX4_tell_53 : decode cX4_tell 53 = .ok (.ireturn, 1) := by decide +kernel
theorem dX4_character_0 : decode cX4_character 0 = .ok (.aload_n 0, 1) := by decide +kernel
theorem dX4_character_1 : decode cX4_character 1 = .ok (.getfield 30, 3) := by decide +kernel
theorem dX4_character_4 : decode cX4_character 4 = .ok (.iload_n 1, 1) := by decide +kernel
theorem dX4_character_5 : decode cX4_character 5 = .ok (.invokevirtual 203, 3) := by decide +kernel
theorem dX4_character_8 : decode cX4_character 8 = .ok (.ireturn, 1) := by decide +kernel
theorem dX4_reason_0 : decode cX4_reason 0 = .ok (.iload_n 1, 1) := by decide +kernel
theorem dX4_reason_1 : decode cX4_reason 1 = .ok (.ifCond .eq 10, 3) := by decide +kernel
theorem dX4_reason_4 : decode cX4_reason 4 = .ok (.aload_n 0, 1) := by decide +kernel
theorem dX4_reason_5 : decode cX4_reason 5 = .ok (.getfield 44, 3) := by decide +kernel
theorem dX4_reason_8 : decode cX4_reason 8 = .ok (.goto 7, 3) := by decide +kernel
theorem dX4_reason_11 : decode cX4_reason 11 = .ok (.aload_n 0, 1) := by decide +kernel
theorem dX4_reason_12 : decode cX4_reason 12 = .ok (.getfield 40, 3) := by decide +kernel
theorem dX4_reason_15 : decode cX4_reason 15 = .ok (.ireturn, 1) := by decide +kernel
theorem dX4_account_0 : decode cX4_account 0 = .ok (.iload_n 1, 1) := by decide +kernel
theorem dX4_account_1 : decode cX4_account 1 = .ok (.tableswitch 144 0 10 #[59, 67, 75, 83, 91, 99, 107, 115, 123, 131, 139], 59) := by decide +kernel
theorem dX4_account_60 : decode cX4_account 60 = .ok (.aload_n 0, 1) := by decide +kernel
theorem dX4_account_61 : decode cX4_account 61 = .ok (.getfield 10, 3) := by decide +kernel
theorem dX4_account_64 : decode cX4_account 64 = .ok (.invokevirtual 149, 3) := by decide +kernel
theorem dX4_account_67 : decode cX4_account 67 = .ok (.ireturn, 1) := by decide +kernel
theorem dX4_account_68 : decode cX4_account 68 = .ok (.aload_n 0, 1) := by decide +kernel
theorem dX4_account_69 : decode cX4_account 69 = .ok (.getfield 10, 3) := by decide +kernel
theorem dX4_account_72 : decode cX4_account 72 = .ok (.invokevirtual 206, 3) := by decide +kernel
theorem dX4_account_75 : decode cX4_account 75 = .ok (.ireturn, 1) := by decide +kernel
theorem dX4_account_76 : decode cX4_account 76 = .ok (.aload_n 0, 1) := by decide +kernel
theorem dX4_account_77 : decode cX4_account 77 = .ok (.getfield 10, 3) := by decide +kernel
theorem dX4_account_80 : decode cX4_account 80 = .ok (.getfield 209, 3) := by decide +kernel
theorem dX4_account_83 : decode cX4_account 83 = .ok (.ireturn, 1) := by decide +kernel
theorem dX4_account_84 : decode cX4_account 84 = .ok (.aload_n 0, 1) := by decide +kernel
theorem dX4_account_85 : decode cX4_account 85 = .ok (.getfield 10, 3) := by decide +kernel
theorem dX4_account_88 : decode cX4_account 88 = .ok (.getfield 212, 3) := by decide +kernel
theorem dX4_account_91 : decode cX4_account 91 = .ok (.ireturn, 1) := by decide +kernel
theorem dX4_account_92 : decode cX4_account 92 = .ok (.aload_n 0, 1) := by decide +kernel
theorem dX4_account_93 : decode cX4_account 93 = .ok (.getfield 10, 3) := by decide +kernel
theorem dX4_account_96 : decode cX4_account 96 = .ok (.getfield 215, 3) := by decide +kernel
theorem dX4_account_99 : decode cX4_account 99 = .ok (.ireturn, 1) := by decide +kernel
theorem dX4_account_100 : decode cX4_account 100 = .ok (.aload_n 0, 1) := by decide +kernel
theorem dX4_account_101 : decode cX4_account 101 = .ok (.getfield 10, 3) := by decide +kernel
theorem dX4_account_104 : decode cX4_account 104 = .ok (.getfield 218, 3) := by decide +kernel
theorem dX4_account_107 : decode cX4_account 107 = .ok (.ireturn, 1) := by decide +kernel
theorem dX4_account_108 : decode cX4_account 108 = .ok (.aload_n 0, 1) := by decide +kernel
theorem dX4_account_109 : decode cX4_account 109 = .ok (.getfield 10, 3) := by decide +kernel
theorem dX4_account_112 : decode cX4_account 112 = .ok (.getfield 221, 3) := by decide +kernel
theorem dX4_account_115 : decode cX4_account 115 = .ok (.ireturn, 1) := by decide +kernel
theorem dX4_account_116 : decode cX4_account 116 = .ok (.aload_n 0, 1) := by decide +kernel
theorem dX4_account_117 : decode cX4_account 117 = .ok (.getfield 10, 3) := by decide +kernel
theorem dX4_account_120 : decode cX4_account 120 = .ok (.getfield 224, 3) := by decide +kernel
theorem dX4_account_123 : decode cX4_account 123 = .ok (.ireturn, 1) := by decide +kernel
theorem dX4_account_124 : decode cX4_account 124 = .ok (.aload_n 0, 1) := by decide +kernel
theorem dX4_account_125 : decode cX4_account 125 = .ok (.getfield 10, 3) := by decide +kernel
theorem dX4_account_128 : decode cX4_account 128 = .ok (.getfield 95, 3) := by decide +kernel
theorem dX4_account_131 : decode cX4_account 131 = .ok (.ireturn, 1) := by decide +kernel
theorem dX4_account_132 : decode cX4_account 132 = .ok (.aload_n 0, 1) := by decide +kernel
theorem dX4_account_133 : decode cX4_account 133 = .ok (.getfield 26, 3) := by decide +kernel
theorem dX4_account_136 : decode cX4_account 136 = .ok (.getfield 180, 3) := by decide +kernel
theorem dX4_account_139 : decode cX4_account 139 = .ok (.ireturn, 1) := by decide +kernel
theorem dX4_account_140 : decode cX4_account 140 = .ok (.aload_n 0, 1) := by decide +kernel
theorem dX4_account_141 : decode cX4_account 141 = .ok (.getfield 227, 3) := by decide +kernel
theorem dX4_account_144 : decode cX4_account 144 = .ok (.ireturn, 1) := by decide +kernel
theorem dX4_account_145 : decode cX4_account 145 = .ok (.bipush (-12), 2) := by decide +kernel
theorem dX4_account_147 : decode cX4_account 147 = .ok (.ireturn, 1) := by decide +kernel
theorem dX4_isBalanced_0 : decode cX4_isBalanced 0 = .ok (.aload_n 0, 1) := by decide +kernel
theorem dX4_isBalanced_1 : decode cX4_isBalanced 1 = .ok (.getfield 10, 3) := by decide +kernel
theorem dX4_isBalanced_4 : decode cX4_isBalanced 4 = .ok (.invokevirtual 149, 3) := by decide +kernel
theorem dX4_isBalanced_7 : decode cX4_isBalanced 7 = .ok (.aload_n 0, 1) := by decide +kernel
theorem dX4_isBalanced_8 : decode cX4_isBalanced 8 = .ok (.getfield 10, 3) := by decide +kernel
theorem dX4_isBalanced_11 : decode cX4_isBalanced 11 = .ok (.getfield 209, 3) := by decide +kernel
theorem dX4_isBalanced_14 : decode cX4_isBalanced 14 = .ok (.aload_n 0, 1) := by decide +kernel
theorem dX4_isBalanced_15 : decode cX4_isBalanced 15 = .ok (.getfield 10, 3) := by decide +kernel
theorem dX4_isBalanced_18 : decode cX4_isBalanced 18 = .ok (.getfield 212, 3) := by decide +kernel
theorem dX4_isBalanced_21 : decode cX4_isBalanced 21 = .ok (.isub, 1) := by decide +kernel
theorem dX4_isBalanced_22 : decode cX4_isBalanced 22 = .ok (.if_icmp .eq 5, 3) := by decide +kernel
theorem dX4_isBalanced_25 : decode cX4_isBalanced 25 = .ok (.iconst 0, 1) := by decide +kernel
theorem dX4_isBalanced_26 : decode cX4_isBalanced 26 = .ok (.ireturn, 1) := by decide +kernel
theorem dX4_isBalanced_27 : decode cX4_isBalanced 27 = .ok (.iconst 0, 1) := by decide +kernel
theorem dX4_isBalanced_28 : decode cX4_isBalanced 28 = .ok (.istore_n 1, 1) := by decide +kernel
theorem dX4_isBalanced_29 : decode cX4_isBalanced 29 = .ok (.iload_n 1, 1) := by decide +kernel
theorem dX4_isBalanced_30 : decode cX4_isBalanced 30 = .ok (.iconst 3, 1) := by decide +kernel
theorem dX4_isBalanced_31 : decode cX4_isBalanced 31 = .ok (.if_icmp .ge 31, 3) := by decide +kernel
theorem dX4_isBalanced_34 : decode cX4_isBalanced 34 = .ok (.aload_n 0, 1) := by decide +kernel
theorem dX4_isBalanced_35 : decode cX4_isBalanced 35 = .ok (.getfield 10, 3) := by decide +kernel
theorem dX4_isBalanced_38 : decode cX4_isBalanced 38 = .ok (.iload_n 1, 1) := by decide +kernel
theorem dX4_isBalanced_39 : decode cX4_isBalanced 39 = .ok (.invokevirtual 71, 3) := by decide +kernel
theorem dX4_isBalanced_42 : decode cX4_isBalanced 42 = .ok (.astore_n 2, 1) := by decide +kernel
theorem dX4_isBalanced_43 : decode cX4_isBalanced 43 = .ok (.aload_n 2, 1) := by decide +kernel
theorem dX4_isBalanced_44 : decode cX4_isBalanced 44 = .ok (.ifnull 10, 3) := by decide +kernel
theorem dX4_isBalanced_47 : decode cX4_isBalanced 47 = .ok (.aload_n 2, 1) := by decide +kernel
theorem dX4_isBalanced_48 : decode cX4_isBalanced 48 = .ok (.invokestatic 230, 3) := by decide +kernel
theorem dX4_isBalanced_51 : decode cX4_isBalanced 51 = .ok (.ifCond .ne 5, 3) := by decide +kernel
theorem dX4_isBalanced_54 : decode cX4_isBalanced 54 = .ok (.iconst 0, 1) := by decide +kernel
theorem dX4_isBalanced_55 : decode cX4_isBalanced 55 = .ok (.ireturn, 1) := by decide +kernel
theorem dX4_isBalanced_56 : decode cX4_isBalanced 56 = .ok (.iinc 1 1, 3) := by decide +kernel
theorem dX4_isBalanced_59 : decode cX4_isBalanced 59 = .ok (.goto (-30), 3) := by decide +kernel
theorem dX4_isBalanced_62 : decode cX4_isBalanced 62 = .ok (.iconst 1, 1) := by decide +kernel
theorem dX4_isBalanced_63 : decode cX4_isBalanced 63 = .ok (.ireturn, 1) := by decide +kernel
theorem dX4_undo_0 : decode cX4_undo 0 = .ok (.aload_n 0, 1) := by decide +kernel
theorem dX4_undo_1 : decode cX4_undo 1 = .ok (.getfield 227, 3) := by decide +kernel
theorem dX4_undo_4 : decode cX4_undo 4 = .ok (.ifCond .gt 6, 3) := by decide +kernel
theorem dX4_undo_7 : decode cX4_undo 7 = .ok (.bipush (-15), 2) := by decide +kernel
theorem dX4_undo_9 : decode cX4_undo 9 = .ok (.ireturn, 1) := by decide +kernel
theorem dX4_undo_10 : decode cX4_undo 10 = .ok (.aload_n 0, 1) := by decide +kernel
theorem dX4_undo_11 : decode cX4_undo 11 = .ok (.aload_n 0, 1) := by decide +kernel
theorem dX4_undo_12 : decode cX4_undo 12 = .ok (.getfield 234, 3) := by decide +kernel
theorem dX4_undo_15 : decode cX4_undo 15 = .ok (.bipush 8, 2) := by decide +kernel
theorem dX4_undo_17 : decode cX4_undo 17 = .ok (.iadd, 1) := by decide +kernel
theorem dX4_undo_18 : decode cX4_undo 18 = .ok (.bipush 9, 2) := by decide +kernel
theorem dX4_undo_20 : decode cX4_undo 20 = .ok (.irem, 1) := by decide +kernel
theorem dX4_undo_21 : decode cX4_undo 21 = .ok (.putfield 234, 3) := by decide +kernel
theorem dX4_undo_24 : decode cX4_undo 24 = .ok (.aload_n 0, 1) := by decide +kernel
theorem dX4_undo_25 : decode cX4_undo 25 = .ok (.dup, 1) := by decide +kernel
theorem dX4_undo_26 : decode cX4_undo 26 = .ok (.getfield 227, 3) := by decide +kernel
theorem dX4_undo_29 : decode cX4_undo 29 = .ok (.iconst 1, 1) := by decide +kernel
theorem dX4_undo_30 : decode cX4_undo 30 = .ok (.isub, 1) := by decide +kernel
theorem dX4_undo_31 : decode cX4_undo 31 = .ok (.putfield 227, 3) := by decide +kernel
theorem dX4_undo_34 : decode cX4_undo 34 = .ok (.aload_n 0, 1) := by decide +kernel
theorem dX4_undo_35 : decode cX4_undo 35 = .ok (.invokevirtual 193, 3) := by decide +kernel
theorem dX4_undo_38 : decode cX4_undo 38 = .ok (.aload_n 0, 1) := by decide +kernel
theorem dX4_undo_39 : decode cX4_undo 39 = .ok (.getfield 227, 3) := by decide +kernel
theorem dX4_undo_42 : decode cX4_undo 42 = .ok (.ireturn, 1) := by decide +kernel
theorem dX4_save_0 : decode cX4_save 0 = .ok (.aload_n 0, 1) := by decide +kernel
theorem dX4_save_1 : decode cX4_save 1 = .ok (.getfield 16, 3) := by decide +kernel
theorem dX4_save_4 : decode cX4_save 4 = .ok (.aload_n 0, 1) := by decide +kernel
theorem dX4_save_5 : decode cX4_save 5 = .ok (.getfield 10, 3) := by decide +kernel
theorem dX4_save_8 : decode cX4_save 8 = .ok (.invokevirtual 237, 3) := by decide +kernel
theorem dX4_save_11 : decode cX4_save 11 = .ok (.aload_n 0, 1) := by decide +kernel
theorem dX4_save_12 : decode cX4_save 12 = .ok (.iconst 1, 1) := by decide +kernel
theorem dX4_save_13 : decode cX4_save 13 = .ok (.putfield 241, 3) := by decide +kernel
theorem dX4_save_16 : decode cX4_save 16 = .ok (.aload_n 0, 1) := by decide +kernel
theorem dX4_save_17 : decode cX4_save 17 = .ok (.getfield 10, 3) := by decide +kernel
theorem dX4_save_20 : decode cX4_save 20 = .ok (.invokevirtual 149, 3) := by decide +kernel
theorem dX4_save_23 : decode cX4_save 23 = .ok (.ireturn, 1) := by decide +kernel
theorem dX4_restore_0 : decode cX4_restore 0 = .ok (.aload_n 0, 1) := by decide +kernel
theorem dX4_restore_1 : decode cX4_restore 1 = .ok (.getfield 241, 3) := by decide +kernel
theorem dX4_restore_4 : decode cX4_restore 4 = .ok (.ifCond .ne 6, 3) := by decide +kernel
theorem dX4_restore_7 : decode cX4_restore 7 = .ok (.bipush (-15), 2) := by decide +kernel
theorem dX4_restore_9 : decode cX4_restore 9 = .ok (.ireturn, 1) := by decide +kernel
theorem dX4_restore_10 : decode cX4_restore 10 = .ok (.aload_n 0, 1) := by decide +kernel
theorem dX4_restore_11 : decode cX4_restore 11 = .ok (.getfield 10, 3) := by decide +kernel
theorem dX4_restore_14 : decode cX4_restore 14 = .ok (.aload_n 0, 1) := by decide +kernel
theorem dX4_restore_15 : decode cX4_restore 15 = .ok (.getfield 16, 3) := by decide +kernel
theorem dX4_restore_18 : decode cX4_restore 18 = .ok (.invokevirtual 237, 3) := by decide +kernel
theorem dX4_restore_21 : decode cX4_restore 21 = .ok (.aload_n 0, 1) := by decide +kernel
theorem dX4_restore_22 : decode cX4_restore 22 = .ok (.iconst 0, 1) := by decide +kernel
theorem dX4_restore_23 : decode cX4_restore 23 = .ok (.putfield 227, 3) := by decide +kernel
theorem dX4_restore_26 : decode cX4_restore 26 = .ok (.aload_n 0, 1) := by decide +kernel
theorem dX4_restore_27 : decode cX4_restore 27 = .ok (.getfield 10, 3) := by decide +kernel
theorem dX4_restore_30 : decode cX4_restore 30 = .ok (.invokevirtual 149, 3) := by decide +kernel
theorem dX4_restore_33 : decode cX4_restore 33 = .ok (.ireturn, 1) := by decide +kernel
theorem dX4_putNow_0 : decode cX4_putNow 0 = .ok (.aload_n 0, 1) := by decide +kernel
theorem dX4_putNow_1 : decode cX4_putNow 1 = .ok (.getfield 10, 3) := by decide +kernel
theorem dX4_putNow_4 : decode cX4_putNow 4 = .ok (.iload_n 1, 1) := by decide +kernel
theorem dX4_putNow_5 : decode cX4_putNow 5 = .ok (.invokevirtual 71, 3) := by decide +kernel
theorem dX4_putNow_8 : decode cX4_putNow 8 = .ok (.astore 4, 2) := by decide +kernel
theorem dX4_putNow_10 : decode cX4_putNow 10 = .ok (.aload 4, 2) := by decide +kernel
theorem dX4_putNow_12 : decode cX4_putNow 12 = .ok (.ifnonnull 6, 3) := by decide +kernel
theorem dX4_putNow_15 : decode cX4_putNow 15 = .ok (.bipush (-11), 2) := by decide +kernel
theorem dX4_putNow_17 : decode cX4_putNow 17 = .ok (.ireturn, 1) := by decide +kernel
theorem dX4_putNow_18 : decode cX4_putNow 18 = .ok (.iload_n 2, 1) := by decide +kernel
theorem dX4_putNow_19 : decode cX4_putNow 19 = .ok (.ifCond .lt 21, 3) := by decide +kernel
theorem dX4_putNow_22 : decode cX4_putNow 22 = .ok (.iload_n 2, 1) := by decide +kernel
theorem dX4_putNow_23 : decode cX4_putNow 23 = .ok (.sipush 1000, 3) := by decide +kernel
theorem dX4_putNow_26 : decode cX4_putNow 26 = .ok (.if_icmp .ge 14, 3) := by decide +kernel
theorem dX4_putNow_29 : decode cX4_putNow 29 = .ok (.iload_n 3, 1) := by decide +kernel
theorem dX4_putNow_30 : decode cX4_putNow 30 = .ok (.iconst 1, 1) := by decide +kernel
theorem dX4_putNow_31 : decode cX4_putNow 31 = .ok (.if_icmp .lt 9, 3) := by decide +kernel
theorem dX4_putNow_34 : decode cX4_putNow 34 = .ok (.iload_n 3, 1) := by decide +kernel
theorem dX4_putNow_35 : decode cX4_putNow 35 = .ok (.bipush 99, 2) := by decide +kernel
theorem dX4_putNow_37 : decode cX4_putNow 37 = .ok (.if_icmp .le 6, 3) := by decide +kernel
theorem dX4_putNow_40 : decode cX4_putNow 40 = .ok (.bipush (-12), 2) := by decide +kernel
theorem dX4_putNow_42 : decode cX4_putNow 42 = .ok (.ireturn, 1) := by decide +kernel
theorem dX4_putNow_43 : decode cX4_putNow 43 = .ok (.aload 4, 2) := by decide +kernel
theorem dX4_putNow_45 : decode cX4_putNow 45 = .ok (.iload_n 2, 1) := by decide +kernel
theorem dX4_putNow_46 : decode cX4_putNow 46 = .ok (.invokevirtual 75, 3) := by decide +kernel
theorem dX4_putNow_49 : decode cX4_putNow 49 = .ok (.iconst (-1), 1) := by decide +kernel
theorem dX4_putNow_50 : decode cX4_putNow 50 = .ok (.if_icmp .eq 10, 3) := by decide +kernel
theorem dX4_putNow_53 : decode cX4_putNow 53 = .ok (.aload_n 0, 1) := by decide +kernel
theorem dX4_putNow_54 : decode cX4_putNow 54 = .ok (.iconst 2, 1) := by decide +kernel
theorem dX4_putNow_55 : decode cX4_putNow 55 = .ok (.iload_n 2, 1) := by decide +kernel
theorem dX4_putNow_56 : decode cX4_putNow 56 = .ok (.invokevirtual 196, 3) := by decide +kernel
theorem dX4_putNow_59 : decode cX4_putNow 59 = .ok (.ireturn, 1) := by decide +kernel
theorem dX4_putNow_60 : decode cX4_putNow 60 = .ok (.aload 4, 2) := by decide +kernel
theorem dX4_putNow_62 : decode cX4_putNow 62 = .ok (.getfield 111, 3) := by decide +kernel
theorem dX4_putNow_65 : decode cX4_putNow 65 = .ok (.bipush 30, 2) := by decide +kernel
theorem dX4_putNow_67 : decode cX4_putNow 67 = .ok (.if_icmp .lt 14, 3) := by decide +kernel
theorem dX4_putNow_70 : decode cX4_putNow 70 = .ok (.aload_n 0, 1) := by decide +kernel
theorem dX4_putNow_71 : decode cX4_putNow 71 = .ok (.iconst 1, 1) := by decide +kernel
theorem dX4_putNow_72 : decode cX4_putNow 72 = .ok (.aload 4, 2) := by decide +kernel
theorem dX4_putNow_74 : decode cX4_putNow 74 = .ok (.getfield 111, 3) := by decide +kernel
theorem dX4_putNow_77 : decode cX4_putNow 77 = .ok (.invokevirtual 196, 3) := by decide +kernel
theorem dX4_putNow_80 : decode cX4_putNow 80 = .ok (.ireturn, 1) := by decide +kernel
theorem dX4_putNow_81 : decode cX4_putNow 81 = .ok (.aload 4, 2) := by decide +kernel
theorem dX4_putNow_83 : decode cX4_putNow 83 = .ok (.iload_n 2, 1) := by decide +kernel
theorem dX4_putNow_84 : decode cX4_putNow 84 = .ok (.iload_n 3, 1) := by decide +kernel
theorem dX4_putNow_85 : decode cX4_putNow 85 = .ok (.invokevirtual 245, 3) := by decide +kernel
theorem dX4_putNow_88 : decode cX4_putNow 88 = .ok (.istore 5, 2) := by decide +kernel
theorem dX4_putNow_90 : decode cX4_putNow 90 = .ok (.aload 4, 2) := by decide +kernel
theorem dX4_putNow_92 : decode cX4_putNow 92 = .ok (.aload 4, 2) := by decide +kernel
theorem dX4_putNow_94 : decode cX4_putNow 94 = .ok (.getfield 121, 3) := by decide +kernel
theorem dX4_putNow_97 : decode cX4_putNow 97 = .ok (.aload 4, 2) := by decide +kernel
theorem dX4_putNow_99 : decode cX4_putNow 99 = .ok (.getfield 111, 3) := by decide +kernel
theorem dX4_putNow_102 : decode cX4_putNow 102 = .ok (.invokestatic 248, 3) := by decide +kernel
theorem dX4_putNow_105 : decode cX4_putNow 105 = .ok (.putfield 121, 3) := by decide +kernel
theorem dX4_putNow_108 : decode cX4_putNow 108 = .ok (.aload_n 0, 1) := by decide +kernel
theorem dX4_putNow_109 : decode cX4_putNow 109 = .ok (.getfield 10, 3) := by decide +kernel
theorem dX4_putNow_112 : decode cX4_putNow 112 = .ok (.dup, 1) := by decide +kernel
theorem dX4_putNow_113 : decode cX4_putNow 113 = .ok (.getfield 209, 3) := by decide +kernel
theorem dX4_putNow_116 : decode cX4_putNow 116 = .ok (.iconst 1, 1) := by decide +kernel
theorem dX4_putNow_117 : decode cX4_putNow 117 = .ok (.iadd, 1) := by decide +kernel
theorem dX4_putNow_118 : decode cX4_putNow 118 = .ok (.putfield 209, 3) := by decide +kernel
theorem dX4_putNow_121 : decode cX4_putNow 121 = .ok (.aload 4, 2) := by decide +kernel
theorem dX4_putNow_123 : decode cX4_putNow 123 = .ok (.iload 5, 2) := by decide +kernel
theorem dX4_putNow_125 : decode cX4_putNow 125 = .ok (.invokevirtual 89, 3) := by decide +kernel
theorem dX4_putNow_128 : decode cX4_putNow 128 = .ok (.aload 4, 2) := by decide +kernel
theorem dX4_putNow_130 : decode cX4_putNow 130 = .ok (.getfield 111, 3) := by decide +kernel
theorem dX4_putNow_133 : decode cX4_putNow 133 = .ok (.aload_n 0, 1) := by decide +kernel
theorem dX4_putNow_134 : decode cX4_putNow 134 = .ok (.getfield 10, 3) := by decide +kernel
theorem dX4_putNow_137 : decode cX4_putNow 137 = .ok (.getfield 95, 3) := by decide +kernel
theorem dX4_putNow_140 : decode cX4_putNow 140 = .ok (.invokestatic 118, 3) := by decide +kernel
theorem dX4_putNow_143 : decode cX4_putNow 143 = .ok (.if_icmp .gt 5, 3) := by decide +kernel
theorem dX4_putNow_146 : decode cX4_putNow 146 = .ok (.iconst 0, 1) := by decide +kernel
theorem dX4_putNow_147 : decode cX4_putNow 147 = .ok (.ireturn, 1) := by decide +kernel
theorem dX4_putNow_148 : decode cX4_putNow 148 = .ok (.aload 4, 2) := by decide +kernel
theorem dX4_putNow_150 : decode cX4_putNow 150 = .ok (.iload 5, 2) := by decide +kernel
theorem dX4_putNow_152 : decode cX4_putNow 152 = .ok (.aload_n 0, 1) := by decide +kernel
theorem dX4_putNow_153 : decode cX4_putNow 153 = .ok (.getfield 10, 3) := by decide +kernel
theorem dX4_putNow_156 : decode cX4_putNow 156 = .ok (.getfield 95, 3) := by decide +kernel
theorem dX4_putNow_159 : decode cX4_putNow 159 = .ok (.invokevirtual 253, 3) := by decide +kernel
theorem dX4_putNow_162 : decode cX4_putNow 162 = .ok (.istore 6, 2) := by decide +kernel
theorem dX4_putNow_164 : decode cX4_putNow 164 = .ok (.iload 6, 2) := by decide +kernel
theorem dX4_putNow_166 : decode cX4_putNow 166 = .ok (.ifCond .le 30, 3) := by decide +kernel
theorem dX4_putNow_169 : decode cX4_putNow 169 = .ok (.aload_n 0, 1) := by decide +kernel
theorem dX4_putNow_170 : decode cX4_putNow 170 = .ok (.getfield 10, 3) := by decide +kernel
theorem dX4_putNow_173 : decode cX4_putNow 173 = .ok (.dup, 1) := by decide +kernel
theorem dX4_putNow_174 : decode cX4_putNow 174 = .ok (.getfield 215, 3) := by decide +kernel
theorem dX4_putNow_177 : decode cX4_putNow 177 = .ok (.iconst 1, 1) := by decide +kernel
theorem dX4_putNow_178 : decode cX4_putNow 178 = .ok (.iadd, 1) := by decide +kernel
theorem dX4_putNow_179 : decode cX4_putNow 179 = .ok (.putfield 215, 3) := by decide +kernel
theorem dX4_putNow_182 : decode cX4_putNow 182 = .ok (.aload_n 0, 1) := by decide +kernel
theorem dX4_putNow_183 : decode cX4_putNow 183 = .ok (.getfield 10, 3) := by decide +kernel
theorem dX4_putNow_186 : decode cX4_putNow 186 = .ok (.dup, 1) := by decide +kernel
theorem dX4_putNow_187 : decode cX4_putNow 187 = .ok (.getfield 221, 3) := by decide +kernel
theorem dX4_putNow_190 : decode cX4_putNow 190 = .ok (.iload 6, 2) := by decide +kernel
theorem dX4_putNow_192 : decode cX4_putNow 192 = .ok (.iadd, 1) := by decide +kernel
theorem dX4_putNow_193 : decode cX4_putNow 193 = .ok (.putfield 221, 3) := by decide +kernel
theorem dX4_putNow_196 : decode cX4_putNow 196 = .ok (.iload 6, 2) := by decide +kernel
theorem dX4_putNow_198 : decode cX4_putNow 198 = .ok (.ireturn, 1) := by decide +kernel
theorem dX4_takeNow_0 : decode cX4_takeNow 0 = .ok (.aload_n 0, 1) := by decide +kernel
theorem dX4_takeNow_1 : decode cX4_takeNow 1 = .ok (.getfield 10, 3) := by decide +kernel
theorem dX4_takeNow_4 : decode cX4_takeNow 4 = .ok (.iload_n 1, 1) := by decide +kernel
theorem dX4_takeNow_5 : decode cX4_takeNow 5 = .ok (.invokevirtual 71, 3) := by decide +kernel
theorem dX4_takeNow_8 : decode cX4_takeNow 8 = .ok (.astore_n 3, 1) := by decide +kernel
theorem dX4_takeNow_9 : decode cX4_takeNow 9 = .ok (.aload_n 3, 1) := by decide +kernel
theorem dX4_takeNow_10 : decode cX4_takeNow 10 = .ok (.ifnonnull 6, 3) := by decide +kernel
theorem dX4_takeNow_13 : decode cX4_takeNow 13 = .ok (.bipush (-11), 2) := by decide +kernel
theorem dX4_takeNow_15 : decode cX4_takeNow 15 = .ok (.ireturn, 1) := by decide +kernel
theorem dX4_takeNow_16 : decode cX4_takeNow 16 = .ok (.aload_n 3, 1) := by decide +kernel
theorem dX4_takeNow_17 : decode cX4_takeNow 17 = .ok (.iload_n 2, 1) := by decide +kernel
theorem dX4_takeNow_18 : decode cX4_takeNow 18 = .ok (.invokevirtual 75, 3) := by decide +kernel
theorem dX4_takeNow_21 : decode cX4_takeNow 21 = .ok (.istore 4, 2) := by decide +kernel
theorem dX4_takeNow_23 : decode cX4_takeNow 23 = .ok (.iload 4, 2) := by decide +kernel
theorem dX4_takeNow_25 : decode cX4_takeNow 25 = .ok (.iconst (-1), 1) := by decide +kernel
theorem dX4_takeNow_26 : decode cX4_takeNow 26 = .ok (.if_icmp .ne 6, 3) := by decide +kernel
theorem dX4_takeNow_29 : decode cX4_takeNow 29 = .ok (.bipush (-11), 2) := by decide +kernel
theorem dX4_takeNow_31 : decode cX4_takeNow 31 = .ok (.ireturn, 1) := by decide +kernel
theorem dX4_takeNow_32 : decode cX4_takeNow 32 = .ok (.aload_n 3, 1) := by decide +kernel
theorem dX4_takeNow_33 : decode cX4_takeNow 33 = .ok (.iload 4, 2) := by decide +kernel
theorem dX4_takeNow_35 : decode cX4_takeNow 35 = .ok (.invokevirtual 86, 3) := by decide +kernel
theorem dX4_takeNow_38 : decode cX4_takeNow 38 = .ok (.istore 5, 2) := by decide +kernel
theorem dX4_takeNow_40 : decode cX4_takeNow 40 = .ok (.aload_n 3, 1) := by decide +kernel
theorem dX4_takeNow_41 : decode cX4_takeNow 41 = .ok (.iload 4, 2) := by decide +kernel
theorem dX4_takeNow_43 : decode cX4_takeNow 43 = .ok (.invokevirtual 256, 3) := by decide +kernel
theorem dX4_takeNow_46 : decode cX4_takeNow 46 = .ok (.aload_n 0, 1) := by decide +kernel
theorem dX4_takeNow_47 : decode cX4_takeNow 47 = .ok (.getfield 10, 3) := by decide +kernel
theorem dX4_takeNow_50 : decode cX4_takeNow 50 = .ok (.dup, 1) := by decide +kernel
theorem dX4_takeNow_51 : decode cX4_takeNow 51 = .ok (.getfield 212, 3) := by decide +kernel
theorem dX4_takeNow_54 : decode cX4_takeNow 54 = .ok (.iconst 1, 1) := by decide +kernel
theorem dX4_takeNow_55 : decode cX4_takeNow 55 = .ok (.iadd, 1) := by decide +kernel
theorem dX4_takeNow_56 : decode cX4_takeNow 56 = .ok (.putfield 212, 3) := by decide +kernel
theorem dX4_takeNow_59 : decode cX4_takeNow 59 = .ok (.bipush 100, 2) := by decide +kernel
theorem dX4_takeNow_61 : decode cX4_takeNow 61 = .ok (.aload_n 3, 1) := by decide +kernel
theorem dX4_takeNow_62 : decode cX4_takeNow 62 = .ok (.getfield 111, 3) := by decide +kernel
theorem dX4_takeNow_65 : decode cX4_takeNow 65 = .ok (.imul, 1) := by decide +kernel
theorem dX4_takeNow_66 : decode cX4_takeNow 66 = .ok (.aload_n 0, 1) := by decide +kernel
theorem dX4_takeNow_67 : decode cX4_takeNow 67 = .ok (.getfield 10, 3) := by decide +kernel
theorem dX4_takeNow_70 : decode cX4_takeNow 70 = .ok (.getfield 95, 3) := by decide +kernel
theorem dX4_takeNow_73 : decode cX4_takeNow 73 = .ok (.aload_n 3, 1) := by decide +kernel
theorem dX4_takeNow_74 : decode cX4_takeNow 74 = .ok (.getfield 121, 3) := by decide +kernel
theorem dX4_takeNow_77 : decode cX4_takeNow 77 = .ok (.imul, 1) := by decide +kernel
theorem dX4_takeNow_78 : decode cX4_takeNow 78 = .ok (.if_icmp .ge 9, 3) := by decide +kernel
theorem dX4_takeNow_81 : decode cX4_takeNow 81 = .ok (.aload_n 0, 1) := by decide +kernel
theorem dX4_takeNow_82 : decode cX4_takeNow 82 = .ok (.aload_n 3, 1) := by decide +kernel
theorem dX4_takeNow_83 : decode cX4_takeNow 83 = .ok (.invokevirtual 260, 3) := by decide +kernel
theorem dX4_takeNow_86 : decode cX4_takeNow 86 = .ok (.pop, 1) := by decide +kernel
theorem dX4_takeNow_87 : decode cX4_takeNow 87 = .ok (.iload 5, 2) := by decide +kernel
theorem dX4_takeNow_89 : decode cX4_takeNow 89 = .ok (.ireturn, 1) := by decide +kernel
theorem dX4_buildNow_0 : decode cX4_buildNow 0 = .ok (.aload_n 0, 1) := by decide +kernel
theorem dX4_buildNow_1 : decode cX4_buildNow 1 = .ok (.getfield 10, 3) := by decide +kernel
theorem dX4_buildNow_4 : decode cX4_buildNow 4 = .ok (.iload_n 1, 1) := by decide +kernel
theorem dX4_buildNow_5 : decode cX4_buildNow 5 = .ok (.invokevirtual 71, 3) := by decide +kernel
theorem dX4_buildNow_8 : decode cX4_buildNow 8 = .ok (.astore_n 2, 1) := by decide +kernel
theorem dX4_buildNow_9 : decode cX4_buildNow 9 = .ok (.aload_n 2, 1) := by decide +kernel
theorem dX4_buildNow_10 : decode cX4_buildNow 10 = .ok (.ifnonnull 6, 3) := by decide +kernel
theorem dX4_buildNow_13 : decode cX4_buildNow 13 = .ok (.bipush (-11), 2) := by decide +kernel
theorem dX4_buildNow_15 : decode cX4_buildNow 15 = .ok (.ireturn, 1) := by decide +kernel
theorem dX4_buildNow_16 : decode cX4_buildNow 16 = .ok (.aload_n 2, 1) := by decide +kernel
theorem dX4_buildNow_17 : decode cX4_buildNow 17 = .ok (.getfield 111, 3) := by decide +kernel
theorem dX4_buildNow_20 : decode cX4_buildNow 20 = .ok (.ifCond .gt 10, 3) := by decide +kernel
theorem dX4_buildNow_23 : decode cX4_buildNow 23 = .ok (.aload_n 0, 1) := by decide +kernel
theorem dX4_buildNow_24 : decode cX4_buildNow 24 = .ok (.iconst 5, 1) := by decide +kernel
theorem dX4_buildNow_25 : decode cX4_buildNow 25 = .ok (.iload_n 1, 1) := by decide +kernel
theorem dX4_buildNow_26 : decode cX4_buildNow 26 = .ok (.invokevirtual 196, 3) := by decide +kernel
theorem dX4_buildNow_29 : decode cX4_buildNow 29 = .ok (.ireturn, 1) := by decide +kernel
theorem dX4_buildNow_30 : decode cX4_buildNow 30 = .ok (.aload_n 0, 1) := by decide +kernel
theorem dX4_buildNow_31 : decode cX4_buildNow 31 = .ok (.aload_n 2, 1) := by decide +kernel
theorem dX4_buildNow_32 : decode cX4_buildNow 32 = .ok (.invokevirtual 260, 3) := by decide +kernel
theorem dX4_buildNow_35 : decode cX4_buildNow 35 = .ok (.ireturn, 1) := by decide +kernel
theorem dX4_pourNow_0 : decode cX4_pourNow 0 = .ok (.aload_n 0, 1) := by decide +kernel
theorem dX4_pourNow_1 : decode cX4_pourNow 1 = .ok (.getfield 10, 3) := by decide +kernel
theorem dX4_pourNow_4 : decode cX4_pourNow 4 = .ok (.iload_n 1, 1) := by decide +kernel
theorem dX4_pourNow_5 : decode cX4_pourNow 5 = .ok (.invokevirtual 71, 3) := by decide +kernel
theorem dX4_pourNow_8 : decode cX4_pourNow 8 = .ok (.astore_n 3, 1) := by decide +kernel
theorem dX4_pourNow_9 : decode cX4_pourNow 9 = .ok (.aload_n 0, 1) := by decide +kernel
theorem dX4_pourNow_10 : decode cX4_pourNow 10 = .ok (.getfield 10, 3) := by decide +kernel
theorem dX4_pourNow_13 : decode cX4_pourNow 13 = .ok (.iload_n 2, 1) := by decide +kernel
theorem dX4_pourNow_14 : decode cX4_pourNow 14 = .ok (.invokevirtual 71, 3) := by decide +kernel
theorem dX4_pourNow_17 : decode cX4_pourNow 17 = .ok (.astore 4, 2) := by decide +kernel
theorem dX4_pourNow_19 : decode cX4_pourNow 19 = .ok (.aload_n 3, 1) := by decide +kernel
theorem dX4_pourNow_20 : decode cX4_pourNow 20 = .ok (.ifnull 8, 3) := by decide +kernel
theorem dX4_pourNow_23 : decode cX4_pourNow 23 = .ok (.aload 4, 2) := by decide +kernel
theorem dX4_pourNow_25 : decode cX4_pourNow 25 = .ok (.ifnonnull 6, 3) := by decide +kernel
theorem dX4_pourNow_28 : decode cX4_pourNow 28 = .ok (.bipush (-11), 2) := by decide +kernel
theorem dX4_pourNow_30 : decode cX4_pourNow 30 = .ok (.ireturn, 1) := by decide +kernel
theorem dX4_pourNow_31 : decode cX4_pourNow 31 = .ok (.iload_n 1, 1) := by decide +kernel
theorem dX4_pourNow_32 : decode cX4_pourNow 32 = .ok (.iload_n 2, 1) := by decide +kernel
theorem dX4_pourNow_33 : decode cX4_pourNow 33 = .ok (.if_icmp .ne 10, 3) := by decide +kernel
theorem dX4_pourNow_36 : decode cX4_pourNow 36 = .ok (.aload_n 0, 1) := by decide +kernel
theorem dX4_pourNow_37 : decode cX4_pourNow 37 = .ok (.iconst 3, 1) := by decide +kernel
theorem dX4_pourNow_38 : decode cX4_pourNow 38 = .ok (.iload_n 1, 1) := by decide +kernel
theorem dX4_pourNow_39 : decode cX4_pourNow 39 = .ok (.invokevirtual 196, 3) := by decide +kernel
theorem dX4_pourNow_42 : decode cX4_pourNow 42 = .ok (.ireturn, 1) := by decide +kernel
theorem dX4_pourNow_43 : decode cX4_pourNow 43 = .ok (.aload_n 3, 1) := by decide +kernel
theorem dX4_pourNow_44 : decode cX4_pourNow 44 = .ok (.getfield 111, 3) := by decide +kernel
theorem dX4_pourNow_47 : decode cX4_pourNow 47 = .ok (.ifCond .gt 10, 3) := by decide +kernel
theorem dX4_pourNow_50 : decode cX4_pourNow 50 = .ok (.aload_n 0, 1) := by decide +kernel
theorem dX4_pourNow_51 : decode cX4_pourNow 51 = .ok (.iconst 5, 1) := by decide +kernel
theorem dX4_pourNow_52 : decode cX4_pourNow 52 = .ok (.iload_n 1, 1) := by decide +kernel
theorem dX4_pourNow_53 : decode cX4_pourNow 53 = .ok (.invokevirtual 196, 3) := by decide +kernel
theorem dX4_pourNow_56 : decode cX4_pourNow 56 = .ok (.ireturn, 1) := by decide +kernel
theorem dX4_pourNow_57 : decode cX4_pourNow 57 = .ok (.aload_n 3, 1) := by decide +kernel
theorem dX4_pourNow_58 : decode cX4_pourNow 58 = .ok (.getfield 111, 3) := by decide +kernel
theorem dX4_pourNow_61 : decode cX4_pourNow 61 = .ok (.aload 4, 2) := by decide +kernel
theorem dX4_pourNow_63 : decode cX4_pourNow 63 = .ok (.getfield 111, 3) := by decide +kernel
theorem dX4_pourNow_66 : decode cX4_pourNow 66 = .ok (.iadd, 1) := by decide +kernel
theorem dX4_pourNow_67 : decode cX4_pourNow 67 = .ok (.bipush 30, 2) := by decide +kernel
theorem dX4_pourNow_69 : decode cX4_pourNow 69 = .ok (.if_icmp .le 19, 3) := by decide +kernel
theorem dX4_pourNow_72 : decode cX4_pourNow 72 = .ok (.aload_n 0, 1) := by decide +kernel
theorem dX4_pourNow_73 : decode cX4_pourNow 73 = .ok (.iconst 1, 1) := by decide +kernel
theorem dX4_pourNow_74 : decode cX4_pourNow 74 = .ok (.aload_n 3, 1) := by decide +kernel
theorem dX4_pourNow_75 : decode cX4_pourNow 75 = .ok (.getfield 111, 3) := by decide +kernel
theorem dX4_pourNow_78 : decode cX4_pourNow 78 = .ok (.aload 4, 2) := by decide +kernel
theorem dX4_pourNow_80 : decode cX4_pourNow 80 = .ok (.getfield 111, 3) := by decide +kernel
theorem dX4_pourNow_83 : decode cX4_pourNow 83 = .ok (.iadd, 1) := by decide +kernel
theorem dX4_pourNow_84 : decode cX4_pourNow 84 = .ok (.invokevirtual 196, 3) := by decide +kernel
theorem dX4_pourNow_87 : decode cX4_pourNow 87 = .ok (.ireturn, 1) := by decide +kernel
theorem dX4_pourNow_88 : decode cX4_pourNow 88 = .ok (.iconst 0, 1) := by decide +kernel
theorem dX4_pourNow_89 : decode cX4_pourNow 89 = .ok (.istore 5, 2) := by decide +kernel
theorem dX4_pourNow_91 : decode cX4_pourNow 91 = .ok (.iload 5, 2) := by decide +kernel
theorem dX4_pourNow_93 : decode cX4_pourNow 93 = .ok (.aload_n 3, 1) := by decide +kernel
theorem dX4_pourNow_94 : decode cX4_pourNow 94 = .ok (.getfield 111, 3) := by decide +kernel
theorem dX4_pourNow_97 : decode cX4_pourNow 97 = .ok (.if_icmp .ge 36, 3) := by decide +kernel
theorem dX4_pourNow_100 : decode cX4_pourNow 100 = .ok (.aload 4, 2) := by decide +kernel
theorem dX4_pourNow_102 : decode cX4_pourNow 102 = .ok (.aload_n 3, 1) := by decide +kernel
theorem dX4_pourNow_103 : decode cX4_pourNow 103 = .ok (.iload 5, 2) := by decide +kernel
theorem dX4_pourNow_105 : decode cX4_pourNow 105 = .ok (.invokevirtual 105, 3) := by decide +kernel
theorem dX4_pourNow_108 : decode cX4_pourNow 108 = .ok (.invokevirtual 75, 3) := by decide +kernel
theorem dX4_pourNow_111 : decode cX4_pourNow 111 = .ok (.iconst (-1), 1) := by decide +kernel
theorem dX4_pourNow_112 : decode cX4_pourNow 112 = .ok (.if_icmp .eq 15, 3) := by decide +kernel
theorem dX4_pourNow_115 : decode cX4_pourNow 115 = .ok (.aload_n 0, 1) := by decide +kernel
theorem dX4_pourNow_116 : decode cX4_pourNow 116 = .ok (.iconst 2, 1) := by decide +kernel
theorem dX4_pourNow_117 : decode cX4_pourNow 117 = .ok (.aload_n 3, 1) := by decide +kernel
theorem dX4_pourNow_118 : decode cX4_pourNow 118 = .ok (.iload 5, 2) := by decide +kernel
theorem dX4_pourNow_120 : decode cX4_pourNow 120 = .ok (.invokevirtual 105, 3) := by decide +kernel
theorem dX4_pourNow_123 : decode cX4_pourNow 123 = .ok (.invokevirtual 196, 3) := by decide +kernel
theorem dX4_pourNow_126 : decode cX4_pourNow 126 = .ok (.ireturn, 1) := by decide +kernel
theorem dX4_pourNow_127 : decode cX4_pourNow 127 = .ok (.iinc 5 1, 3) := by decide +kernel
theorem dX4_pourNow_130 : decode cX4_pourNow 130 = .ok (.goto (-39), 3) := by decide +kernel
theorem dX4_pourNow_133 : decode cX4_pourNow 133 = .ok (.iconst 0, 1) := by decide +kernel
theorem dX4_pourNow_134 : decode cX4_pourNow 134 = .ok (.istore 5, 2) := by decide +kernel
theorem dX4_pourNow_136 : decode cX4_pourNow 136 = .ok (.iload 5, 2) := by decide +kernel
theorem dX4_pourNow_138 : decode cX4_pourNow 138 = .ok (.aload_n 3, 1) := by decide +kernel
theorem dX4_pourNow_139 : decode cX4_pourNow 139 = .ok (.getfield 111, 3) := by decide +kernel
theorem dX4_pourNow_142 : decode cX4_pourNow 142 = .ok (.if_icmp .ge 27, 3) := by decide +kernel
theorem dX4_pourNow_145 : decode cX4_pourNow 145 = .ok (.aload 4, 2) := by decide +kernel
theorem dX4_pourNow_147 : decode cX4_pourNow 147 = .ok (.aload_n 3, 1) := by decide +kernel
theorem dX4_pourNow_148 : decode cX4_pourNow 148 = .ok (.iload 5, 2) := by decide +kernel
theorem dX4_pourNow_150 : decode cX4_pourNow 150 = .ok (.invokevirtual 105, 3) := by decide +kernel
theorem dX4_pourNow_153 : decode cX4_pourNow 153 = .ok (.aload_n 3, 1) := by decide +kernel
theorem dX4_pourNow_154 : decode cX4_pourNow 154 = .ok (.iload 5, 2) := by decide +kernel
theorem dX4_pourNow_156 : decode cX4_pourNow 156 = .ok (.invokevirtual 86, 3) := by decide +kernel
theorem dX4_pourNow_159 : decode cX4_pourNow 159 = .ok (.invokevirtual 245, 3) := by decide +kernel
theorem dX4_pourNow_162 : decode cX4_pourNow 162 = .ok (.pop, 1) := by decide +kernel
theorem dX4_pourNow_163 : decode cX4_pourNow 163 = .ok (.iinc 5 1, 3) := by decide +kernel
theorem dX4_pourNow_166 : decode cX4_pourNow 166 = .ok (.goto (-30), 3) := by decide +kernel
theorem dX4_pourNow_169 : decode cX4_pourNow 169 = .ok (.aload_n 3, 1) := by decide +kernel
theorem dX4_pourNow_170 : decode cX4_pourNow 170 = .ok (.iconst 0, 1) := by decide +kernel
theorem dX4_pourNow_171 : decode cX4_pourNow 171 = .ok (.putfield 111, 3) := by decide +kernel
theorem dX4_pourNow_174 : decode cX4_pourNow 174 = .ok (.aload_n 3, 1) := by decide +kernel
theorem dX4_pourNow_175 : decode cX4_pourNow 175 = .ok (.iconst 0, 1) := by decide +kernel
theorem dX4_pourNow_176 : decode cX4_pourNow 176 = .ok (.putfield 121, 3) := by decide +kernel
theorem dX4_pourNow_179 : decode cX4_pourNow 179 = .ok (.aload_n 0, 1) := by decide +kernel
theorem dX4_pourNow_180 : decode cX4_pourNow 180 = .ok (.aload 4, 2) := by decide +kernel
theorem dX4_pourNow_182 : decode cX4_pourNow 182 = .ok (.invokevirtual 260, 3) := by decide +kernel
theorem dX4_pourNow_185 : decode cX4_pourNow 185 = .ok (.pop, 1) := by decide +kernel
theorem dX4_pourNow_186 : decode cX4_pourNow 186 = .ok (.aload_n 0, 1) := by decide +kernel
theorem dX4_pourNow_187 : decode cX4_pourNow 187 = .ok (.getfield 10, 3) := by decide +kernel
theorem dX4_pourNow_190 : decode cX4_pourNow 190 = .ok (.dup, 1) := by decide +kernel
theorem dX4_pourNow_191 : decode cX4_pourNow 191 = .ok (.getfield 224, 3) := by decide +kernel
theorem dX4_pourNow_194 : decode cX4_pourNow 194 = .ok (.iconst 1, 1) := by decide +kernel
theorem dX4_pourNow_195 : decode cX4_pourNow 195 = .ok (.iadd, 1) := by decide +kernel
theorem dX4_pourNow_196 : decode cX4_pourNow 196 = .ok (.putfield 224, 3) := by decide +kernel
theorem dX4_pourNow_199 : decode cX4_pourNow 199 = .ok (.aload 4, 2) := by decide +kernel
theorem dX4_pourNow_201 : decode cX4_pourNow 201 = .ok (.getfield 111, 3) := by decide +kernel
theorem dX4_pourNow_204 : decode cX4_pourNow 204 = .ok (.ireturn, 1) := by decide +kernel
theorem dX4_limitNow_0 : decode cX4_limitNow 0 = .ok (.iload_n 1, 1) := by decide +kernel
theorem dX4_limitNow_1 : decode cX4_limitNow 1 = .ok (.bipush 55, 2) := by decide +kernel
theorem dX4_limitNow_3 : decode cX4_limitNow 3 = .ok (.if_icmp .lt 9, 3) := by decide +kernel
theorem dX4_limitNow_6 : decode cX4_limitNow 6 = .ok (.iload_n 1, 1) := by decide +kernel
theorem dX4_limitNow_7 : decode cX4_limitNow 7 = .ok (.bipush 90, 2) := by decide +kernel
theorem dX4_limitNow_9 : decode cX4_limitNow 9 = .ok (.if_icmp .le 6, 3) := by decide +kernel
theorem dX4_limitNow_12 : decode cX4_limitNow 12 = .ok (.bipush (-12), 2) := by decide +kernel
theorem dX4_limitNow_14 : decode cX4_limitNow 14 = .ok (.ireturn, 1) := by decide +kernel
theorem dX4_limitNow_15 : decode cX4_limitNow 15 = .ok (.iload_n 1, 1) := by decide +kernel
theorem dX4_limitNow_16 : decode cX4_limitNow 16 = .ok (.aload_n 0, 1) := by decide +kernel
theorem dX4_limitNow_17 : decode cX4_limitNow 17 = .ok (.getfield 10, 3) := by decide +kernel
theorem dX4_limitNow_20 : decode cX4_limitNow 20 = .ok (.getfield 95, 3) := by decide +kernel
theorem dX4_limitNow_23 : decode cX4_limitNow 23 = .ok (.if_icmp .ne 10, 3) := by decide +kernel
theorem dX4_limitNow_26 : decode cX4_limitNow 26 = .ok (.aload_n 0, 1) := by decide +kernel
theorem dX4_limitNow_27 : decode cX4_limitNow 27 = .ok (.iconst 4, 1) := by decide +kernel
theorem dX4_limitNow_28 : decode cX4_limitNow 28 = .ok (.iload_n 1, 1) := by decide +kernel
theorem dX4_limitNow_29 : decode cX4_limitNow 29 = .ok (.invokevirtual 196, 3) := by decide +kernel
theorem dX4_limitNow_32 : decode cX4_limitNow 32 = .ok (.ireturn, 1) := by decide +kernel
theorem dX4_limitNow_33 : decode cX4_limitNow 33 = .ok (.aload_n 0, 1) := by decide +kernel
theorem dX4_limitNow_34 : decode cX4_limitNow 34 = .ok (.getfield 10, 3) := by decide +kernel
theorem dX4_limitNow_37 : decode cX4_limitNow 37 = .ok (.getfield 95, 3) := by decide +kernel
theorem dX4_limitNow_40 : decode cX4_limitNow 40 = .ok (.istore_n 2, 1) := by decide +kernel
theorem dX4_limitNow_41 : decode cX4_limitNow 41 = .ok (.aload_n 0, 1) := by decide +kernel
theorem dX4_limitNow_42 : decode cX4_limitNow 42 = .ok (.getfield 10, 3) := by decide +kernel
theorem dX4_limitNow_45 : decode cX4_limitNow 45 = .ok (.iload_n 1, 1) := by decide +kernel
theorem dX4_limitNow_46 : decode cX4_limitNow 46 = .ok (.putfield 95, 3) := by decide +kernel
theorem dX4_limitNow_49 : decode cX4_limitNow 49 = .ok (.iload_n 2, 1) := by decide +kernel
theorem dX4_limitNow_50 : decode cX4_limitNow 50 = .ok (.ireturn, 1) := by decide +kernel
theorem dX4_buildWhole_0 : decode cX4_buildWhole 0 = .ok (.aload_n 1, 1) := by decide +kernel
theorem dX4_buildWhole_1 : decode cX4_buildWhole 1 = .ok (.invokevirtual 264, 3) := by decide +kernel
theorem dX4_buildWhole_4 : decode cX4_buildWhole 4 = .ok (.istore_n 2, 1) := by decide +kernel
theorem dX4_buildWhole_5 : decode cX4_buildWhole 5 = .ok (.aload_n 0, 1) := by decide +kernel
theorem dX4_buildWhole_6 : decode cX4_buildWhole 6 = .ok (.getfield 10, 3) := by decide +kernel
theorem dX4_buildWhole_9 : decode cX4_buildWhole 9 = .ok (.dup, 1) := by decide +kernel
theorem dX4_buildWhole_10 : decode cX4_buildWhole 10 = .ok (.getfield 218, 3) := by decide +kernel
theorem dX4_buildWhole_13 : decode cX4_buildWhole 13 = .ok (.iconst 1, 1) := by decide +kernel
theorem dX4_buildWhole_14 : decode cX4_buildWhole 14 = .ok (.iadd, 1) := by decide +kernel
theorem dX4_buildWhole_15 : decode cX4_buildWhole 15 = .ok (.putfield 218, 3) := by decide +kernel
theorem dX4_buildWhole_18 : decode cX4_buildWhole 18 = .ok (.aload_n 0, 1) := by decide +kernel
theorem dX4_buildWhole_19 : decode cX4_buildWhole 19 = .ok (.getfield 10, 3) := by decide +kernel
theorem dX4_buildWhole_22 : decode cX4_buildWhole 22 = .ok (.dup, 1) := by decide +kernel
theorem dX4_buildWhole_23 : decode cX4_buildWhole 23 = .ok (.getfield 221, 3) := by decide +kernel
theorem dX4_buildWhole_26 : decode cX4_buildWhole 26 = .ok (.aload_n 1, 1) := by decide +kernel
theorem dX4_buildWhole_27 : decode cX4_buildWhole 27 = .ok (.getfield 111, 3) := by decide +kernel
theorem dX4_buildWhole_30 : decode cX4_buildWhole 30 = .ok (.iadd, 1) := by decide +kernel
theorem dX4_buildWhole_31 : decode cX4_buildWhole 31 = .ok (.putfield 221, 3) := by decide +kernel
theorem dX4_buildWhole_34 : decode cX4_buildWhole 34 = .ok (.iload_n 2, 1) := by decide +kernel
theorem dX4_buildWhole_35 : decode cX4_buildWhole 35 = .ok (.ireturn, 1) := by decide +kernel
theorem dX4_carryOut_0 : decode cX4_carryOut 0 = .ok (.aload_n 0, 1) := by decide +kernel
theorem dX4_carryOut_1 : decode cX4_carryOut 1 = .ok (.getfield 36, 3) := by decide +kernel
theorem dX4_carryOut_4 : decode cX4_carryOut 4 = .ok (.iload_n 1, 1) := by decide +kernel
theorem dX4_carryOut_5 : decode cX4_carryOut 5 = .ok (.iconst 0, 1) := by decide +kernel
theorem dX4_carryOut_6 : decode cX4_carryOut 6 = .ok (.invokevirtual 266, 3) := by decide +kernel
theorem dX4_carryOut_9 : decode cX4_carryOut 9 = .ok (.istore_n 2, 1) := by decide +kernel
theorem dX4_carryOut_10 : decode cX4_carryOut 10 = .ok (.aload_n 0, 1) := by decide +kernel
theorem dX4_carryOut_11 : decode cX4_carryOut 11 = .ok (.getfield 36, 3) := by decide +kernel
theorem dX4_carryOut_14 : decode cX4_carryOut 14 = .ok (.iload_n 1, 1) := by decide +kernel
theorem dX4_carryOut_15 : decode cX4_carryOut 15 = .ok (.iconst 1, 1) := by decide +kernel
theorem dX4_carryOut_16 : decode cX4_carryOut 16 = .ok (.invokevirtual 266, 3) := by decide +kernel
theorem dX4_carryOut_19 : decode cX4_carryOut 19 = .ok (.istore_n 3, 1) := by decide +kernel
theorem dX4_carryOut_20 : decode cX4_carryOut 20 = .ok (.aload_n 0, 1) := by decide +kernel
theorem dX4_carryOut_21 : decode cX4_carryOut 21 = .ok (.getfield 36, 3) := by decide +kernel
theorem dX4_carryOut_24 : decode cX4_carryOut 24 = .ok (.iload_n 1, 1) := by decide +kernel
theorem dX4_carryOut_25 : decode cX4_carryOut 25 = .ok (.invokevirtual 269, 3) := by decide +kernel
theorem dX4_carryOut_28 : decode cX4_carryOut 28 = .ok (.lookupswitch 80 #[(43, 44), (45, 60), (61, 67), (62, 73)], 44) := by decide +kernel
theorem dX4_carryOut_72 : decode cX4_carryOut 72 = .ok (.aload_n 0, 1) := by decide +kernel
theorem dX4_carryOut_73 : decode cX4_carryOut 73 = .ok (.iload_n 2, 1) := by decide +kernel
theorem dX4_carryOut_74 : decode cX4_carryOut 74 = .ok (.iload_n 3, 1) := by decide +kernel
theorem dX4_carryOut_75 : decode cX4_carryOut 75 = .ok (.aload_n 0, 1) := by decide +kernel
theorem dX4_carryOut_76 : decode cX4_carryOut 76 = .ok (.getfield 36, 3) := by decide +kernel
theorem dX4_carryOut_79 : decode cX4_carryOut 79 = .ok (.iload_n 1, 1) := by decide +kernel
theorem dX4_carryOut_80 : decode cX4_carryOut 80 = .ok (.iconst 2, 1) := by decide +kernel
theorem dX4_carryOut_81 : decode cX4_carryOut 81 = .ok (.invokevirtual 266, 3) := by decide +kernel
theorem dX4_carryOut_84 : decode cX4_carryOut 84 = .ok (.invokevirtual 50, 3) := by decide +kernel
theorem dX4_carryOut_87 : decode cX4_carryOut 87 = .ok (.ireturn, 1) := by decide +kernel
theorem dX4_carryOut_88 : decode cX4_carryOut 88 = .ok (.aload_n 0, 1) := by decide +kernel
theorem dX4_carryOut_89 : decode cX4_carryOut 89 = .ok (.iload_n 2, 1) := by decide +kernel
theorem dX4_carryOut_90 : decode cX4_carryOut 90 = .ok (.iload_n 3, 1) := by decide +kernel
theorem dX4_carryOut_91 : decode cX4_carryOut 91 = .ok (.invokevirtual 58, 3) := by decide +kernel
theorem dX4_carryOut_94 : decode cX4_carryOut 94 = .ok (.ireturn, 1) := by decide +kernel
theorem dX4_carryOut_95 : decode cX4_carryOut 95 = .ok (.aload_n 0, 1) := by decide +kernel
theorem dX4_carryOut_96 : decode cX4_carryOut 96 = .ok (.iload_n 2, 1) := by decide +kernel
theorem dX4_carryOut_97 : decode cX4_carryOut 97 = .ok (.invokevirtual 62, 3) := by decide +kernel
theorem dX4_carryOut_100 : decode cX4_carryOut 100 = .ok (.ireturn, 1) := by decide +kernel
theorem dX4_carryOut_101 : decode cX4_carryOut 101 = .ok (.aload_n 0, 1) := by decide +kernel
theorem dX4_carryOut_102 : decode cX4_carryOut 102 = .ok (.iload_n 2, 1) := by decide +kernel
theorem dX4_carryOut_103 : decode cX4_carryOut 103 = .ok (.iload_n 3, 1) := by decide +kernel
theorem dX4_carryOut_104 : decode cX4_carryOut 104 = .ok (.invokevirtual 65, 3) := by decide +kernel
theorem dX4_carryOut_107 : decode cX4_carryOut 107 = .ok (.ireturn, 1) := by decide +kernel
theorem dX4_carryOut_108 : decode cX4_carryOut 108 = .ok (.aload_n 0, 1) := by decide +kernel
theorem dX4_carryOut_109 : decode cX4_carryOut 109 = .ok (.iload_n 2, 1) := by decide +kernel
theorem dX4_carryOut_110 : decode cX4_carryOut 110 = .ok (.invokevirtual 68, 3) := by decide +kernel
theorem dX4_carryOut_113 : decode cX4_carryOut 113 = .ok (.ireturn, 1) := by decide +kernel
theorem dX4_refuse_0 : decode cX4_refuse 0 = .ok (.aload_n 0, 1) := by decide +kernel
theorem dX4_refuse_1 : decode cX4_refuse 1 = .ok (.iload_n 1, 1) := by decide +kernel
theorem dX4_refuse_2 : decode cX4_refuse 2 = .ok (.putfield 40, 3) := by decide +kernel
theorem dX4_refuse_5 : decode cX4_refuse 5 = .ok (.aload_n 0, 1) := by decide +kernel
theorem dX4_refuse_6 : decode cX4_refuse 6 = .ok (.iload_n 2, 1) := by decide +kernel
theorem dX4_refuse_7 : decode cX4_refuse 7 = .ok (.putfield 44, 3) := by decide +kernel
theorem dX4_refuse_10 : decode cX4_refuse 10 = .ok (.bipush (-14), 2) := by decide +kernel
theorem dX4_refuse_12 : decode cX4_refuse 12 = .ok (.ireturn, 1) := by decide +kernel
theorem dX4_hold_0 : decode cX4_hold 0 = .ok (.aload_n 0, 1) := by decide +kernel
theorem dX4_hold_1 : decode cX4_hold 1 = .ok (.invokevirtual 272, 3) := by decide +kernel
theorem dX4_hold_4 : decode cX4_hold 4 = .ok (.astore_n 1, 1) := by decide +kernel
theorem dX4_hold_5 : decode cX4_hold 5 = .ok (.aload_n 1, 1) := by decide +kernel
theorem dX4_hold_6 : decode cX4_hold 6 = .ok (.ifnull 11, 3) := by decide +kernel
theorem dX4_hold_9 : decode cX4_hold 9 = .ok (.aload_n 1, 1) := by decide +kernel
theorem dX4_hold_10 : decode cX4_hold 10 = .ok (.aload_n 0, 1) := by decide +kernel
theorem dX4_hold_11 : decode cX4_hold 11 = .ok (.getfield 10, 3) := by decide +kernel
theorem dX4_hold_14 : decode cX4_hold 14 = .ok (.invokevirtual 237, 3) := by decide +kernel
theorem dX4_hold_17 : decode cX4_hold 17 = .ok (.return_, 1) := by decide +kernel
theorem dX4_keep_0 : decode cX4_keep 0 = .ok (.iload_n 1, 1) := by decide +kernel
theorem dX4_keep_1 : decode cX4_keep 1 = .ok (.ifCond .lt 31, 3) := by decide +kernel
theorem dX4_keep_4 : decode cX4_keep 4 = .ok (.aload_n 0, 1) := by decide +kernel
theorem dX4_keep_5 : decode cX4_keep 5 = .ok (.aload_n 0, 1) := by decide +kernel
theorem dX4_keep_6 : decode cX4_keep 6 = .ok (.getfield 234, 3) := by decide +kernel
theorem dX4_keep_9 : decode cX4_keep 9 = .ok (.iconst 1, 1) := by decide +kernel
theorem dX4_keep_10 : decode cX4_keep 10 = .ok (.iadd, 1) := by decide +kernel
theorem dX4_keep_11 : decode cX4_keep 11 = .ok (.bipush 9, 2) := by decide +kernel
theorem dX4_keep_13 : decode cX4_keep 13 = .ok (.irem, 1) := by decide +kernel
theorem dX4_keep_14 : decode cX4_keep 14 = .ok (.putfield 234, 3) := by decide +kernel
theorem dX4_keep_17 : decode cX4_keep 17 = .ok (.aload_n 0, 1) := by decide +kernel
theorem dX4_keep_18 : decode cX4_keep 18 = .ok (.aload_n 0, 1) := by decide +kernel
theorem dX4_keep_19 : decode cX4_keep 19 = .ok (.getfield 227, 3) := by decide +kernel
theorem dX4_keep_22 : decode cX4_keep 22 = .ok (.iconst 1, 1) := by decide +kernel
theorem dX4_keep_23 : decode cX4_keep 23 = .ok (.iadd, 1) := by decide +kernel
theorem dX4_keep_24 : decode cX4_keep 24 = .ok (.bipush 8, 2) := by decide +kernel
theorem dX4_keep_26 : decode cX4_keep 26 = .ok (.invokestatic 276, 3) := by decide +kernel
theorem dX4_keep_29 : decode cX4_keep 29 = .ok (.putfield 227, 3) := by decide +kernel
theorem dX4_keep_32 : decode cX4_keep 32 = .ok (.iload_n 1, 1) := by decide +kernel
theorem dX4_keep_33 : decode cX4_keep 33 = .ok (.ireturn, 1) := by decide +kernel
theorem dX4_giveBack_0 : decode cX4_giveBack 0 = .ok (.aload_n 0, 1) := by decide +kernel
theorem dX4_giveBack_1 : decode cX4_giveBack 1 = .ok (.invokevirtual 272, 3) := by decide +kernel
theorem dX4_giveBack_4 : decode cX4_giveBack 4 = .ok (.astore_n 1, 1) := by decide +kernel
theorem dX4_giveBack_5 : decode cX4_giveBack 5 = .ok (.aload_n 1, 1) := by decide +kernel
theorem dX4_giveBack_6 : decode cX4_giveBack 6 = .ok (.ifnull 11, 3) := by decide +kernel
theorem dX4_giveBack_9 : decode cX4_giveBack 9 = .ok (.aload_n 0, 1) := by decide +kernel
theorem dX4_giveBack_10 : decode cX4_giveBack 10 = .ok (.getfield 10, 3) := by decide +kernel
theorem dX4_giveBack_13 : decode cX4_giveBack 13 = .ok (.aload_n 1, 1) := by decide +kernel
theorem dX4_giveBack_14 : decode cX4_giveBack 14 = .ok (.invokevirtual 237, 3) := by decide +kernel
theorem dX4_giveBack_17 : decode cX4_giveBack 17 = .ok (.return_, 1) := by decide +kernel
theorem dX4_beforeNow_0 : decode cX4_beforeNow 0 = .ok (.aload_n 0, 1) := by decide +kernel
theorem dX4_beforeNow_1 : decode cX4_beforeNow 1 = .ok (.getfield 234, 3) := by decide +kernel
theorem dX4_beforeNow_4 : decode cX4_beforeNow 4 = .ok (.ifCond .lt 27, 3) := by decide +kernel
theorem dX4_beforeNow_7 : decode cX4_beforeNow 7 = .ok (.aload_n 0, 1) := by decide +kernel
theorem dX4_beforeNow_8 : decode cX4_beforeNow 8 = .ok (.getfield 234, 3) := by decide +kernel
theorem dX4_beforeNow_11 : decode cX4_beforeNow 11 = .ok (.aload_n 0, 1) := by decide +kernel
theorem dX4_beforeNow_12 : decode cX4_beforeNow 12 = .ok (.getfield 19, 3) := by decide +kernel
theorem dX4_beforeNow_15 : decode cX4_beforeNow 15 = .ok (.arraylength, 1) := by decide +kernel
theorem dX4_beforeNow_16 : decode cX4_beforeNow 16 = .ok (.if_icmp .ge 15, 3) := by decide +kernel
theorem dX4_beforeNow_19 : decode cX4_beforeNow 19 = .ok (.aload_n 0, 1) := by decide +kernel
theorem dX4_beforeNow_20 : decode cX4_beforeNow 20 = .ok (.getfield 19, 3) := by decide +kernel
theorem dX4_beforeNow_23 : decode cX4_beforeNow 23 = .ok (.aload_n 0, 1) := by decide +kernel
theorem dX4_beforeNow_24 : decode cX4_beforeNow 24 = .ok (.getfield 234, 3) := by decide +kernel
theorem dX4_beforeNow_27 : decode cX4_beforeNow 27 = .ok (.aaload, 1) := by decide +kernel
theorem dX4_beforeNow_28 : decode cX4_beforeNow 28 = .ok (.goto 4, 3) := by decide +kernel
theorem dX4_beforeNow_31 : decode cX4_beforeNow 31 = .ok (.aconst_null, 1) := by decide +kernel
theorem dX4_beforeNow_32 : decode cX4_beforeNow 32 = .ok (.areturn, 1) := by decide +kernel
theorem dX4_isBears_0 : decode cX4_isBears 0 = .ok (.iload_n 0, 1) := by decide +kernel
theorem dX4_isBears_1 : decode cX4_isBears 1 = .ok (.bipush 99, 2) := by decide +kernel
theorem dX4_isBears_3 : decode cX4_isBears 3 = .ok (.if_icmp .lt 14, 3) := by decide +kernel
theorem dX4_isBears_6 : decode cX4_isBears 6 = .ok (.iload_n 0, 1) := by decide +kernel
theorem dX4_isBears_7 : decode cX4_isBears 7 = .ok (.sipush 999, 3) := by decide +kernel
theorem dX4_isBears_10 : decode cX4_isBears 10 = .ok (.if_icmp .gt 7, 3) := by decide +kernel
theorem dX4_isBears_13 : decode cX4_isBears 13 = .ok (.iconst 1, 1) := by decide +kernel
theorem dX4_isBears_14 : decode cX4_isBears 14 = .ok (.goto 4, 3) := by decide +kernel
theorem dX4_isBears_17 : decode cX4_isBears 17 = .ok (.iconst 0, 1) := by decide +kernel
theorem dX4_isBears_18 : decode cX4_isBears 18 = .ok (.ireturn, 1) := by decide +kernel
theorem dX4_depthFor_0 : decode cX4_depthFor 0 = .ok (.iconst (-1), 1) := by decide +kernel
theorem dX4_depthFor_1 : decode cX4_depthFor 1 = .ok (.istore_n 2, 1) := by decide +kernel
theorem dX4_depthFor_2 : decode cX4_depthFor 2 = .ok (.iload_n 0, 1) := by decide +kernel
theorem dX4_depthFor_3 : decode cX4_depthFor 3 = .ok (.istore_n 3, 1) := by decide +kernel
theorem dX4_depthFor_4 : decode cX4_depthFor 4 = .ok (.iconst 0, 1) := by decide +kernel
theorem dX4_depthFor_5 : decode cX4_depthFor 5 = .ok (.istore 4, 2) := by decide +kernel
theorem dX4_depthFor_7 : decode cX4_depthFor 7 = .ok (.iload 4, 2) := by decide +kernel
theorem dX4_depthFor_9 : decode cX4_depthFor 9 = .ok (.bipush 30, 2) := by decide +kernel
theorem dX4_depthFor_11 : decode cX4_depthFor 11 = .ok (.if_icmp .ge 23, 3) := by decide +kernel
theorem dX4_depthFor_14 : decode cX4_depthFor 14 = .ok (.iload_n 3, 1) := by decide +kernel
theorem dX4_depthFor_15 : decode cX4_depthFor 15 = .ok (.ifCond .le 19, 3) := by decide +kernel
theorem dX4_depthFor_18 : decode cX4_depthFor 18 = .ok (.iload_n 3, 1) := by decide +kernel
theorem dX4_depthFor_19 : decode cX4_depthFor 19 = .ok (.iload_n 1, 1) := by decide +kernel
theorem dX4_depthFor_20 : decode cX4_depthFor 20 = .ok (.imul, 1) := by decide +kernel
theorem dX4_depthFor_21 : decode cX4_depthFor 21 = .ok (.bipush 100, 2) := by decide +kernel
theorem dX4_depthFor_23 : decode cX4_depthFor 23 = .ok (.idiv, 1) := by decide +kernel
theorem dX4_depthFor_24 : decode cX4_depthFor 24 = .ok (.istore_n 3, 1) := by decide +kernel
theorem dX4_depthFor_25 : decode cX4_depthFor 25 = .ok (.iinc 2 1, 3) := by decide +kernel
theorem dX4_depthFor_28 : decode cX4_depthFor 28 = .ok (.iinc 4 1, 3) := by decide +kernel
theorem dX4_depthFor_31 : decode cX4_depthFor 31 = .ok (.goto (-24), 3) := by decide +kernel
theorem dX4_depthFor_34 : decode cX4_depthFor 34 = .ok (.iload_n 2, 1) := by decide +kernel
theorem dX4_depthFor_35 : decode cX4_depthFor 35 = .ok (.iconst 0, 1) := by decide +kernel
theorem dX4_depthFor_36 : decode cX4_depthFor 36 = .ok (.invokestatic 248, 3) := by decide +kernel
theorem dX4_depthFor_39 : decode cX4_depthFor 39 = .ok (.ireturn, 1) := by decide +kernel
theorem dX4_shapeOf_0 : decode cX4_shapeOf 0 = .ok (.aload_n 0, 1) := by decide +kernel
theorem dX4_shapeOf_1 : decode cX4_shapeOf 1 = .ok (.iload_n 1, 1) := by decide +kernel
theorem dX4_shapeOf_2 : decode cX4_shapeOf 2 = .ok (.iload_n 2, 1) := by decide +kernel
theorem dX4_shapeOf_3 : decode cX4_shapeOf 3 = .ok (.invokevirtual 108, 3) := by decide +kernel
theorem dX4_shapeOf_6 : decode cX4_shapeOf 6 = .ok (.istore 6, 2) := by decide +kernel
theorem dX4_shapeOf_8 : decode cX4_shapeOf 8 = .ok (.iload 6, 2) := by decide +kernel
theorem dX4_shapeOf_10 : decode cX4_shapeOf 10 = .ok (.iconst (-1), 1) := by decide +kernel
theorem dX4_shapeOf_11 : decode cX4_shapeOf 11 = .ok (.if_icmp .eq 10, 3) := by decide +kernel
theorem dX4_shapeOf_14 : decode cX4_shapeOf 14 = .ok (.iload 5, 2) := by decide +kernel
theorem dX4_shapeOf_16 : decode cX4_shapeOf 16 = .ok (.bipush 30, 2) := by decide +kernel
theorem dX4_shapeOf_18 : decode cX4_shapeOf 18 = .ok (.if_icmp .le 7, 3) := by decide +kernel
theorem dX4_shapeOf_21 : decode cX4_shapeOf 21 = .ok (.lload_n 3, 1) := by decide +kernel
theorem dX4_shapeOf_22 : decode cX4_shapeOf 22 = .ok (.iconst 1, 1) := by decide +kernel
theorem dX4_shapeOf_23 : decode cX4_shapeOf 23 = .ok (.lshl, 1) := by decide +kernel
theorem dX4_shapeOf_24 : decode cX4_shapeOf 24 = .ok (.lreturn, 1) := by decide +kernel
theorem dX4_shapeOf_25 : decode cX4_shapeOf 25 = .ok (.aload_n 0, 1) := by decide +kernel
theorem dX4_shapeOf_26 : decode cX4_shapeOf 26 = .ok (.iload_n 1, 1) := by decide +kernel
theorem dX4_shapeOf_27 : decode cX4_shapeOf 27 = .ok (.iload 6, 2) := by decide +kernel
theorem dX4_shapeOf_29 : decode cX4_shapeOf 29 = .ok (.iconst 1, 1) := by decide +kernel
theorem dX4_shapeOf_30 : decode cX4_shapeOf 30 = .ok (.isub, 1) := by decide +kernel
theorem dX4_shapeOf_31 : decode cX4_shapeOf 31 = .ok (.lload_n 3, 1) := by decide +kernel
theorem dX4_shapeOf_32 : decode cX4_shapeOf 32 = .ok (.iconst 1, 1) := by decide +kernel
theorem dX4_shapeOf_33 : decode cX4_shapeOf 33 = .ok (.lshl, 1) := by decide +kernel
theorem dX4_shapeOf_34 : decode cX4_shapeOf 34 = .ok (.lconst 1, 1) := by decide +kernel
theorem dX4_shapeOf_35 : decode cX4_shapeOf 35 = .ok (.lor, 1) := by decide +kernel
theorem dX4_shapeOf_36 : decode cX4_shapeOf 36 = .ok (.iload 5, 2) := by decide +kernel
theorem dX4_shapeOf_38 : decode cX4_shapeOf 38 = .ok (.iconst 1, 1) := by decide +kernel
theorem dX4_shapeOf_39 : decode cX4_shapeOf 39 = .ok (.iadd, 1) := by decide +kernel
theorem dX4_shapeOf_40 : decode cX4_shapeOf 40 = .ok (.invokestatic 163, 3) := by decide +kernel
theorem dX4_shapeOf_43 : decode cX4_shapeOf 43 = .ok (.lstore 7, 2) := by decide +kernel
theorem dX4_shapeOf_45 : decode cX4_shapeOf 45 = .ok (.aload_n 0, 1) := by decide +kernel
theorem dX4_shapeOf_46 : decode cX4_shapeOf 46 = .ok (.iload 6, 2) := by decide +kernel
theorem dX4_shapeOf_48 : decode cX4_shapeOf 48 = .ok (.iconst 1, 1) := by decide +kernel
theorem dX4_shapeOf_49 : decode cX4_shapeOf 49 = .ok (.iadd, 1) := by decide +kernel
theorem dX4_shapeOf_50 : decode cX4_shapeOf 50 = .ok (.iload_n 2, 1) := by decide +kernel
theorem dX4_shapeOf_51 : decode cX4_shapeOf 51 = .ok (.lload 7, 2) := by decide +kernel
theorem dX4_shapeOf_53 : decode cX4_shapeOf 53 = .ok (.iload 5, 2) := by decide +kernel
theorem dX4_shapeOf_55 : decode cX4_shapeOf 55 = .ok (.iconst 1, 1) := by decide +kernel
theorem dX4_shapeOf_56 : decode cX4_shapeOf 56 = .ok (.iadd, 1) := by decide +kernel
theorem dX4_shapeOf_57 : decode cX4_shapeOf 57 = .ok (.invokestatic 163, 3) := by decide +kernel
theorem dX4_shapeOf_60 : decode cX4_shapeOf 60 = .ok (.lreturn, 1) := by decide +kernel
theorem dX4_write_0 : decode cX4_write 0 = .ok (.aload_n 1, 1) := by decide +kernel
theorem dX4_write_1 : decode cX4_write 1 = .ok (.iload_n 2, 1) := by decide +kernel
theorem dX4_write_2 : decode cX4_write 2 = .ok (.iload_n 3, 1) := by decide +kernel
theorem dX4_write_3 : decode cX4_write 3 = .ok (.invokevirtual 108, 3) := by decide +kernel
theorem dX4_write_6 : decode cX4_write 6 = .ok (.istore 6, 2) := by decide +kernel
theorem dX4_write_8 : decode cX4_write 8 = .ok (.iload 6, 2) := by decide +kernel
theorem dX4_write_10 : decode cX4_write 10 = .ok (.iconst (-1), 1) := by decide +kernel
theorem dX4_write_11 : decode cX4_write 11 = .ok (.if_icmp .eq 10, 3) := by decide +kernel
theorem dX4_write_14 : decode cX4_write 14 = .ok (.iload 5, 2) := by decide +kernel
theorem dX4_write_16 : decode cX4_write 16 = .ok (.bipush 30, 2) := by decide +kernel
theorem dX4_write_18 : decode cX4_write 18 = .ok (.if_icmp .le 4, 3) := by decide +kernel
theorem dX4_write_21 : decode cX4_write 21 = .ok (.return_, 1) := by decide +kernel
theorem dX4_write_22 : decode cX4_write 22 = .ok (.aload_n 0, 1) := by decide +kernel
theorem dX4_write_23 : decode cX4_write 23 = .ok (.bipush 40, 2) := by decide +kernel
theorem dX4_write_25 : decode cX4_write 25 = .ok (.invokevirtual 177, 3) := by decide +kernel
theorem dX4_write_28 : decode cX4_write 28 = .ok (.pop, 1) := by decide +kernel
theorem dX4_write_29 : decode cX4_write 29 = .ok (.aload_n 0, 1) := by decide +kernel
theorem dX4_write_30 : decode cX4_write 30 = .ok (.aload_n 1, 1) := by decide +kernel
theorem dX4_write_31 : decode cX4_write 31 = .ok (.iload_n 2, 1) := by decide +kernel
theorem dX4_write_32 : decode cX4_write 32 = .ok (.iload 6, 2) := by decide +kernel
theorem dX4_write_34 : decode cX4_write 34 = .ok (.iconst 1, 1) := by decide +kernel
theorem dX4_write_35 : decode cX4_write 35 = .ok (.isub, 1) := by decide +kernel
theorem dX4_write_36 : decode cX4_write 36 = .ok (.iload 4, 2) := by decide +kernel
theorem dX4_write_38 : decode cX4_write 38 = .ok (.iload 5, 2) := by decide +kernel
theorem dX4_write_40 : decode cX4_write 40 = .ok (.iconst 1, 1) := by decide +kernel
theorem dX4_write_41 : decode cX4_write 41 = .ok (.iadd, 1) := by decide +kernel
theorem dX4_write_42 : decode cX4_write 42 = .ok (.invokestatic 199, 3) := by decide +kernel
theorem dX4_write_45 : decode cX4_write 45 = .ok (.aload_n 0, 1) := by decide +kernel
theorem dX4_write_46 : decode cX4_write 46 = .ok (.aload_n 1, 1) := by decide +kernel
theorem dX4_write_47 : decode cX4_write 47 = .ok (.iload 6, 2) := by decide +kernel
theorem dX4_write_49 : decode cX4_write 49 = .ok (.invokevirtual 105, 3) := by decide +kernel
theorem dX4_write_52 : decode cX4_write 52 = .ok (.invokevirtual 279, 3) := by decide +kernel
theorem dX4_write_55 : decode cX4_write 55 = .ok (.aload_n 1, 1) := by decide +kernel
theorem dX4_write_56 : decode cX4_write 56 = .ok (.iload 6, 2) := by decide +kernel
theorem dX4_write_58 : decode cX4_write 58 = .ok (.iload 4, 2) := by decide +kernel
theorem dX4_write_60 : decode cX4_write 60 = .ok (.invokevirtual 98, 3) := by decide +kernel
theorem dX4_write_63 : decode cX4_write 63 = .ok (.ifCond .eq 10, 3) := by decide +kernel
theorem dX4_write_66 : decode cX4_write 66 = .ok (.aload_n 0, 1) := by decide +kernel
theorem dX4_write_67 : decode cX4_write 67 = .ok (.bipush 33, 2) := by decide +kernel
theorem dX4_write_69 : decode cX4_write 69 = .ok (.invokevirtual 177, 3) := by decide +kernel
theorem dX4_write_72 : decode cX4_write 72 = .ok (.pop, 1) := by decide +kernel
theorem dX4_write_73 : decode cX4_write 73 = .ok (.aload_n 0, 1) := by decide +kernel
theorem dX4_write_74 : decode cX4_write 74 = .ok (.aload_n 1, 1) := by decide +kernel
theorem dX4_write_75 : decode cX4_write 75 = .ok (.iload 6, 2) := by decide +kernel
theorem dX4_write_77 : decode cX4_write 77 = .ok (.iconst 1, 1) := by decide +kernel
theorem dX4_write_78 : decode cX4_write 78 = .ok (.iadd, 1) := by decide +kernel
theorem dX4_write_79 : decode cX4_write 79 = .ok (.iload_n 3, 1) := by decide +kernel
theorem dX4_write_80 : decode cX4_write 80 = .ok (.iload 4, 2) := by decide +kernel
theorem dX4_write_82 : decode cX4_write 82 = .ok (.iload 5, 2) := by decide +kernel
theorem dX4_write_84 : decode cX4_write 84 = .ok (.iconst 1, 1) := by decide +kernel
theorem dX4_write_85 : decode cX4_write 85 = .ok (.iadd, 1) := by decide +kernel
theorem dX4_write_86 : decode cX4_write 86 = .ok (.invokestatic 199, 3) := by decide +kernel
theorem dX4_write_89 : decode cX4_write 89 = .ok (.aload_n 0, 1) := by decide +kernel
theorem dX4_write_90 : decode cX4_write 90 = .ok (.bipush 41, 2) := by decide +kernel
theorem dX4_write_92 : decode cX4_write 92 = .ok (.invokevirtual 177, 3) := by decide +kernel
theorem dX4_write_95 : decode cX4_write 95 = .ok (.pop, 1) := by decide +kernel
theorem dX4_write_96 : decode cX4_write 96 = .ok (.return_, 1) := by decide +kernel
theorem dX4_isSound_0 : decode cX4_isSound 0 = .ok (.aload_n 0, 1) := by decide +kernel
theorem dX4_isSound_1 : decode cX4_isSound 1 = .ok (.invokevirtual 282, 3) := by decide +kernel
theorem dX4_isSound_4 : decode cX4_isSound 4 = .ok (.ifCond .eq 18, 3) := by decide +kernel
theorem dX4_isSound_7 : decode cX4_isSound 7 = .ok (.aload_n 0, 1) := by decide +kernel
theorem dX4_isSound_8 : decode cX4_isSound 8 = .ok (.iconst 0, 1) := by decide +kernel
theorem dX4_isSound_9 : decode cX4_isSound 9 = .ok (.aload_n 0, 1) := by decide +kernel
theorem dX4_isSound_10 : decode cX4_isSound 10 = .ok (.getfield 111, 3) := by decide +kernel
theorem dX4_isSound_13 : decode cX4_isSound 13 = .ok (.iconst 1, 1) := by decide +kernel
theorem dX4_isSound_14 : decode cX4_isSound 14 = .ok (.isub, 1) := by decide +kernel
theorem dX4_isSound_15 : decode cX4_isSound 15 = .ok (.iconst 0, 1) := by decide +kernel
theorem dX4_isSound_16 : decode cX4_isSound 16 = .ok (.invokestatic 286, 3) := by decide +kernel
theorem dX4_isSound_19 : decode cX4_isSound 19 = .ok (.ifCond .ne 5, 3) := by decide +kernel
theorem dX4_isSound_22 : decode cX4_isSound 22 = .ok (.iconst 0, 1) := by decide +kernel
theorem dX4_isSound_23 : decode cX4_isSound 23 = .ok (.ireturn, 1) := by decide +kernel
theorem dX4_isSound_24 : decode cX4_isSound 24 = .ok (.iconst 0, 1) := by decide +kernel
theorem dX4_isSound_25 : decode cX4_isSound 25 = .ok (.istore_n 1, 1) := by decide +kernel
theorem dX4_isSound_26 : decode cX4_isSound 26 = .ok (.iload_n 1, 1) := by decide +kernel
theorem dX4_isSound_27 : decode cX4_isSound 27 = .ok (.aload_n 0, 1) := by decide +kernel
theorem dX4_isSound_28 : decode cX4_isSound 28 = .ok (.getfield 111, 3) := by decide +kernel
theorem dX4_isSound_31 : decode cX4_isSound 31 = .ok (.if_icmp .ge 45, 3) := by decide +kernel
theorem dX4_isSound_34 : decode cX4_isSound 34 = .ok (.aload_n 0, 1) := by decide +kernel
theorem dX4_isSound_35 : decode cX4_isSound 35 = .ok (.iload_n 1, 1) := by decide +kernel
theorem dX4_isSound_36 : decode cX4_isSound 36 = .ok (.invokevirtual 105, 3) := by decide +kernel
theorem dX4_isSound_39 : decode cX4_isSound 39 = .ok (.istore_n 2, 1) := by decide +kernel
theorem dX4_isSound_40 : decode cX4_isSound 40 = .ok (.aload_n 0, 1) := by decide +kernel
theorem dX4_isSound_41 : decode cX4_isSound 41 = .ok (.iload_n 2, 1) := by decide +kernel
theorem dX4_isSound_42 : decode cX4_isSound 42 = .ok (.invokevirtual 133, 3) := by decide +kernel
theorem dX4_isSound_45 : decode cX4_isSound 45 = .ok (.aload_n 0, 1) := by decide +kernel
theorem dX4_isSound_46 : decode cX4_isSound 46 = .ok (.iload_n 2, 1) := by decide +kernel
theorem dX4_isSound_47 : decode cX4_isSound 47 = .ok (.invokevirtual 136, 3) := by decide +kernel
theorem dX4_isSound_50 : decode cX4_isSound 50 = .ok (.if_icmp .ne 18, 3) := by decide +kernel
theorem dX4_isSound_53 : decode cX4_isSound 53 = .ok (.aload_n 0, 1) := by decide +kernel
theorem dX4_isSound_54 : decode cX4_isSound 54 = .ok (.iconst 0, 1) := by decide +kernel
theorem dX4_isSound_55 : decode cX4_isSound 55 = .ok (.iload_n 2, 1) := by decide +kernel
theorem dX4_isSound_56 : decode cX4_isSound 56 = .ok (.invokevirtual 143, 3) := by decide +kernel
theorem dX4_isSound_59 : decode cX4_isSound 59 = .ok (.aload_n 0, 1) := by decide +kernel
theorem dX4_isSound_60 : decode cX4_isSound 60 = .ok (.iconst 0, 1) := by decide +kernel
theorem dX4_isSound_61 : decode cX4_isSound 61 = .ok (.iload_n 2, 1) := by decide +kernel
theorem dX4_isSound_62 : decode cX4_isSound 62 = .ok (.invokevirtual 146, 3) := by decide +kernel
theorem dX4_isSound_65 : decode cX4_isSound 65 = .ok (.if_icmp .eq 5, 3) := by decide +kernel
theorem dX4_isSound_68 : decode cX4_isSound 68 = .ok (.iconst 0, 1) := by decide +kernel
theorem dX4_isSound_69 : decode cX4_isSound 69 = .ok (.ireturn, 1) := by decide +kernel
theorem dX4_isSound_70 : decode cX4_isSound 70 = .ok (.iinc 1 1, 3) := by decide +kernel
theorem dX4_isSound_73 : decode cX4_isSound 73 = .ok (.goto (-47), 3) := by decide +kernel
theorem dX4_isSound_76 : decode cX4_isSound 76 = .ok (.iconst 1, 1) := by decide +kernel
theorem dX4_isSound_77 : decode cX4_isSound 77 = .ok (.ireturn, 1) := by decide +kernel
theorem dX4_isTree_0 : decode cX4_isTree 0 = .ok (.iload_n 1, 1) := by decide +kernel
theorem dX4_isTree_1 : decode cX4_isTree 1 = .ok (.iload_n 2, 1) := by decide +kernel
theorem dX4_isTree_2 : decode cX4_isTree 2 = .ok (.if_icmp .le 5, 3) := by decide +kernel
theorem dX4_isTree_5 : decode cX4_isTree 5 = .ok (.iconst 1, 1) := by decide +kernel
theorem dX4_isTree_6 : decode cX4_isTree 6 = .ok (.ireturn, 1) := by decide +kernel
theorem dX4_isTree_7 : decode cX4_isTree 7 = .ok (.aload_n 0, 1) := by decide +kernel
theorem dX4_isTree_8 : decode cX4_isTree 8 = .ok (.iload_n 1, 1) := by decide +kernel
theorem dX4_isTree_9 : decode cX4_isTree 9 = .ok (.iload_n 2, 1) := by decide +kernel
theorem dX4_isTree_10 : decode cX4_isTree 10 = .ok (.invokevirtual 108, 3) := by decide +kernel
theorem dX4_isTree_13 : decode cX4_isTree 13 = .ok (.istore 4, 2) := by decide +kernel
theorem dX4_isTree_15 : decode cX4_isTree 15 = .ok (.iload_n 3, 1) := by decide +kernel
theorem dX4_isTree_16 : decode cX4_isTree 16 = .ok (.bipush 30, 2) := by decide +kernel
theorem dX4_isTree_18 : decode cX4_isTree 18 = .ok (.if_icmp .gt 47, 3) := by decide +kernel
theorem dX4_isTree_21 : decode cX4_isTree 21 = .ok (.aload_n 0, 1) := by decide +kernel
theorem dX4_isTree_22 : decode cX4_isTree 22 = .ok (.iload 4, 2) := by decide +kernel
theorem dX4_isTree_24 : decode cX4_isTree 24 = .ok (.invokevirtual 89, 3) := by decide +kernel
theorem dX4_isTree_27 : decode cX4_isTree 27 = .ok (.iload_n 3, 1) := by decide +kernel
theorem dX4_isTree_28 : decode cX4_isTree 28 = .ok (.if_icmp .ne 37, 3) := by decide +kernel
theorem dX4_isTree_31 : decode cX4_isTree 31 = .ok (.aload_n 0, 1) := by decide +kernel
theorem dX4_isTree_32 : decode cX4_isTree 32 = .ok (.iload_n 1, 1) := by decide +kernel
theorem dX4_isTree_33 : decode cX4_isTree 33 = .ok (.iload 4, 2) := by decide +kernel
theorem dX4_isTree_35 : decode cX4_isTree 35 = .ok (.iconst 1, 1) := by decide +kernel
theorem dX4_isTree_36 : decode cX4_isTree 36 = .ok (.isub, 1) := by decide +kernel
theorem dX4_isTree_37 : decode cX4_isTree 37 = .ok (.iload_n 3, 1) := by decide +kernel
theorem dX4_isTree_38 : decode cX4_isTree 38 = .ok (.iconst 1, 1) := by decide +kernel
theorem dX4_isTree_39 : decode cX4_isTree 39 = .ok (.iadd, 1) := by decide +kernel
theorem dX4_isTree_40 : decode cX4_isTree 40 = .ok (.invokestatic 286, 3) := by decide +kernel
theorem dX4_isTree_43 : decode cX4_isTree 43 = .ok (.ifCond .eq 22, 3) := by decide +kernel
theorem dX4_isTree_46 : decode cX4_isTree 46 = .ok (.aload_n 0, 1) := by decide +kernel
theorem dX4_isTree_47 : decode cX4_isTree 47 = .ok (.iload 4, 2) := by decide +kernel
theorem dX4_isTree_49 : decode cX4_isTree 49 = .ok (.iconst 1, 1) := by decide +kernel
theorem dX4_isTree_50 : decode cX4_isTree 50 = .ok (.iadd, 1) := by decide +kernel
theorem dX4_isTree_51 : decode cX4_isTree 51 = .ok (.iload_n 2, 1) := by decide +kernel
theorem dX4_isTree_52 : decode cX4_isTree 52 = .ok (.iload_n 3, 1) := by decide +kernel
theorem dX4_isTree_53 : decode cX4_isTree 53 = .ok (.iconst 1, 1) := by decide +kernel
theorem dX4_isTree_54 : decode cX4_isTree 54 = .ok (.iadd, 1) := by decide +kernel
theorem dX4_isTree_55 : decode cX4_isTree 55 = .ok (.invokestatic 286, 3) := by decide +kernel
theorem dX4_isTree_58 : decode cX4_isTree 58 = .ok (.ifCond .eq 7, 3) := by decide +kernel
theorem dX4_isTree_61 : decode cX4_isTree 61 = .ok (.iconst 1, 1) := by decide +kernel
theorem dX4_isTree_62 : decode cX4_isTree 62 = .ok (.goto 4, 3) := by decide +kernel
theorem dX4_isTree_65 : decode cX4_isTree 65 = .ok (.iconst 0, 1) := by decide +kernel
theorem dX4_isTree_66 : decode cX4_isTree 66 = .ok (.ireturn, 1) := by decide +kernel
theorem dX4_shareBits_0 : decode cX4_shareBits 0 = .ok (.fload_n 0, 1) := by decide +kernel
theorem dX4_shareBits_1 : decode cX4_shareBits 1 = .ok (.fconst 0, 1) := by decide +kernel
theorem dX4_shareBits_2 : decode cX4_shareBits 2 = .ok (.fcmp .l, 1) := by decide +kernel
theorem dX4_shareBits_3 : decode cX4_shareBits 3 = .ok (.ifCond .gt 5, 3) := by decide +kernel
theorem dX4_shareBits_6 : decode cX4_shareBits 6 = .ok (.iconst 0, 1) := by decide +kernel
theorem dX4_shareBits_7 : decode cX4_shareBits 7 = .ok (.ireturn, 1) := by decide +kernel
theorem dX4_shareBits_8 : decode cX4_shareBits 8 = .ok (.fload_n 0, 1) := by decide +kernel
theorem dX4_shareBits_9 : decode cX4_shareBits 9 = .ok (.fstore_n 1, 1) := by decide +kernel
theorem dX4_shareBits_10 : decode cX4_shareBits 10 = .ok (.bipush 127, 2) := by decide +kernel
theorem dX4_shareBits_12 : decode cX4_shareBits 12 = .ok (.istore_n 2, 1) := by decide +kernel
theorem dX4_shareBits_13 : decode cX4_shareBits 13 = .ok (.iconst 0, 1) := by decide +kernel
theorem dX4_shareBits_14 : decode cX4_shareBits 14 = .ok (.istore_n 3, 1) := by decide +kernel
theorem dX4_shareBits_15 : decode cX4_shareBits 15 = .ok (.iload_n 3, 1) := by decide +kernel
theorem dX4_shareBits_16 : decode cX4_shareBits 16 = .ok (.bipush 64, 2) := by decide +kernel
theorem dX4_shareBits_18 : decode cX4_shareBits 18 = .ok (.if_icmp .ge 22, 3) := by decide +kernel
theorem dX4_shareBits_21 : decode cX4_shareBits 21 = .ok (.fload_n 1, 1) := by decide +kernel
theorem dX4_shareBits_22 : decode cX4_shareBits 22 = .ok (.fconst 1, 1) := by decide +kernel
theorem dX4_shareBits_23 : decode cX4_shareBits 23 = .ok (.fcmp .g, 1) := by decide +kernel
theorem dX4_shareBits_24 : decode cX4_shareBits 24 = .ok (.ifCond .ge 16, 3) := by decide +kernel
theorem dX4_shareBits_27 : decode cX4_shareBits 27 = .ok (.fload_n 1, 1) := by decide +kernel
theorem dX4_shareBits_28 : decode cX4_shareBits 28 = .ok (.fconst 2, 1) := by decide +kernel
theorem dX4_shareBits_29 : decode cX4_shareBits 29 = .ok (.fmul, 1) := by decide +kernel
theorem dX4_shareBits_30 : decode cX4_shareBits 30 = .ok (.fstore_n 1, 1) := by decide +kernel
theorem dX4_shareBits_31 : decode cX4_shareBits 31 = .ok (.iinc 2 (-1), 3) := by decide +kernel
theorem dX4_shareBits_34 : decode cX4_shareBits 34 = .ok (.iinc 3 1, 3) := by decide +kernel
theorem dX4_shareBits_37 : decode cX4_shareBits 37 = .ok (.goto (-22), 3) := by decide +kernel
theorem dX4_shareBits_40 : decode cX4_shareBits 40 = .ok (.iload_n 2, 1) := by decide +kernel
theorem dX4_shareBits_41 : decode cX4_shareBits 41 = .ok (.bipush 23, 2) := by decide +kernel
theorem dX4_shareBits_43 : decode cX4_shareBits 43 = .ok (.ishl, 1) := by decide +kernel
theorem dX4_shareBits_44 : decode cX4_shareBits 44 = .ok (.fload_n 1, 1) := by decide +kernel
theorem dX4_shareBits_45 : decode cX4_shareBits 45 = .ok (.fconst 1, 1) := by decide +kernel
theorem dX4_shareBits_46 : decode cX4_shareBits 46 = .ok (.fsub, 1) := by decide +kernel
theorem dX4_shareBits_47 : decode cX4_shareBits 47 = .ok (.ldc_w 290, 3) := by decide +kernel
theorem dX4_shareBits_50 : decode cX4_shareBits 50 = .ok (.fmul, 1) := by decide +kernel
theorem dX4_shareBits_51 : decode cX4_shareBits 51 = .ok (.f2i, 1) := by decide +kernel
theorem dX4_shareBits_52 : decode cX4_shareBits 52 = .ok (.iadd, 1) := by decide +kernel
theorem dX4_shareBits_53 : decode cX4_shareBits 53 = .ok (.ireturn, 1) := by decide +kernel
theorem dX4_meanBits_0 : decode cX4_meanBits 0 = .ok (.dload_n 0, 1) := by decide +kernel
theorem dX4_meanBits_1 : decode cX4_meanBits 1 = .ok (.dconst 0, 1) := by decide +kernel
theorem dX4_meanBits_2 : decode cX4_meanBits 2 = .ok (.dcmp .l, 1) := by decide +kernel
theorem dX4_meanBits_3 : decode cX4_meanBits 3 = .ok (.ifCond .gt 5, 3) := by decide +kernel
theorem dX4_meanBits_6 : decode cX4_meanBits 6 = .ok (.lconst 0, 1) := by decide +kernel
theorem dX4_meanBits_7 : decode cX4_meanBits 7 = .ok (.lreturn, 1) := by decide +kernel
theorem dX4_meanBits_8 : decode cX4_meanBits 8 = .ok (.dload_n 0, 1) := by decide +kernel
theorem dX4_meanBits_9 : decode cX4_meanBits 9 = .ok (.dstore_n 2, 1) := by decide +kernel
theorem dX4_meanBits_10 : decode cX4_meanBits 10 = .ok (.ldc2_w 291, 3) := by decide +kernel
theorem dX4_meanBits_13 : decode cX4_meanBits 13 = .ok (.lstore 4, 2) := by decide +kernel
theorem dX4_meanBits_15 : decode cX4_meanBits 15 = .ok (.iconst 0, 1) := by decide +kernel
theorem dX4_meanBits_16 : decode cX4_meanBits 16 = .ok (.istore 6, 2) := by decide +kernel
theorem dX4_meanBits_18 : decode cX4_meanBits 18 = .ok (.iload 6, 2) := by decide +kernel
theorem dX4_meanBits_20 : decode cX4_meanBits 20 = .ok (.bipush 64, 2) := by decide +kernel
theorem dX4_meanBits_22 : decode cX4_meanBits 22 = .ok (.if_icmp .ge 27, 3) := by decide +kernel
theorem dX4_meanBits_25 : decode cX4_meanBits 25 = .ok (.dload_n 2, 1) := by decide +kernel
theorem dX4_meanBits_26 : decode cX4_meanBits 26 = .ok (.dconst 1, 1) := by decide +kernel
theorem dX4_meanBits_27 : decode cX4_meanBits 27 = .ok (.dcmp .g, 1) := by decide +kernel
theorem dX4_meanBits_28 : decode cX4_meanBits 28 = .ok (.ifCond .ge 21, 3) := by decide +kernel
theorem dX4_meanBits_31 : decode cX4_meanBits 31 = .ok (.dload_n 2, 1) := by decide +kernel
theorem dX4_meanBits_32 : decode cX4_meanBits 32 = .ok (.ldc2_w 293, 3) := by decide +kernel
theorem dX4_meanBits_35 : decode cX4_meanBits 35 = .ok (.dmul, 1) := by decide +kernel
theorem dX4_meanBits_36 : decode cX4_meanBits 36 = .ok (.dstore_n 2, 1) := by decide +kernel
theorem dX4_meanBits_37 : decode cX4_meanBits 37 = .ok (.lload 4, 2) := by decide +kernel
theorem dX4_meanBits_39 : decode cX4_meanBits 39 = .ok (.lconst 1, 1) := by decide +kernel
theorem dX4_meanBits_40 : decode cX4_meanBits 40 = .ok (.lsub, 1) := by decide +kernel
theorem dX4_meanBits_41 : decode cX4_meanBits 41 = .ok (.lstore 4, 2) := by decide +kernel
theorem dX4_meanBits_43 : decode cX4_meanBits 43 = .ok (.iinc 6 1, 3) := by decide +kernel
theorem dX4_meanBits_46 : decode cX4_meanBits 46 = .ok (.goto (-28), 3) := by decide +kernel
theorem dX4_meanBits_49 : decode cX4_meanBits 49 = .ok (.iconst 0, 1) := by decide +kernel
theorem dX4_meanBits_50 : decode cX4_meanBits 50 = .ok (.istore 6, 2) := by decide +kernel
theorem dX4_meanBits_52 : decode cX4_meanBits 52 = .ok (.iload 6, 2) := by decide +kernel
theorem dX4_meanBits_54 : decode cX4_meanBits 54 = .ok (.bipush 64, 2) := by decide +kernel
theorem dX4_meanBits_56 : decode cX4_meanBits 56 = .ok (.if_icmp .ge 29, 3) := by decide +kernel
theorem dX4_meanBits_59 : decode cX4_meanBits 59 = .ok (.dload_n 2, 1) := by decide +kernel
theorem dX4_meanBits_60 : decode cX4_meanBits 60 = .ok (.ldc2_w 293, 3) := by decide +kernel
theorem dX4_meanBits_63 : decode cX4_meanBits 63 = .ok (.dcmp .l, 1) := by decide +kernel
theorem dX4_meanBits_64 : decode cX4_meanBits 64 = .ok (.ifCond .lt 21, 3) := by decide +kernel
theorem dX4_meanBits_67 : decode cX4_meanBits 67 = .ok (.dload_n 2, 1) := by decide +kernel
theorem dX4_meanBits_68 : decode cX4_meanBits 68 = .ok (.ldc2_w 293, 3) := by decide +kernel
theorem dX4_meanBits_71 : decode cX4_meanBits 71 = .ok (.ddiv, 1) := by decide +kernel
theorem dX4_meanBits_72 : decode cX4_meanBits 72 = .ok (.dstore_n 2, 1) := by decide +kernel
theorem dX4_meanBits_73 : decode cX4_meanBits 73 = .ok (.lload 4, 2) := by decide +kernel
theorem dX4_meanBits_75 : decode cX4_meanBits 75 = .ok (.lconst 1, 1) := by decide +kernel
theorem dX4_meanBits_76 : decode cX4_meanBits 76 = .ok (.ladd, 1) := by decide +kernel
theorem dX4_meanBits_77 : decode cX4_meanBits 77 = .ok (.lstore 4, 2) := by decide +kernel
theorem dX4_meanBits_79 : decode cX4_meanBits 79 = .ok (.iinc 6 1, 3) := by decide +kernel
theorem dX4_meanBits_82 : decode cX4_meanBits 82 = .ok (.goto (-30), 3) := by decide +kernel
theorem dX4_meanBits_85 : decode cX4_meanBits 85 = .ok (.lload 4, 2) := by decide +kernel
theorem dX4_meanBits_87 : decode cX4_meanBits 87 = .ok (.bipush 52, 2) := by decide +kernel
theorem dX4_meanBits_89 : decode cX4_meanBits 89 = .ok (.lshl, 1) := by decide +kernel
theorem dX4_meanBits_90 : decode cX4_meanBits 90 = .ok (.dload_n 2, 1) := by decide +kernel
theorem dX4_meanBits_91 : decode cX4_meanBits 91 = .ok (.dconst 1, 1) := by decide +kernel
theorem dX4_meanBits_92 : decode cX4_meanBits 92 = .ok (.dsub, 1) := by decide +kernel
theorem dX4_meanBits_93 : decode cX4_meanBits 93 = .ok (.ldc2_w 295, 3) := by decide +kernel
theorem dX4_meanBits_96 : decode cX4_meanBits 96 = .ok (.dmul, 1) := by decide +kernel
theorem dX4_meanBits_97 : decode cX4_meanBits 97 = .ok (.d2l, 1) := by decide +kernel
theorem dX4_meanBits_98 : decode cX4_meanBits 98 = .ok (.ladd, 1) := by decide +kernel
theorem dX4_meanBits_99 : decode cX4_meanBits 99 = .ok (.lreturn, 1) := by decide +kernel
theorem dX5_init_0 : decode cX5_init 0 = .ok (.aload_n 0, 1) := by decide +kernel
theorem dX5_init_1 : decode cX5_init 1 = .ok (.invokespecial 3, 3) := by decide +kernel
theorem dX5_init_4 : decode cX5_init 4 = .ok (.aload_n 0, 1) := by decide +kernel
theorem dX5_init_5 : decode cX5_init 5 = .ok (.sipush 373, 3) := by decide +kernel
theorem dX5_init_8 : decode cX5_init 8 = .ok (.newarray .int, 2) := by decide +kernel
theorem dX5_init_10 : decode cX5_init 10 = .ok (.putfield 9, 3) := by decide +kernel
theorem dX5_init_13 : decode cX5_init 13 = .ok (.aload_n 0, 1) := by decide +kernel
theorem dX5_init_14 : decode cX5_init 14 = .ok (.sipush 373, 3) := by decide +kernel
theorem dX5_init_17 : decode cX5_init 17 = .ok (.newarray .int, 2) := by decide +kernel
theorem dX5_init_19 : decode cX5_init 19 = .ok (.putfield 13, 3) := by decide +kernel
theorem dX5_init_22 : decode cX5_init 22 = .ok (.aload_n 0, 1) := by decide +kernel
theorem dX5_init_23 : decode cX5_init 23 = .ok (.sipush 373, 3) := by decide +kernel
theorem dX5_init_26 : decode cX5_init 26 = .ok (.newarray .int, 2) := by decide +kernel
theorem dX5_init_28 : decode cX5_init 28 = .ok (.putfield 16, 3) := by decide +kernel
theorem dX5_init_31 : decode cX5_init 31 = .ok (.aload_n 0, 1) := by decide +kernel
theorem dX5_init_32 : decode cX5_init 32 = .ok (.bipush 8, 2) := by decide +kernel
theorem dX5_init_34 : decode cX5_init 34 = .ok (.sipush 373, 3) := by decide +kernel
theorem dX5_init_37 : decode cX5_init 37 = .ok (.multianewarray 19 2, 4) := by decide +kernel
theorem dX5_init_41 : decode cX5_init 41 = .ok (.putfield 21, 3) := by decide +kernel
theorem dX5_init_44 : decode cX5_init 44 = .ok (.aload_n 0, 1) := by decide +kernel
theorem dX5_init_45 : decode cX5_init 45 = .ok (.bipush 90, 2) := by decide +kernel
theorem dX5_init_47 : decode cX5_init 47 = .ok (.newarray .int, 2) := by decide +kernel
theorem dX5_init_49 : decode cX5_init 49 = .ok (.putfield 24, 3) := by decide +kernel
theorem dX5_init_52 : decode cX5_init 52 = .ok (.aload_n 0, 1) := by decide +kernel
end
section
theorem dX5_init_53 : decode cX5_init 53 = .ok (.bipush 30, 2) := by decide +kernel
theorem dX5_init_55 : decode cX5_init 55 = .ok (.newarray .int, 2) := by decide +kernel
theorem dX5_init_57 : decode cX5_init 57 = .ok (.putfield 27, 3) := by decide +kernel
theorem dX5_init_60 : decode cX5_init 60 = .ok (.aload_n 0, 1) := by decide +kernel
theorem dX5_init_61 : decode cX5_init 61 = .ok (.bipush 60, 2) := by decide +kernel
theorem dX5_init_63 : decode cX5_init 63 = .ok (.newarray .int, 2) := by decide +kernel
theorem dX5_init_65 : decode cX5_init 65 = .ok (.putfield 30, 3) := by decide +kernel
theorem dX5_init_68 : decode cX5_init 68 = .ok (.aload_n 0, 1) := by decide +kernel
theorem dX5_init_69 : decode cX5_init 69 = .ok (.bipush 60, 2) := by decide +kernel
theorem dX5_init_71 : decode cX5_init 71 = .ok (.newarray .int, 2) := by decide +kernel
theorem dX5_init_73 : decode cX5_init 73 = .ok (.putfield 33, 3) := by decide +kernel
theorem dX5_init_76 : decode cX5_init 76 = .ok (.aload_n 0, 1) := by decide +kernel
theorem dX5_init_77 : decode cX5_init 77 = .ok (.getfield 9, 3) := by decide +kernel
theorem dX5_init_80 : decode cX5_init 80 = .ok (.iconst 0, 1) := by decide +kernel
theorem dX5_init_81 : decode cX5_init 81 = .ok (.bipush 70, 2) := by decide +kernel
theorem dX5_init_83 : decode cX5_init 83 = .ok (.iastore, 1) := by decide +kernel
theorem dX5_init_84 : decode cX5_init 84 = .ok (.return_, 1) := by decide +kernel
theorem dX5_isBetween_0 : decode cX5_isBetween 0 = .ok (.iload_n 0, 1) := by decide +kernel
theorem dX5_isBetween_1 : decode cX5_isBetween 1 = .ok (.iload_n 1, 1) := by decide +kernel
theorem dX5_isBetween_2 : decode cX5_isBetween 2 = .ok (.if_icmp .lt 12, 3) := by decide +kernel
theorem dX5_isBetween_5 : decode cX5_isBetween 5 = .ok (.iload_n 0, 1) := by decide +kernel
theorem dX5_isBetween_6 : decode cX5_isBetween 6 = .ok (.iload_n 2, 1) := by decide +kernel
theorem dX5_isBetween_7 : decode cX5_isBetween 7 = .ok (.if_icmp .gt 7, 3) := by decide +kernel
theorem dX5_isBetween_10 : decode cX5_isBetween 10 = .ok (.iconst 1, 1) := by decide +kernel
theorem dX5_isBetween_11 : decode cX5_isBetween 11 = .ok (.goto 4, 3) := by decide +kernel
theorem dX5_isBetween_14 : decode cX5_isBetween 14 = .ok (.iconst 0, 1) := by decide +kernel
theorem dX5_isBetween_15 : decode cX5_isBetween 15 = .ok (.ireturn, 1) := by decide +kernel
theorem dX5_copyRow_0 : decode cX5_copyRow 0 = .ok (.iconst 0, 1) := by decide +kernel
theorem dX5_copyRow_1 : decode cX5_copyRow 1 = .ok (.istore_n 2, 1) := by decide +kernel
theorem dX5_copyRow_2 : decode cX5_copyRow 2 = .ok (.iload_n 2, 1) := by decide +kernel
theorem dX5_copyRow_3 : decode cX5_copyRow 3 = .ok (.sipush 373, 3) := by decide +kernel
theorem dX5_copyRow_6 : decode cX5_copyRow 6 = .ok (.if_icmp .ge 15, 3) := by decide +kernel
theorem dX5_copyRow_9 : decode cX5_copyRow 9 = .ok (.aload_n 1, 1) := by decide +kernel
theorem dX5_copyRow_10 : decode cX5_copyRow 10 = .ok (.iload_n 2, 1) := by decide +kernel
theorem dX5_copyRow_11 : decode cX5_copyRow 11 = .ok (.aload_n 0, 1) := by decide +kernel
theorem dX5_copyRow_12 : decode cX5_copyRow 12 = .ok (.iload_n 2, 1) := by decide +kernel
theorem dX5_copyRow_13 : decode cX5_copyRow 13 = .ok (.iaload, 1) := by decide +kernel
theorem dX5_copyRow_14 : decode cX5_copyRow 14 = .ok (.iastore, 1) := by decide +kernel
theorem dX5_copyRow_15 : decode cX5_copyRow 15 = .ok (.iinc 2 1, 3) := by decide +kernel
theorem dX5_copyRow_18 : decode cX5_copyRow 18 = .ok (.goto (-16), 3) := by decide +kernel
theorem dX5_copyRow_21 : decode cX5_copyRow 21 = .ok (.return_, 1) := by decide +kernel
theorem dX5_refuse_0 : decode cX5_refuse 0 = .ok (.iload_n 1, 1) := by decide +kernel
theorem dX5_refuse_1 : decode cX5_refuse 1 = .ok (.ifCond .eq 13, 3) := by decide +kernel
theorem dX5_refuse_4 : decode cX5_refuse 4 = .ok (.aload_n 0, 1) := by decide +kernel
theorem dX5_refuse_5 : decode cX5_refuse 5 = .ok (.iload_n 2, 1) := by decide +kernel
theorem dX5_refuse_6 : decode cX5_refuse 6 = .ok (.putfield 36, 3) := by decide +kernel
theorem dX5_refuse_9 : decode cX5_refuse 9 = .ok (.aload_n 0, 1) := by decide +kernel
theorem dX5_refuse_10 : decode cX5_refuse 10 = .ok (.iload_n 3, 1) := by decide +kernel
theorem dX5_refuse_11 : decode cX5_refuse 11 = .ok (.putfield 40, 3) := by decide +kernel
theorem dX5_refuse_14 : decode cX5_refuse 14 = .ok (.iload_n 1, 1) := by decide +kernel
theorem dX5_refuse_15 : decode cX5_refuse 15 = .ok (.ireturn, 1) := by decide +kernel
theorem dX5_remember_0 : decode cX5_remember 0 = .ok (.aload_n 0, 1) := by decide +kernel
theorem dX5_remember_1 : decode cX5_remember 1 = .ok (.getfield 43, 3) := by decide +kernel
theorem dX5_remember_4 : decode cX5_remember 4 = .ok (.bipush 8, 2) := by decide +kernel
theorem dX5_remember_6 : decode cX5_remember 6 = .ok (.if_icmp .ne 46, 3) := by decide +kernel
theorem dX5_remember_9 : decode cX5_remember 9 = .ok (.aload_n 0, 1) := by decide +kernel
theorem dX5_remember_10 : decode cX5_remember 10 = .ok (.dup, 1) := by decide +kernel
theorem dX5_remember_11 : decode cX5_remember 11 = .ok (.getfield 43, 3) := by decide +kernel
theorem dX5_remember_14 : decode cX5_remember 14 = .ok (.iconst 1, 1) := by decide +kernel
theorem dX5_remember_15 : decode cX5_remember 15 = .ok (.isub, 1) := by decide +kernel
theorem dX5_remember_16 : decode cX5_remember 16 = .ok (.putfield 43, 3) := by decide +kernel
theorem dX5_remember_19 : decode cX5_remember 19 = .ok (.iconst 0, 1) := by decide +kernel
theorem dX5_remember_20 : decode cX5_remember 20 = .ok (.istore_n 2, 1) := by decide +kernel
theorem dX5_remember_21 : decode cX5_remember 21 = .ok (.iload_n 2, 1) := by decide +kernel
theorem dX5_remember_22 : decode cX5_remember 22 = .ok (.aload_n 0, 1) := by decide +kernel
theorem dX5_remember_23 : decode cX5_remember 23 = .ok (.getfield 43, 3) := by decide +kernel
theorem dX5_remember_26 : decode cX5_remember 26 = .ok (.if_icmp .ge 26, 3) := by decide +kernel
theorem dX5_remember_29 : decode cX5_remember 29 = .ok (.aload_n 0, 1) := by decide +kernel
theorem dX5_remember_30 : decode cX5_remember 30 = .ok (.getfield 21, 3) := by decide +kernel
theorem dX5_remember_33 : decode cX5_remember 33 = .ok (.iload_n 2, 1) := by decide +kernel
theorem dX5_remember_34 : decode cX5_remember 34 = .ok (.iconst 1, 1) := by decide +kernel
theorem dX5_remember_35 : decode cX5_remember 35 = .ok (.iadd, 1) := by decide +kernel
theorem dX5_remember_36 : decode cX5_remember 36 = .ok (.aaload, 1) := by decide +kernel
theorem dX5_remember_37 : decode cX5_remember 37 = .ok (.aload_n 0, 1) := by decide +kernel
theorem dX5_remember_38 : decode cX5_remember 38 = .ok (.getfield 21, 3) := by decide +kernel
theorem dX5_remember_41 : decode cX5_remember 41 = .ok (.iload_n 2, 1) := by decide +kernel
theorem dX5_remember_42 : decode cX5_remember 42 = .ok (.aaload, 1) := by decide +kernel
theorem dX5_remember_43 : decode cX5_remember 43 = .ok (.invokestatic 46, 3) := by decide +kernel
theorem dX5_remember_46 : decode cX5_remember 46 = .ok (.iinc 2 1, 3) := by decide +kernel
theorem dX5_remember_49 : decode cX5_remember 49 = .ok (.goto (-28), 3) := by decide +kernel
theorem dX5_remember_52 : decode cX5_remember 52 = .ok (.aload_n 1, 1) := by decide +kernel
theorem dX5_remember_53 : decode cX5_remember 53 = .ok (.aload_n 0, 1) := by decide +kernel
theorem dX5_remember_54 : decode cX5_remember 54 = .ok (.getfield 21, 3) := by decide +kernel
theorem dX5_remember_57 : decode cX5_remember 57 = .ok (.aload_n 0, 1) := by decide +kernel
theorem dX5_remember_58 : decode cX5_remember 58 = .ok (.getfield 43, 3) := by decide +kernel
theorem dX5_remember_61 : decode cX5_remember 61 = .ok (.aaload, 1) := by decide +kernel
theorem dX5_remember_62 : decode cX5_remember 62 = .ok (.invokestatic 46, 3) := by decide +kernel
theorem dX5_remember_65 : decode cX5_remember 65 = .ok (.aload_n 0, 1) := by decide +kernel
theorem dX5_remember_66 : decode cX5_remember 66 = .ok (.dup, 1) := by decide +kernel
theorem dX5_remember_67 : decode cX5_remember 67 = .ok (.getfield 43, 3) := by decide +kernel
theorem dX5_remember_70 : decode cX5_remember 70 = .ok (.iconst 1, 1) := by decide +kernel
theorem dX5_remember_71 : decode cX5_remember 71 = .ok (.iadd, 1) := by decide +kernel
theorem dX5_remember_72 : decode cX5_remember 72 = .ok (.putfield 43, 3) := by decide +kernel
theorem dX5_remember_75 : decode cX5_remember 75 = .ok (.return_, 1) := by decide +kernel
theorem dX5_change_0 : decode cX5_change 0 = .ok (.aload_n 0, 1) := by decide +kernel
theorem dX5_change_1 : decode cX5_change 1 = .ok (.getfield 50, 3) := by decide +kernel
theorem dX5_change_4 : decode cX5_change 4 = .ok (.ifCond .ne 11, 3) := by decide +kernel
theorem dX5_change_7 : decode cX5_change 7 = .ok (.aload_n 0, 1) := by decide +kernel
theorem dX5_change_8 : decode cX5_change 8 = .ok (.aload_n 0, 1) := by decide +kernel
theorem dX5_change_9 : decode cX5_change 9 = .ok (.getfield 9, 3) := by decide +kernel
theorem dX5_change_12 : decode cX5_change 12 = .ok (.invokevirtual 54, 3) := by decide +kernel
theorem dX5_change_15 : decode cX5_change 15 = .ok (.return_, 1) := by decide +kernel
theorem dX5_isRick_0 : decode cX5_isRick 0 = .ok (.iload_n 0, 1) := by decide +kernel
theorem dX5_isRick_1 : decode cX5_isRick 1 = .ok (.iconst 0, 1) := by decide +kernel
theorem dX5_isRick_2 : decode cX5_isRick 2 = .ok (.iconst 2, 1) := by decide +kernel
theorem dX5_isRick_3 : decode cX5_isRick 3 = .ok (.invokestatic 58, 3) := by decide +kernel
theorem dX5_isRick_6 : decode cX5_isRick 6 = .ok (.ireturn, 1) := by decide +kernel
theorem dX5_top_0 : decode cX5_top 0 = .ok (.aload_n 0, 1) := by decide +kernel
theorem dX5_top_1 : decode cX5_top 1 = .ok (.getfield 9, 3) := by decide +kernel
theorem dX5_top_4 : decode cX5_top 4 = .ok (.bipush 7, 2) := by decide +kernel
theorem dX5_top_6 : decode cX5_top 6 = .ok (.bipush 122, 2) := by decide +kernel
theorem dX5_top_8 : decode cX5_top 8 = .ok (.iload_n 1, 1) := by decide +kernel
theorem dX5_top_9 : decode cX5_top 9 = .ok (.imul, 1) := by decide +kernel
theorem dX5_top_10 : decode cX5_top 10 = .ok (.iadd, 1) := by decide +kernel
theorem dX5_top_11 : decode cX5_top 11 = .ok (.iaload, 1) := by decide +kernel
theorem dX5_top_12 : decode cX5_top 12 = .ok (.iconst 1, 1) := by decide +kernel
theorem dX5_top_13 : decode cX5_top 13 = .ok (.isub, 1) := by decide +kernel
theorem dX5_top_14 : decode cX5_top 14 = .ok (.ireturn, 1) := by decide +kernel
theorem dX5_most_0 : decode cX5_most 0 = .ok (.aload_n 0, 1) := by decide +kernel
theorem dX5_most_1 : decode cX5_most 1 = .ok (.getfield 9, 3) := by decide +kernel
theorem dX5_most_4 : decode cX5_most 4 = .ok (.bipush 7, 2) := by decide +kernel
theorem dX5_most_6 : decode cX5_most 6 = .ok (.bipush 122, 2) := by decide +kernel
theorem dX5_most_8 : decode cX5_most 8 = .ok (.iload_n 1, 1) := by decide +kernel
theorem dX5_most_9 : decode cX5_most 9 = .ok (.imul, 1) := by decide +kernel
theorem dX5_most_10 : decode cX5_most 10 = .ok (.iadd, 1) := by decide +kernel
theorem dX5_most_11 : decode cX5_most 11 = .ok (.iconst 1, 1) := by decide +kernel
theorem dX5_most_12 : decode cX5_most 12 = .ok (.iadd, 1) := by decide +kernel
theorem dX5_most_13 : decode cX5_most 13 = .ok (.iaload, 1) := by decide +kernel
theorem dX5_most_14 : decode cX5_most 14 = .ok (.ireturn, 1) := by decide +kernel
theorem dX5_setTop_0 : decode cX5_setTop 0 = .ok (.aload_n 0, 1) := by decide +kernel
theorem dX5_setTop_1 : decode cX5_setTop 1 = .ok (.getfield 9, 3) := by decide +kernel
theorem dX5_setTop_4 : decode cX5_setTop 4 = .ok (.bipush 7, 2) := by decide +kernel
theorem dX5_setTop_6 : decode cX5_setTop 6 = .ok (.bipush 122, 2) := by decide +kernel
theorem dX5_setTop_8 : decode cX5_setTop 8 = .ok (.iload_n 1, 1) := by decide +kernel
theorem dX5_setTop_9 : decode cX5_setTop 9 = .ok (.imul, 1) := by decide +kernel
theorem dX5_setTop_10 : decode cX5_setTop 10 = .ok (.iadd, 1) := by decide +kernel
theorem dX5_setTop_11 : decode cX5_setTop 11 = .ok (.iload_n 2, 1) := by decide +kernel
theorem dX5_setTop_12 : decode cX5_setTop 12 = .ok (.iconst 1, 1) := by decide +kernel
theorem dX5_setTop_13 : decode cX5_setTop 13 = .ok (.iadd, 1) := by decide +kernel
theorem dX5_setTop_14 : decode cX5_setTop 14 = .ok (.iastore, 1) := by decide +kernel
theorem dX5_setTop_15 : decode cX5_setTop 15 = .ok (.return_, 1) := by decide +kernel
theorem dX5_setMost_0 : decode cX5_setMost 0 = .ok (.aload_n 0, 1) := by decide +kernel
theorem dX5_setMost_1 : decode cX5_setMost 1 = .ok (.getfield 9, 3) := by decide +kernel
theorem dX5_setMost_4 : decode cX5_setMost 4 = .ok (.bipush 7, 2) := by decide +kernel
theorem dX5_setMost_6 : decode cX5_setMost 6 = .ok (.bipush 122, 2) := by decide +kernel
theorem dX5_setMost_8 : decode cX5_setMost 8 = .ok (.iload_n 1, 1) := by decide +kernel
theorem dX5_setMost_9 : decode cX5_setMost 9 = .ok (.imul, 1) := by decide +kernel
theorem dX5_setMost_10 : decode cX5_setMost 10 = .ok (.iadd, 1) := by decide +kernel
theorem dX5_setMost_11 : decode cX5_setMost 11 = .ok (.iconst 1, 1) := by decide +kernel
theorem dX5_setMost_12 : decode cX5_setMost 12 = .ok (.iadd, 1) := by decide +kernel
theorem dX5_setMost_13 : decode cX5_setMost 13 = .ok (.iload_n 2, 1) := by decide +kernel
theorem dX5_setMost_14 : decode cX5_setMost 14 = .ok (.iastore, 1) := by decide +kernel
theorem dX5_setMost_15 : decode cX5_setMost 15 = .ok (.return_, 1) := by decide +kernel
theorem dX5_of_0 : decode cX5_of 0 = .ok (.aload_n 0, 1) := by decide +kernel
theorem dX5_of_1 : decode cX5_of 1 = .ok (.getfield 9, 3) := by decide +kernel
theorem dX5_of_4 : decode cX5_of 4 = .ok (.bipush 7, 2) := by decide +kernel
theorem dX5_of_6 : decode cX5_of 6 = .ok (.bipush 122, 2) := by decide +kernel
theorem dX5_of_8 : decode cX5_of 8 = .ok (.iload_n 1, 1) := by decide +kernel
theorem dX5_of_9 : decode cX5_of 9 = .ok (.imul, 1) := by decide +kernel
theorem dX5_of_10 : decode cX5_of 10 = .ok (.iadd, 1) := by decide +kernel
theorem dX5_of_11 : decode cX5_of 11 = .ok (.iconst 2, 1) := by decide +kernel
theorem dX5_of_12 : decode cX5_of 12 = .ok (.iadd, 1) := by decide +kernel
theorem dX5_of_13 : decode cX5_of 13 = .ok (.iconst 4, 1) := by decide +kernel
theorem dX5_of_14 : decode cX5_of 14 = .ok (.iload_n 2, 1) := by decide +kernel
theorem dX5_of_15 : decode cX5_of 15 = .ok (.imul, 1) := by decide +kernel
theorem dX5_of_16 : decode cX5_of 16 = .ok (.iadd, 1) := by decide +kernel
theorem dX5_of_17 : decode cX5_of 17 = .ok (.iload_n 3, 1) := by decide +kernel
theorem dX5_of_18 : decode cX5_of 18 = .ok (.iadd, 1) := by decide +kernel
theorem dX5_of_19 : decode cX5_of 19 = .ok (.iaload, 1) := by decide +kernel
theorem dX5_of_20 : decode cX5_of 20 = .ok (.iload_n 3, 1) := by decide +kernel
theorem dX5_of_21 : decode cX5_of 21 = .ok (.iconst 1, 1) := by decide +kernel
theorem dX5_of_22 : decode cX5_of 22 = .ok (.if_icmp .ne 7, 3) := by decide +kernel
theorem dX5_of_25 : decode cX5_of 25 = .ok (.iconst 0, 1) := by decide +kernel
theorem dX5_of_26 : decode cX5_of 26 = .ok (.goto 4, 3) := by decide +kernel
theorem dX5_of_29 : decode cX5_of 29 = .ok (.iconst 1, 1) := by decide +kernel
theorem dX5_of_30 : decode cX5_of 30 = .ok (.isub, 1) := by decide +kernel
theorem dX5_of_31 : decode cX5_of 31 = .ok (.ireturn, 1) := by decide +kernel
theorem dX5_put_0 : decode cX5_put 0 = .ok (.aload_n 0, 1) := by decide +kernel
theorem dX5_put_1 : decode cX5_put 1 = .ok (.getfield 9, 3) := by decide +kernel
theorem dX5_put_4 : decode cX5_put 4 = .ok (.bipush 7, 2) := by decide +kernel
theorem dX5_put_6 : decode cX5_put 6 = .ok (.bipush 122, 2) := by decide +kernel
theorem dX5_put_8 : decode cX5_put 8 = .ok (.iload_n 1, 1) := by decide +kernel
theorem dX5_put_9 : decode cX5_put 9 = .ok (.imul, 1) := by decide +kernel
theorem dX5_put_10 : decode cX5_put 10 = .ok (.iadd, 1) := by decide +kernel
theorem dX5_put_11 : decode cX5_put 11 = .ok (.iconst 2, 1) := by decide +kernel
theorem dX5_put_12 : decode cX5_put 12 = .ok (.iadd, 1) := by decide +kernel
theorem dX5_put_13 : decode cX5_put 13 = .ok (.iconst 4, 1) := by decide +kernel
theorem dX5_put_14 : decode cX5_put 14 = .ok (.iload_n 2, 1) := by decide +kernel
theorem dX5_put_15 : decode cX5_put 15 = .ok (.imul, 1) := by decide +kernel
theorem dX5_put_16 : decode cX5_put 16 = .ok (.iadd, 1) := by decide +kernel
theorem dX5_put_17 : decode cX5_put 17 = .ok (.iload_n 3, 1) := by decide +kernel
theorem dX5_put_18 : decode cX5_put 18 = .ok (.iadd, 1) := by decide +kernel
theorem dX5_put_19 : decode cX5_put 19 = .ok (.iload 4, 2) := by decide +kernel
theorem dX5_put_21 : decode cX5_put 21 = .ok (.iload_n 3, 1) := by decide +kernel
theorem dX5_put_22 : decode cX5_put 22 = .ok (.iconst 1, 1) := by decide +kernel
theorem dX5_put_23 : decode cX5_put 23 = .ok (.if_icmp .ne 7, 3) := by decide +kernel
theorem dX5_put_26 : decode cX5_put 26 = .ok (.iconst 0, 1) := by decide +kernel
theorem dX5_put_27 : decode cX5_put 27 = .ok (.goto 4, 3) := by decide +kernel
theorem dX5_put_30 : decode cX5_put 30 = .ok (.iconst 1, 1) := by decide +kernel
theorem dX5_put_31 : decode cX5_put 31 = .ok (.iadd, 1) := by decide +kernel
theorem dX5_put_32 : decode cX5_put 32 = .ok (.iastore, 1) := by decide +kernel
theorem dX5_put_33 : decode cX5_put 33 = .ok (.return_, 1) := by decide +kernel
theorem dX5_size_0 : decode cX5_size 0 = .ok (.iload_n 2, 1) := by decide +kernel
theorem dX5_size_1 : decode cX5_size 1 = .ok (.ifCond .ge 7, 3) := by decide +kernel
theorem dX5_size_4 : decode cX5_size 4 = .ok (.iconst 0, 1) := by decide +kernel
theorem dX5_size_5 : decode cX5_size 5 = .ok (.goto 30, 3) := by decide +kernel
theorem dX5_size_8 : decode cX5_size 8 = .ok (.iconst 1, 1) := by decide +kernel
theorem dX5_size_9 : decode cX5_size 9 = .ok (.aload_n 0, 1) := by decide +kernel
theorem dX5_size_10 : decode cX5_size 10 = .ok (.iload_n 1, 1) := by decide +kernel
theorem dX5_size_11 : decode cX5_size 11 = .ok (.aload_n 0, 1) := by decide +kernel
theorem dX5_size_12 : decode cX5_size 12 = .ok (.iload_n 1, 1) := by decide +kernel
theorem dX5_size_13 : decode cX5_size 13 = .ok (.iload_n 2, 1) := by decide +kernel
theorem dX5_size_14 : decode cX5_size 14 = .ok (.iconst 2, 1) := by decide +kernel
theorem dX5_size_15 : decode cX5_size 15 = .ok (.invokevirtual 62, 3) := by decide +kernel
theorem dX5_size_18 : decode cX5_size 18 = .ok (.invokevirtual 66, 3) := by decide +kernel
theorem dX5_size_21 : decode cX5_size 21 = .ok (.iadd, 1) := by decide +kernel
theorem dX5_size_22 : decode cX5_size 22 = .ok (.aload_n 0, 1) := by decide +kernel
theorem dX5_size_23 : decode cX5_size 23 = .ok (.iload_n 1, 1) := by decide +kernel
theorem dX5_size_24 : decode cX5_size 24 = .ok (.aload_n 0, 1) := by decide +kernel
theorem dX5_size_25 : decode cX5_size 25 = .ok (.iload_n 1, 1) := by decide +kernel
theorem dX5_size_26 : decode cX5_size 26 = .ok (.iload_n 2, 1) := by decide +kernel
theorem dX5_size_27 : decode cX5_size 27 = .ok (.iconst 3, 1) := by decide +kernel
theorem dX5_size_28 : decode cX5_size 28 = .ok (.invokevirtual 62, 3) := by decide +kernel
theorem dX5_size_31 : decode cX5_size 31 = .ok (.invokevirtual 66, 3) := by decide +kernel
theorem dX5_size_34 : decode cX5_size 34 = .ok (.iadd, 1) := by decide +kernel
theorem dX5_size_35 : decode cX5_size 35 = .ok (.ireturn, 1) := by decide +kernel
theorem dX5_loads_0 : decode cX5_loads 0 = .ok (.iload_n 2, 1) := by decide +kernel
theorem dX5_loads_1 : decode cX5_loads 1 = .ok (.ifCond .ge 7, 3) := by decide +kernel
theorem dX5_loads_4 : decode cX5_loads 4 = .ok (.iconst 0, 1) := by decide +kernel
theorem dX5_loads_5 : decode cX5_loads 5 = .ok (.goto 36, 3) := by decide +kernel
theorem dX5_loads_8 : decode cX5_loads 8 = .ok (.aload_n 0, 1) := by decide +kernel
theorem dX5_loads_9 : decode cX5_loads 9 = .ok (.iload_n 1, 1) := by decide +kernel
theorem dX5_loads_10 : decode cX5_loads 10 = .ok (.iload_n 2, 1) := by decide +kernel
theorem dX5_loads_11 : decode cX5_loads 11 = .ok (.iconst 1, 1) := by decide +kernel
theorem dX5_loads_12 : decode cX5_loads 12 = .ok (.invokevirtual 62, 3) := by decide +kernel
theorem dX5_loads_15 : decode cX5_loads 15 = .ok (.aload_n 0, 1) := by decide +kernel
theorem dX5_loads_16 : decode cX5_loads 16 = .ok (.iload_n 1, 1) := by decide +kernel
theorem dX5_loads_17 : decode cX5_loads 17 = .ok (.aload_n 0, 1) := by decide +kernel
theorem dX5_loads_18 : decode cX5_loads 18 = .ok (.iload_n 1, 1) := by decide +kernel
theorem dX5_loads_19 : decode cX5_loads 19 = .ok (.iload_n 2, 1) := by decide +kernel
theorem dX5_loads_20 : decode cX5_loads 20 = .ok (.iconst 2, 1) := by decide +kernel
theorem dX5_loads_21 : decode cX5_loads 21 = .ok (.invokevirtual 62, 3) := by decide +kernel
theorem dX5_loads_24 : decode cX5_loads 24 = .ok (.invokevirtual 70, 3) := by decide +kernel
theorem dX5_loads_27 : decode cX5_loads 27 = .ok (.iadd, 1) := by decide +kernel
theorem dX5_loads_28 : decode cX5_loads 28 = .ok (.aload_n 0, 1) := by decide +kernel
theorem dX5_loads_29 : decode cX5_loads 29 = .ok (.iload_n 1, 1) := by decide +kernel
theorem dX5_loads_30 : decode cX5_loads 30 = .ok (.aload_n 0, 1) := by decide +kernel
theorem dX5_loads_31 : decode cX5_loads 31 = .ok (.iload_n 1, 1) := by decide +kernel
theorem dX5_loads_32 : decode cX5_loads 32 = .ok (.iload_n 2, 1) := by decide +kernel
theorem dX5_loads_33 : decode cX5_loads 33 = .ok (.iconst 3, 1) := by decide +kernel
theorem dX5_loads_34 : decode cX5_loads 34 = .ok (.invokevirtual 62, 3) := by decide +kernel
theorem dX5_loads_37 : decode cX5_loads 37 = .ok (.invokevirtual 70, 3) := by decide +kernel
theorem dX5_loads_40 : decode cX5_loads 40 = .ok (.iadd, 1) := by decide +kernel
theorem dX5_loads_41 : decode cX5_loads 41 = .ok (.ireturn, 1) := by decide +kernel
theorem dX5_count_0 : decode cX5_count 0 = .ok (.aload_n 0, 1) := by decide +kernel
theorem dX5_count_1 : decode cX5_count 1 = .ok (.iload_n 1, 1) := by decide +kernel
theorem dX5_count_2 : decode cX5_count 2 = .ok (.aload_n 0, 1) := by decide +kernel
theorem dX5_count_3 : decode cX5_count 3 = .ok (.iload_n 1, 1) := by decide +kernel
theorem dX5_count_4 : decode cX5_count 4 = .ok (.invokevirtual 73, 3) := by decide +kernel
theorem dX5_count_7 : decode cX5_count 7 = .ok (.invokevirtual 66, 3) := by decide +kernel
theorem dX5_count_10 : decode cX5_count 10 = .ok (.ireturn, 1) := by decide +kernel
theorem dX5_find_0 : decode cX5_find 0 = .ok (.aload_n 0, 1) := by decide +kernel
theorem dX5_find_1 : decode cX5_find 1 = .ok (.iload_n 1, 1) := by decide +kernel
theorem dX5_find_2 : decode cX5_find 2 = .ok (.invokevirtual 73, 3) := by decide +kernel
theorem dX5_find_5 : decode cX5_find 5 = .ok (.istore_n 3, 1) := by decide +kernel
theorem dX5_find_6 : decode cX5_find 6 = .ok (.iload_n 3, 1) := by decide +kernel
theorem dX5_find_7 : decode cX5_find 7 = .ok (.ifCond .lt 40, 3) := by decide +kernel
theorem dX5_find_10 : decode cX5_find 10 = .ok (.aload_n 0, 1) := by decide +kernel
theorem dX5_find_11 : decode cX5_find 11 = .ok (.iload_n 1, 1) := by decide +kernel
theorem dX5_find_12 : decode cX5_find 12 = .ok (.iload_n 3, 1) := by decide +kernel
theorem dX5_find_13 : decode cX5_find 13 = .ok (.iconst 0, 1) := by decide +kernel
theorem dX5_find_14 : decode cX5_find 14 = .ok (.invokevirtual 62, 3) := by decide +kernel
theorem dX5_find_17 : decode cX5_find 17 = .ok (.iload_n 2, 1) := by decide +kernel
theorem dX5_find_18 : decode cX5_find 18 = .ok (.if_icmp .eq 29, 3) := by decide +kernel
theorem dX5_find_21 : decode cX5_find 21 = .ok (.aload_n 0, 1) := by decide +kernel
theorem dX5_find_22 : decode cX5_find 22 = .ok (.iload_n 1, 1) := by decide +kernel
theorem dX5_find_23 : decode cX5_find 23 = .ok (.iload_n 3, 1) := by decide +kernel
theorem dX5_find_24 : decode cX5_find 24 = .ok (.iload_n 2, 1) := by decide +kernel
theorem dX5_find_25 : decode cX5_find 25 = .ok (.aload_n 0, 1) := by decide +kernel
theorem dX5_find_26 : decode cX5_find 26 = .ok (.iload_n 1, 1) := by decide +kernel
theorem dX5_find_27 : decode cX5_find 27 = .ok (.iload_n 3, 1) := by decide +kernel
theorem dX5_find_28 : decode cX5_find 28 = .ok (.iconst 0, 1) := by decide +kernel
theorem dX5_find_29 : decode cX5_find 29 = .ok (.invokevirtual 62, 3) := by decide +kernel
theorem dX5_find_32 : decode cX5_find 32 = .ok (.if_icmp .ge 7, 3) := by decide +kernel
theorem dX5_find_35 : decode cX5_find 35 = .ok (.iconst 2, 1) := by decide +kernel
theorem dX5_find_36 : decode cX5_find 36 = .ok (.goto 4, 3) := by decide +kernel
theorem dX5_find_39 : decode cX5_find 39 = .ok (.iconst 3, 1) := by decide +kernel
theorem dX5_find_40 : decode cX5_find 40 = .ok (.invokevirtual 62, 3) := by decide +kernel
theorem dX5_find_43 : decode cX5_find 43 = .ok (.istore_n 3, 1) := by decide +kernel
theorem dX5_find_44 : decode cX5_find 44 = .ok (.goto (-38), 3) := by decide +kernel
theorem dX5_find_47 : decode cX5_find 47 = .ok (.iload_n 3, 1) := by decide +kernel
theorem dX5_find_48 : decode cX5_find 48 = .ok (.ireturn, 1) := by decide +kernel
theorem dX5_above_0 : decode cX5_above 0 = .ok (.aload_n 0, 1) := by decide +kernel
theorem dX5_above_1 : decode cX5_above 1 = .ok (.iload_n 1, 1) := by decide +kernel
theorem dX5_above_2 : decode cX5_above 2 = .ok (.invokevirtual 73, 3) := by decide +kernel
theorem dX5_above_5 : decode cX5_above 5 = .ok (.istore_n 3, 1) := by decide +kernel
theorem dX5_above_6 : decode cX5_above 6 = .ok (.iconst (-1), 1) := by decide +kernel
theorem dX5_above_7 : decode cX5_above 7 = .ok (.istore 4, 2) := by decide +kernel
theorem dX5_above_9 : decode cX5_above 9 = .ok (.iload_n 3, 1) := by decide +kernel
theorem dX5_above_10 : decode cX5_above 10 = .ok (.iload_n 2, 1) := by decide +kernel
theorem dX5_above_11 : decode cX5_above 11 = .ok (.if_icmp .eq 38, 3) := by decide +kernel
theorem dX5_above_14 : decode cX5_above 14 = .ok (.iload_n 3, 1) := by decide +kernel
theorem dX5_above_15 : decode cX5_above 15 = .ok (.istore 4, 2) := by decide +kernel
theorem dX5_above_17 : decode cX5_above 17 = .ok (.aload_n 0, 1) := by decide +kernel
theorem dX5_above_18 : decode cX5_above 18 = .ok (.iload_n 1, 1) := by decide +kernel
theorem dX5_above_19 : decode cX5_above 19 = .ok (.iload_n 3, 1) := by decide +kernel
theorem dX5_above_20 : decode cX5_above 20 = .ok (.aload_n 0, 1) := by decide +kernel
theorem dX5_above_21 : decode cX5_above 21 = .ok (.iload_n 1, 1) := by decide +kernel
theorem dX5_above_22 : decode cX5_above 22 = .ok (.iload_n 2, 1) := by decide +kernel
theorem dX5_above_23 : decode cX5_above 23 = .ok (.iconst 0, 1) := by decide +kernel
theorem dX5_above_24 : decode cX5_above 24 = .ok (.invokevirtual 62, 3) := by decide +kernel
theorem dX5_above_27 : decode cX5_above 27 = .ok (.aload_n 0, 1) := by decide +kernel
theorem dX5_above_28 : decode cX5_above 28 = .ok (.iload_n 1, 1) := by decide +kernel
theorem dX5_above_29 : decode cX5_above 29 = .ok (.iload_n 3, 1) := by decide +kernel
theorem dX5_above_30 : decode cX5_above 30 = .ok (.iconst 0, 1) := by decide +kernel
theorem dX5_above_31 : decode cX5_above 31 = .ok (.invokevirtual 62, 3) := by decide +kernel
theorem dX5_above_34 : decode cX5_above 34 = .ok (.if_icmp .ge 7, 3) := by decide +kernel
theorem dX5_above_37 : decode cX5_above 37 = .ok (.iconst 2, 1) := by decide +kernel
theorem dX5_above_38 : decode cX5_above 38 = .ok (.goto 4, 3) := by decide +kernel
theorem dX5_above_41 : decode cX5_above 41 = .ok (.iconst 3, 1) := by decide +kernel
theorem dX5_above_42 : decode cX5_above 42 = .ok (.invokevirtual 62, 3) := by decide +kernel
theorem dX5_above_45 : decode cX5_above 45 = .ok (.istore_n 3, 1) := by decide +kernel
theorem dX5_above_46 : decode cX5_above 46 = .ok (.goto (-37), 3) := by decide +kernel
theorem dX5_above_49 : decode cX5_above 49 = .ok (.iload 4, 2) := by decide +kernel
theorem dX5_above_51 : decode cX5_above 51 = .ok (.ireturn, 1) := by decide +kernel
theorem dX5_depth_0 : decode cX5_depth 0 = .ok (.iconst 0, 1) := by decide +kernel
theorem dX5_depth_1 : decode cX5_depth 1 = .ok (.istore_n 3, 1) := by decide +kernel
theorem dX5_depth_2 : decode cX5_depth 2 = .ok (.aload_n 0, 1) := by decide +kernel
theorem dX5_depth_3 : decode cX5_depth 3 = .ok (.iload_n 1, 1) := by decide +kernel
theorem dX5_depth_4 : decode cX5_depth 4 = .ok (.iload_n 2, 1) := by decide +kernel
theorem dX5_depth_5 : decode cX5_depth 5 = .ok (.invokevirtual 77, 3) := by decide +kernel
theorem dX5_depth_8 : decode cX5_depth 8 = .ok (.istore 4, 2) := by decide +kernel
theorem dX5_depth_10 : decode cX5_depth 10 = .ok (.iload 4, 2) := by decide +kernel
theorem dX5_depth_12 : decode cX5_depth 12 = .ok (.ifCond .lt 18, 3) := by decide +kernel
theorem dX5_depth_15 : decode cX5_depth 15 = .ok (.iinc 3 1, 3) := by decide +kernel
theorem dX5_depth_18 : decode cX5_depth 18 = .ok (.aload_n 0, 1) := by decide +kernel
theorem dX5_depth_19 : decode cX5_depth 19 = .ok (.iload_n 1, 1) := by decide +kernel
theorem dX5_depth_20 : decode cX5_depth 20 = .ok (.iload 4, 2) := by decide +kernel
theorem dX5_depth_22 : decode cX5_depth 22 = .ok (.invokevirtual 77, 3) := by decide +kernel
theorem dX5_depth_25 : decode cX5_depth 25 = .ok (.istore 4, 2) := by decide +kernel
theorem dX5_depth_27 : decode cX5_depth 27 = .ok (.goto (-17), 3) := by decide +kernel
theorem dX5_depth_30 : decode cX5_depth 30 = .ok (.iload_n 3, 1) := by decide +kernel
theorem dX5_depth_31 : decode cX5_depth 31 = .ok (.ireturn, 1) := by decide +kernel
theorem dX5_leans_0 : decode cX5_leans 0 = .ok (.aload_n 0, 1) := by decide +kernel
theorem dX5_leans_1 : decode cX5_leans 1 = .ok (.iload_n 1, 1) := by decide +kernel
theorem dX5_leans_2 : decode cX5_leans 2 = .ok (.aload_n 0, 1) := by decide +kernel
theorem dX5_leans_3 : decode cX5_leans 3 = .ok (.iload_n 1, 1) := by decide +kernel
theorem dX5_leans_4 : decode cX5_leans 4 = .ok (.iload_n 2, 1) := by decide +kernel
theorem dX5_leans_5 : decode cX5_leans 5 = .ok (.iconst 2, 1) := by decide +kernel
theorem dX5_leans_6 : decode cX5_leans 6 = .ok (.invokevirtual 62, 3) := by decide +kernel
theorem dX5_leans_9 : decode cX5_leans 9 = .ok (.invokevirtual 66, 3) := by decide +kernel
theorem dX5_leans_12 : decode cX5_leans 12 = .ok (.istore_n 3, 1) := by decide +kernel
theorem dX5_leans_13 : decode cX5_leans 13 = .ok (.aload_n 0, 1) := by decide +kernel
theorem dX5_leans_14 : decode cX5_leans 14 = .ok (.iload_n 1, 1) := by decide +kernel
theorem dX5_leans_15 : decode cX5_leans 15 = .ok (.aload_n 0, 1) := by decide +kernel
theorem dX5_leans_16 : decode cX5_leans 16 = .ok (.iload_n 1, 1) := by decide +kernel
theorem dX5_leans_17 : decode cX5_leans 17 = .ok (.iload_n 2, 1) := by decide +kernel
theorem dX5_leans_18 : decode cX5_leans 18 = .ok (.iconst 3, 1) := by decide +kernel
theorem dX5_leans_19 : decode cX5_leans 19 = .ok (.invokevirtual 62, 3) := by decide +kernel
theorem dX5_leans_22 : decode cX5_leans 22 = .ok (.invokevirtual 66, 3) := by decide +kernel
theorem dX5_leans_25 : decode cX5_leans 25 = .ok (.istore 4, 2) := by decide +kernel
theorem dX5_leans_27 : decode cX5_leans 27 = .ok (.iload_n 3, 1) := by decide +kernel
theorem dX5_leans_28 : decode cX5_leans 28 = .ok (.iload 4, 2) := by decide +kernel
theorem dX5_leans_30 : decode cX5_leans 30 = .ok (.iadd, 1) := by decide +kernel
theorem dX5_leans_31 : decode cX5_leans 31 = .ok (.iconst 1, 1) := by decide +kernel
theorem dX5_leans_32 : decode cX5_leans 32 = .ok (.iadd, 1) := by decide +kernel
theorem dX5_leans_33 : decode cX5_leans 33 = .ok (.istore 5, 2) := by decide +kernel
theorem dX5_leans_35 : decode cX5_leans 35 = .ok (.bipush 100, 2) := by decide +kernel
theorem dX5_leans_37 : decode cX5_leans 37 = .ok (.iload_n 3, 1) := by decide +kernel
theorem dX5_leans_38 : decode cX5_leans 38 = .ok (.imul, 1) := by decide +kernel
theorem dX5_leans_39 : decode cX5_leans 39 = .ok (.aload_n 0, 1) := by decide +kernel
theorem dX5_leans_40 : decode cX5_leans 40 = .ok (.getfield 9, 3) := by decide +kernel
theorem dX5_leans_43 : decode cX5_leans 43 = .ok (.iconst 0, 1) := by decide +kernel
theorem dX5_leans_44 : decode cX5_leans 44 = .ok (.iaload, 1) := by decide +kernel
theorem dX5_leans_45 : decode cX5_leans 45 = .ok (.iload 5, 2) := by decide +kernel
theorem dX5_leans_47 : decode cX5_leans 47 = .ok (.imul, 1) := by decide +kernel
theorem dX5_leans_48 : decode cX5_leans 48 = .ok (.if_icmp .gt 20, 3) := by decide +kernel
theorem dX5_leans_51 : decode cX5_leans 51 = .ok (.bipush 100, 2) := by decide +kernel
theorem dX5_leans_53 : decode cX5_leans 53 = .ok (.iload 4, 2) := by decide +kernel
theorem dX5_leans_55 : decode cX5_leans 55 = .ok (.imul, 1) := by decide +kernel
theorem dX5_leans_56 : decode cX5_leans 56 = .ok (.aload_n 0, 1) := by decide +kernel
theorem dX5_leans_57 : decode cX5_leans 57 = .ok (.getfield 9, 3) := by decide +kernel
theorem dX5_leans_60 : decode cX5_leans 60 = .ok (.iconst 0, 1) := by decide +kernel
theorem dX5_leans_61 : decode cX5_leans 61 = .ok (.iaload, 1) := by decide +kernel
theorem dX5_leans_62 : decode cX5_leans 62 = .ok (.iload 5, 2) := by decide +kernel
theorem dX5_leans_64 : decode cX5_leans 64 = .ok (.imul, 1) := by decide +kernel
theorem dX5_leans_65 : decode cX5_leans 65 = .ok (.if_icmp .le 7, 3) := by decide +kernel
theorem dX5_leans_68 : decode cX5_leans 68 = .ok (.iconst 1, 1) := by decide +kernel
theorem dX5_leans_69 : decode cX5_leans 69 = .ok (.goto 4, 3) := by decide +kernel
theorem dX5_leans_72 : decode cX5_leans 72 = .ok (.iconst 0, 1) := by decide +kernel
theorem dX5_leans_73 : decode cX5_leans 73 = .ok (.ireturn, 1) := by decide +kernel
theorem dX5_mayHave_0 : decode cX5_mayHave 0 = .ok (.iconst 0, 1) := by decide +kernel
theorem dX5_mayHave_1 : decode cX5_mayHave 1 = .ok (.istore_n 2, 1) := by decide +kernel
theorem dX5_mayHave_2 : decode cX5_mayHave 2 = .ok (.iload_n 1, 1) := by decide +kernel
theorem dX5_mayHave_3 : decode cX5_mayHave 3 = .ok (.aload_n 0, 1) := by decide +kernel
theorem dX5_mayHave_4 : decode cX5_mayHave 4 = .ok (.getfield 9, 3) := by decide +kernel
theorem dX5_mayHave_7 : decode cX5_mayHave 7 = .ok (.iconst 0, 1) := by decide +kernel
theorem dX5_mayHave_8 : decode cX5_mayHave 8 = .ok (.iaload, 1) := by decide +kernel
theorem dX5_mayHave_9 : decode cX5_mayHave 9 = .ok (.imul, 1) := by decide +kernel
theorem dX5_mayHave_10 : decode cX5_mayHave 10 = .ok (.bipush 100, 2) := by decide +kernel
theorem dX5_mayHave_12 : decode cX5_mayHave 12 = .ok (.idiv, 1) := by decide +kernel
theorem dX5_mayHave_13 : decode cX5_mayHave 13 = .ok (.istore_n 3, 1) := by decide +kernel
theorem dX5_mayHave_14 : decode cX5_mayHave 14 = .ok (.iload_n 3, 1) := by decide +kernel
theorem dX5_mayHave_15 : decode cX5_mayHave 15 = .ok (.ifCond .le 21, 3) := by decide +kernel
theorem dX5_mayHave_18 : decode cX5_mayHave 18 = .ok (.iinc 2 1, 3) := by decide +kernel
theorem dX5_mayHave_21 : decode cX5_mayHave 21 = .ok (.iload_n 3, 1) := by decide +kernel
theorem dX5_mayHave_22 : decode cX5_mayHave 22 = .ok (.aload_n 0, 1) := by decide +kernel
theorem dX5_mayHave_23 : decode cX5_mayHave 23 = .ok (.getfield 9, 3) := by decide +kernel
theorem dX5_mayHave_26 : decode cX5_mayHave 26 = .ok (.iconst 0, 1) := by decide +kernel
theorem dX5_mayHave_27 : decode cX5_mayHave 27 = .ok (.iaload, 1) := by decide +kernel
theorem dX5_mayHave_28 : decode cX5_mayHave 28 = .ok (.imul, 1) := by decide +kernel
theorem dX5_mayHave_29 : decode cX5_mayHave 29 = .ok (.bipush 100, 2) := by decide +kernel
theorem dX5_mayHave_31 : decode cX5_mayHave 31 = .ok (.idiv, 1) := by decide +kernel
theorem dX5_mayHave_32 : decode cX5_mayHave 32 = .ok (.istore_n 3, 1) := by decide +kernel
theorem dX5_mayHave_33 : decode cX5_mayHave 33 = .ok (.goto (-19), 3) := by decide +kernel
theorem dX5_mayHave_36 : decode cX5_mayHave 36 = .ok (.iload_n 2, 1) := by decide +kernel
theorem dX5_mayHave_37 : decode cX5_mayHave 37 = .ok (.ireturn, 1) := by decide +kernel
theorem dX5_listFrom_0 : decode cX5_listFrom 0 = .ok (.iload_n 2, 1) := by decide +kernel
theorem dX5_listFrom_1 : decode cX5_listFrom 1 = .ok (.ifCond .lt 47, 3) := by decide +kernel
theorem dX5_listFrom_4 : decode cX5_listFrom 4 = .ok (.aload_n 0, 1) := by decide +kernel
theorem dX5_listFrom_5 : decode cX5_listFrom 5 = .ok (.iload_n 1, 1) := by decide +kernel
theorem dX5_listFrom_6 : decode cX5_listFrom 6 = .ok (.aload_n 0, 1) := by decide +kernel
theorem dX5_listFrom_7 : decode cX5_listFrom 7 = .ok (.iload_n 1, 1) := by decide +kernel
theorem dX5_listFrom_8 : decode cX5_listFrom 8 = .ok (.iload_n 2, 1) := by decide +kernel
theorem dX5_listFrom_9 : decode cX5_listFrom 9 = .ok (.iconst 2, 1) := by decide +kernel
theorem dX5_listFrom_10 : decode cX5_listFrom 10 = .ok (.invokevirtual 62, 3) := by decide +kernel
theorem dX5_listFrom_13 : decode cX5_listFrom 13 = .ok (.invokevirtual 80, 3) := by decide +kernel
theorem dX5_listFrom_16 : decode cX5_listFrom 16 = .ok (.aload_n 0, 1) := by decide +kernel
theorem dX5_listFrom_17 : decode cX5_listFrom 17 = .ok (.getfield 24, 3) := by decide +kernel
theorem dX5_listFrom_20 : decode cX5_listFrom 20 = .ok (.aload_n 0, 1) := by decide +kernel
theorem dX5_listFrom_21 : decode cX5_listFrom 21 = .ok (.getfield 84, 3) := by decide +kernel
theorem dX5_listFrom_24 : decode cX5_listFrom 24 = .ok (.iload_n 2, 1) := by decide +kernel
theorem dX5_listFrom_25 : decode cX5_listFrom 25 = .ok (.iastore, 1) := by decide +kernel
theorem dX5_listFrom_26 : decode cX5_listFrom 26 = .ok (.aload_n 0, 1) := by decide +kernel
theorem dX5_listFrom_27 : decode cX5_listFrom 27 = .ok (.dup, 1) := by decide +kernel
theorem dX5_listFrom_28 : decode cX5_listFrom 28 = .ok (.getfield 84, 3) := by decide +kernel
theorem dX5_listFrom_31 : decode cX5_listFrom 31 = .ok (.iconst 1, 1) := by decide +kernel
theorem dX5_listFrom_32 : decode cX5_listFrom 32 = .ok (.iadd, 1) := by decide +kernel
theorem dX5_listFrom_33 : decode cX5_listFrom 33 = .ok (.putfield 84, 3) := by decide +kernel
theorem dX5_listFrom_36 : decode cX5_listFrom 36 = .ok (.aload_n 0, 1) := by decide +kernel
theorem dX5_listFrom_37 : decode cX5_listFrom 37 = .ok (.iload_n 1, 1) := by decide +kernel
theorem dX5_listFrom_38 : decode cX5_listFrom 38 = .ok (.aload_n 0, 1) := by decide +kernel
theorem dX5_listFrom_39 : decode cX5_listFrom 39 = .ok (.iload_n 1, 1) := by decide +kernel
theorem dX5_listFrom_40 : decode cX5_listFrom 40 = .ok (.iload_n 2, 1) := by decide +kernel
theorem dX5_listFrom_41 : decode cX5_listFrom 41 = .ok (.iconst 3, 1) := by decide +kernel
theorem dX5_listFrom_42 : decode cX5_listFrom 42 = .ok (.invokevirtual 62, 3) := by decide +kernel
theorem dX5_listFrom_45 : decode cX5_listFrom 45 = .ok (.invokevirtual 80, 3) := by decide +kernel
theorem dX5_listFrom_48 : decode cX5_listFrom 48 = .ok (.return_, 1) := by decide +kernel
theorem dX5_listAll_0 : decode cX5_listAll 0 = .ok (.aload_n 0, 1) := by decide +kernel
theorem dX5_listAll_1 : decode cX5_listAll 1 = .ok (.iconst 0, 1) := by decide +kernel
theorem dX5_listAll_2 : decode cX5_listAll 2 = .ok (.putfield 84, 3) := by decide +kernel
theorem dX5_listAll_5 : decode cX5_listAll 5 = .ok (.aload_n 0, 1) := by decide +kernel
theorem dX5_listAll_6 : decode cX5_listAll 6 = .ok (.iload_n 1, 1) := by decide +kernel
theorem dX5_listAll_7 : decode cX5_listAll 7 = .ok (.aload_n 0, 1) := by decide +kernel
theorem dX5_listAll_8 : decode cX5_listAll 8 = .ok (.iload_n 1, 1) := by decide +kernel
theorem dX5_listAll_9 : decode cX5_listAll 9 = .ok (.invokevirtual 73, 3) := by decide +kernel
theorem dX5_listAll_12 : decode cX5_listAll 12 = .ok (.invokevirtual 80, 3) := by decide +kernel
theorem dX5_listAll_15 : decode cX5_listAll 15 = .ok (.return_, 1) := by decide +kernel
theorem dX5_make_0 : decode cX5_make 0 = .ok (.iload_n 2, 1) := by decide +kernel
theorem dX5_make_1 : decode cX5_make 1 = .ok (.iload_n 3, 1) := by decide +kernel
theorem dX5_make_2 : decode cX5_make 2 = .ok (.if_icmp .le 5, 3) := by decide +kernel
theorem dX5_make_5 : decode cX5_make 5 = .ok (.iconst (-1), 1) := by decide +kernel
theorem dX5_make_6 : decode cX5_make 6 = .ok (.ireturn, 1) := by decide +kernel
theorem dX5_make_7 : decode cX5_make 7 = .ok (.iload_n 2, 1) := by decide +kernel
theorem dX5_make_8 : decode cX5_make 8 = .ok (.iload_n 3, 1) := by decide +kernel
theorem dX5_make_9 : decode cX5_make 9 = .ok (.iadd, 1) := by decide +kernel
theorem dX5_make_10 : decode cX5_make 10 = .ok (.iconst 2, 1) := by decide +kernel
theorem dX5_make_11 : decode cX5_make 11 = .ok (.idiv, 1) := by decide +kernel
theorem dX5_make_12 : decode cX5_make 12 = .ok (.istore 4, 2) := by decide +kernel
theorem dX5_make_14 : decode cX5_make 14 = .ok (.aload_n 0, 1) := by decide +kernel
theorem dX5_make_15 : decode cX5_make 15 = .ok (.getfield 24, 3) := by decide +kernel
theorem dX5_make_18 : decode cX5_make 18 = .ok (.iload 4, 2) := by decide +kernel
theorem dX5_make_20 : decode cX5_make 20 = .ok (.iaload, 1) := by decide +kernel
theorem dX5_make_21 : decode cX5_make 21 = .ok (.istore 5, 2) := by decide +kernel
theorem dX5_make_23 : decode cX5_make 23 = .ok (.aload_n 0, 1) := by decide +kernel
theorem dX5_make_24 : decode cX5_make 24 = .ok (.iload_n 1, 1) := by decide +kernel
theorem dX5_make_25 : decode cX5_make 25 = .ok (.iload 5, 2) := by decide +kernel
theorem dX5_make_27 : decode cX5_make 27 = .ok (.iconst 2, 1) := by decide +kernel
theorem dX5_make_28 : decode cX5_make 28 = .ok (.aload_n 0, 1) := by decide +kernel
theorem dX5_make_29 : decode cX5_make 29 = .ok (.iload_n 1, 1) := by decide +kernel
theorem dX5_make_30 : decode cX5_make 30 = .ok (.iload_n 2, 1) := by decide +kernel
theorem dX5_make_31 : decode cX5_make 31 = .ok (.iload 4, 2) := by decide +kernel
theorem dX5_make_33 : decode cX5_make 33 = .ok (.iconst 1, 1) := by decide +kernel
theorem dX5_make_34 : decode cX5_make 34 = .ok (.isub, 1) := by decide +kernel
theorem dX5_make_35 : decode cX5_make 35 = .ok (.invokevirtual 87, 3) := by decide +kernel
theorem dX5_make_38 : decode cX5_make 38 = .ok (.invokevirtual 90, 3) := by decide +kernel
theorem dX5_make_41 : decode cX5_make 41 = .ok (.aload_n 0, 1) := by decide +kernel
theorem dX5_make_42 : decode cX5_make 42 = .ok (.iload_n 1, 1) := by decide +kernel
theorem dX5_make_43 : decode cX5_make 43 = .ok (.iload 5, 2) := by decide +kernel
theorem dX5_make_45 : decode cX5_make 45 = .ok (.iconst 3, 1) := by decide +kernel
theorem dX5_make_46 : decode cX5_make 46 = .ok (.aload_n 0, 1) := by decide +kernel
theorem dX5_make_47 : decode cX5_make 47 = .ok (.iload_n 1, 1) := by decide +kernel
theorem dX5_make_48 : decode cX5_make 48 = .ok (.iload 4, 2) := by decide +kernel
theorem dX5_make_50 : decode cX5_make 50 = .ok (.iconst 1, 1) := by decide +kernel
theorem dX5_make_51 : decode cX5_make 51 = .ok (.iadd, 1) := by decide +kernel
theorem dX5_make_52 : decode cX5_make 52 = .ok (.iload_n 3, 1) := by decide +kernel
theorem dX5_make_53 : decode cX5_make 53 = .ok (.invokevirtual 87, 3) := by decide +kernel
theorem dX5_make_56 : decode cX5_make 56 = .ok (.invokevirtual 90, 3) := by decide +kernel
theorem dX5_make_59 : decode cX5_make 59 = .ok (.iload 5, 2) := by decide +kernel
theorem dX5_make_61 : decode cX5_make 61 = .ok (.ireturn, 1) := by decide +kernel
theorem dX5_replace_0 : decode cX5_replace 0 = .ok (.iload_n 2, 1) := by decide +kernel
theorem dX5_replace_1 : decode cX5_replace 1 = .ok (.ifCond .ge 13, 3) := by decide +kernel
theorem dX5_replace_4 : decode cX5_replace 4 = .ok (.aload_n 0, 1) := by decide +kernel
theorem dX5_replace_5 : decode cX5_replace 5 = .ok (.iload_n 1, 1) := by decide +kernel
theorem dX5_replace_6 : decode cX5_replace 6 = .ok (.iload 4, 2) := by decide +kernel
theorem dX5_replace_8 : decode cX5_replace 8 = .ok (.invokevirtual 94, 3) := by decide +kernel
theorem dX5_replace_11 : decode cX5_replace 11 = .ok (.goto 27, 3) := by decide +kernel
theorem dX5_replace_14 : decode cX5_replace 14 = .ok (.aload_n 0, 1) := by decide +kernel
theorem dX5_replace_15 : decode cX5_replace 15 = .ok (.iload_n 1, 1) := by decide +kernel
theorem dX5_replace_16 : decode cX5_replace 16 = .ok (.iload_n 2, 1) := by decide +kernel
theorem dX5_replace_17 : decode cX5_replace 17 = .ok (.aload_n 0, 1) := by decide +kernel
theorem dX5_replace_18 : decode cX5_replace 18 = .ok (.iload_n 1, 1) := by decide +kernel
theorem dX5_replace_19 : decode cX5_replace 19 = .ok (.iload_n 2, 1) := by decide +kernel
theorem dX5_replace_20 : decode cX5_replace 20 = .ok (.iconst 2, 1) := by decide +kernel
theorem dX5_replace_21 : decode cX5_replace 21 = .ok (.invokevirtual 62, 3) := by decide +kernel
theorem dX5_replace_24 : decode cX5_replace 24 = .ok (.iload_n 3, 1) := by decide +kernel
theorem dX5_replace_25 : decode cX5_replace 25 = .ok (.if_icmp .ne 7, 3) := by decide +kernel
theorem dX5_replace_28 : decode cX5_replace 28 = .ok (.iconst 2, 1) := by decide +kernel
theorem dX5_replace_29 : decode cX5_replace 29 = .ok (.goto 4, 3) := by decide +kernel
theorem dX5_replace_32 : decode cX5_replace 32 = .ok (.iconst 3, 1) := by decide +kernel
theorem dX5_replace_33 : decode cX5_replace 33 = .ok (.iload 4, 2) := by decide +kernel
theorem dX5_replace_35 : decode cX5_replace 35 = .ok (.invokevirtual 90, 3) := by decide +kernel
theorem dX5_replace_38 : decode cX5_replace 38 = .ok (.return_, 1) := by decide +kernel
theorem dX5_buildPart_0 : decode cX5_buildPart 0 = .ok (.aload_n 0, 1) := by decide +kernel
theorem dX5_buildPart_1 : decode cX5_buildPart 1 = .ok (.iload_n 1, 1) := by decide +kernel
theorem dX5_buildPart_2 : decode cX5_buildPart 2 = .ok (.iload_n 2, 1) := by decide +kernel
theorem dX5_buildPart_3 : decode cX5_buildPart 3 = .ok (.invokevirtual 77, 3) := by decide +kernel
theorem dX5_buildPart_6 : decode cX5_buildPart 6 = .ok (.istore_n 3, 1) := by decide +kernel
theorem dX5_buildPart_7 : decode cX5_buildPart 7 = .ok (.aload_n 0, 1) := by decide +kernel
theorem dX5_buildPart_8 : decode cX5_buildPart 8 = .ok (.iconst 0, 1) := by decide +kernel
theorem dX5_buildPart_9 : decode cX5_buildPart 9 = .ok (.putfield 84, 3) := by decide +kernel
theorem dX5_buildPart_12 : decode cX5_buildPart 12 = .ok (.aload_n 0, 1) := by decide +kernel
theorem dX5_buildPart_13 : decode cX5_buildPart 13 = .ok (.iload_n 1, 1) := by decide +kernel
theorem dX5_buildPart_14 : decode cX5_buildPart 14 = .ok (.iload_n 2, 1) := by decide +kernel
theorem dX5_buildPart_15 : decode cX5_buildPart 15 = .ok (.invokevirtual 80, 3) := by decide +kernel
theorem dX5_buildPart_18 : decode cX5_buildPart 18 = .ok (.aload_n 0, 1) := by decide +kernel
theorem dX5_buildPart_19 : decode cX5_buildPart 19 = .ok (.iload_n 1, 1) := by decide +kernel
theorem dX5_buildPart_20 : decode cX5_buildPart 20 = .ok (.iload_n 3, 1) := by decide +kernel
theorem dX5_buildPart_21 : decode cX5_buildPart 21 = .ok (.iload_n 2, 1) := by decide +kernel
theorem dX5_buildPart_22 : decode cX5_buildPart 22 = .ok (.aload_n 0, 1) := by decide +kernel
theorem dX5_buildPart_23 : decode cX5_buildPart 23 = .ok (.iload_n 1, 1) := by decide +kernel
theorem dX5_buildPart_24 : decode cX5_buildPart 24 = .ok (.iconst 0, 1) := by decide +kernel
theorem dX5_buildPart_25 : decode cX5_buildPart 25 = .ok (.aload_n 0, 1) := by decide +kernel
theorem dX5_buildPart_26 : decode cX5_buildPart 26 = .ok (.getfield 84, 3) := by decide +kernel
theorem dX5_buildPart_29 : decode cX5_buildPart 29 = .ok (.iconst 1, 1) := by decide +kernel
theorem dX5_buildPart_30 : decode cX5_buildPart 30 = .ok (.isub, 1) := by decide +kernel
theorem dX5_buildPart_31 : decode cX5_buildPart 31 = .ok (.invokevirtual 87, 3) := by decide +kernel
theorem dX5_buildPart_34 : decode cX5_buildPart 34 = .ok (.invokevirtual 97, 3) := by decide +kernel
theorem dX5_buildPart_37 : decode cX5_buildPart 37 = .ok (.aload_n 0, 1) := by decide +kernel
theorem dX5_buildPart_38 : decode cX5_buildPart 38 = .ok (.getfield 9, 3) := by decide +kernel
theorem dX5_buildPart_41 : decode cX5_buildPart 41 = .ok (.iconst 5, 1) := by decide +kernel
theorem dX5_buildPart_42 : decode cX5_buildPart 42 = .ok (.dup2, 1) := by decide +kernel
theorem dX5_buildPart_43 : decode cX5_buildPart 43 = .ok (.iaload, 1) := by decide +kernel
theorem dX5_buildPart_44 : decode cX5_buildPart 44 = .ok (.aload_n 0, 1) := by decide +kernel
theorem dX5_buildPart_45 : decode cX5_buildPart 45 = .ok (.getfield 84, 3) := by decide +kernel
theorem dX5_buildPart_48 : decode cX5_buildPart 48 = .ok (.iadd, 1) := by decide +kernel
theorem dX5_buildPart_49 : decode cX5_buildPart 49 = .ok (.iastore, 1) := by decide +kernel
theorem dX5_buildPart_50 : decode cX5_buildPart 50 = .ok (.return_, 1) := by decide +kernel
theorem dX5_buildWhole_0 : decode cX5_buildWhole 0 = .ok (.aload_n 0, 1) := by decide +kernel
theorem dX5_buildWhole_1 : decode cX5_buildWhole 1 = .ok (.iload_n 1, 1) := by decide +kernel
theorem dX5_buildWhole_2 : decode cX5_buildWhole 2 = .ok (.invokevirtual 100, 3) := by decide +kernel
theorem dX5_buildWhole_5 : decode cX5_buildWhole 5 = .ok (.aload_n 0, 1) := by decide +kernel
theorem dX5_buildWhole_6 : decode cX5_buildWhole 6 = .ok (.iload_n 1, 1) := by decide +kernel
theorem dX5_buildWhole_7 : decode cX5_buildWhole 7 = .ok (.aload_n 0, 1) := by decide +kernel
theorem dX5_buildWhole_8 : decode cX5_buildWhole 8 = .ok (.iload_n 1, 1) := by decide +kernel
theorem dX5_buildWhole_9 : decode cX5_buildWhole 9 = .ok (.iconst 0, 1) := by decide +kernel
theorem dX5_buildWhole_10 : decode cX5_buildWhole 10 = .ok (.aload_n 0, 1) := by decide +kernel
theorem dX5_buildWhole_11 : decode cX5_buildWhole 11 = .ok (.getfield 84, 3) := by decide +kernel
theorem dX5_buildWhole_14 : decode cX5_buildWhole 14 = .ok (.iconst 1, 1) := by decide +kernel
theorem dX5_buildWhole_15 : decode cX5_buildWhole 15 = .ok (.isub, 1) := by decide +kernel
theorem dX5_buildWhole_16 : decode cX5_buildWhole 16 = .ok (.invokevirtual 87, 3) := by decide +kernel
theorem dX5_buildWhole_19 : decode cX5_buildWhole 19 = .ok (.invokevirtual 94, 3) := by decide +kernel
theorem dX5_buildWhole_22 : decode cX5_buildWhole 22 = .ok (.aload_n 0, 1) := by decide +kernel
theorem dX5_buildWhole_23 : decode cX5_buildWhole 23 = .ok (.iload_n 1, 1) := by decide +kernel
theorem dX5_buildWhole_24 : decode cX5_buildWhole 24 = .ok (.aload_n 0, 1) := by decide +kernel
theorem dX5_buildWhole_25 : decode cX5_buildWhole 25 = .ok (.getfield 84, 3) := by decide +kernel
theorem dX5_buildWhole_28 : decode cX5_buildWhole 28 = .ok (.invokevirtual 104, 3) := by decide +kernel
theorem dX5_buildWhole_31 : decode cX5_buildWhole 31 = .ok (.aload_n 0, 1) := by decide +kernel
theorem dX5_buildWhole_32 : decode cX5_buildWhole 32 = .ok (.getfield 9, 3) := by decide +kernel
theorem dX5_buildWhole_35 : decode cX5_buildWhole 35 = .ok (.iconst 4, 1) := by decide +kernel
theorem dX5_buildWhole_36 : decode cX5_buildWhole 36 = .ok (.dup2, 1) := by decide +kernel
theorem dX5_buildWhole_37 : decode cX5_buildWhole 37 = .ok (.iaload, 1) := by decide +kernel
theorem dX5_buildWhole_38 : decode cX5_buildWhole 38 = .ok (.iconst 1, 1) := by decide +kernel
theorem dX5_buildWhole_39 : decode cX5_buildWhole 39 = .ok (.iadd, 1) := by decide +kernel
theorem dX5_buildWhole_40 : decode cX5_buildWhole 40 = .ok (.iastore, 1) := by decide +kernel
theorem dX5_buildWhole_41 : decode cX5_buildWhole 41 = .ok (.aload_n 0, 1) := by decide +kernel
theorem dX5_buildWhole_42 : decode cX5_buildWhole 42 = .ok (.getfield 9, 3) := by decide +kernel
theorem dX5_buildWhole_45 : decode cX5_buildWhole 45 = .ok (.iconst 5, 1) := by decide +kernel
theorem dX5_buildWhole_46 : decode cX5_buildWhole 46 = .ok (.dup2, 1) := by decide +kernel
theorem dX5_buildWhole_47 : decode cX5_buildWhole 47 = .ok (.iaload, 1) := by decide +kernel
theorem dX5_buildWhole_48 : decode cX5_buildWhole 48 = .ok (.aload_n 0, 1) := by decide +kernel
theorem dX5_buildWhole_49 : decode cX5_buildWhole 49 = .ok (.getfield 84, 3) := by decide +kernel
theorem dX5_buildWhole_52 : decode cX5_buildWhole 52 = .ok (.iadd, 1) := by decide +kernel
theorem dX5_buildWhole_53 : decode cX5_buildWhole 53 = .ok (.iastore, 1) := by decide +kernel
theorem dX5_buildWhole_54 : decode cX5_buildWhole 54 = .ok (.return_, 1) := by decide +kernel
theorem dX5_emptyStall_0 : decode cX5_emptyStall 0 = .ok (.iconst 0, 1) := by decide +kernel
theorem dX5_emptyStall_1 : decode cX5_emptyStall 1 = .ok (.istore_n 2, 1) := by decide +kernel
theorem dX5_emptyStall_2 : decode cX5_emptyStall 2 = .ok (.aload_n 0, 1) := by decide +kernel
theorem dX5_emptyStall_3 : decode cX5_emptyStall 3 = .ok (.iload_n 1, 1) := by decide +kernel
theorem dX5_emptyStall_4 : decode cX5_emptyStall 4 = .ok (.iload_n 2, 1) := by decide +kernel
theorem dX5_emptyStall_5 : decode cX5_emptyStall 5 = .ok (.iconst 0, 1) := by decide +kernel
theorem dX5_emptyStall_6 : decode cX5_emptyStall 6 = .ok (.invokevirtual 62, 3) := by decide +kernel
theorem dX5_emptyStall_9 : decode cX5_emptyStall 9 = .ok (.ifCond .lt 9, 3) := by decide +kernel
theorem dX5_emptyStall_12 : decode cX5_emptyStall 12 = .ok (.iinc 2 1, 3) := by decide +kernel
theorem dX5_emptyStall_15 : decode cX5_emptyStall 15 = .ok (.goto (-13), 3) := by decide +kernel
theorem dX5_emptyStall_18 : decode cX5_emptyStall 18 = .ok (.iload_n 2, 1) := by decide +kernel
theorem dX5_emptyStall_19 : decode cX5_emptyStall 19 = .ok (.ireturn, 1) := by decide +kernel
theorem dX5_enter_0 : decode cX5_enter 0 = .ok (.aload_n 0, 1) := by decide +kernel
theorem dX5_enter_1 : decode cX5_enter 1 = .ok (.iload_n 1, 1) := by decide +kernel
theorem dX5_enter_2 : decode cX5_enter 2 = .ok (.invokevirtual 107, 3) := by decide +kernel
theorem dX5_enter_5 : decode cX5_enter 5 = .ok (.istore 4, 2) := by decide +kernel
theorem dX5_enter_7 : decode cX5_enter 7 = .ok (.aload_n 0, 1) := by decide +kernel
theorem dX5_enter_8 : decode cX5_enter 8 = .ok (.iload_n 1, 1) := by decide +kernel
theorem dX5_enter_9 : decode cX5_enter 9 = .ok (.iload 4, 2) := by decide +kernel
theorem dX5_enter_11 : decode cX5_enter 11 = .ok (.iconst 0, 1) := by decide +kernel
theorem dX5_enter_12 : decode cX5_enter 12 = .ok (.iload_n 2, 1) := by decide +kernel
theorem dX5_enter_13 : decode cX5_enter 13 = .ok (.invokevirtual 90, 3) := by decide +kernel
theorem dX5_enter_16 : decode cX5_enter 16 = .ok (.aload_n 0, 1) := by decide +kernel
theorem dX5_enter_17 : decode cX5_enter 17 = .ok (.iload_n 1, 1) := by decide +kernel
theorem dX5_enter_18 : decode cX5_enter 18 = .ok (.iload 4, 2) := by decide +kernel
theorem dX5_enter_20 : decode cX5_enter 20 = .ok (.iconst 1, 1) := by decide +kernel
theorem dX5_enter_21 : decode cX5_enter 21 = .ok (.iload_n 3, 1) := by decide +kernel
theorem dX5_enter_22 : decode cX5_enter 22 = .ok (.invokevirtual 90, 3) := by decide +kernel
theorem dX5_enter_25 : decode cX5_enter 25 = .ok (.aload_n 0, 1) := by decide +kernel
theorem dX5_enter_26 : decode cX5_enter 26 = .ok (.iload_n 1, 1) := by decide +kernel
theorem dX5_enter_27 : decode cX5_enter 27 = .ok (.iload 4, 2) := by decide +kernel
theorem dX5_enter_29 : decode cX5_enter 29 = .ok (.iconst 2, 1) := by decide +kernel
theorem dX5_enter_30 : decode cX5_enter 30 = .ok (.iconst (-1), 1) := by decide +kernel
theorem dX5_enter_31 : decode cX5_enter 31 = .ok (.invokevirtual 90, 3) := by decide +kernel
theorem dX5_enter_34 : decode cX5_enter 34 = .ok (.aload_n 0, 1) := by decide +kernel
theorem dX5_enter_35 : decode cX5_enter 35 = .ok (.iload_n 1, 1) := by decide +kernel
theorem dX5_enter_36 : decode cX5_enter 36 = .ok (.iload 4, 2) := by decide +kernel
theorem dX5_enter_38 : decode cX5_enter 38 = .ok (.iconst 3, 1) := by decide +kernel
theorem dX5_enter_39 : decode cX5_enter 39 = .ok (.iconst (-1), 1) := by decide +kernel
theorem dX5_enter_40 : decode cX5_enter 40 = .ok (.invokevirtual 90, 3) := by decide +kernel
theorem dX5_enter_43 : decode cX5_enter 43 = .ok (.iload 4, 2) := by decide +kernel
theorem dX5_enter_45 : decode cX5_enter 45 = .ok (.ireturn, 1) := by decide +kernel
theorem dX5_hang_0 : decode cX5_hang 0 = .ok (.iconst (-1), 1) := by decide +kernel
theorem dX5_hang_1 : decode cX5_hang 1 = .ok (.istore_n 3, 1) := by decide +kernel
theorem dX5_hang_2 : decode cX5_hang 2 = .ok (.iconst 2, 1) := by decide +kernel
theorem dX5_hang_3 : decode cX5_hang 3 = .ok (.istore 4, 2) := by decide +kernel
theorem dX5_hang_5 : decode cX5_hang 5 = .ok (.aload_n 0, 1) := by decide +kernel
theorem dX5_hang_6 : decode cX5_hang 6 = .ok (.iload_n 1, 1) := by decide +kernel
theorem dX5_hang_7 : decode cX5_hang 7 = .ok (.invokevirtual 73, 3) := by decide +kernel
theorem dX5_hang_10 : decode cX5_hang 10 = .ok (.istore 5, 2) := by decide +kernel
theorem dX5_hang_12 : decode cX5_hang 12 = .ok (.iload 5, 2) := by decide +kernel
theorem dX5_hang_14 : decode cX5_hang 14 = .ok (.ifCond .lt 45, 3) := by decide +kernel
theorem dX5_hang_17 : decode cX5_hang 17 = .ok (.iload 5, 2) := by decide +kernel
theorem dX5_hang_19 : decode cX5_hang 19 = .ok (.istore_n 3, 1) := by decide +kernel
theorem dX5_hang_20 : decode cX5_hang 20 = .ok (.aload_n 0, 1) := by decide +kernel
theorem dX5_hang_21 : decode cX5_hang 21 = .ok (.iload_n 1, 1) := by decide +kernel
theorem dX5_hang_22 : decode cX5_hang 22 = .ok (.iload_n 2, 1) := by decide +kernel
theorem dX5_hang_23 : decode cX5_hang 23 = .ok (.iconst 0, 1) := by decide +kernel
theorem dX5_hang_24 : decode cX5_hang 24 = .ok (.invokevirtual 62, 3) := by decide +kernel
theorem dX5_hang_27 : decode cX5_hang 27 = .ok (.aload_n 0, 1) := by decide +kernel
theorem dX5_hang_28 : decode cX5_hang 28 = .ok (.iload_n 1, 1) := by decide +kernel
theorem dX5_hang_29 : decode cX5_hang 29 = .ok (.iload 5, 2) := by decide +kernel
theorem dX5_hang_31 : decode cX5_hang 31 = .ok (.iconst 0, 1) := by decide +kernel
theorem dX5_hang_32 : decode cX5_hang 32 = .ok (.invokevirtual 62, 3) := by decide +kernel
theorem dX5_hang_35 : decode cX5_hang 35 = .ok (.if_icmp .ge 7, 3) := by decide +kernel
theorem dX5_hang_38 : decode cX5_hang 38 = .ok (.iconst 2, 1) := by decide +kernel
theorem dX5_hang_39 : decode cX5_hang 39 = .ok (.goto 4, 3) := by decide +kernel
theorem dX5_hang_42 : decode cX5_hang 42 = .ok (.iconst 3, 1) := by decide +kernel
theorem dX5_hang_43 : decode cX5_hang 43 = .ok (.istore 4, 2) := by decide +kernel
theorem dX5_hang_45 : decode cX5_hang 45 = .ok (.aload_n 0, 1) := by decide +kernel
theorem dX5_hang_46 : decode cX5_hang 46 = .ok (.iload_n 1, 1) := by decide +kernel
theorem dX5_hang_47 : decode cX5_hang 47 = .ok (.iload 5, 2) := by decide +kernel
theorem dX5_hang_49 : decode cX5_hang 49 = .ok (.iload 4, 2) := by decide +kernel
theorem dX5_hang_51 : decode cX5_hang 51 = .ok (.invokevirtual 62, 3) := by decide +kernel
theorem dX5_hang_54 : decode cX5_hang 54 = .ok (.istore 5, 2) := by decide +kernel
theorem dX5_hang_56 : decode cX5_hang 56 = .ok (.goto (-44), 3) := by decide +kernel
theorem dX5_hang_59 : decode cX5_hang 59 = .ok (.iload_n 3, 1) := by decide +kernel
theorem dX5_hang_60 : decode cX5_hang 60 = .ok (.ifCond .ge 12, 3) := by decide +kernel
theorem dX5_hang_63 : decode cX5_hang 63 = .ok (.aload_n 0, 1) := by decide +kernel
theorem dX5_hang_64 : decode cX5_hang 64 = .ok (.iload_n 1, 1) := by decide +kernel
theorem dX5_hang_65 : decode cX5_hang 65 = .ok (.iload_n 2, 1) := by decide +kernel
theorem dX5_hang_66 : decode cX5_hang 66 = .ok (.invokevirtual 94, 3) := by decide +kernel
theorem dX5_hang_69 : decode cX5_hang 69 = .ok (.goto 12, 3) := by decide +kernel
theorem dX5_hang_72 : decode cX5_hang 72 = .ok (.aload_n 0, 1) := by decide +kernel
theorem dX5_hang_73 : decode cX5_hang 73 = .ok (.iload_n 1, 1) := by decide +kernel
theorem dX5_hang_74 : decode cX5_hang 74 = .ok (.iload_n 3, 1) := by decide +kernel
theorem dX5_hang_75 : decode cX5_hang 75 = .ok (.iload 4, 2) := by decide +kernel
theorem dX5_hang_77 : decode cX5_hang 77 = .ok (.iload_n 2, 1) := by decide +kernel
theorem dX5_hang_78 : decode cX5_hang 78 = .ok (.invokevirtual 90, 3) := by decide +kernel
theorem dX5_hang_81 : decode cX5_hang 81 = .ok (.return_, 1) := by decide +kernel
theorem dX5_isWeight_0 : decode cX5_isWeight 0 = .ok (.iload_n 0, 1) := by decide +kernel
theorem dX5_isWeight_1 : decode cX5_isWeight 1 = .ok (.iconst 0, 1) := by decide +kernel
theorem dX5_isWeight_2 : decode cX5_isWeight 2 = .ok (.sipush 999, 3) := by decide +kernel
theorem dX5_isWeight_5 : decode cX5_isWeight 5 = .ok (.invokestatic 58, 3) := by decide +kernel
theorem dX5_isWeight_8 : decode cX5_isWeight 8 = .ok (.ireturn, 1) := by decide +kernel
theorem dX5_put__0 : decode cX5_put_ 0 = .ok (.iload_n 1, 1) := by decide +kernel
theorem dX5_put__1 : decode cX5_put_ 1 = .ok (.invokestatic 110, 3) := by decide +kernel
theorem dX5_put__4 : decode cX5_put_ 4 = .ok (.ifCond .ne 6, 3) := by decide +kernel
theorem dX5_put__7 : decode cX5_put_ 7 = .ok (.bipush (-11), 2) := by decide +kernel
theorem dX5_put__9 : decode cX5_put_ 9 = .ok (.ireturn, 1) := by decide +kernel
theorem dX5_put__10 : decode cX5_put_ 10 = .ok (.iload_n 2, 1) := by decide +kernel
theorem dX5_put__11 : decode cX5_put_ 11 = .ok (.invokestatic 114, 3) := by decide +kernel
theorem dX5_put__14 : decode cX5_put_ 14 = .ok (.ifCond .eq 13, 3) := by decide +kernel
theorem dX5_put__17 : decode cX5_put_ 17 = .ok (.iload_n 3, 1) := by decide +kernel
theorem dX5_put__18 : decode cX5_put_ 18 = .ok (.iconst 1, 1) := by decide +kernel
theorem dX5_put__19 : decode cX5_put_ 19 = .ok (.bipush 99, 2) := by decide +kernel
theorem dX5_put__21 : decode cX5_put_ 21 = .ok (.invokestatic 58, 3) := by decide +kernel
theorem dX5_put__24 : decode cX5_put_ 24 = .ok (.ifCond .ne 6, 3) := by decide +kernel
theorem dX5_put__27 : decode cX5_put_ 27 = .ok (.bipush (-12), 2) := by decide +kernel
theorem dX5_put__29 : decode cX5_put_ 29 = .ok (.ireturn, 1) := by decide +kernel
theorem dX5_put__30 : decode cX5_put_ 30 = .ok (.aload_n 0, 1) := by decide +kernel
theorem dX5_put__31 : decode cX5_put_ 31 = .ok (.aload_n 0, 1) := by decide +kernel
theorem dX5_put__32 : decode cX5_put_ 32 = .ok (.iload_n 1, 1) := by decide +kernel
theorem dX5_put__33 : decode cX5_put_ 33 = .ok (.iload_n 2, 1) := by decide +kernel
theorem dX5_put__34 : decode cX5_put_ 34 = .ok (.invokevirtual 117, 3) := by decide +kernel
theorem dX5_put__37 : decode cX5_put_ 37 = .ok (.ifCond .lt 7, 3) := by decide +kernel
theorem dX5_put__40 : decode cX5_put_ 40 = .ok (.iconst 1, 1) := by decide +kernel
theorem dX5_put__41 : decode cX5_put_ 41 = .ok (.goto 4, 3) := by decide +kernel
theorem dX5_put__44 : decode cX5_put_ 44 = .ok (.iconst 0, 1) := by decide +kernel
theorem dX5_put__45 : decode cX5_put_ 45 = .ok (.iconst 2, 1) := by decide +kernel
theorem dX5_put__46 : decode cX5_put_ 46 = .ok (.iload_n 2, 1) := by decide +kernel
theorem dX5_put__47 : decode cX5_put_ 47 = .ok (.invokevirtual 120, 3) := by decide +kernel
theorem dX5_put__50 : decode cX5_put_ 50 = .ok (.ifCond .ne 28, 3) := by decide +kernel
theorem dX5_put__53 : decode cX5_put_ 53 = .ok (.aload_n 0, 1) := by decide +kernel
theorem dX5_put__54 : decode cX5_put_ 54 = .ok (.aload_n 0, 1) := by decide +kernel
theorem dX5_put__55 : decode cX5_put_ 55 = .ok (.iload_n 1, 1) := by decide +kernel
theorem dX5_put__56 : decode cX5_put_ 56 = .ok (.invokevirtual 124, 3) := by decide +kernel
theorem dX5_put__59 : decode cX5_put_ 59 = .ok (.bipush 30, 2) := by decide +kernel
theorem dX5_put__61 : decode cX5_put_ 61 = .ok (.if_icmp .ne 7, 3) := by decide +kernel
theorem dX5_put__64 : decode cX5_put_ 64 = .ok (.iconst 1, 1) := by decide +kernel
theorem dX5_put__65 : decode cX5_put_ 65 = .ok (.goto 4, 3) := by decide +kernel
theorem dX5_put__68 : decode cX5_put_ 68 = .ok (.iconst 0, 1) := by decide +kernel
theorem dX5_put__69 : decode cX5_put_ 69 = .ok (.iconst 1, 1) := by decide +kernel
theorem dX5_put__70 : decode cX5_put_ 70 = .ok (.bipush 30, 2) := by decide +kernel
theorem dX5_put__72 : decode cX5_put_ 72 = .ok (.invokevirtual 120, 3) := by decide +kernel
theorem dX5_put__75 : decode cX5_put_ 75 = .ok (.ifCond .eq 6, 3) := by decide +kernel
theorem dX5_put__78 : decode cX5_put_ 78 = .ok (.bipush (-14), 2) := by decide +kernel
theorem dX5_put__80 : decode cX5_put_ 80 = .ok (.ireturn, 1) := by decide +kernel
theorem dX5_put__81 : decode cX5_put_ 81 = .ok (.aload_n 0, 1) := by decide +kernel
theorem dX5_put__82 : decode cX5_put_ 82 = .ok (.invokevirtual 127, 3) := by decide +kernel
theorem dX5_put__85 : decode cX5_put_ 85 = .ok (.aload_n 0, 1) := by decide +kernel
theorem dX5_put__86 : decode cX5_put_ 86 = .ok (.iload_n 1, 1) := by decide +kernel
theorem dX5_put__87 : decode cX5_put_ 87 = .ok (.iload_n 2, 1) := by decide +kernel
theorem dX5_put__88 : decode cX5_put_ 88 = .ok (.iload_n 3, 1) := by decide +kernel
theorem dX5_put__89 : decode cX5_put_ 89 = .ok (.invokevirtual 130, 3) := by decide +kernel
theorem dX5_put__92 : decode cX5_put_ 92 = .ok (.istore 4, 2) := by decide +kernel
theorem dX5_put__94 : decode cX5_put_ 94 = .ok (.aload_n 0, 1) := by decide +kernel
theorem dX5_put__95 : decode cX5_put_ 95 = .ok (.iload_n 1, 1) := by decide +kernel
theorem dX5_put__96 : decode cX5_put_ 96 = .ok (.iload 4, 2) := by decide +kernel
theorem dX5_put__98 : decode cX5_put_ 98 = .ok (.invokevirtual 133, 3) := by decide +kernel
theorem dX5_put__101 : decode cX5_put_ 101 = .ok (.aload_n 0, 1) := by decide +kernel
theorem dX5_put__102 : decode cX5_put_ 102 = .ok (.getfield 9, 3) := by decide +kernel
theorem dX5_put__105 : decode cX5_put_ 105 = .ok (.iconst 1, 1) := by decide +kernel
theorem dX5_put__106 : decode cX5_put_ 106 = .ok (.dup2, 1) := by decide +kernel
theorem dX5_put__107 : decode cX5_put_ 107 = .ok (.iaload, 1) := by decide +kernel
theorem dX5_put__108 : decode cX5_put_ 108 = .ok (.iconst 1, 1) := by decide +kernel
theorem dX5_put__109 : decode cX5_put_ 109 = .ok (.iadd, 1) := by decide +kernel
theorem dX5_put__110 : decode cX5_put_ 110 = .ok (.iastore, 1) := by decide +kernel
theorem dX5_put__111 : decode cX5_put_ 111 = .ok (.aload_n 0, 1) := by decide +kernel
theorem dX5_put__112 : decode cX5_put_ 112 = .ok (.iload_n 1, 1) := by decide +kernel
theorem dX5_put__113 : decode cX5_put_ 113 = .ok (.aload_n 0, 1) := by decide +kernel
theorem dX5_put__114 : decode cX5_put_ 114 = .ok (.iload_n 1, 1) := by decide +kernel
theorem dX5_put__115 : decode cX5_put_ 115 = .ok (.invokevirtual 124, 3) := by decide +kernel
theorem dX5_put__118 : decode cX5_put_ 118 = .ok (.aload_n 0, 1) := by decide +kernel
theorem dX5_put__119 : decode cX5_put_ 119 = .ok (.iload_n 1, 1) := by decide +kernel
theorem dX5_put__120 : decode cX5_put_ 120 = .ok (.invokevirtual 136, 3) := by decide +kernel
theorem dX5_put__123 : decode cX5_put_ 123 = .ok (.if_icmp .le 11, 3) := by decide +kernel
theorem dX5_put__126 : decode cX5_put_ 126 = .ok (.aload_n 0, 1) := by decide +kernel
theorem dX5_put__127 : decode cX5_put_ 127 = .ok (.iload_n 1, 1) := by decide +kernel
theorem dX5_put__128 : decode cX5_put_ 128 = .ok (.invokevirtual 124, 3) := by decide +kernel
theorem dX5_put__131 : decode cX5_put_ 131 = .ok (.goto 8, 3) := by decide +kernel
theorem dX5_put__134 : decode cX5_put_ 134 = .ok (.aload_n 0, 1) := by decide +kernel
theorem dX5_put__135 : decode cX5_put_ 135 = .ok (.iload_n 1, 1) := by decide +kernel
theorem dX5_put__136 : decode cX5_put_ 136 = .ok (.invokevirtual 136, 3) := by decide +kernel
theorem dX5_put__139 : decode cX5_put_ 139 = .ok (.invokevirtual 104, 3) := by decide +kernel
theorem dX5_put__142 : decode cX5_put_ 142 = .ok (.aload_n 0, 1) := by decide +kernel
theorem dX5_put__143 : decode cX5_put_ 143 = .ok (.iload_n 1, 1) := by decide +kernel
theorem dX5_put__144 : decode cX5_put_ 144 = .ok (.iload 4, 2) := by decide +kernel
theorem dX5_put__146 : decode cX5_put_ 146 = .ok (.invokevirtual 139, 3) := by decide +kernel
theorem dX5_put__149 : decode cX5_put_ 149 = .ok (.aload_n 0, 1) := by decide +kernel
theorem dX5_put__150 : decode cX5_put_ 150 = .ok (.aload_n 0, 1) := by decide +kernel
theorem dX5_put__151 : decode cX5_put_ 151 = .ok (.iload_n 1, 1) := by decide +kernel
theorem dX5_put__152 : decode cX5_put_ 152 = .ok (.invokevirtual 124, 3) := by decide +kernel
theorem dX5_put__155 : decode cX5_put_ 155 = .ok (.invokevirtual 142, 3) := by decide +kernel
theorem dX5_put__158 : decode cX5_put_ 158 = .ok (.if_icmp .le 13, 3) := by decide +kernel
theorem dX5_put__161 : decode cX5_put_ 161 = .ok (.aload_n 0, 1) := by decide +kernel
theorem dX5_put__162 : decode cX5_put_ 162 = .ok (.iload_n 1, 1) := by decide +kernel
theorem dX5_put__163 : decode cX5_put_ 163 = .ok (.iload 4, 2) := by decide +kernel
theorem dX5_put__165 : decode cX5_put_ 165 = .ok (.invokevirtual 77, 3) := by decide +kernel
theorem dX5_put__168 : decode cX5_put_ 168 = .ok (.goto 4, 3) := by decide +kernel
theorem dX5_put__171 : decode cX5_put_ 171 = .ok (.iconst (-1), 1) := by decide +kernel
theorem dX5_put__172 : decode cX5_put_ 172 = .ok (.istore 5, 2) := by decide +kernel
theorem dX5_put__174 : decode cX5_put_ 174 = .ok (.iload 5, 2) := by decide +kernel
theorem dX5_put__176 : decode cX5_put_ 176 = .ok (.ifCond .lt 25, 3) := by decide +kernel
theorem dX5_put__179 : decode cX5_put_ 179 = .ok (.aload_n 0, 1) := by decide +kernel
theorem dX5_put__180 : decode cX5_put_ 180 = .ok (.iload_n 1, 1) := by decide +kernel
theorem dX5_put__181 : decode cX5_put_ 181 = .ok (.iload 5, 2) := by decide +kernel
theorem dX5_put__183 : decode cX5_put_ 183 = .ok (.invokevirtual 145, 3) := by decide +kernel
theorem dX5_put__186 : decode cX5_put_ 186 = .ok (.ifCond .ne 15, 3) := by decide +kernel
theorem dX5_put__189 : decode cX5_put_ 189 = .ok (.aload_n 0, 1) := by decide +kernel
theorem dX5_put__190 : decode cX5_put_ 190 = .ok (.iload_n 1, 1) := by decide +kernel
theorem dX5_put__191 : decode cX5_put_ 191 = .ok (.iload 5, 2) := by decide +kernel
theorem dX5_put__193 : decode cX5_put_ 193 = .ok (.invokevirtual 77, 3) := by decide +kernel
theorem dX5_put__196 : decode cX5_put_ 196 = .ok (.istore 5, 2) := by decide +kernel
theorem dX5_put__198 : decode cX5_put_ 198 = .ok (.goto (-24), 3) := by decide +kernel
theorem dX5_put__201 : decode cX5_put_ 201 = .ok (.iload 5, 2) := by decide +kernel
theorem dX5_put__203 : decode cX5_put_ 203 = .ok (.ifCond .ge 5, 3) := by decide +kernel
theorem dX5_put__206 : decode cX5_put_ 206 = .ok (.iconst 0, 1) := by decide +kernel
theorem dX5_put__207 : decode cX5_put_ 207 = .ok (.ireturn, 1) := by decide +kernel
theorem dX5_put__208 : decode cX5_put_ 208 = .ok (.aload_n 0, 1) := by decide +kernel
theorem dX5_put__209 : decode cX5_put_ 209 = .ok (.iload_n 1, 1) := by decide +kernel
theorem dX5_put__210 : decode cX5_put_ 210 = .ok (.iload 5, 2) := by decide +kernel
theorem dX5_put__212 : decode cX5_put_ 212 = .ok (.invokevirtual 66, 3) := by decide +kernel
theorem dX5_put__215 : decode cX5_put_ 215 = .ok (.istore 6, 2) := by decide +kernel
theorem dX5_put__217 : decode cX5_put_ 217 = .ok (.aload_n 0, 1) := by decide +kernel
theorem dX5_put__218 : decode cX5_put_ 218 = .ok (.iload_n 1, 1) := by decide +kernel
theorem dX5_put__219 : decode cX5_put_ 219 = .ok (.iload 5, 2) := by decide +kernel
theorem dX5_put__221 : decode cX5_put_ 221 = .ok (.invokevirtual 149, 3) := by decide +kernel
theorem dX5_put__224 : decode cX5_put_ 224 = .ok (.aload_n 0, 1) := by decide +kernel
theorem dX5_put__225 : decode cX5_put_ 225 = .ok (.getfield 9, 3) := by decide +kernel
theorem dX5_put__228 : decode cX5_put_ 228 = .ok (.iconst 3, 1) := by decide +kernel
theorem dX5_put__229 : decode cX5_put_ 229 = .ok (.dup2, 1) := by decide +kernel
theorem dX5_put__230 : decode cX5_put_ 230 = .ok (.iaload, 1) := by decide +kernel
theorem dX5_put__231 : decode cX5_put_ 231 = .ok (.iconst 1, 1) := by decide +kernel
theorem dX5_put__232 : decode cX5_put_ 232 = .ok (.iadd, 1) := by decide +kernel
theorem dX5_put__233 : decode cX5_put_ 233 = .ok (.iastore, 1) := by decide +kernel
theorem dX5_put__234 : decode cX5_put_ 234 = .ok (.iload 6, 2) := by decide +kernel
theorem dX5_put__236 : decode cX5_put_ 236 = .ok (.ireturn, 1) := by decide +kernel
theorem dX5_unhang_0 : decode cX5_unhang 0 = .ok (.aload_n 0, 1) := by decide +kernel
theorem dX5_unhang_1 : decode cX5_unhang 1 = .ok (.iload_n 1, 1) := by decide +kernel
theorem dX5_unhang_2 : decode cX5_unhang 2 = .ok (.iload_n 2, 1) := by decide +kernel
theorem dX5_unhang_3 : decode cX5_unhang 3 = .ok (.iconst 2, 1) := by decide +kernel
theorem dX5_unhang_4 : decode cX5_unhang 4 = .ok (.invokevirtual 62, 3) := by decide +kernel
theorem dX5_unhang_7 : decode cX5_unhang 7 = .ok (.ifCond .lt 13, 3) := by decide +kernel
theorem dX5_unhang_10 : decode cX5_unhang 10 = .ok (.aload_n 0, 1) := by decide +kernel
theorem dX5_unhang_11 : decode cX5_unhang 11 = .ok (.iload_n 1, 1) := by decide +kernel
theorem dX5_unhang_12 : decode cX5_unhang 12 = .ok (.iload_n 2, 1) := by decide +kernel
theorem dX5_unhang_13 : decode cX5_unhang 13 = .ok (.iconst 2, 1) := by decide +kernel
theorem dX5_unhang_14 : decode cX5_unhang 14 = .ok (.invokevirtual 62, 3) := by decide +kernel
theorem dX5_unhang_17 : decode cX5_unhang 17 = .ok (.goto 10, 3) := by decide +kernel
theorem dX5_unhang_20 : decode cX5_unhang 20 = .ok (.aload_n 0, 1) := by decide +kernel
theorem dX5_unhang_21 : decode cX5_unhang 21 = .ok (.iload_n 1, 1) := by decide +kernel
theorem dX5_unhang_22 : decode cX5_unhang 22 = .ok (.iload_n 2, 1) := by decide +kernel
theorem dX5_unhang_23 : decode cX5_unhang 23 = .ok (.iconst 3, 1) := by decide +kernel
theorem dX5_unhang_24 : decode cX5_unhang 24 = .ok (.invokevirtual 62, 3) := by decide +kernel
theorem dX5_unhang_27 : decode cX5_unhang 27 = .ok (.istore_n 3, 1) := by decide +kernel
theorem dX5_unhang_28 : decode cX5_unhang 28 = .ok (.aload_n 0, 1) := by decide +kernel
theorem dX5_unhang_29 : decode cX5_unhang 29 = .ok (.iload_n 1, 1) := by decide +kernel
theorem dX5_unhang_30 : decode cX5_unhang 30 = .ok (.aload_n 0, 1) := by decide +kernel
theorem dX5_unhang_31 : decode cX5_unhang 31 = .ok (.iload_n 1, 1) := by decide +kernel
theorem dX5_unhang_32 : decode cX5_unhang 32 = .ok (.iload_n 2, 1) := by decide +kernel
theorem dX5_unhang_33 : decode cX5_unhang 33 = .ok (.invokevirtual 77, 3) := by decide +kernel
theorem dX5_unhang_36 : decode cX5_unhang 36 = .ok (.iload_n 2, 1) := by decide +kernel
theorem dX5_unhang_37 : decode cX5_unhang 37 = .ok (.iload_n 3, 1) := by decide +kernel
theorem dX5_unhang_38 : decode cX5_unhang 38 = .ok (.invokevirtual 97, 3) := by decide +kernel
theorem dX5_unhang_41 : decode cX5_unhang 41 = .ok (.return_, 1) := by decide +kernel
theorem dX5_takeOut_0 : decode cX5_takeOut 0 = .ok (.aload_n 0, 1) := by decide +kernel
theorem dX5_takeOut_1 : decode cX5_takeOut 1 = .ok (.iload_n 1, 1) := by decide +kernel
theorem dX5_takeOut_2 : decode cX5_takeOut 2 = .ok (.iload_n 2, 1) := by decide +kernel
theorem dX5_takeOut_3 : decode cX5_takeOut 3 = .ok (.iconst 2, 1) := by decide +kernel
theorem dX5_takeOut_4 : decode cX5_takeOut 4 = .ok (.invokevirtual 62, 3) := by decide +kernel
theorem dX5_takeOut_7 : decode cX5_takeOut 7 = .ok (.ifCond .lt 13, 3) := by decide +kernel
theorem dX5_takeOut_10 : decode cX5_takeOut 10 = .ok (.aload_n 0, 1) := by decide +kernel
theorem dX5_takeOut_11 : decode cX5_takeOut 11 = .ok (.iload_n 1, 1) := by decide +kernel
theorem dX5_takeOut_12 : decode cX5_takeOut 12 = .ok (.iload_n 2, 1) := by decide +kernel
theorem dX5_takeOut_13 : decode cX5_takeOut 13 = .ok (.iconst 3, 1) := by decide +kernel
theorem dX5_takeOut_14 : decode cX5_takeOut 14 = .ok (.invokevirtual 62, 3) := by decide +kernel
theorem dX5_takeOut_17 : decode cX5_takeOut 17 = .ok (.ifCond .ge 10, 3) := by decide +kernel
theorem dX5_takeOut_20 : decode cX5_takeOut 20 = .ok (.aload_n 0, 1) := by decide +kernel
theorem dX5_takeOut_21 : decode cX5_takeOut 21 = .ok (.iload_n 1, 1) := by decide +kernel
theorem dX5_takeOut_22 : decode cX5_takeOut 22 = .ok (.iload_n 2, 1) := by decide +kernel
theorem dX5_takeOut_23 : decode cX5_takeOut 23 = .ok (.invokevirtual 152, 3) := by decide +kernel
theorem dX5_takeOut_26 : decode cX5_takeOut 26 = .ok (.return_, 1) := by decide +kernel
theorem dX5_takeOut_27 : decode cX5_takeOut 27 = .ok (.aload_n 0, 1) := by decide +kernel
theorem dX5_takeOut_28 : decode cX5_takeOut 28 = .ok (.iload_n 1, 1) := by decide +kernel
theorem dX5_takeOut_29 : decode cX5_takeOut 29 = .ok (.iload_n 2, 1) := by decide +kernel
theorem dX5_takeOut_30 : decode cX5_takeOut 30 = .ok (.iconst 3, 1) := by decide +kernel
theorem dX5_takeOut_31 : decode cX5_takeOut 31 = .ok (.invokevirtual 62, 3) := by decide +kernel
theorem dX5_takeOut_34 : decode cX5_takeOut 34 = .ok (.istore_n 3, 1) := by decide +kernel
theorem dX5_takeOut_35 : decode cX5_takeOut 35 = .ok (.aload_n 0, 1) := by decide +kernel
theorem dX5_takeOut_36 : decode cX5_takeOut 36 = .ok (.iload_n 1, 1) := by decide +kernel
theorem dX5_takeOut_37 : decode cX5_takeOut 37 = .ok (.iload_n 3, 1) := by decide +kernel
theorem dX5_takeOut_38 : decode cX5_takeOut 38 = .ok (.iconst 2, 1) := by decide +kernel
theorem dX5_takeOut_39 : decode cX5_takeOut 39 = .ok (.invokevirtual 62, 3) := by decide +kernel
theorem dX5_takeOut_42 : decode cX5_takeOut 42 = .ok (.ifCond .lt 14, 3) := by decide +kernel
theorem dX5_takeOut_45 : decode cX5_takeOut 45 = .ok (.aload_n 0, 1) := by decide +kernel
theorem dX5_takeOut_46 : decode cX5_takeOut 46 = .ok (.iload_n 1, 1) := by decide +kernel
theorem dX5_takeOut_47 : decode cX5_takeOut 47 = .ok (.iload_n 3, 1) := by decide +kernel
theorem dX5_takeOut_48 : decode cX5_takeOut 48 = .ok (.iconst 2, 1) := by decide +kernel
theorem dX5_takeOut_49 : decode cX5_takeOut 49 = .ok (.invokevirtual 62, 3) := by decide +kernel
theorem dX5_takeOut_52 : decode cX5_takeOut 52 = .ok (.istore_n 3, 1) := by decide +kernel
theorem dX5_takeOut_53 : decode cX5_takeOut 53 = .ok (.goto (-18), 3) := by decide +kernel
theorem dX5_takeOut_56 : decode cX5_takeOut 56 = .ok (.aload_n 0, 1) := by decide +kernel
theorem dX5_takeOut_57 : decode cX5_takeOut 57 = .ok (.iload_n 1, 1) := by decide +kernel
theorem dX5_takeOut_58 : decode cX5_takeOut 58 = .ok (.iload_n 3, 1) := by decide +kernel
theorem dX5_takeOut_59 : decode cX5_takeOut 59 = .ok (.invokevirtual 152, 3) := by decide +kernel
theorem dX5_takeOut_62 : decode cX5_takeOut 62 = .ok (.aload_n 0, 1) := by decide +kernel
theorem dX5_takeOut_63 : decode cX5_takeOut 63 = .ok (.iload_n 1, 1) := by decide +kernel
theorem dX5_takeOut_64 : decode cX5_takeOut 64 = .ok (.iload_n 2, 1) := by decide +kernel
theorem dX5_takeOut_65 : decode cX5_takeOut 65 = .ok (.invokevirtual 77, 3) := by decide +kernel
theorem dX5_takeOut_68 : decode cX5_takeOut 68 = .ok (.istore 4, 2) := by decide +kernel
theorem dX5_takeOut_70 : decode cX5_takeOut 70 = .ok (.aload_n 0, 1) := by decide +kernel
theorem dX5_takeOut_71 : decode cX5_takeOut 71 = .ok (.iload_n 1, 1) := by decide +kernel
theorem dX5_takeOut_72 : decode cX5_takeOut 72 = .ok (.iload_n 3, 1) := by decide +kernel
theorem dX5_takeOut_73 : decode cX5_takeOut 73 = .ok (.iconst 2, 1) := by decide +kernel
theorem dX5_takeOut_74 : decode cX5_takeOut 74 = .ok (.aload_n 0, 1) := by decide +kernel
theorem dX5_takeOut_75 : decode cX5_takeOut 75 = .ok (.iload_n 1, 1) := by decide +kernel
theorem dX5_takeOut_76 : decode cX5_takeOut 76 = .ok (.iload_n 2, 1) := by decide +kernel
theorem dX5_takeOut_77 : decode cX5_takeOut 77 = .ok (.iconst 2, 1) := by decide +kernel
theorem dX5_takeOut_78 : decode cX5_takeOut 78 = .ok (.invokevirtual 62, 3) := by decide +kernel
theorem dX5_takeOut_81 : decode cX5_takeOut 81 = .ok (.invokevirtual 90, 3) := by decide +kernel
theorem dX5_takeOut_84 : decode cX5_takeOut 84 = .ok (.aload_n 0, 1) := by decide +kernel
theorem dX5_takeOut_85 : decode cX5_takeOut 85 = .ok (.iload_n 1, 1) := by decide +kernel
theorem dX5_takeOut_86 : decode cX5_takeOut 86 = .ok (.iload_n 3, 1) := by decide +kernel
theorem dX5_takeOut_87 : decode cX5_takeOut 87 = .ok (.iconst 3, 1) := by decide +kernel
theorem dX5_takeOut_88 : decode cX5_takeOut 88 = .ok (.aload_n 0, 1) := by decide +kernel
theorem dX5_takeOut_89 : decode cX5_takeOut 89 = .ok (.iload_n 1, 1) := by decide +kernel
theorem dX5_takeOut_90 : decode cX5_takeOut 90 = .ok (.iload_n 2, 1) := by decide +kernel
theorem dX5_takeOut_91 : decode cX5_takeOut 91 = .ok (.iconst 3, 1) := by decide +kernel
theorem dX5_takeOut_92 : decode cX5_takeOut 92 = .ok (.invokevirtual 62, 3) := by decide +kernel
theorem dX5_takeOut_95 : decode cX5_takeOut 95 = .ok (.invokevirtual 90, 3) := by decide +kernel
theorem dX5_takeOut_98 : decode cX5_takeOut 98 = .ok (.aload_n 0, 1) := by decide +kernel
theorem dX5_takeOut_99 : decode cX5_takeOut 99 = .ok (.iload_n 1, 1) := by decide +kernel
theorem dX5_takeOut_100 : decode cX5_takeOut 100 = .ok (.iload 4, 2) := by decide +kernel
theorem dX5_takeOut_102 : decode cX5_takeOut 102 = .ok (.iload_n 2, 1) := by decide +kernel
theorem dX5_takeOut_103 : decode cX5_takeOut 103 = .ok (.iload_n 3, 1) := by decide +kernel
theorem dX5_takeOut_104 : decode cX5_takeOut 104 = .ok (.invokevirtual 97, 3) := by decide +kernel
theorem dX5_takeOut_107 : decode cX5_takeOut 107 = .ok (.return_, 1) := by decide +kernel
theorem dX5_clear_0 : decode cX5_clear 0 = .ok (.aload_n 0, 1) := by decide +kernel
theorem dX5_clear_1 : decode cX5_clear 1 = .ok (.iload_n 1, 1) := by decide +kernel
theorem dX5_clear_2 : decode cX5_clear 2 = .ok (.iload_n 2, 1) := by decide +kernel
theorem dX5_clear_3 : decode cX5_clear 3 = .ok (.iconst 0, 1) := by decide +kernel
theorem dX5_clear_4 : decode cX5_clear 4 = .ok (.iconst (-1), 1) := by decide +kernel
theorem dX5_clear_5 : decode cX5_clear 5 = .ok (.invokevirtual 90, 3) := by decide +kernel
theorem dX5_clear_8 : decode cX5_clear 8 = .ok (.aload_n 0, 1) := by decide +kernel
theorem dX5_clear_9 : decode cX5_clear 9 = .ok (.iload_n 1, 1) := by decide +kernel
theorem dX5_clear_10 : decode cX5_clear 10 = .ok (.iload_n 2, 1) := by decide +kernel
theorem dX5_clear_11 : decode cX5_clear 11 = .ok (.iconst 1, 1) := by decide +kernel
theorem dX5_clear_12 : decode cX5_clear 12 = .ok (.iconst 0, 1) := by decide +kernel
theorem dX5_clear_13 : decode cX5_clear 13 = .ok (.invokevirtual 90, 3) := by decide +kernel
theorem dX5_clear_16 : decode cX5_clear 16 = .ok (.aload_n 0, 1) := by decide +kernel
theorem dX5_clear_17 : decode cX5_clear 17 = .ok (.iload_n 1, 1) := by decide +kernel
theorem dX5_clear_18 : decode cX5_clear 18 = .ok (.iload_n 2, 1) := by decide +kernel
theorem dX5_clear_19 : decode cX5_clear 19 = .ok (.iconst 2, 1) := by decide +kernel
theorem dX5_clear_20 : decode cX5_clear 20 = .ok (.iconst (-1), 1) := by decide +kernel
theorem dX5_clear_21 : decode cX5_clear 21 = .ok (.invokevirtual 90, 3) := by decide +kernel
theorem dX5_clear_24 : decode cX5_clear 24 = .ok (.aload_n 0, 1) := by decide +kernel
theorem dX5_clear_25 : decode cX5_clear 25 = .ok (.iload_n 1, 1) := by decide +kernel
theorem dX5_clear_26 : decode cX5_clear 26 = .ok (.iload_n 2, 1) := by decide +kernel
theorem dX5_clear_27 : decode cX5_clear 27 = .ok (.iconst 3, 1) := by decide +kernel
theorem dX5_clear_28 : decode cX5_clear 28 = .ok (.iconst (-1), 1) := by decide +kernel
theorem dX5_clear_29 : decode cX5_clear 29 = .ok (.invokevirtual 90, 3) := by decide +kernel
theorem dX5_clear_32 : decode cX5_clear 32 = .ok (.return_, 1) := by decide +kernel
theorem dX5_take_0 : decode cX5_take 0 = .ok (.iload_n 1, 1) := by decide +kernel
theorem dX5_take_1 : decode cX5_take 1 = .ok (.invokestatic 110, 3) := by decide +kernel
theorem dX5_take_4 : decode cX5_take 4 = .ok (.ifCond .eq 12, 3) := by decide +kernel
theorem dX5_take_7 : decode cX5_take 7 = .ok (.aload_n 0, 1) := by decide +kernel
theorem dX5_take_8 : decode cX5_take 8 = .ok (.iload_n 1, 1) := by decide +kernel
theorem dX5_take_9 : decode cX5_take 9 = .ok (.iload_n 2, 1) := by decide +kernel
theorem dX5_take_10 : decode cX5_take 10 = .ok (.invokevirtual 117, 3) := by decide +kernel
theorem dX5_take_13 : decode cX5_take 13 = .ok (.ifCond .ge 6, 3) := by decide +kernel
theorem dX5_take_16 : decode cX5_take 16 = .ok (.bipush (-11), 2) := by decide +kernel
theorem dX5_take_18 : decode cX5_take 18 = .ok (.ireturn, 1) := by decide +kernel
theorem dX5_take_19 : decode cX5_take 19 = .ok (.aload_n 0, 1) := by decide +kernel
theorem dX5_take_20 : decode cX5_take 20 = .ok (.invokevirtual 127, 3) := by decide +kernel
theorem dX5_take_23 : decode cX5_take 23 = .ok (.aload_n 0, 1) := by decide +kernel
theorem dX5_take_24 : decode cX5_take 24 = .ok (.iload_n 1, 1) := by decide +kernel
theorem dX5_take_25 : decode cX5_take 25 = .ok (.iload_n 2, 1) := by decide +kernel
theorem dX5_take_26 : decode cX5_take 26 = .ok (.invokevirtual 117, 3) := by decide +kernel
theorem dX5_take_29 : decode cX5_take 29 = .ok (.istore_n 3, 1) := by decide +kernel
theorem dX5_take_30 : decode cX5_take 30 = .ok (.aload_n 0, 1) := by decide +kernel
theorem dX5_take_31 : decode cX5_take 31 = .ok (.iload_n 1, 1) := by decide +kernel
theorem dX5_take_32 : decode cX5_take 32 = .ok (.iload_n 3, 1) := by decide +kernel
theorem dX5_take_33 : decode cX5_take 33 = .ok (.iconst 1, 1) := by decide +kernel
theorem dX5_take_34 : decode cX5_take 34 = .ok (.invokevirtual 62, 3) := by decide +kernel
theorem dX5_take_37 : decode cX5_take 37 = .ok (.istore 4, 2) := by decide +kernel
theorem dX5_take_39 : decode cX5_take 39 = .ok (.aload_n 0, 1) := by decide +kernel
theorem dX5_take_40 : decode cX5_take 40 = .ok (.iload_n 1, 1) := by decide +kernel
theorem dX5_take_41 : decode cX5_take 41 = .ok (.iload_n 3, 1) := by decide +kernel
theorem dX5_take_42 : decode cX5_take 42 = .ok (.invokevirtual 155, 3) := by decide +kernel
theorem dX5_take_45 : decode cX5_take 45 = .ok (.aload_n 0, 1) := by decide +kernel
theorem dX5_take_46 : decode cX5_take 46 = .ok (.iload_n 1, 1) := by decide +kernel
theorem dX5_take_47 : decode cX5_take 47 = .ok (.iload_n 3, 1) := by decide +kernel
theorem dX5_take_48 : decode cX5_take 48 = .ok (.invokevirtual 158, 3) := by decide +kernel
theorem dX5_take_51 : decode cX5_take 51 = .ok (.aload_n 0, 1) := by decide +kernel
theorem dX5_take_52 : decode cX5_take 52 = .ok (.getfield 9, 3) := by decide +kernel
theorem dX5_take_55 : decode cX5_take 55 = .ok (.iconst 2, 1) := by decide +kernel
theorem dX5_take_56 : decode cX5_take 56 = .ok (.dup2, 1) := by decide +kernel
theorem dX5_take_57 : decode cX5_take 57 = .ok (.iaload, 1) := by decide +kernel
theorem dX5_take_58 : decode cX5_take 58 = .ok (.iconst 1, 1) := by decide +kernel
theorem dX5_take_59 : decode cX5_take 59 = .ok (.iadd, 1) := by decide +kernel
theorem dX5_take_60 : decode cX5_take 60 = .ok (.iastore, 1) := by decide +kernel
theorem dX5_take_61 : decode cX5_take 61 = .ok (.bipush 100, 2) := by decide +kernel
theorem dX5_take_63 : decode cX5_take 63 = .ok (.aload_n 0, 1) := by decide +kernel
theorem dX5_take_64 : decode cX5_take 64 = .ok (.iload_n 1, 1) := by decide +kernel
theorem dX5_take_65 : decode cX5_take 65 = .ok (.invokevirtual 124, 3) := by decide +kernel
theorem dX5_take_68 : decode cX5_take 68 = .ok (.imul, 1) := by decide +kernel
theorem dX5_take_69 : decode cX5_take 69 = .ok (.aload_n 0, 1) := by decide +kernel
theorem dX5_take_70 : decode cX5_take 70 = .ok (.getfield 9, 3) := by decide +kernel
theorem dX5_take_73 : decode cX5_take 73 = .ok (.iconst 0, 1) := by decide +kernel
theorem dX5_take_74 : decode cX5_take 74 = .ok (.iaload, 1) := by decide +kernel
theorem dX5_take_75 : decode cX5_take 75 = .ok (.aload_n 0, 1) := by decide +kernel
theorem dX5_take_76 : decode cX5_take 76 = .ok (.iload_n 1, 1) := by decide +kernel
theorem dX5_take_77 : decode cX5_take 77 = .ok (.invokevirtual 136, 3) := by decide +kernel
theorem dX5_take_80 : decode cX5_take 80 = .ok (.imul, 1) := by decide +kernel
theorem dX5_take_81 : decode cX5_take 81 = .ok (.if_icmp .ge 8, 3) := by decide +kernel
theorem dX5_take_84 : decode cX5_take 84 = .ok (.aload_n 0, 1) := by decide +kernel
theorem dX5_take_85 : decode cX5_take 85 = .ok (.iload_n 1, 1) := by decide +kernel
theorem dX5_take_86 : decode cX5_take 86 = .ok (.invokevirtual 161, 3) := by decide +kernel
theorem dX5_take_89 : decode cX5_take 89 = .ok (.iload 4, 2) := by decide +kernel
theorem dX5_take_91 : decode cX5_take 91 = .ok (.ireturn, 1) := by decide +kernel
theorem dX5_build_0 : decode cX5_build 0 = .ok (.iload_n 1, 1) := by decide +kernel
theorem dX5_build_1 : decode cX5_build 1 = .ok (.invokestatic 110, 3) := by decide +kernel
theorem dX5_build_4 : decode cX5_build 4 = .ok (.ifCond .ne 6, 3) := by decide +kernel
theorem dX5_build_7 : decode cX5_build 7 = .ok (.bipush (-11), 2) := by decide +kernel
theorem dX5_build_9 : decode cX5_build 9 = .ok (.ireturn, 1) := by decide +kernel
theorem dX5_build_10 : decode cX5_build 10 = .ok (.aload_n 0, 1) := by decide +kernel
theorem dX5_build_11 : decode cX5_build 11 = .ok (.aload_n 0, 1) := by decide +kernel
theorem dX5_build_12 : decode cX5_build 12 = .ok (.iload_n 1, 1) := by decide +kernel
theorem dX5_build_13 : decode cX5_build 13 = .ok (.invokevirtual 124, 3) := by decide +kernel
theorem dX5_build_16 : decode cX5_build 16 = .ok (.ifCond .ne 7, 3) := by decide +kernel
theorem dX5_build_19 : decode cX5_build 19 = .ok (.iconst 1, 1) := by decide +kernel
theorem dX5_build_20 : decode cX5_build 20 = .ok (.goto 4, 3) := by decide +kernel
theorem dX5_build_23 : decode cX5_build 23 = .ok (.iconst 0, 1) := by decide +kernel
theorem dX5_build_24 : decode cX5_build 24 = .ok (.iconst 5, 1) := by decide +kernel
theorem dX5_build_25 : decode cX5_build 25 = .ok (.iload_n 1, 1) := by decide +kernel
theorem dX5_build_26 : decode cX5_build 26 = .ok (.invokevirtual 120, 3) := by decide +kernel
theorem dX5_build_29 : decode cX5_build 29 = .ok (.ifCond .eq 6, 3) := by decide +kernel
theorem dX5_build_32 : decode cX5_build 32 = .ok (.bipush (-14), 2) := by decide +kernel
theorem dX5_build_34 : decode cX5_build 34 = .ok (.ireturn, 1) := by decide +kernel
theorem dX5_build_35 : decode cX5_build 35 = .ok (.aload_n 0, 1) := by decide +kernel
theorem dX5_build_36 : decode cX5_build 36 = .ok (.invokevirtual 127, 3) := by decide +kernel
theorem dX5_build_39 : decode cX5_build 39 = .ok (.aload_n 0, 1) := by decide +kernel
theorem dX5_build_40 : decode cX5_build 40 = .ok (.iload_n 1, 1) := by decide +kernel
theorem dX5_build_41 : decode cX5_build 41 = .ok (.invokevirtual 100, 3) := by decide +kernel
theorem dX5_build_44 : decode cX5_build 44 = .ok (.iconst 0, 1) := by decide +kernel
theorem dX5_build_45 : decode cX5_build 45 = .ok (.istore_n 2, 1) := by decide +kernel
theorem dX5_build_46 : decode cX5_build 46 = .ok (.iload_n 2, 1) := by decide +kernel
theorem dX5_build_47 : decode cX5_build 47 = .ok (.aload_n 0, 1) := by decide +kernel
theorem dX5_build_48 : decode cX5_build 48 = .ok (.getfield 84, 3) := by decide +kernel
theorem dX5_build_51 : decode cX5_build 51 = .ok (.if_icmp .ge 31, 3) := by decide +kernel
theorem dX5_build_54 : decode cX5_build 54 = .ok (.aload_n 0, 1) := by decide +kernel
theorem dX5_build_55 : decode cX5_build 55 = .ok (.getfield 27, 3) := by decide +kernel
theorem dX5_build_58 : decode cX5_build 58 = .ok (.aload_n 0, 1) := by decide +kernel
theorem dX5_build_59 : decode cX5_build 59 = .ok (.getfield 24, 3) := by decide +kernel
theorem dX5_build_62 : decode cX5_build 62 = .ok (.iload_n 2, 1) := by decide +kernel
theorem dX5_build_63 : decode cX5_build 63 = .ok (.iaload, 1) := by decide +kernel
theorem dX5_build_64 : decode cX5_build 64 = .ok (.aload_n 0, 1) := by decide +kernel
theorem dX5_build_65 : decode cX5_build 65 = .ok (.iload_n 1, 1) := by decide +kernel
theorem dX5_build_66 : decode cX5_build 66 = .ok (.aload_n 0, 1) := by decide +kernel
theorem dX5_build_67 : decode cX5_build 67 = .ok (.getfield 24, 3) := by decide +kernel
theorem dX5_build_70 : decode cX5_build 70 = .ok (.iload_n 2, 1) := by decide +kernel
theorem dX5_build_71 : decode cX5_build 71 = .ok (.iaload, 1) := by decide +kernel
theorem dX5_build_72 : decode cX5_build 72 = .ok (.invokevirtual 139, 3) := by decide +kernel
theorem dX5_build_75 : decode cX5_build 75 = .ok (.iastore, 1) := by decide +kernel
theorem dX5_build_76 : decode cX5_build 76 = .ok (.iinc 2 1, 3) := by decide +kernel
theorem dX5_build_79 : decode cX5_build 79 = .ok (.goto (-33), 3) := by decide +kernel
theorem dX5_build_82 : decode cX5_build 82 = .ok (.aload_n 0, 1) := by decide +kernel
theorem dX5_build_83 : decode cX5_build 83 = .ok (.iload_n 1, 1) := by decide +kernel
theorem dX5_build_84 : decode cX5_build 84 = .ok (.invokevirtual 161, 3) := by decide +kernel
theorem dX5_build_87 : decode cX5_build 87 = .ok (.iconst 0, 1) := by decide +kernel
theorem dX5_build_88 : decode cX5_build 88 = .ok (.istore_n 2, 1) := by decide +kernel
theorem dX5_build_89 : decode cX5_build 89 = .ok (.iconst 0, 1) := by decide +kernel
theorem dX5_build_90 : decode cX5_build 90 = .ok (.istore_n 3, 1) := by decide +kernel
theorem dX5_build_91 : decode cX5_build 91 = .ok (.iload_n 3, 1) := by decide +kernel
theorem dX5_build_92 : decode cX5_build 92 = .ok (.aload_n 0, 1) := by decide +kernel
theorem dX5_build_93 : decode cX5_build 93 = .ok (.getfield 84, 3) := by decide +kernel
theorem dX5_build_96 : decode cX5_build 96 = .ok (.if_icmp .ge 42, 3) := by decide +kernel
theorem dX5_build_99 : decode cX5_build 99 = .ok (.iload_n 2, 1) := by decide +kernel
theorem dX5_build_100 : decode cX5_build 100 = .ok (.aload_n 0, 1) := by decide +kernel
theorem dX5_build_101 : decode cX5_build 101 = .ok (.getfield 27, 3) := by decide +kernel
theorem dX5_build_104 : decode cX5_build 104 = .ok (.aload_n 0, 1) := by decide +kernel
theorem dX5_build_105 : decode cX5_build 105 = .ok (.getfield 24, 3) := by decide +kernel
theorem dX5_build_108 : decode cX5_build 108 = .ok (.iload_n 3, 1) := by decide +kernel
theorem dX5_build_109 : decode cX5_build 109 = .ok (.iaload, 1) := by decide +kernel
theorem dX5_build_110 : decode cX5_build 110 = .ok (.iaload, 1) := by decide +kernel
theorem dX5_build_111 : decode cX5_build 111 = .ok (.aload_n 0, 1) := by decide +kernel
theorem dX5_build_112 : decode cX5_build 112 = .ok (.iload_n 1, 1) := by decide +kernel
theorem dX5_build_113 : decode cX5_build 113 = .ok (.aload_n 0, 1) := by decide +kernel
theorem dX5_build_114 : decode cX5_build 114 = .ok (.getfield 24, 3) := by decide +kernel
theorem dX5_build_117 : decode cX5_build 117 = .ok (.iload_n 3, 1) := by decide +kernel
theorem dX5_build_118 : decode cX5_build 118 = .ok (.iaload, 1) := by decide +kernel
theorem dX5_build_119 : decode cX5_build 119 = .ok (.invokevirtual 139, 3) := by decide +kernel
theorem dX5_build_122 : decode cX5_build 122 = .ok (.if_icmp .eq 7, 3) := by decide +kernel
theorem dX5_build_125 : decode cX5_build 125 = .ok (.iconst 1, 1) := by decide +kernel
theorem dX5_build_126 : decode cX5_build 126 = .ok (.goto 4, 3) := by decide +kernel
theorem dX5_build_129 : decode cX5_build 129 = .ok (.iconst 0, 1) := by decide +kernel
theorem dX5_build_130 : decode cX5_build 130 = .ok (.iadd, 1) := by decide +kernel
theorem dX5_build_131 : decode cX5_build 131 = .ok (.istore_n 2, 1) := by decide +kernel
theorem dX5_build_132 : decode cX5_build 132 = .ok (.iinc 3 1, 3) := by decide +kernel
theorem dX5_build_135 : decode cX5_build 135 = .ok (.goto (-44), 3) := by decide +kernel
theorem dX5_build_138 : decode cX5_build 138 = .ok (.iload_n 2, 1) := by decide +kernel
theorem dX5_build_139 : decode cX5_build 139 = .ok (.ireturn, 1) := by decide +kernel
theorem dX5_common_0 : decode cX5_common 0 = .ok (.aload_n 0, 1) := by decide +kernel
theorem dX5_common_1 : decode cX5_common 1 = .ok (.iload_n 1, 1) := by decide +kernel
theorem dX5_common_2 : decode cX5_common 2 = .ok (.invokevirtual 100, 3) := by decide +kernel
theorem dX5_common_5 : decode cX5_common 5 = .ok (.iconst 0, 1) := by decide +kernel
theorem dX5_common_6 : decode cX5_common 6 = .ok (.istore_n 3, 1) := by decide +kernel
theorem dX5_common_7 : decode cX5_common 7 = .ok (.iload_n 3, 1) := by decide +kernel
theorem dX5_common_8 : decode cX5_common 8 = .ok (.aload_n 0, 1) := by decide +kernel
theorem dX5_common_9 : decode cX5_common 9 = .ok (.getfield 84, 3) := by decide +kernel
theorem dX5_common_12 : decode cX5_common 12 = .ok (.if_icmp .ge 42, 3) := by decide +kernel
theorem dX5_common_15 : decode cX5_common 15 = .ok (.aload_n 0, 1) := by decide +kernel
theorem dX5_common_16 : decode cX5_common 16 = .ok (.iload_n 2, 1) := by decide +kernel
theorem dX5_common_17 : decode cX5_common 17 = .ok (.aload_n 0, 1) := by decide +kernel
theorem dX5_common_18 : decode cX5_common 18 = .ok (.iload_n 1, 1) := by decide +kernel
theorem dX5_common_19 : decode cX5_common 19 = .ok (.aload_n 0, 1) := by decide +kernel
theorem dX5_common_20 : decode cX5_common 20 = .ok (.getfield 24, 3) := by decide +kernel
theorem dX5_common_23 : decode cX5_common 23 = .ok (.iload_n 3, 1) := by decide +kernel
theorem dX5_common_24 : decode cX5_common 24 = .ok (.iaload, 1) := by decide +kernel
theorem dX5_common_25 : decode cX5_common 25 = .ok (.iconst 0, 1) := by decide +kernel
theorem dX5_common_26 : decode cX5_common 26 = .ok (.invokevirtual 62, 3) := by decide +kernel
theorem dX5_common_29 : decode cX5_common 29 = .ok (.invokevirtual 117, 3) := by decide +kernel
theorem dX5_common_32 : decode cX5_common 32 = .ok (.ifCond .lt 16, 3) := by decide +kernel
theorem dX5_common_35 : decode cX5_common 35 = .ok (.aload_n 0, 1) := by decide +kernel
theorem dX5_common_36 : decode cX5_common 36 = .ok (.iload_n 1, 1) := by decide +kernel
theorem dX5_common_37 : decode cX5_common 37 = .ok (.aload_n 0, 1) := by decide +kernel
theorem dX5_common_38 : decode cX5_common 38 = .ok (.getfield 24, 3) := by decide +kernel
theorem dX5_common_41 : decode cX5_common 41 = .ok (.iload_n 3, 1) := by decide +kernel
theorem dX5_common_42 : decode cX5_common 42 = .ok (.iaload, 1) := by decide +kernel
theorem dX5_common_43 : decode cX5_common 43 = .ok (.iconst 0, 1) := by decide +kernel
theorem dX5_common_44 : decode cX5_common 44 = .ok (.invokevirtual 62, 3) := by decide +kernel
theorem dX5_common_47 : decode cX5_common 47 = .ok (.ireturn, 1) := by decide +kernel
theorem dX5_common_48 : decode cX5_common 48 = .ok (.iinc 3 1, 3) := by decide +kernel
theorem dX5_common_51 : decode cX5_common 51 = .ok (.goto (-44), 3) := by decide +kernel
theorem dX5_common_54 : decode cX5_common 54 = .ok (.iconst (-1), 1) := by decide +kernel
theorem dX5_common_55 : decode cX5_common 55 = .ok (.ireturn, 1) := by decide +kernel
theorem dX5_pour_0 : decode cX5_pour 0 = .ok (.iload_n 1, 1) := by decide +kernel
theorem dX5_pour_1 : decode cX5_pour 1 = .ok (.invokestatic 110, 3) := by decide +kernel
theorem dX5_pour_4 : decode cX5_pour 4 = .ok (.ifCond .eq 10, 3) := by decide +kernel
theorem dX5_pour_7 : decode cX5_pour 7 = .ok (.iload_n 2, 1) := by decide +kernel
theorem dX5_pour_8 : decode cX5_pour 8 = .ok (.invokestatic 110, 3) := by decide +kernel
theorem dX5_pour_11 : decode cX5_pour 11 = .ok (.ifCond .ne 6, 3) := by decide +kernel
theorem dX5_pour_14 : decode cX5_pour 14 = .ok (.bipush (-11), 2) := by decide +kernel
theorem dX5_pour_16 : decode cX5_pour 16 = .ok (.ireturn, 1) := by decide +kernel
theorem dX5_pour_17 : decode cX5_pour 17 = .ok (.aload_n 0, 1) := by decide +kernel
theorem dX5_pour_18 : decode cX5_pour 18 = .ok (.iload_n 1, 1) := by decide +kernel
theorem dX5_pour_19 : decode cX5_pour 19 = .ok (.invokevirtual 124, 3) := by decide +kernel
theorem dX5_pour_22 : decode cX5_pour 22 = .ok (.aload_n 0, 1) := by decide +kernel
theorem dX5_pour_23 : decode cX5_pour 23 = .ok (.iload_n 2, 1) := by decide +kernel
theorem dX5_pour_24 : decode cX5_pour 24 = .ok (.invokevirtual 124, 3) := by decide +kernel
theorem dX5_pour_27 : decode cX5_pour 27 = .ok (.iadd, 1) := by decide +kernel
theorem dX5_pour_28 : decode cX5_pour 28 = .ok (.istore_n 3, 1) := by decide +kernel
theorem dX5_pour_29 : decode cX5_pour 29 = .ok (.aload_n 0, 1) := by decide +kernel
theorem dX5_pour_30 : decode cX5_pour 30 = .ok (.iload_n 1, 1) := by decide +kernel
theorem dX5_pour_31 : decode cX5_pour 31 = .ok (.iload_n 2, 1) := by decide +kernel
theorem dX5_pour_32 : decode cX5_pour 32 = .ok (.if_icmp .ne 7, 3) := by decide +kernel
theorem dX5_pour_35 : decode cX5_pour 35 = .ok (.iconst 1, 1) := by decide +kernel
theorem dX5_pour_36 : decode cX5_pour 36 = .ok (.goto 4, 3) := by decide +kernel
theorem dX5_pour_39 : decode cX5_pour 39 = .ok (.iconst 0, 1) := by decide +kernel
theorem dX5_pour_40 : decode cX5_pour 40 = .ok (.iconst 3, 1) := by decide +kernel
theorem dX5_pour_41 : decode cX5_pour 41 = .ok (.iload_n 1, 1) := by decide +kernel
theorem dX5_pour_42 : decode cX5_pour 42 = .ok (.invokevirtual 120, 3) := by decide +kernel
theorem dX5_pour_45 : decode cX5_pour 45 = .ok (.ifCond .ne 45, 3) := by decide +kernel
theorem dX5_pour_48 : decode cX5_pour 48 = .ok (.aload_n 0, 1) := by decide +kernel
theorem dX5_pour_49 : decode cX5_pour 49 = .ok (.aload_n 0, 1) := by decide +kernel
theorem dX5_pour_50 : decode cX5_pour 50 = .ok (.iload_n 1, 1) := by decide +kernel
theorem dX5_pour_51 : decode cX5_pour 51 = .ok (.invokevirtual 124, 3) := by decide +kernel
theorem dX5_pour_54 : decode cX5_pour 54 = .ok (.ifCond .ne 7, 3) := by decide +kernel
theorem dX5_pour_57 : decode cX5_pour 57 = .ok (.iconst 1, 1) := by decide +kernel
theorem dX5_pour_58 : decode cX5_pour 58 = .ok (.goto 4, 3) := by decide +kernel
theorem dX5_pour_61 : decode cX5_pour 61 = .ok (.iconst 0, 1) := by decide +kernel
theorem dX5_pour_62 : decode cX5_pour 62 = .ok (.iconst 5, 1) := by decide +kernel
theorem dX5_pour_63 : decode cX5_pour 63 = .ok (.iload_n 1, 1) := by decide +kernel
theorem dX5_pour_64 : decode cX5_pour 64 = .ok (.invokevirtual 120, 3) := by decide +kernel
theorem dX5_pour_67 : decode cX5_pour 67 = .ok (.ifCond .ne 23, 3) := by decide +kernel
theorem dX5_pour_70 : decode cX5_pour 70 = .ok (.aload_n 0, 1) := by decide +kernel
theorem dX5_pour_71 : decode cX5_pour 71 = .ok (.iload_n 3, 1) := by decide +kernel
theorem dX5_pour_72 : decode cX5_pour 72 = .ok (.bipush 30, 2) := by decide +kernel
theorem dX5_pour_74 : decode cX5_pour 74 = .ok (.if_icmp .le 7, 3) := by decide +kernel
theorem dX5_pour_77 : decode cX5_pour 77 = .ok (.iconst 1, 1) := by decide +kernel
theorem dX5_pour_78 : decode cX5_pour 78 = .ok (.goto 4, 3) := by decide +kernel
theorem dX5_pour_81 : decode cX5_pour 81 = .ok (.iconst 0, 1) := by decide +kernel
theorem dX5_pour_82 : decode cX5_pour 82 = .ok (.iconst 1, 1) := by decide +kernel
theorem dX5_pour_83 : decode cX5_pour 83 = .ok (.iload_n 3, 1) := by decide +kernel
theorem dX5_pour_84 : decode cX5_pour 84 = .ok (.invokevirtual 120, 3) := by decide +kernel
theorem dX5_pour_87 : decode cX5_pour 87 = .ok (.ifCond .eq 6, 3) := by decide +kernel
theorem dX5_pour_90 : decode cX5_pour 90 = .ok (.bipush (-14), 2) := by decide +kernel
theorem dX5_pour_92 : decode cX5_pour 92 = .ok (.ireturn, 1) := by decide +kernel
theorem dX5_pour_93 : decode cX5_pour 93 = .ok (.aload_n 0, 1) := by decide +kernel
theorem dX5_pour_94 : decode cX5_pour 94 = .ok (.iload_n 1, 1) := by decide +kernel
theorem dX5_pour_95 : decode cX5_pour 95 = .ok (.iload_n 2, 1) := by decide +kernel
theorem dX5_pour_96 : decode cX5_pour 96 = .ok (.invokevirtual 164, 3) := by decide +kernel
theorem dX5_pour_99 : decode cX5_pour 99 = .ok (.istore 4, 2) := by decide +kernel
theorem dX5_pour_101 : decode cX5_pour 101 = .ok (.aload_n 0, 1) := by decide +kernel
theorem dX5_pour_102 : decode cX5_pour 102 = .ok (.iload 4, 2) := by decide +kernel
theorem dX5_pour_104 : decode cX5_pour 104 = .ok (.ifCond .lt 7, 3) := by decide +kernel
theorem dX5_pour_107 : decode cX5_pour 107 = .ok (.iconst 1, 1) := by decide +kernel
theorem dX5_pour_108 : decode cX5_pour 108 = .ok (.goto 4, 3) := by decide +kernel
theorem dX5_pour_111 : decode cX5_pour 111 = .ok (.iconst 0, 1) := by decide +kernel
theorem dX5_pour_112 : decode cX5_pour 112 = .ok (.iconst 2, 1) := by decide +kernel
theorem dX5_pour_113 : decode cX5_pour 113 = .ok (.iload 4, 2) := by decide +kernel
theorem dX5_pour_115 : decode cX5_pour 115 = .ok (.invokevirtual 120, 3) := by decide +kernel
theorem dX5_pour_118 : decode cX5_pour 118 = .ok (.ifCond .eq 6, 3) := by decide +kernel
theorem dX5_pour_121 : decode cX5_pour 121 = .ok (.bipush (-14), 2) := by decide +kernel
theorem dX5_pour_123 : decode cX5_pour 123 = .ok (.ireturn, 1) := by decide +kernel
theorem dX5_pour_124 : decode cX5_pour 124 = .ok (.aload_n 0, 1) := by decide +kernel
theorem dX5_pour_125 : decode cX5_pour 125 = .ok (.invokevirtual 127, 3) := by decide +kernel
theorem dX5_pour_128 : decode cX5_pour 128 = .ok (.iconst 0, 1) := by decide +kernel
theorem dX5_pour_129 : decode cX5_pour 129 = .ok (.istore 5, 2) := by decide +kernel
theorem dX5_pour_131 : decode cX5_pour 131 = .ok (.iload 5, 2) := by decide +kernel
theorem dX5_pour_133 : decode cX5_pour 133 = .ok (.bipush 30, 2) := by decide +kernel
theorem dX5_pour_135 : decode cX5_pour 135 = .ok (.if_icmp .ge 53, 3) := by decide +kernel
theorem dX5_pour_138 : decode cX5_pour 138 = .ok (.aload_n 0, 1) := by decide +kernel
theorem dX5_pour_139 : decode cX5_pour 139 = .ok (.iload_n 1, 1) := by decide +kernel
theorem dX5_pour_140 : decode cX5_pour 140 = .ok (.iload 5, 2) := by decide +kernel
theorem dX5_pour_142 : decode cX5_pour 142 = .ok (.iconst 0, 1) := by decide +kernel
theorem dX5_pour_143 : decode cX5_pour 143 = .ok (.invokevirtual 62, 3) := by decide +kernel
theorem dX5_pour_146 : decode cX5_pour 146 = .ok (.ifCond .lt 36, 3) := by decide +kernel
theorem dX5_pour_149 : decode cX5_pour 149 = .ok (.aload_n 0, 1) := by decide +kernel
theorem dX5_pour_150 : decode cX5_pour 150 = .ok (.iload_n 2, 1) := by decide +kernel
theorem dX5_pour_151 : decode cX5_pour 151 = .ok (.aload_n 0, 1) := by decide +kernel
theorem dX5_pour_152 : decode cX5_pour 152 = .ok (.iload_n 2, 1) := by decide +kernel
theorem dX5_pour_153 : decode cX5_pour 153 = .ok (.aload_n 0, 1) := by decide +kernel
theorem dX5_pour_154 : decode cX5_pour 154 = .ok (.iload_n 1, 1) := by decide +kernel
theorem dX5_pour_155 : decode cX5_pour 155 = .ok (.iload 5, 2) := by decide +kernel
theorem dX5_pour_157 : decode cX5_pour 157 = .ok (.iconst 0, 1) := by decide +kernel
theorem dX5_pour_158 : decode cX5_pour 158 = .ok (.invokevirtual 62, 3) := by decide +kernel
theorem dX5_pour_161 : decode cX5_pour 161 = .ok (.aload_n 0, 1) := by decide +kernel
theorem dX5_pour_162 : decode cX5_pour 162 = .ok (.iload_n 1, 1) := by decide +kernel
theorem dX5_pour_163 : decode cX5_pour 163 = .ok (.iload 5, 2) := by decide +kernel
theorem dX5_pour_165 : decode cX5_pour 165 = .ok (.iconst 1, 1) := by decide +kernel
theorem dX5_pour_166 : decode cX5_pour 166 = .ok (.invokevirtual 62, 3) := by decide +kernel
theorem dX5_pour_169 : decode cX5_pour 169 = .ok (.invokevirtual 130, 3) := by decide +kernel
theorem dX5_pour_172 : decode cX5_pour 172 = .ok (.invokevirtual 133, 3) := by decide +kernel
theorem dX5_pour_175 : decode cX5_pour 175 = .ok (.aload_n 0, 1) := by decide +kernel
theorem dX5_pour_176 : decode cX5_pour 176 = .ok (.iload_n 1, 1) := by decide +kernel
theorem dX5_pour_177 : decode cX5_pour 177 = .ok (.iload 5, 2) := by decide +kernel
theorem dX5_pour_179 : decode cX5_pour 179 = .ok (.invokevirtual 158, 3) := by decide +kernel
theorem dX5_pour_182 : decode cX5_pour 182 = .ok (.iinc 5 1, 3) := by decide +kernel
theorem dX5_pour_185 : decode cX5_pour 185 = .ok (.goto (-54), 3) := by decide +kernel
theorem dX5_pour_188 : decode cX5_pour 188 = .ok (.aload_n 0, 1) := by decide +kernel
theorem dX5_pour_189 : decode cX5_pour 189 = .ok (.iload_n 1, 1) := by decide +kernel
theorem dX5_pour_190 : decode cX5_pour 190 = .ok (.iconst (-1), 1) := by decide +kernel
theorem dX5_pour_191 : decode cX5_pour 191 = .ok (.invokevirtual 94, 3) := by decide +kernel
theorem dX5_pour_194 : decode cX5_pour 194 = .ok (.aload_n 0, 1) := by decide +kernel
theorem dX5_pour_195 : decode cX5_pour 195 = .ok (.iload_n 1, 1) := by decide +kernel
theorem dX5_pour_196 : decode cX5_pour 196 = .ok (.iconst 0, 1) := by decide +kernel
theorem dX5_pour_197 : decode cX5_pour 197 = .ok (.invokevirtual 104, 3) := by decide +kernel
theorem dX5_pour_200 : decode cX5_pour 200 = .ok (.aload_n 0, 1) := by decide +kernel
theorem dX5_pour_201 : decode cX5_pour 201 = .ok (.iload_n 2, 1) := by decide +kernel
theorem dX5_pour_202 : decode cX5_pour 202 = .ok (.invokevirtual 161, 3) := by decide +kernel
theorem dX5_pour_205 : decode cX5_pour 205 = .ok (.aload_n 0, 1) := by decide +kernel
theorem dX5_pour_206 : decode cX5_pour 206 = .ok (.getfield 9, 3) := by decide +kernel
theorem dX5_pour_209 : decode cX5_pour 209 = .ok (.bipush 6, 2) := by decide +kernel
theorem dX5_pour_211 : decode cX5_pour 211 = .ok (.dup2, 1) := by decide +kernel
theorem dX5_pour_212 : decode cX5_pour 212 = .ok (.iaload, 1) := by decide +kernel
theorem dX5_pour_213 : decode cX5_pour 213 = .ok (.iconst 1, 1) := by decide +kernel
theorem dX5_pour_214 : decode cX5_pour 214 = .ok (.iadd, 1) := by decide +kernel
theorem dX5_pour_215 : decode cX5_pour 215 = .ok (.iastore, 1) := by decide +kernel
theorem dX5_pour_216 : decode cX5_pour 216 = .ok (.iload_n 3, 1) := by decide +kernel
theorem dX5_pour_217 : decode cX5_pour 217 = .ok (.ireturn, 1) := by decide +kernel
theorem dX5_limit_0 : decode cX5_limit 0 = .ok (.iload_n 1, 1) := by decide +kernel
theorem dX5_limit_1 : decode cX5_limit 1 = .ok (.bipush 55, 2) := by decide +kernel
theorem dX5_limit_3 : decode cX5_limit 3 = .ok (.bipush 90, 2) := by decide +kernel
theorem dX5_limit_5 : decode cX5_limit 5 = .ok (.invokestatic 58, 3) := by decide +kernel
theorem dX5_limit_8 : decode cX5_limit 8 = .ok (.ifCond .ne 6, 3) := by decide +kernel
theorem dX5_limit_11 : decode cX5_limit 11 = .ok (.bipush (-12), 2) := by decide +kernel
theorem dX5_limit_13 : decode cX5_limit 13 = .ok (.ireturn, 1) := by decide +kernel
theorem dX5_limit_14 : decode cX5_limit 14 = .ok (.aload_n 0, 1) := by decide +kernel
theorem dX5_limit_15 : decode cX5_limit 15 = .ok (.aload_n 0, 1) := by decide +kernel
theorem dX5_limit_16 : decode cX5_limit 16 = .ok (.getfield 9, 3) := by decide +kernel
theorem dX5_limit_19 : decode cX5_limit 19 = .ok (.iconst 0, 1) := by decide +kernel
theorem dX5_limit_20 : decode cX5_limit 20 = .ok (.iaload, 1) := by decide +kernel
theorem dX5_limit_21 : decode cX5_limit 21 = .ok (.iload_n 1, 1) := by decide +kernel
theorem dX5_limit_22 : decode cX5_limit 22 = .ok (.if_icmp .ne 7, 3) := by decide +kernel
theorem dX5_limit_25 : decode cX5_limit 25 = .ok (.iconst 1, 1) := by decide +kernel
theorem dX5_limit_26 : decode cX5_limit 26 = .ok (.goto 4, 3) := by decide +kernel
theorem dX5_limit_29 : decode cX5_limit 29 = .ok (.iconst 0, 1) := by decide +kernel
theorem dX5_limit_30 : decode cX5_limit 30 = .ok (.iconst 4, 1) := by decide +kernel
theorem dX5_limit_31 : decode cX5_limit 31 = .ok (.iload_n 1, 1) := by decide +kernel
theorem dX5_limit_32 : decode cX5_limit 32 = .ok (.invokevirtual 120, 3) := by decide +kernel
theorem dX5_limit_35 : decode cX5_limit 35 = .ok (.ifCond .eq 6, 3) := by decide +kernel
theorem dX5_limit_38 : decode cX5_limit 38 = .ok (.bipush (-14), 2) := by decide +kernel
theorem dX5_limit_40 : decode cX5_limit 40 = .ok (.ireturn, 1) := by decide +kernel
theorem dX5_limit_41 : decode cX5_limit 41 = .ok (.aload_n 0, 1) := by decide +kernel
theorem dX5_limit_42 : decode cX5_limit 42 = .ok (.invokevirtual 127, 3) := by decide +kernel
theorem dX5_limit_45 : decode cX5_limit 45 = .ok (.aload_n 0, 1) := by decide +kernel
theorem dX5_limit_46 : decode cX5_limit 46 = .ok (.getfield 9, 3) := by decide +kernel
theorem dX5_limit_49 : decode cX5_limit 49 = .ok (.iconst 0, 1) := by decide +kernel
theorem dX5_limit_50 : decode cX5_limit 50 = .ok (.iaload, 1) := by decide +kernel
theorem dX5_limit_51 : decode cX5_limit 51 = .ok (.istore_n 2, 1) := by decide +kernel
theorem dX5_limit_52 : decode cX5_limit 52 = .ok (.aload_n 0, 1) := by decide +kernel
theorem dX5_limit_53 : decode cX5_limit 53 = .ok (.getfield 9, 3) := by decide +kernel
theorem dX5_limit_56 : decode cX5_limit 56 = .ok (.iconst 0, 1) := by decide +kernel
theorem dX5_limit_57 : decode cX5_limit 57 = .ok (.iload_n 1, 1) := by decide +kernel
theorem dX5_limit_58 : decode cX5_limit 58 = .ok (.iastore, 1) := by decide +kernel
theorem dX5_limit_59 : decode cX5_limit 59 = .ok (.iload_n 2, 1) := by decide +kernel
theorem dX5_limit_60 : decode cX5_limit 60 = .ok (.ireturn, 1) := by decide +kernel
theorem dX5_weightOr_0 : decode cX5_weightOr 0 = .ok (.iload_n 2, 1) := by decide +kernel
theorem dX5_weightOr_1 : decode cX5_weightOr 1 = .ok (.ifCond .ge 8, 3) := by decide +kernel
theorem dX5_weightOr_4 : decode cX5_weightOr 4 = .ok (.bipush (-15), 2) := by decide +kernel
theorem dX5_weightOr_6 : decode cX5_weightOr 6 = .ok (.goto 10, 3) := by decide +kernel
theorem dX5_weightOr_9 : decode cX5_weightOr 9 = .ok (.aload_n 0, 1) := by decide +kernel
theorem dX5_weightOr_10 : decode cX5_weightOr 10 = .ok (.iload_n 1, 1) := by decide +kernel
theorem dX5_weightOr_11 : decode cX5_weightOr 11 = .ok (.iload_n 2, 1) := by decide +kernel
theorem dX5_weightOr_12 : decode cX5_weightOr 12 = .ok (.iconst 0, 1) := by decide +kernel
theorem dX5_weightOr_13 : decode cX5_weightOr 13 = .ok (.invokevirtual 62, 3) := by decide +kernel
theorem dX5_weightOr_16 : decode cX5_weightOr 16 = .ok (.ireturn, 1) := by decide +kernel
theorem dX5_sheafOf_0 : decode cX5_sheafOf 0 = .ok (.iload_n 1, 1) := by decide +kernel
theorem dX5_sheafOf_1 : decode cX5_sheafOf 1 = .ok (.invokestatic 110, 3) := by decide +kernel
theorem dX5_sheafOf_4 : decode cX5_sheafOf 4 = .ok (.ifCond .eq 12, 3) := by decide +kernel
theorem dX5_sheafOf_7 : decode cX5_sheafOf 7 = .ok (.aload_n 0, 1) := by decide +kernel
theorem dX5_sheafOf_8 : decode cX5_sheafOf 8 = .ok (.iload_n 1, 1) := by decide +kernel
theorem dX5_sheafOf_9 : decode cX5_sheafOf 9 = .ok (.iload_n 2, 1) := by decide +kernel
theorem dX5_sheafOf_10 : decode cX5_sheafOf 10 = .ok (.invokevirtual 117, 3) := by decide +kernel
theorem dX5_sheafOf_13 : decode cX5_sheafOf 13 = .ok (.ifCond .ge 6, 3) := by decide +kernel
theorem dX5_sheafOf_16 : decode cX5_sheafOf 16 = .ok (.bipush (-11), 2) := by decide +kernel
theorem dX5_sheafOf_18 : decode cX5_sheafOf 18 = .ok (.ireturn, 1) := by decide +kernel
theorem dX5_sheafOf_19 : decode cX5_sheafOf 19 = .ok (.aload_n 0, 1) := by decide +kernel
theorem dX5_sheafOf_20 : decode cX5_sheafOf 20 = .ok (.iload_n 1, 1) := by decide +kernel
theorem dX5_sheafOf_21 : decode cX5_sheafOf 21 = .ok (.iload_n 2, 1) := by decide +kernel
theorem dX5_sheafOf_22 : decode cX5_sheafOf 22 = .ok (.invokevirtual 117, 3) := by decide +kernel
theorem dX5_sheafOf_25 : decode cX5_sheafOf 25 = .ok (.istore 4, 2) := by decide +kernel
theorem dX5_sheafOf_27 : decode cX5_sheafOf 27 = .ok (.iload_n 3, 1) := by decide +kernel
theorem dX5_sheafOf_28 : decode cX5_sheafOf 28 = .ok (.tableswitch 126 0 7 #[48, 57, 65, 73, 81, 97, 110, 110], 48) := by decide +kernel
theorem dX5_sheafOf_76 : decode cX5_sheafOf 76 = .ok (.aload_n 0, 1) := by decide +kernel
theorem dX5_sheafOf_77 : decode cX5_sheafOf 77 = .ok (.iload_n 1, 1) := by decide +kernel
theorem dX5_sheafOf_78 : decode cX5_sheafOf 78 = .ok (.iload 4, 2) := by decide +kernel
theorem dX5_sheafOf_80 : decode cX5_sheafOf 80 = .ok (.iconst 1, 1) := by decide +kernel
theorem dX5_sheafOf_81 : decode cX5_sheafOf 81 = .ok (.invokevirtual 62, 3) := by decide +kernel
theorem dX5_sheafOf_84 : decode cX5_sheafOf 84 = .ok (.ireturn, 1) := by decide +kernel
theorem dX5_sheafOf_85 : decode cX5_sheafOf 85 = .ok (.aload_n 0, 1) := by decide +kernel
theorem dX5_sheafOf_86 : decode cX5_sheafOf 86 = .ok (.iload_n 1, 1) := by decide +kernel
theorem dX5_sheafOf_87 : decode cX5_sheafOf 87 = .ok (.iload 4, 2) := by decide +kernel
theorem dX5_sheafOf_89 : decode cX5_sheafOf 89 = .ok (.invokevirtual 139, 3) := by decide +kernel
theorem dX5_sheafOf_92 : decode cX5_sheafOf 92 = .ok (.ireturn, 1) := by decide +kernel
theorem dX5_sheafOf_93 : decode cX5_sheafOf 93 = .ok (.aload_n 0, 1) := by decide +kernel
theorem dX5_sheafOf_94 : decode cX5_sheafOf 94 = .ok (.iload_n 1, 1) := by decide +kernel
theorem dX5_sheafOf_95 : decode cX5_sheafOf 95 = .ok (.iload 4, 2) := by decide +kernel
theorem dX5_sheafOf_97 : decode cX5_sheafOf 97 = .ok (.invokevirtual 66, 3) := by decide +kernel
theorem dX5_sheafOf_100 : decode cX5_sheafOf 100 = .ok (.ireturn, 1) := by decide +kernel
theorem dX5_sheafOf_101 : decode cX5_sheafOf 101 = .ok (.aload_n 0, 1) := by decide +kernel
theorem dX5_sheafOf_102 : decode cX5_sheafOf 102 = .ok (.iload_n 1, 1) := by decide +kernel
theorem dX5_sheafOf_103 : decode cX5_sheafOf 103 = .ok (.iload 4, 2) := by decide +kernel
theorem dX5_sheafOf_105 : decode cX5_sheafOf 105 = .ok (.invokevirtual 70, 3) := by decide +kernel
theorem dX5_sheafOf_108 : decode cX5_sheafOf 108 = .ok (.ireturn, 1) := by decide +kernel
theorem dX5_sheafOf_109 : decode cX5_sheafOf 109 = .ok (.aload_n 0, 1) := by decide +kernel
theorem dX5_sheafOf_110 : decode cX5_sheafOf 110 = .ok (.iload_n 1, 1) := by decide +kernel
theorem dX5_sheafOf_111 : decode cX5_sheafOf 111 = .ok (.iload 4, 2) := by decide +kernel
theorem dX5_sheafOf_113 : decode cX5_sheafOf 113 = .ok (.invokevirtual 145, 3) := by decide +kernel
theorem dX5_sheafOf_116 : decode cX5_sheafOf 116 = .ok (.ifCond .eq 7, 3) := by decide +kernel
theorem dX5_sheafOf_119 : decode cX5_sheafOf 119 = .ok (.iconst 1, 1) := by decide +kernel
theorem dX5_sheafOf_120 : decode cX5_sheafOf 120 = .ok (.goto 4, 3) := by decide +kernel
theorem dX5_sheafOf_123 : decode cX5_sheafOf 123 = .ok (.iconst 0, 1) := by decide +kernel
theorem dX5_sheafOf_124 : decode cX5_sheafOf 124 = .ok (.ireturn, 1) := by decide +kernel
theorem dX5_sheafOf_125 : decode cX5_sheafOf 125 = .ok (.aload_n 0, 1) := by decide +kernel
theorem dX5_sheafOf_126 : decode cX5_sheafOf 126 = .ok (.iload_n 1, 1) := by decide +kernel
theorem dX5_sheafOf_127 : decode cX5_sheafOf 127 = .ok (.aload_n 0, 1) := by decide +kernel
theorem dX5_sheafOf_128 : decode cX5_sheafOf 128 = .ok (.iload_n 1, 1) := by decide +kernel
theorem dX5_sheafOf_129 : decode cX5_sheafOf 129 = .ok (.iload 4, 2) := by decide +kernel
theorem dX5_sheafOf_131 : decode cX5_sheafOf 131 = .ok (.invokevirtual 77, 3) := by decide +kernel
theorem dX5_sheafOf_134 : decode cX5_sheafOf 134 = .ok (.invokevirtual 167, 3) := by decide +kernel
theorem dX5_sheafOf_137 : decode cX5_sheafOf 137 = .ok (.ireturn, 1) := by decide +kernel
theorem dX5_sheafOf_138 : decode cX5_sheafOf 138 = .ok (.aload_n 0, 1) := by decide +kernel
theorem dX5_sheafOf_139 : decode cX5_sheafOf 139 = .ok (.iload_n 1, 1) := by decide +kernel
theorem dX5_sheafOf_140 : decode cX5_sheafOf 140 = .ok (.aload_n 0, 1) := by decide +kernel
theorem dX5_sheafOf_141 : decode cX5_sheafOf 141 = .ok (.iload_n 1, 1) := by decide +kernel
theorem dX5_sheafOf_142 : decode cX5_sheafOf 142 = .ok (.iload 4, 2) := by decide +kernel
theorem dX5_sheafOf_144 : decode cX5_sheafOf 144 = .ok (.iload_n 3, 1) := by decide +kernel
theorem dX5_sheafOf_145 : decode cX5_sheafOf 145 = .ok (.iconst 4, 1) := by decide +kernel
theorem dX5_sheafOf_146 : decode cX5_sheafOf 146 = .ok (.isub, 1) := by decide +kernel
theorem dX5_sheafOf_147 : decode cX5_sheafOf 147 = .ok (.invokevirtual 62, 3) := by decide +kernel
theorem dX5_sheafOf_150 : decode cX5_sheafOf 150 = .ok (.invokevirtual 167, 3) := by decide +kernel
theorem dX5_sheafOf_153 : decode cX5_sheafOf 153 = .ok (.ireturn, 1) := by decide +kernel
theorem dX5_sheafOf_154 : decode cX5_sheafOf 154 = .ok (.bipush (-12), 2) := by decide +kernel
theorem dX5_sheafOf_156 : decode cX5_sheafOf 156 = .ok (.ireturn, 1) := by decide +kernel
theorem dX5_greatestDepth_0 : decode cX5_greatestDepth 0 = .ok (.iconst (-1), 1) := by decide +kernel
theorem dX5_greatestDepth_1 : decode cX5_greatestDepth 1 = .ok (.istore_n 2, 1) := by decide +kernel
theorem dX5_greatestDepth_2 : decode cX5_greatestDepth 2 = .ok (.aload_n 0, 1) := by decide +kernel
theorem dX5_greatestDepth_3 : decode cX5_greatestDepth 3 = .ok (.iload_n 1, 1) := by decide +kernel
theorem dX5_greatestDepth_4 : decode cX5_greatestDepth 4 = .ok (.invokevirtual 100, 3) := by decide +kernel
theorem dX5_greatestDepth_7 : decode cX5_greatestDepth 7 = .ok (.iconst 0, 1) := by decide +kernel
theorem dX5_greatestDepth_8 : decode cX5_greatestDepth 8 = .ok (.istore_n 3, 1) := by decide +kernel
theorem dX5_greatestDepth_9 : decode cX5_greatestDepth 9 = .ok (.iload_n 3, 1) := by decide +kernel
theorem dX5_greatestDepth_10 : decode cX5_greatestDepth 10 = .ok (.aload_n 0, 1) := by decide +kernel
theorem dX5_greatestDepth_11 : decode cX5_greatestDepth 11 = .ok (.getfield 84, 3) := by decide +kernel
theorem dX5_greatestDepth_14 : decode cX5_greatestDepth 14 = .ok (.if_icmp .ge 35, 3) := by decide +kernel
theorem dX5_greatestDepth_17 : decode cX5_greatestDepth 17 = .ok (.aload_n 0, 1) := by decide +kernel
theorem dX5_greatestDepth_18 : decode cX5_greatestDepth 18 = .ok (.iload_n 1, 1) := by decide +kernel
theorem dX5_greatestDepth_19 : decode cX5_greatestDepth 19 = .ok (.aload_n 0, 1) := by decide +kernel
theorem dX5_greatestDepth_20 : decode cX5_greatestDepth 20 = .ok (.getfield 24, 3) := by decide +kernel
theorem dX5_greatestDepth_23 : decode cX5_greatestDepth 23 = .ok (.iload_n 3, 1) := by decide +kernel
theorem dX5_greatestDepth_24 : decode cX5_greatestDepth 24 = .ok (.iaload, 1) := by decide +kernel
theorem dX5_greatestDepth_25 : decode cX5_greatestDepth 25 = .ok (.invokevirtual 139, 3) := by decide +kernel
theorem dX5_greatestDepth_28 : decode cX5_greatestDepth 28 = .ok (.istore 4, 2) := by decide +kernel
theorem dX5_greatestDepth_30 : decode cX5_greatestDepth 30 = .ok (.iload 4, 2) := by decide +kernel
theorem dX5_greatestDepth_32 : decode cX5_greatestDepth 32 = .ok (.iload_n 2, 1) := by decide +kernel
theorem dX5_greatestDepth_33 : decode cX5_greatestDepth 33 = .ok (.if_icmp .le 8, 3) := by decide +kernel
theorem dX5_greatestDepth_36 : decode cX5_greatestDepth 36 = .ok (.iload 4, 2) := by decide +kernel
theorem dX5_greatestDepth_38 : decode cX5_greatestDepth 38 = .ok (.goto 4, 3) := by decide +kernel
theorem dX5_greatestDepth_41 : decode cX5_greatestDepth 41 = .ok (.iload_n 2, 1) := by decide +kernel
theorem dX5_greatestDepth_42 : decode cX5_greatestDepth 42 = .ok (.istore_n 2, 1) := by decide +kernel
theorem dX5_greatestDepth_43 : decode cX5_greatestDepth 43 = .ok (.iinc 3 1, 3) := by decide +kernel
theorem dX5_greatestDepth_46 : decode cX5_greatestDepth 46 = .ok (.goto (-37), 3) := by decide +kernel
theorem dX5_greatestDepth_49 : decode cX5_greatestDepth 49 = .ok (.iload_n 2, 1) := by decide +kernel
theorem dX5_greatestDepth_50 : decode cX5_greatestDepth 50 = .ok (.ireturn, 1) := by decide +kernel
theorem dX5_leaning_0 : decode cX5_leaning 0 = .ok (.iconst 0, 1) := by decide +kernel
theorem dX5_leaning_1 : decode cX5_leaning 1 = .ok (.istore_n 2, 1) := by decide +kernel
theorem dX5_leaning_2 : decode cX5_leaning 2 = .ok (.aload_n 0, 1) := by decide +kernel
theorem dX5_leaning_3 : decode cX5_leaning 3 = .ok (.iload_n 1, 1) := by decide +kernel
theorem dX5_leaning_4 : decode cX5_leaning 4 = .ok (.invokevirtual 100, 3) := by decide +kernel
theorem dX5_leaning_7 : decode cX5_leaning 7 = .ok (.iconst 0, 1) := by decide +kernel
theorem dX5_leaning_8 : decode cX5_leaning 8 = .ok (.istore_n 3, 1) := by decide +kernel
theorem dX5_leaning_9 : decode cX5_leaning 9 = .ok (.iload_n 3, 1) := by decide +kernel
theorem dX5_leaning_10 : decode cX5_leaning 10 = .ok (.aload_n 0, 1) := by decide +kernel
theorem dX5_leaning_11 : decode cX5_leaning 11 = .ok (.getfield 84, 3) := by decide +kernel
theorem dX5_leaning_14 : decode cX5_leaning 14 = .ok (.if_icmp .ge 31, 3) := by decide +kernel
theorem dX5_leaning_17 : decode cX5_leaning 17 = .ok (.iload_n 2, 1) := by decide +kernel
theorem dX5_leaning_18 : decode cX5_leaning 18 = .ok (.aload_n 0, 1) := by decide +kernel
theorem dX5_leaning_19 : decode cX5_leaning 19 = .ok (.iload_n 1, 1) := by decide +kernel
theorem dX5_leaning_20 : decode cX5_leaning 20 = .ok (.aload_n 0, 1) := by decide +kernel
theorem dX5_leaning_21 : decode cX5_leaning 21 = .ok (.getfield 24, 3) := by decide +kernel
theorem dX5_leaning_24 : decode cX5_leaning 24 = .ok (.iload_n 3, 1) := by decide +kernel
theorem dX5_leaning_25 : decode cX5_leaning 25 = .ok (.iaload, 1) := by decide +kernel
theorem dX5_leaning_26 : decode cX5_leaning 26 = .ok (.invokevirtual 145, 3) := by decide +kernel
theorem dX5_leaning_29 : decode cX5_leaning 29 = .ok (.ifCond .eq 7, 3) := by decide +kernel
theorem dX5_leaning_32 : decode cX5_leaning 32 = .ok (.iconst 1, 1) := by decide +kernel
theorem dX5_leaning_33 : decode cX5_leaning 33 = .ok (.goto 4, 3) := by decide +kernel
theorem dX5_leaning_36 : decode cX5_leaning 36 = .ok (.iconst 0, 1) := by decide +kernel
theorem dX5_leaning_37 : decode cX5_leaning 37 = .ok (.iadd, 1) := by decide +kernel
theorem dX5_leaning_38 : decode cX5_leaning 38 = .ok (.istore_n 2, 1) := by decide +kernel
theorem dX5_leaning_39 : decode cX5_leaning 39 = .ok (.iinc 3 1, 3) := by decide +kernel
theorem dX5_leaning_42 : decode cX5_leaning 42 = .ok (.goto (-33), 3) := by decide +kernel
theorem dX5_leaning_45 : decode cX5_leaning 45 = .ok (.iload_n 2, 1) := by decide +kernel
theorem dX5_leaning_46 : decode cX5_leaning 46 = .ok (.ireturn, 1) := by decide +kernel
theorem dX5_allDepths_0 : decode cX5_allDepths 0 = .ok (.iconst 0, 1) := by decide +kernel
theorem dX5_allDepths_1 : decode cX5_allDepths 1 = .ok (.istore_n 2, 1) := by decide +kernel
theorem dX5_allDepths_2 : decode cX5_allDepths 2 = .ok (.aload_n 0, 1) := by decide +kernel
theorem dX5_allDepths_3 : decode cX5_allDepths 3 = .ok (.iload_n 1, 1) := by decide +kernel
theorem dX5_allDepths_4 : decode cX5_allDepths 4 = .ok (.invokevirtual 100, 3) := by decide +kernel
theorem dX5_allDepths_7 : decode cX5_allDepths 7 = .ok (.iconst 0, 1) := by decide +kernel
theorem dX5_allDepths_8 : decode cX5_allDepths 8 = .ok (.istore_n 3, 1) := by decide +kernel
theorem dX5_allDepths_9 : decode cX5_allDepths 9 = .ok (.iload_n 3, 1) := by decide +kernel
theorem dX5_allDepths_10 : decode cX5_allDepths 10 = .ok (.aload_n 0, 1) := by decide +kernel
theorem dX5_allDepths_11 : decode cX5_allDepths 11 = .ok (.getfield 84, 3) := by decide +kernel
theorem dX5_allDepths_14 : decode cX5_allDepths 14 = .ok (.if_icmp .ge 23, 3) := by decide +kernel
theorem dX5_allDepths_17 : decode cX5_allDepths 17 = .ok (.iload_n 2, 1) := by decide +kernel
theorem dX5_allDepths_18 : decode cX5_allDepths 18 = .ok (.aload_n 0, 1) := by decide +kernel
theorem dX5_allDepths_19 : decode cX5_allDepths 19 = .ok (.iload_n 1, 1) := by decide +kernel
theorem dX5_allDepths_20 : decode cX5_allDepths 20 = .ok (.aload_n 0, 1) := by decide +kernel
theorem dX5_allDepths_21 : decode cX5_allDepths 21 = .ok (.getfield 24, 3) := by decide +kernel
theorem dX5_allDepths_24 : decode cX5_allDepths 24 = .ok (.iload_n 3, 1) := by decide +kernel
theorem dX5_allDepths_25 : decode cX5_allDepths 25 = .ok (.iaload, 1) := by decide +kernel
theorem dX5_allDepths_26 : decode cX5_allDepths 26 = .ok (.invokevirtual 139, 3) := by decide +kernel
theorem dX5_allDepths_29 : decode cX5_allDepths 29 = .ok (.iadd, 1) := by decide +kernel
theorem dX5_allDepths_30 : decode cX5_allDepths 30 = .ok (.istore_n 2, 1) := by decide +kernel
theorem dX5_allDepths_31 : decode cX5_allDepths 31 = .ok (.iinc 3 1, 3) := by decide +kernel
theorem dX5_allDepths_34 : decode cX5_allDepths 34 = .ok (.goto (-25), 3) := by decide +kernel
theorem dX5_allDepths_37 : decode cX5_allDepths 37 = .ok (.iload_n 2, 1) := by decide +kernel
theorem dX5_allDepths_38 : decode cX5_allDepths 38 = .ok (.ireturn, 1) := by decide +kernel
theorem dX5_lowest_0 : decode cX5_lowest 0 = .ok (.iconst 0, 1) := by decide +kernel
theorem dX5_lowest_1 : decode cX5_lowest 1 = .ok (.istore_n 2, 1) := by decide +kernel
theorem dX5_lowest_2 : decode cX5_lowest 2 = .ok (.aload_n 0, 1) := by decide +kernel
theorem dX5_lowest_3 : decode cX5_lowest 3 = .ok (.iload_n 1, 1) := by decide +kernel
theorem dX5_lowest_4 : decode cX5_lowest 4 = .ok (.invokevirtual 100, 3) := by decide +kernel
theorem dX5_lowest_7 : decode cX5_lowest 7 = .ok (.iconst 0, 1) := by decide +kernel
theorem dX5_lowest_8 : decode cX5_lowest 8 = .ok (.istore_n 3, 1) := by decide +kernel
theorem dX5_lowest_9 : decode cX5_lowest 9 = .ok (.iload_n 3, 1) := by decide +kernel
theorem dX5_lowest_10 : decode cX5_lowest 10 = .ok (.aload_n 0, 1) := by decide +kernel
theorem dX5_lowest_11 : decode cX5_lowest 11 = .ok (.getfield 84, 3) := by decide +kernel
theorem dX5_lowest_14 : decode cX5_lowest 14 = .ok (.if_icmp .ge 32, 3) := by decide +kernel
theorem dX5_lowest_17 : decode cX5_lowest 17 = .ok (.iload_n 2, 1) := by decide +kernel
theorem dX5_lowest_18 : decode cX5_lowest 18 = .ok (.aload_n 0, 1) := by decide +kernel
theorem dX5_lowest_19 : decode cX5_lowest 19 = .ok (.iload_n 1, 1) := by decide +kernel
theorem dX5_lowest_20 : decode cX5_lowest 20 = .ok (.aload_n 0, 1) := by decide +kernel
theorem dX5_lowest_21 : decode cX5_lowest 21 = .ok (.getfield 24, 3) := by decide +kernel
theorem dX5_lowest_24 : decode cX5_lowest 24 = .ok (.iload_n 3, 1) := by decide +kernel
theorem dX5_lowest_25 : decode cX5_lowest 25 = .ok (.iaload, 1) := by decide +kernel
theorem dX5_lowest_26 : decode cX5_lowest 26 = .ok (.invokevirtual 66, 3) := by decide +kernel
theorem dX5_lowest_29 : decode cX5_lowest 29 = .ok (.iconst 1, 1) := by decide +kernel
theorem dX5_lowest_30 : decode cX5_lowest 30 = .ok (.if_icmp .ne 7, 3) := by decide +kernel
theorem dX5_lowest_33 : decode cX5_lowest 33 = .ok (.iconst 1, 1) := by decide +kernel
theorem dX5_lowest_34 : decode cX5_lowest 34 = .ok (.goto 4, 3) := by decide +kernel
theorem dX5_lowest_37 : decode cX5_lowest 37 = .ok (.iconst 0, 1) := by decide +kernel
theorem dX5_lowest_38 : decode cX5_lowest 38 = .ok (.iadd, 1) := by decide +kernel
theorem dX5_lowest_39 : decode cX5_lowest 39 = .ok (.istore_n 2, 1) := by decide +kernel
theorem dX5_lowest_40 : decode cX5_lowest 40 = .ok (.iinc 3 1, 3) := by decide +kernel
theorem dX5_lowest_43 : decode cX5_lowest 43 = .ok (.goto (-34), 3) := by decide +kernel
theorem dX5_lowest_46 : decode cX5_lowest 46 = .ok (.iload_n 2, 1) := by decide +kernel
theorem dX5_lowest_47 : decode cX5_lowest 47 = .ok (.ireturn, 1) := by decide +kernel
theorem dX5_rickOf_0 : decode cX5_rickOf 0 = .ok (.iload_n 1, 1) := by decide +kernel
theorem dX5_rickOf_1 : decode cX5_rickOf 1 = .ok (.invokestatic 110, 3) := by decide +kernel
theorem dX5_rickOf_4 : decode cX5_rickOf 4 = .ok (.ifCond .ne 6, 3) := by decide +kernel
theorem dX5_rickOf_7 : decode cX5_rickOf 7 = .ok (.bipush (-11), 2) := by decide +kernel
theorem dX5_rickOf_9 : decode cX5_rickOf 9 = .ok (.ireturn, 1) := by decide +kernel
theorem dX5_rickOf_10 : decode cX5_rickOf 10 = .ok (.iload_n 2, 1) := by decide +kernel
theorem dX5_rickOf_11 : decode cX5_rickOf 11 = .ok (.tableswitch 117 0 8 #[49, 55, 66, 77, 83, 93, 99, 105, 111], 49) := by decide +kernel
theorem dX5_rickOf_60 : decode cX5_rickOf 60 = .ok (.aload_n 0, 1) := by decide +kernel
theorem dX5_rickOf_61 : decode cX5_rickOf 61 = .ok (.iload_n 1, 1) := by decide +kernel
theorem dX5_rickOf_62 : decode cX5_rickOf 62 = .ok (.invokevirtual 124, 3) := by decide +kernel
theorem dX5_rickOf_65 : decode cX5_rickOf 65 = .ok (.ireturn, 1) := by decide +kernel
theorem dX5_rickOf_66 : decode cX5_rickOf 66 = .ok (.aload_n 0, 1) := by decide +kernel
theorem dX5_rickOf_67 : decode cX5_rickOf 67 = .ok (.iload_n 1, 1) := by decide +kernel
theorem dX5_rickOf_68 : decode cX5_rickOf 68 = .ok (.aload_n 0, 1) := by decide +kernel
theorem dX5_rickOf_69 : decode cX5_rickOf 69 = .ok (.iload_n 1, 1) := by decide +kernel
theorem dX5_rickOf_70 : decode cX5_rickOf 70 = .ok (.invokevirtual 73, 3) := by decide +kernel
theorem dX5_rickOf_73 : decode cX5_rickOf 73 = .ok (.invokevirtual 70, 3) := by decide +kernel
theorem dX5_rickOf_76 : decode cX5_rickOf 76 = .ok (.ireturn, 1) := by decide +kernel
theorem dX5_rickOf_77 : decode cX5_rickOf 77 = .ok (.aload_n 0, 1) := by decide +kernel
theorem dX5_rickOf_78 : decode cX5_rickOf 78 = .ok (.iload_n 1, 1) := by decide +kernel
theorem dX5_rickOf_79 : decode cX5_rickOf 79 = .ok (.aload_n 0, 1) := by decide +kernel
theorem dX5_rickOf_80 : decode cX5_rickOf 80 = .ok (.iload_n 1, 1) := by decide +kernel
theorem dX5_rickOf_81 : decode cX5_rickOf 81 = .ok (.invokevirtual 73, 3) := by decide +kernel
theorem dX5_rickOf_84 : decode cX5_rickOf 84 = .ok (.invokevirtual 167, 3) := by decide +kernel
end
section
theorem dX5_rickOf_87 : decode cX5_rickOf 87 = .ok (.ireturn, 1) := by decide +kernel
theorem dX5_rickOf_88 : decode cX5_rickOf 88 = .ok (.aload_n 0, 1) := by decide +kernel
theorem dX5_rickOf_89 : decode cX5_rickOf 89 = .ok (.iload_n 1, 1) := by decide +kernel
theorem dX5_rickOf_90 : decode cX5_rickOf 90 = .ok (.invokevirtual 170, 3) := by decide +kernel
theorem dX5_rickOf_93 : decode cX5_rickOf 93 = .ok (.ireturn, 1) := by decide +kernel
theorem dX5_rickOf_94 : decode cX5_rickOf 94 = .ok (.aload_n 0, 1) := by decide +kernel
theorem dX5_rickOf_95 : decode cX5_rickOf 95 = .ok (.aload_n 0, 1) := by decide +kernel
theorem dX5_rickOf_96 : decode cX5_rickOf 96 = .ok (.iload_n 1, 1) := by decide +kernel
theorem dX5_rickOf_97 : decode cX5_rickOf 97 = .ok (.invokevirtual 124, 3) := by decide +kernel
theorem dX5_rickOf_100 : decode cX5_rickOf 100 = .ok (.invokevirtual 142, 3) := by decide +kernel
theorem dX5_rickOf_103 : decode cX5_rickOf 103 = .ok (.ireturn, 1) := by decide +kernel
theorem dX5_rickOf_104 : decode cX5_rickOf 104 = .ok (.aload_n 0, 1) := by decide +kernel
theorem dX5_rickOf_105 : decode cX5_rickOf 105 = .ok (.iload_n 1, 1) := by decide +kernel
theorem dX5_rickOf_106 : decode cX5_rickOf 106 = .ok (.invokevirtual 136, 3) := by decide +kernel
theorem dX5_rickOf_109 : decode cX5_rickOf 109 = .ok (.ireturn, 1) := by decide +kernel
theorem dX5_rickOf_110 : decode cX5_rickOf 110 = .ok (.aload_n 0, 1) := by decide +kernel
theorem dX5_rickOf_111 : decode cX5_rickOf 111 = .ok (.iload_n 1, 1) := by decide +kernel
theorem dX5_rickOf_112 : decode cX5_rickOf 112 = .ok (.invokevirtual 173, 3) := by decide +kernel
theorem dX5_rickOf_115 : decode cX5_rickOf 115 = .ok (.ireturn, 1) := by decide +kernel
theorem dX5_rickOf_116 : decode cX5_rickOf 116 = .ok (.aload_n 0, 1) := by decide +kernel
theorem dX5_rickOf_117 : decode cX5_rickOf 117 = .ok (.iload_n 1, 1) := by decide +kernel
theorem dX5_rickOf_118 : decode cX5_rickOf 118 = .ok (.invokevirtual 176, 3) := by decide +kernel
theorem dX5_rickOf_121 : decode cX5_rickOf 121 = .ok (.ireturn, 1) := by decide +kernel
theorem dX5_rickOf_122 : decode cX5_rickOf 122 = .ok (.aload_n 0, 1) := by decide +kernel
theorem dX5_rickOf_123 : decode cX5_rickOf 123 = .ok (.iload_n 1, 1) := by decide +kernel
theorem dX5_rickOf_124 : decode cX5_rickOf 124 = .ok (.invokevirtual 179, 3) := by decide +kernel
theorem dX5_rickOf_127 : decode cX5_rickOf 127 = .ok (.ireturn, 1) := by decide +kernel
theorem dX5_rickOf_128 : decode cX5_rickOf 128 = .ok (.bipush (-12), 2) := by decide +kernel
theorem dX5_rickOf_130 : decode cX5_rickOf 130 = .ok (.ireturn, 1) := by decide +kernel
theorem dX5_rank_0 : decode cX5_rank 0 = .ok (.iload_n 1, 1) := by decide +kernel
theorem dX5_rank_1 : decode cX5_rank 1 = .ok (.invokestatic 110, 3) := by decide +kernel
theorem dX5_rank_4 : decode cX5_rank 4 = .ok (.ifCond .ne 6, 3) := by decide +kernel
theorem dX5_rank_7 : decode cX5_rank 7 = .ok (.bipush (-11), 2) := by decide +kernel
theorem dX5_rank_9 : decode cX5_rank 9 = .ok (.ireturn, 1) := by decide +kernel
theorem dX5_rank_10 : decode cX5_rank 10 = .ok (.aload_n 0, 1) := by decide +kernel
theorem dX5_rank_11 : decode cX5_rank 11 = .ok (.iload_n 1, 1) := by decide +kernel
theorem dX5_rank_12 : decode cX5_rank 12 = .ok (.invokevirtual 100, 3) := by decide +kernel
theorem dX5_rank_15 : decode cX5_rank 15 = .ok (.iconst 0, 1) := by decide +kernel
theorem dX5_rank_16 : decode cX5_rank 16 = .ok (.istore_n 3, 1) := by decide +kernel
theorem dX5_rank_17 : decode cX5_rank 17 = .ok (.iload_n 3, 1) := by decide +kernel
theorem dX5_rank_18 : decode cX5_rank 18 = .ok (.aload_n 0, 1) := by decide +kernel
theorem dX5_rank_19 : decode cX5_rank 19 = .ok (.getfield 84, 3) := by decide +kernel
theorem dX5_rank_22 : decode cX5_rank 22 = .ok (.if_icmp .ge 25, 3) := by decide +kernel
theorem dX5_rank_25 : decode cX5_rank 25 = .ok (.aload_n 0, 1) := by decide +kernel
theorem dX5_rank_26 : decode cX5_rank 26 = .ok (.iload_n 1, 1) := by decide +kernel
theorem dX5_rank_27 : decode cX5_rank 27 = .ok (.aload_n 0, 1) := by decide +kernel
theorem dX5_rank_28 : decode cX5_rank 28 = .ok (.getfield 24, 3) := by decide +kernel
theorem dX5_rank_31 : decode cX5_rank 31 = .ok (.iload_n 3, 1) := by decide +kernel
theorem dX5_rank_32 : decode cX5_rank 32 = .ok (.iaload, 1) := by decide +kernel
theorem dX5_rank_33 : decode cX5_rank 33 = .ok (.iconst 0, 1) := by decide +kernel
theorem dX5_rank_34 : decode cX5_rank 34 = .ok (.invokevirtual 62, 3) := by decide +kernel
theorem dX5_rank_37 : decode cX5_rank 37 = .ok (.iload_n 2, 1) := by decide +kernel
theorem dX5_rank_38 : decode cX5_rank 38 = .ok (.if_icmp .ge 9, 3) := by decide +kernel
theorem dX5_rank_41 : decode cX5_rank 41 = .ok (.iinc 3 1, 3) := by decide +kernel
theorem dX5_rank_44 : decode cX5_rank 44 = .ok (.goto (-27), 3) := by decide +kernel
theorem dX5_rank_47 : decode cX5_rank 47 = .ok (.iload_n 3, 1) := by decide +kernel
theorem dX5_rank_48 : decode cX5_rank 48 = .ok (.ireturn, 1) := by decide +kernel
theorem dX5_rankAgain_0 : decode cX5_rankAgain 0 = .ok (.aload_n 0, 1) := by decide +kernel
theorem dX5_rankAgain_1 : decode cX5_rankAgain 1 = .ok (.iload_n 1, 1) := by decide +kernel
theorem dX5_rankAgain_2 : decode cX5_rankAgain 2 = .ok (.iload_n 2, 1) := by decide +kernel
theorem dX5_rankAgain_3 : decode cX5_rankAgain 3 = .ok (.invokevirtual 182, 3) := by decide +kernel
theorem dX5_rankAgain_6 : decode cX5_rankAgain 6 = .ok (.ireturn, 1) := by decide +kernel
theorem dX5_at_0 : decode cX5_at 0 = .ok (.iload_n 1, 1) := by decide +kernel
theorem dX5_at_1 : decode cX5_at 1 = .ok (.invokestatic 110, 3) := by decide +kernel
theorem dX5_at_4 : decode cX5_at 4 = .ok (.ifCond .ne 6, 3) := by decide +kernel
theorem dX5_at_7 : decode cX5_at 7 = .ok (.bipush (-11), 2) := by decide +kernel
theorem dX5_at_9 : decode cX5_at 9 = .ok (.ireturn, 1) := by decide +kernel
theorem dX5_at_10 : decode cX5_at 10 = .ok (.aload_n 0, 1) := by decide +kernel
theorem dX5_at_11 : decode cX5_at 11 = .ok (.iload_n 1, 1) := by decide +kernel
theorem dX5_at_12 : decode cX5_at 12 = .ok (.invokevirtual 100, 3) := by decide +kernel
theorem dX5_at_15 : decode cX5_at 15 = .ok (.iload_n 2, 1) := by decide +kernel
theorem dX5_at_16 : decode cX5_at 16 = .ok (.iconst 0, 1) := by decide +kernel
theorem dX5_at_17 : decode cX5_at 17 = .ok (.aload_n 0, 1) := by decide +kernel
theorem dX5_at_18 : decode cX5_at 18 = .ok (.getfield 84, 3) := by decide +kernel
theorem dX5_at_21 : decode cX5_at 21 = .ok (.iconst 1, 1) := by decide +kernel
theorem dX5_at_22 : decode cX5_at 22 = .ok (.isub, 1) := by decide +kernel
theorem dX5_at_23 : decode cX5_at 23 = .ok (.invokestatic 58, 3) := by decide +kernel
theorem dX5_at_26 : decode cX5_at 26 = .ok (.ifCond .eq 18, 3) := by decide +kernel
theorem dX5_at_29 : decode cX5_at 29 = .ok (.aload_n 0, 1) := by decide +kernel
theorem dX5_at_30 : decode cX5_at 30 = .ok (.iload_n 1, 1) := by decide +kernel
theorem dX5_at_31 : decode cX5_at 31 = .ok (.aload_n 0, 1) := by decide +kernel
theorem dX5_at_32 : decode cX5_at 32 = .ok (.getfield 24, 3) := by decide +kernel
theorem dX5_at_35 : decode cX5_at 35 = .ok (.iload_n 2, 1) := by decide +kernel
theorem dX5_at_36 : decode cX5_at 36 = .ok (.iaload, 1) := by decide +kernel
theorem dX5_at_37 : decode cX5_at 37 = .ok (.iconst 0, 1) := by decide +kernel
theorem dX5_at_38 : decode cX5_at 38 = .ok (.invokevirtual 62, 3) := by decide +kernel
theorem dX5_at_41 : decode cX5_at 41 = .ok (.goto 5, 3) := by decide +kernel
theorem dX5_at_44 : decode cX5_at 44 = .ok (.bipush (-11), 2) := by decide +kernel
theorem dX5_at_46 : decode cX5_at 46 = .ok (.ireturn, 1) := by decide +kernel
theorem dX5_between_0 : decode cX5_between 0 = .ok (.iload_n 1, 1) := by decide +kernel
theorem dX5_between_1 : decode cX5_between 1 = .ok (.invokestatic 110, 3) := by decide +kernel
theorem dX5_between_4 : decode cX5_between 4 = .ok (.ifCond .ne 6, 3) := by decide +kernel
theorem dX5_between_7 : decode cX5_between 7 = .ok (.bipush (-11), 2) := by decide +kernel
theorem dX5_between_9 : decode cX5_between 9 = .ok (.ireturn, 1) := by decide +kernel
theorem dX5_between_10 : decode cX5_between 10 = .ok (.aload_n 0, 1) := by decide +kernel
theorem dX5_between_11 : decode cX5_between 11 = .ok (.iload_n 1, 1) := by decide +kernel
theorem dX5_between_12 : decode cX5_between 12 = .ok (.invokevirtual 100, 3) := by decide +kernel
theorem dX5_between_15 : decode cX5_between 15 = .ok (.iconst 0, 1) := by decide +kernel
theorem dX5_between_16 : decode cX5_between 16 = .ok (.istore 4, 2) := by decide +kernel
theorem dX5_between_18 : decode cX5_between 18 = .ok (.iconst 0, 1) := by decide +kernel
theorem dX5_between_19 : decode cX5_between 19 = .ok (.istore 5, 2) := by decide +kernel
theorem dX5_between_21 : decode cX5_between 21 = .ok (.iload 5, 2) := by decide +kernel
theorem dX5_between_23 : decode cX5_between 23 = .ok (.aload_n 0, 1) := by decide +kernel
theorem dX5_between_24 : decode cX5_between 24 = .ok (.getfield 84, 3) := by decide +kernel
theorem dX5_between_27 : decode cX5_between 27 = .ok (.if_icmp .ge 52, 3) := by decide +kernel
theorem dX5_between_30 : decode cX5_between 30 = .ok (.iload 4, 2) := by decide +kernel
theorem dX5_between_32 : decode cX5_between 32 = .ok (.aload_n 0, 1) := by decide +kernel
theorem dX5_between_33 : decode cX5_between 33 = .ok (.iload_n 1, 1) := by decide +kernel
theorem dX5_between_34 : decode cX5_between 34 = .ok (.aload_n 0, 1) := by decide +kernel
theorem dX5_between_35 : decode cX5_between 35 = .ok (.getfield 24, 3) := by decide +kernel
theorem dX5_between_38 : decode cX5_between 38 = .ok (.iload 5, 2) := by decide +kernel
theorem dX5_between_40 : decode cX5_between 40 = .ok (.iaload, 1) := by decide +kernel
theorem dX5_between_41 : decode cX5_between 41 = .ok (.iconst 0, 1) := by decide +kernel
theorem dX5_between_42 : decode cX5_between 42 = .ok (.invokevirtual 62, 3) := by decide +kernel
theorem dX5_between_45 : decode cX5_between 45 = .ok (.iload_n 2, 1) := by decide +kernel
theorem dX5_between_46 : decode cX5_between 46 = .ok (.iload_n 3, 1) := by decide +kernel
theorem dX5_between_47 : decode cX5_between 47 = .ok (.invokestatic 58, 3) := by decide +kernel
theorem dX5_between_50 : decode cX5_between 50 = .ok (.ifCond .eq 19, 3) := by decide +kernel
theorem dX5_between_53 : decode cX5_between 53 = .ok (.aload_n 0, 1) := by decide +kernel
theorem dX5_between_54 : decode cX5_between 54 = .ok (.iload_n 1, 1) := by decide +kernel
theorem dX5_between_55 : decode cX5_between 55 = .ok (.aload_n 0, 1) := by decide +kernel
theorem dX5_between_56 : decode cX5_between 56 = .ok (.getfield 24, 3) := by decide +kernel
theorem dX5_between_59 : decode cX5_between 59 = .ok (.iload 5, 2) := by decide +kernel
theorem dX5_between_61 : decode cX5_between 61 = .ok (.iaload, 1) := by decide +kernel
theorem dX5_between_62 : decode cX5_between 62 = .ok (.iconst 1, 1) := by decide +kernel
theorem dX5_between_63 : decode cX5_between 63 = .ok (.invokevirtual 62, 3) := by decide +kernel
theorem dX5_between_66 : decode cX5_between 66 = .ok (.goto 4, 3) := by decide +kernel
theorem dX5_between_69 : decode cX5_between 69 = .ok (.iconst 0, 1) := by decide +kernel
theorem dX5_between_70 : decode cX5_between 70 = .ok (.iadd, 1) := by decide +kernel
theorem dX5_between_71 : decode cX5_between 71 = .ok (.istore 4, 2) := by decide +kernel
theorem dX5_between_73 : decode cX5_between 73 = .ok (.iinc 5 1, 3) := by decide +kernel
theorem dX5_between_76 : decode cX5_between 76 = .ok (.goto (-55), 3) := by decide +kernel
theorem dX5_between_79 : decode cX5_between 79 = .ok (.iload 4, 2) := by decide +kernel
theorem dX5_between_81 : decode cX5_between 81 = .ok (.ireturn, 1) := by decide +kernel
theorem dX5_betweenAgain_0 : decode cX5_betweenAgain 0 = .ok (.aload_n 0, 1) := by decide +kernel
theorem dX5_betweenAgain_1 : decode cX5_betweenAgain 1 = .ok (.iload_n 1, 1) := by decide +kernel
theorem dX5_betweenAgain_2 : decode cX5_betweenAgain 2 = .ok (.iload_n 2, 1) := by decide +kernel
theorem dX5_betweenAgain_3 : decode cX5_betweenAgain 3 = .ok (.iload_n 3, 1) := by decide +kernel
theorem dX5_betweenAgain_4 : decode cX5_betweenAgain 4 = .ok (.invokevirtual 185, 3) := by decide +kernel
theorem dX5_betweenAgain_7 : decode cX5_betweenAgain 7 = .ok (.ireturn, 1) := by decide +kernel
theorem dX5_isThere_0 : decode cX5_isThere 0 = .ok (.aload_n 0, 1) := by decide +kernel
theorem dX5_isThere_1 : decode cX5_isThere 1 = .ok (.iload_n 1, 1) := by decide +kernel
theorem dX5_isThere_2 : decode cX5_isThere 2 = .ok (.bipush 30, 2) := by decide +kernel
theorem dX5_isThere_4 : decode cX5_isThere 4 = .ok (.idiv, 1) := by decide +kernel
theorem dX5_isThere_5 : decode cX5_isThere 5 = .ok (.iload_n 1, 1) := by decide +kernel
theorem dX5_isThere_6 : decode cX5_isThere 6 = .ok (.bipush 30, 2) := by decide +kernel
theorem dX5_isThere_8 : decode cX5_isThere 8 = .ok (.irem, 1) := by decide +kernel
theorem dX5_isThere_9 : decode cX5_isThere 9 = .ok (.iconst 0, 1) := by decide +kernel
theorem dX5_isThere_10 : decode cX5_isThere 10 = .ok (.invokevirtual 62, 3) := by decide +kernel
theorem dX5_isThere_13 : decode cX5_isThere 13 = .ok (.ifCond .lt 7, 3) := by decide +kernel
theorem dX5_isThere_16 : decode cX5_isThere 16 = .ok (.iconst 1, 1) := by decide +kernel
theorem dX5_isThere_17 : decode cX5_isThere 17 = .ok (.goto 4, 3) := by decide +kernel
theorem dX5_isThere_20 : decode cX5_isThere 20 = .ok (.iconst 0, 1) := by decide +kernel
theorem dX5_isThere_21 : decode cX5_isThere 21 = .ok (.ireturn, 1) := by decide +kernel
theorem dX5_ofAll_0 : decode cX5_ofAll 0 = .ok (.aload_n 0, 1) := by decide +kernel
theorem dX5_ofAll_1 : decode cX5_ofAll 1 = .ok (.iload_n 1, 1) := by decide +kernel
theorem dX5_ofAll_2 : decode cX5_ofAll 2 = .ok (.bipush 30, 2) := by decide +kernel
theorem dX5_ofAll_4 : decode cX5_ofAll 4 = .ok (.idiv, 1) := by decide +kernel
theorem dX5_ofAll_5 : decode cX5_ofAll 5 = .ok (.iload_n 1, 1) := by decide +kernel
theorem dX5_ofAll_6 : decode cX5_ofAll 6 = .ok (.bipush 30, 2) := by decide +kernel
theorem dX5_ofAll_8 : decode cX5_ofAll 8 = .ok (.irem, 1) := by decide +kernel
theorem dX5_ofAll_9 : decode cX5_ofAll 9 = .ok (.iload_n 2, 1) := by decide +kernel
theorem dX5_ofAll_10 : decode cX5_ofAll 10 = .ok (.invokevirtual 62, 3) := by decide +kernel
theorem dX5_ofAll_13 : decode cX5_ofAll 13 = .ok (.ireturn, 1) := by decide +kernel
theorem dX5_isAhead_0 : decode cX5_isAhead 0 = .ok (.aload_n 0, 1) := by decide +kernel
theorem dX5_isAhead_1 : decode cX5_isAhead 1 = .ok (.iload_n 1, 1) := by decide +kernel
theorem dX5_isAhead_2 : decode cX5_isAhead 2 = .ok (.iconst 1, 1) := by decide +kernel
theorem dX5_isAhead_3 : decode cX5_isAhead 3 = .ok (.invokevirtual 188, 3) := by decide +kernel
theorem dX5_isAhead_6 : decode cX5_isAhead 6 = .ok (.aload_n 0, 1) := by decide +kernel
theorem dX5_isAhead_7 : decode cX5_isAhead 7 = .ok (.iload_n 2, 1) := by decide +kernel
theorem dX5_isAhead_8 : decode cX5_isAhead 8 = .ok (.iconst 1, 1) := by decide +kernel
theorem dX5_isAhead_9 : decode cX5_isAhead 9 = .ok (.invokevirtual 188, 3) := by decide +kernel
theorem dX5_isAhead_12 : decode cX5_isAhead 12 = .ok (.isub, 1) := by decide +kernel
theorem dX5_isAhead_13 : decode cX5_isAhead 13 = .ok (.istore_n 3, 1) := by decide +kernel
theorem dX5_isAhead_14 : decode cX5_isAhead 14 = .ok (.aload_n 0, 1) := by decide +kernel
theorem dX5_isAhead_15 : decode cX5_isAhead 15 = .ok (.iload_n 1, 1) := by decide +kernel
theorem dX5_isAhead_16 : decode cX5_isAhead 16 = .ok (.iconst 0, 1) := by decide +kernel
theorem dX5_isAhead_17 : decode cX5_isAhead 17 = .ok (.invokevirtual 188, 3) := by decide +kernel
theorem dX5_isAhead_20 : decode cX5_isAhead 20 = .ok (.aload_n 0, 1) := by decide +kernel
theorem dX5_isAhead_21 : decode cX5_isAhead 21 = .ok (.iload_n 2, 1) := by decide +kernel
theorem dX5_isAhead_22 : decode cX5_isAhead 22 = .ok (.iconst 0, 1) := by decide +kernel
theorem dX5_isAhead_23 : decode cX5_isAhead 23 = .ok (.invokevirtual 188, 3) := by decide +kernel
theorem dX5_isAhead_26 : decode cX5_isAhead 26 = .ok (.isub, 1) := by decide +kernel
theorem dX5_isAhead_27 : decode cX5_isAhead 27 = .ok (.istore 4, 2) := by decide +kernel
theorem dX5_isAhead_29 : decode cX5_isAhead 29 = .ok (.iload_n 3, 1) := by decide +kernel
theorem dX5_isAhead_30 : decode cX5_isAhead 30 = .ok (.ifCond .eq 15, 3) := by decide +kernel
theorem dX5_isAhead_33 : decode cX5_isAhead 33 = .ok (.iload_n 3, 1) := by decide +kernel
theorem dX5_isAhead_34 : decode cX5_isAhead 34 = .ok (.ifCond .le 7, 3) := by decide +kernel
theorem dX5_isAhead_37 : decode cX5_isAhead 37 = .ok (.iconst 1, 1) := by decide +kernel
theorem dX5_isAhead_38 : decode cX5_isAhead 38 = .ok (.goto 41, 3) := by decide +kernel
theorem dX5_isAhead_41 : decode cX5_isAhead 41 = .ok (.iconst 0, 1) := by decide +kernel
theorem dX5_isAhead_42 : decode cX5_isAhead 42 = .ok (.goto 37, 3) := by decide +kernel
theorem dX5_isAhead_45 : decode cX5_isAhead 45 = .ok (.iload 4, 2) := by decide +kernel
theorem dX5_isAhead_47 : decode cX5_isAhead 47 = .ok (.ifCond .eq 16, 3) := by decide +kernel
theorem dX5_isAhead_50 : decode cX5_isAhead 50 = .ok (.iload 4, 2) := by decide +kernel
theorem dX5_isAhead_52 : decode cX5_isAhead 52 = .ok (.ifCond .ge 7, 3) := by decide +kernel
theorem dX5_isAhead_55 : decode cX5_isAhead 55 = .ok (.iconst 1, 1) := by decide +kernel
theorem dX5_isAhead_56 : decode cX5_isAhead 56 = .ok (.goto 23, 3) := by decide +kernel
theorem dX5_isAhead_59 : decode cX5_isAhead 59 = .ok (.iconst 0, 1) := by decide +kernel
theorem dX5_isAhead_60 : decode cX5_isAhead 60 = .ok (.goto 19, 3) := by decide +kernel
theorem dX5_isAhead_63 : decode cX5_isAhead 63 = .ok (.iload_n 1, 1) := by decide +kernel
theorem dX5_isAhead_64 : decode cX5_isAhead 64 = .ok (.bipush 30, 2) := by decide +kernel
theorem dX5_isAhead_66 : decode cX5_isAhead 66 = .ok (.idiv, 1) := by decide +kernel
theorem dX5_isAhead_67 : decode cX5_isAhead 67 = .ok (.iload_n 2, 1) := by decide +kernel
theorem dX5_isAhead_68 : decode cX5_isAhead 68 = .ok (.bipush 30, 2) := by decide +kernel
theorem dX5_isAhead_70 : decode cX5_isAhead 70 = .ok (.idiv, 1) := by decide +kernel
theorem dX5_isAhead_71 : decode cX5_isAhead 71 = .ok (.if_icmp .ge 7, 3) := by decide +kernel
theorem dX5_isAhead_74 : decode cX5_isAhead 74 = .ok (.iconst 1, 1) := by decide +kernel
theorem dX5_isAhead_75 : decode cX5_isAhead 75 = .ok (.goto 4, 3) := by decide +kernel
theorem dX5_isAhead_78 : decode cX5_isAhead 78 = .ok (.iconst 0, 1) := by decide +kernel
theorem dX5_isAhead_79 : decode cX5_isAhead 79 = .ok (.ireturn, 1) := by decide +kernel
theorem dX5_heaviest_0 : decode cX5_heaviest 0 = .ok (.iconst 0, 1) := by decide +kernel
theorem dX5_heaviest_1 : decode cX5_heaviest 1 = .ok (.istore_n 2, 1) := by decide +kernel
theorem dX5_heaviest_2 : decode cX5_heaviest 2 = .ok (.iload_n 2, 1) := by decide +kernel
theorem dX5_heaviest_3 : decode cX5_heaviest 3 = .ok (.bipush 90, 2) := by decide +kernel
theorem dX5_heaviest_5 : decode cX5_heaviest 5 = .ok (.if_icmp .ge 91, 3) := by decide +kernel
theorem dX5_heaviest_8 : decode cX5_heaviest 8 = .ok (.iconst 0, 1) := by decide +kernel
theorem dX5_heaviest_9 : decode cX5_heaviest 9 = .ok (.istore_n 3, 1) := by decide +kernel
theorem dX5_heaviest_10 : decode cX5_heaviest 10 = .ok (.iconst 0, 1) := by decide +kernel
theorem dX5_heaviest_11 : decode cX5_heaviest 11 = .ok (.istore 4, 2) := by decide +kernel
theorem dX5_heaviest_13 : decode cX5_heaviest 13 = .ok (.iload 4, 2) := by decide +kernel
theorem dX5_heaviest_15 : decode cX5_heaviest 15 = .ok (.bipush 90, 2) := by decide +kernel
theorem dX5_heaviest_17 : decode cX5_heaviest 17 = .ok (.if_icmp .ge 44, 3) := by decide +kernel
theorem dX5_heaviest_20 : decode cX5_heaviest 20 = .ok (.aload_n 0, 1) := by decide +kernel
theorem dX5_heaviest_21 : decode cX5_heaviest 21 = .ok (.iload_n 2, 1) := by decide +kernel
theorem dX5_heaviest_22 : decode cX5_heaviest 22 = .ok (.invokevirtual 191, 3) := by decide +kernel
theorem dX5_heaviest_25 : decode cX5_heaviest 25 = .ok (.ifCond .eq 36, 3) := by decide +kernel
theorem dX5_heaviest_28 : decode cX5_heaviest 28 = .ok (.iload_n 3, 1) := by decide +kernel
theorem dX5_heaviest_29 : decode cX5_heaviest 29 = .ok (.aload_n 0, 1) := by decide +kernel
theorem dX5_heaviest_30 : decode cX5_heaviest 30 = .ok (.iload 4, 2) := by decide +kernel
theorem dX5_heaviest_32 : decode cX5_heaviest 32 = .ok (.invokevirtual 191, 3) := by decide +kernel
theorem dX5_heaviest_35 : decode cX5_heaviest 35 = .ok (.ifCond .eq 17, 3) := by decide +kernel
theorem dX5_heaviest_38 : decode cX5_heaviest 38 = .ok (.aload_n 0, 1) := by decide +kernel
theorem dX5_heaviest_39 : decode cX5_heaviest 39 = .ok (.iload 4, 2) := by decide +kernel
theorem dX5_heaviest_41 : decode cX5_heaviest 41 = .ok (.iload_n 2, 1) := by decide +kernel
theorem dX5_heaviest_42 : decode cX5_heaviest 42 = .ok (.invokevirtual 194, 3) := by decide +kernel
theorem dX5_heaviest_45 : decode cX5_heaviest 45 = .ok (.ifCond .eq 7, 3) := by decide +kernel
theorem dX5_heaviest_48 : decode cX5_heaviest 48 = .ok (.iconst 1, 1) := by decide +kernel
theorem dX5_heaviest_49 : decode cX5_heaviest 49 = .ok (.goto 4, 3) := by decide +kernel
theorem dX5_heaviest_52 : decode cX5_heaviest 52 = .ok (.iconst 0, 1) := by decide +kernel
theorem dX5_heaviest_53 : decode cX5_heaviest 53 = .ok (.iadd, 1) := by decide +kernel
theorem dX5_heaviest_54 : decode cX5_heaviest 54 = .ok (.istore_n 3, 1) := by decide +kernel
theorem dX5_heaviest_55 : decode cX5_heaviest 55 = .ok (.iinc 4 1, 3) := by decide +kernel
theorem dX5_heaviest_58 : decode cX5_heaviest 58 = .ok (.goto (-45), 3) := by decide +kernel
theorem dX5_heaviest_61 : decode cX5_heaviest 61 = .ok (.aload_n 0, 1) := by decide +kernel
theorem dX5_heaviest_62 : decode cX5_heaviest 62 = .ok (.iload_n 2, 1) := by decide +kernel
theorem dX5_heaviest_63 : decode cX5_heaviest 63 = .ok (.invokevirtual 191, 3) := by decide +kernel
theorem dX5_heaviest_66 : decode cX5_heaviest 66 = .ok (.ifCond .eq 24, 3) := by decide +kernel
theorem dX5_heaviest_69 : decode cX5_heaviest 69 = .ok (.iload_n 3, 1) := by decide +kernel
theorem dX5_heaviest_70 : decode cX5_heaviest 70 = .ok (.iload_n 1, 1) := by decide +kernel
theorem dX5_heaviest_71 : decode cX5_heaviest 71 = .ok (.if_icmp .ne 19, 3) := by decide +kernel
theorem dX5_heaviest_74 : decode cX5_heaviest 74 = .ok (.sipush 1000, 3) := by decide +kernel
theorem dX5_heaviest_77 : decode cX5_heaviest 77 = .ok (.iload_n 2, 1) := by decide +kernel
theorem dX5_heaviest_78 : decode cX5_heaviest 78 = .ok (.bipush 30, 2) := by decide +kernel
theorem dX5_heaviest_80 : decode cX5_heaviest 80 = .ok (.idiv, 1) := by decide +kernel
theorem dX5_heaviest_81 : decode cX5_heaviest 81 = .ok (.imul, 1) := by decide +kernel
theorem dX5_heaviest_82 : decode cX5_heaviest 82 = .ok (.aload_n 0, 1) := by decide +kernel
theorem dX5_heaviest_83 : decode cX5_heaviest 83 = .ok (.iload_n 2, 1) := by decide +kernel
theorem dX5_heaviest_84 : decode cX5_heaviest 84 = .ok (.iconst 0, 1) := by decide +kernel
theorem dX5_heaviest_85 : decode cX5_heaviest 85 = .ok (.invokevirtual 188, 3) := by decide +kernel
theorem dX5_heaviest_88 : decode cX5_heaviest 88 = .ok (.iadd, 1) := by decide +kernel
theorem dX5_heaviest_89 : decode cX5_heaviest 89 = .ok (.ireturn, 1) := by decide +kernel
theorem dX5_heaviest_90 : decode cX5_heaviest 90 = .ok (.iinc 2 1, 3) := by decide +kernel
theorem dX5_heaviest_93 : decode cX5_heaviest 93 = .ok (.goto (-91), 3) := by decide +kernel
theorem dX5_heaviest_96 : decode cX5_heaviest 96 = .ok (.bipush (-11), 2) := by decide +kernel
theorem dX5_heaviest_98 : decode cX5_heaviest 98 = .ok (.ireturn, 1) := by decide +kernel
theorem dX5_load_0 : decode cX5_load 0 = .ok (.iconst 0, 1) := by decide +kernel
theorem dX5_load_1 : decode cX5_load 1 = .ok (.istore 4, 2) := by decide +kernel
theorem dX5_load_3 : decode cX5_load 3 = .ok (.iconst 0, 1) := by decide +kernel
theorem dX5_load_4 : decode cX5_load 4 = .ok (.istore 5, 2) := by decide +kernel
theorem dX5_load_6 : decode cX5_load 6 = .ok (.iconst 0, 1) := by decide +kernel
theorem dX5_load_7 : decode cX5_load 7 = .ok (.istore 6, 2) := by decide +kernel
theorem dX5_load_9 : decode cX5_load 9 = .ok (.iload 6, 2) := by decide +kernel
theorem dX5_load_11 : decode cX5_load 11 = .ok (.iload_n 2, 1) := by decide +kernel
theorem dX5_load_12 : decode cX5_load 12 = .ok (.if_icmp .gt 64, 3) := by decide +kernel
theorem dX5_load_15 : decode cX5_load 15 = .ok (.aload_n 0, 1) := by decide +kernel
theorem dX5_load_16 : decode cX5_load 16 = .ok (.iload_n 1, 1) := by decide +kernel
theorem dX5_load_17 : decode cX5_load 17 = .ok (.aload_n 0, 1) := by decide +kernel
theorem dX5_load_18 : decode cX5_load 18 = .ok (.getfield 24, 3) := by decide +kernel
theorem dX5_load_21 : decode cX5_load 21 = .ok (.iload 6, 2) := by decide +kernel
theorem dX5_load_23 : decode cX5_load 23 = .ok (.iaload, 1) := by decide +kernel
theorem dX5_load_24 : decode cX5_load 24 = .ok (.iconst 1, 1) := by decide +kernel
theorem dX5_load_25 : decode cX5_load 25 = .ok (.invokevirtual 62, 3) := by decide +kernel
theorem dX5_load_28 : decode cX5_load 28 = .ok (.istore 7, 2) := by decide +kernel
theorem dX5_load_30 : decode cX5_load 30 = .ok (.iload 4, 2) := by decide +kernel
theorem dX5_load_32 : decode cX5_load 32 = .ok (.iload 5, 2) := by decide +kernel
theorem dX5_load_34 : decode cX5_load 34 = .ok (.iload 7, 2) := by decide +kernel
theorem dX5_load_36 : decode cX5_load 36 = .ok (.iadd, 1) := by decide +kernel
theorem dX5_load_37 : decode cX5_load 37 = .ok (.iload_n 3, 1) := by decide +kernel
theorem dX5_load_38 : decode cX5_load 38 = .ok (.if_icmp .le 7, 3) := by decide +kernel
theorem dX5_load_41 : decode cX5_load 41 = .ok (.iconst 1, 1) := by decide +kernel
theorem dX5_load_42 : decode cX5_load 42 = .ok (.goto 4, 3) := by decide +kernel
theorem dX5_load_45 : decode cX5_load 45 = .ok (.iconst 0, 1) := by decide +kernel
theorem dX5_load_46 : decode cX5_load 46 = .ok (.iadd, 1) := by decide +kernel
theorem dX5_load_47 : decode cX5_load 47 = .ok (.istore 4, 2) := by decide +kernel
theorem dX5_load_49 : decode cX5_load 49 = .ok (.iload 5, 2) := by decide +kernel
theorem dX5_load_51 : decode cX5_load 51 = .ok (.iload 7, 2) := by decide +kernel
theorem dX5_load_53 : decode cX5_load 53 = .ok (.iadd, 1) := by decide +kernel
theorem dX5_load_54 : decode cX5_load 54 = .ok (.iload_n 3, 1) := by decide +kernel
theorem dX5_load_55 : decode cX5_load 55 = .ok (.if_icmp .le 8, 3) := by decide +kernel
theorem dX5_load_58 : decode cX5_load 58 = .ok (.iload 7, 2) := by decide +kernel
theorem dX5_load_60 : decode cX5_load 60 = .ok (.goto 8, 3) := by decide +kernel
theorem dX5_load_63 : decode cX5_load 63 = .ok (.iload 5, 2) := by decide +kernel
theorem dX5_load_65 : decode cX5_load 65 = .ok (.iload 7, 2) := by decide +kernel
theorem dX5_load_67 : decode cX5_load 67 = .ok (.iadd, 1) := by decide +kernel
theorem dX5_load_68 : decode cX5_load 68 = .ok (.istore 5, 2) := by decide +kernel
theorem dX5_load_70 : decode cX5_load 70 = .ok (.iinc 6 1, 3) := by decide +kernel
theorem dX5_load_73 : decode cX5_load 73 = .ok (.goto (-64), 3) := by decide +kernel
theorem dX5_load_76 : decode cX5_load 76 = .ok (.iload 4, 2) := by decide +kernel
theorem dX5_load_78 : decode cX5_load 78 = .ok (.ireturn, 1) := by decide +kernel
theorem dX5_isBearing_0 : decode cX5_isBearing 0 = .ok (.iload_n 0, 1) := by decide +kernel
theorem dX5_isBearing_1 : decode cX5_isBearing 1 = .ok (.bipush 99, 2) := by decide +kernel
theorem dX5_isBearing_3 : decode cX5_isBearing 3 = .ok (.sipush 999, 3) := by decide +kernel
theorem dX5_isBearing_6 : decode cX5_isBearing 6 = .ok (.invokestatic 58, 3) := by decide +kernel
theorem dX5_isBearing_9 : decode cX5_isBearing 9 = .ok (.ireturn, 1) := by decide +kernel
theorem dX5_carts_0 : decode cX5_carts 0 = .ok (.iload_n 1, 1) := by decide +kernel
theorem dX5_carts_1 : decode cX5_carts 1 = .ok (.invokestatic 110, 3) := by decide +kernel
theorem dX5_carts_4 : decode cX5_carts 4 = .ok (.ifCond .ne 6, 3) := by decide +kernel
theorem dX5_carts_7 : decode cX5_carts 7 = .ok (.bipush (-11), 2) := by decide +kernel
theorem dX5_carts_9 : decode cX5_carts 9 = .ok (.ireturn, 1) := by decide +kernel
theorem dX5_carts_10 : decode cX5_carts 10 = .ok (.iload_n 2, 1) := by decide +kernel
theorem dX5_carts_11 : decode cX5_carts 11 = .ok (.invokestatic 197, 3) := by decide +kernel
theorem dX5_carts_14 : decode cX5_carts 14 = .ok (.ifCond .ne 6, 3) := by decide +kernel
theorem dX5_carts_17 : decode cX5_carts 17 = .ok (.bipush (-12), 2) := by decide +kernel
theorem dX5_carts_19 : decode cX5_carts 19 = .ok (.ireturn, 1) := by decide +kernel
theorem dX5_carts_20 : decode cX5_carts 20 = .ok (.aload_n 0, 1) := by decide +kernel
theorem dX5_carts_21 : decode cX5_carts 21 = .ok (.iload_n 1, 1) := by decide +kernel
theorem dX5_carts_22 : decode cX5_carts 22 = .ok (.invokevirtual 100, 3) := by decide +kernel
theorem dX5_carts_25 : decode cX5_carts 25 = .ok (.aload_n 0, 1) := by decide +kernel
theorem dX5_carts_26 : decode cX5_carts 26 = .ok (.getfield 84, 3) := by decide +kernel
theorem dX5_carts_29 : decode cX5_carts 29 = .ok (.ifCond .ne 7, 3) := by decide +kernel
theorem dX5_carts_32 : decode cX5_carts 32 = .ok (.iconst 0, 1) := by decide +kernel
theorem dX5_carts_33 : decode cX5_carts 33 = .ok (.goto 17, 3) := by decide +kernel
theorem dX5_carts_36 : decode cX5_carts 36 = .ok (.aload_n 0, 1) := by decide +kernel
theorem dX5_carts_37 : decode cX5_carts 37 = .ok (.iload_n 1, 1) := by decide +kernel
theorem dX5_carts_38 : decode cX5_carts 38 = .ok (.aload_n 0, 1) := by decide +kernel
theorem dX5_carts_39 : decode cX5_carts 39 = .ok (.getfield 84, 3) := by decide +kernel
theorem dX5_carts_42 : decode cX5_carts 42 = .ok (.iconst 1, 1) := by decide +kernel
theorem dX5_carts_43 : decode cX5_carts 43 = .ok (.isub, 1) := by decide +kernel
theorem dX5_carts_44 : decode cX5_carts 44 = .ok (.iload_n 2, 1) := by decide +kernel
theorem dX5_carts_45 : decode cX5_carts 45 = .ok (.invokevirtual 200, 3) := by decide +kernel
theorem dX5_carts_48 : decode cX5_carts 48 = .ok (.iconst 1, 1) := by decide +kernel
theorem dX5_carts_49 : decode cX5_carts 49 = .ok (.iadd, 1) := by decide +kernel
theorem dX5_carts_50 : decode cX5_carts 50 = .ok (.ireturn, 1) := by decide +kernel
theorem dX5_cartOf_0 : decode cX5_cartOf 0 = .ok (.iload_n 1, 1) := by decide +kernel
theorem dX5_cartOf_1 : decode cX5_cartOf 1 = .ok (.invokestatic 110, 3) := by decide +kernel
theorem dX5_cartOf_4 : decode cX5_cartOf 4 = .ok (.ifCond .eq 12, 3) := by decide +kernel
theorem dX5_cartOf_7 : decode cX5_cartOf 7 = .ok (.aload_n 0, 1) := by decide +kernel
theorem dX5_cartOf_8 : decode cX5_cartOf 8 = .ok (.iload_n 1, 1) := by decide +kernel
theorem dX5_cartOf_9 : decode cX5_cartOf 9 = .ok (.iload_n 2, 1) := by decide +kernel
theorem dX5_cartOf_10 : decode cX5_cartOf 10 = .ok (.invokevirtual 117, 3) := by decide +kernel
theorem dX5_cartOf_13 : decode cX5_cartOf 13 = .ok (.ifCond .ge 6, 3) := by decide +kernel
theorem dX5_cartOf_16 : decode cX5_cartOf 16 = .ok (.bipush (-11), 2) := by decide +kernel
theorem dX5_cartOf_18 : decode cX5_cartOf 18 = .ok (.ireturn, 1) := by decide +kernel
theorem dX5_cartOf_19 : decode cX5_cartOf 19 = .ok (.iload_n 3, 1) := by decide +kernel
theorem dX5_cartOf_20 : decode cX5_cartOf 20 = .ok (.invokestatic 197, 3) := by decide +kernel
theorem dX5_cartOf_23 : decode cX5_cartOf 23 = .ok (.ifCond .ne 6, 3) := by decide +kernel
theorem dX5_cartOf_26 : decode cX5_cartOf 26 = .ok (.bipush (-12), 2) := by decide +kernel
theorem dX5_cartOf_28 : decode cX5_cartOf 28 = .ok (.ireturn, 1) := by decide +kernel
theorem dX5_cartOf_29 : decode cX5_cartOf 29 = .ok (.aload_n 0, 1) := by decide +kernel
theorem dX5_cartOf_30 : decode cX5_cartOf 30 = .ok (.iload_n 1, 1) := by decide +kernel
theorem dX5_cartOf_31 : decode cX5_cartOf 31 = .ok (.aload_n 0, 1) := by decide +kernel
theorem dX5_cartOf_32 : decode cX5_cartOf 32 = .ok (.iload_n 1, 1) := by decide +kernel
theorem dX5_cartOf_33 : decode cX5_cartOf 33 = .ok (.iload_n 2, 1) := by decide +kernel
theorem dX5_cartOf_34 : decode cX5_cartOf 34 = .ok (.invokevirtual 182, 3) := by decide +kernel
theorem dX5_cartOf_37 : decode cX5_cartOf 37 = .ok (.iload_n 3, 1) := by decide +kernel
theorem dX5_cartOf_38 : decode cX5_cartOf 38 = .ok (.invokevirtual 200, 3) := by decide +kernel
theorem dX5_cartOf_41 : decode cX5_cartOf 41 = .ok (.ireturn, 1) := by decide +kernel
theorem dX5_bits_0 : decode cX5_bits 0 = .ok (.iload_n 2, 1) := by decide +kernel
theorem dX5_bits_1 : decode cX5_bits 1 = .ok (.ifCond .ge 7, 3) := by decide +kernel
theorem dX5_bits_4 : decode cX5_bits 4 = .ok (.lload_n 3, 1) := by decide +kernel
theorem dX5_bits_5 : decode cX5_bits 5 = .ok (.iconst 1, 1) := by decide +kernel
theorem dX5_bits_6 : decode cX5_bits 6 = .ok (.lshl, 1) := by decide +kernel
theorem dX5_bits_7 : decode cX5_bits 7 = .ok (.lreturn, 1) := by decide +kernel
theorem dX5_bits_8 : decode cX5_bits 8 = .ok (.aload_n 0, 1) := by decide +kernel
theorem dX5_bits_9 : decode cX5_bits 9 = .ok (.iload_n 1, 1) := by decide +kernel
theorem dX5_bits_10 : decode cX5_bits 10 = .ok (.aload_n 0, 1) := by decide +kernel
theorem dX5_bits_11 : decode cX5_bits 11 = .ok (.iload_n 1, 1) := by decide +kernel
theorem dX5_bits_12 : decode cX5_bits 12 = .ok (.iload_n 2, 1) := by decide +kernel
theorem dX5_bits_13 : decode cX5_bits 13 = .ok (.iconst 3, 1) := by decide +kernel
theorem dX5_bits_14 : decode cX5_bits 14 = .ok (.invokevirtual 62, 3) := by decide +kernel
theorem dX5_bits_17 : decode cX5_bits 17 = .ok (.aload_n 0, 1) := by decide +kernel
theorem dX5_bits_18 : decode cX5_bits 18 = .ok (.iload_n 1, 1) := by decide +kernel
theorem dX5_bits_19 : decode cX5_bits 19 = .ok (.aload_n 0, 1) := by decide +kernel
theorem dX5_bits_20 : decode cX5_bits 20 = .ok (.iload_n 1, 1) := by decide +kernel
theorem dX5_bits_21 : decode cX5_bits 21 = .ok (.iload_n 2, 1) := by decide +kernel
theorem dX5_bits_22 : decode cX5_bits 22 = .ok (.iconst 2, 1) := by decide +kernel
theorem dX5_bits_23 : decode cX5_bits 23 = .ok (.invokevirtual 62, 3) := by decide +kernel
theorem dX5_bits_26 : decode cX5_bits 26 = .ok (.lload_n 3, 1) := by decide +kernel
theorem dX5_bits_27 : decode cX5_bits 27 = .ok (.iconst 1, 1) := by decide +kernel
theorem dX5_bits_28 : decode cX5_bits 28 = .ok (.lshl, 1) := by decide +kernel
theorem dX5_bits_29 : decode cX5_bits 29 = .ok (.lconst 1, 1) := by decide +kernel
theorem dX5_bits_30 : decode cX5_bits 30 = .ok (.lor, 1) := by decide +kernel
theorem dX5_bits_31 : decode cX5_bits 31 = .ok (.invokevirtual 203, 3) := by decide +kernel
theorem dX5_bits_34 : decode cX5_bits 34 = .ok (.invokevirtual 203, 3) := by decide +kernel
theorem dX5_bits_37 : decode cX5_bits 37 = .ok (.lreturn, 1) := by decide +kernel
theorem dX5_shape_0 : decode cX5_shape 0 = .ok (.iload_n 1, 1) := by decide +kernel
theorem dX5_shape_1 : decode cX5_shape 1 = .ok (.invokestatic 110, 3) := by decide +kernel
theorem dX5_shape_4 : decode cX5_shape 4 = .ok (.ifCond .eq 17, 3) := by decide +kernel
theorem dX5_shape_7 : decode cX5_shape 7 = .ok (.aload_n 0, 1) := by decide +kernel
theorem dX5_shape_8 : decode cX5_shape 8 = .ok (.iload_n 1, 1) := by decide +kernel
theorem dX5_shape_9 : decode cX5_shape 9 = .ok (.aload_n 0, 1) := by decide +kernel
theorem dX5_shape_10 : decode cX5_shape 10 = .ok (.iload_n 1, 1) := by decide +kernel
theorem dX5_shape_11 : decode cX5_shape 11 = .ok (.invokevirtual 73, 3) := by decide +kernel
theorem dX5_shape_14 : decode cX5_shape 14 = .ok (.lconst 0, 1) := by decide +kernel
theorem dX5_shape_15 : decode cX5_shape 15 = .ok (.invokevirtual 203, 3) := by decide +kernel
theorem dX5_shape_18 : decode cX5_shape 18 = .ok (.goto 6, 3) := by decide +kernel
theorem dX5_shape_21 : decode cX5_shape 21 = .ok (.ldc2_w 207, 3) := by decide +kernel
theorem dX5_shape_24 : decode cX5_shape 24 = .ok (.lreturn, 1) := by decide +kernel
theorem dX5_weights_0 : decode cX5_weights 0 = .ok (.lconst 0, 1) := by decide +kernel
theorem dX5_weights_1 : decode cX5_weights 1 = .ok (.lstore_n 3, 1) := by decide +kernel
theorem dX5_weights_2 : decode cX5_weights 2 = .ok (.iconst 0, 1) := by decide +kernel
theorem dX5_weights_3 : decode cX5_weights 3 = .ok (.istore 5, 2) := by decide +kernel
theorem dX5_weights_5 : decode cX5_weights 5 = .ok (.iload 5, 2) := by decide +kernel
theorem dX5_weights_7 : decode cX5_weights 7 = .ok (.bipush 64, 2) := by decide +kernel
theorem dX5_weights_9 : decode cX5_weights 9 = .ok (.if_icmp .ge 50, 3) := by decide +kernel
theorem dX5_weights_12 : decode cX5_weights 12 = .ok (.iload_n 1, 1) := by decide +kernel
theorem dX5_weights_13 : decode cX5_weights 13 = .ok (.invokestatic 110, 3) := by decide +kernel
theorem dX5_weights_16 : decode cX5_weights 16 = .ok (.ifCond .eq 43, 3) := by decide +kernel
theorem dX5_weights_19 : decode cX5_weights 19 = .ok (.iload_n 2, 1) := by decide +kernel
theorem dX5_weights_20 : decode cX5_weights 20 = .ok (.iconst 0, 1) := by decide +kernel
theorem dX5_weights_21 : decode cX5_weights 21 = .ok (.sipush 936, 3) := by decide +kernel
theorem dX5_weights_24 : decode cX5_weights 24 = .ok (.invokestatic 58, 3) := by decide +kernel
theorem dX5_weights_27 : decode cX5_weights 27 = .ok (.ifCond .eq 32, 3) := by decide +kernel
theorem dX5_weights_30 : decode cX5_weights 30 = .ok (.lload_n 3, 1) := by decide +kernel
theorem dX5_weights_31 : decode cX5_weights 31 = .ok (.aload_n 0, 1) := by decide +kernel
theorem dX5_weights_32 : decode cX5_weights 32 = .ok (.iload_n 1, 1) := by decide +kernel
theorem dX5_weights_33 : decode cX5_weights 33 = .ok (.iload_n 2, 1) := by decide +kernel
theorem dX5_weights_34 : decode cX5_weights 34 = .ok (.iload 5, 2) := by decide +kernel
theorem dX5_weights_36 : decode cX5_weights 36 = .ok (.iadd, 1) := by decide +kernel
theorem dX5_weights_37 : decode cX5_weights 37 = .ok (.invokevirtual 117, 3) := by decide +kernel
theorem dX5_weights_40 : decode cX5_weights 40 = .ok (.ifCond .lt 10, 3) := by decide +kernel
theorem dX5_weights_43 : decode cX5_weights 43 = .ok (.lconst 1, 1) := by decide +kernel
theorem dX5_weights_44 : decode cX5_weights 44 = .ok (.iload 5, 2) := by decide +kernel
theorem dX5_weights_46 : decode cX5_weights 46 = .ok (.lshl, 1) := by decide +kernel
theorem dX5_weights_47 : decode cX5_weights 47 = .ok (.goto 4, 3) := by decide +kernel
theorem dX5_weights_50 : decode cX5_weights 50 = .ok (.lconst 0, 1) := by decide +kernel
theorem dX5_weights_51 : decode cX5_weights 51 = .ok (.lor, 1) := by decide +kernel
theorem dX5_weights_52 : decode cX5_weights 52 = .ok (.lstore_n 3, 1) := by decide +kernel
theorem dX5_weights_53 : decode cX5_weights 53 = .ok (.iinc 5 1, 3) := by decide +kernel
theorem dX5_weights_56 : decode cX5_weights 56 = .ok (.goto (-51), 3) := by decide +kernel
theorem dX5_weights_59 : decode cX5_weights 59 = .ok (.lload_n 3, 1) := by decide +kernel
theorem dX5_weights_60 : decode cX5_weights 60 = .ok (.lreturn, 1) := by decide +kernel
theorem dX5_leaningShare_0 : decode cX5_leaningShare 0 = .ok (.iload_n 1, 1) := by decide +kernel
theorem dX5_leaningShare_1 : decode cX5_leaningShare 1 = .ok (.invokestatic 110, 3) := by decide +kernel
theorem dX5_leaningShare_4 : decode cX5_leaningShare 4 = .ok (.ifCond .ne 6, 3) := by decide +kernel
theorem dX5_leaningShare_7 : decode cX5_leaningShare 7 = .ok (.bipush (-11), 2) := by decide +kernel
theorem dX5_leaningShare_9 : decode cX5_leaningShare 9 = .ok (.ireturn, 1) := by decide +kernel
theorem dX5_leaningShare_10 : decode cX5_leaningShare 10 = .ok (.aload_n 0, 1) := by decide +kernel
theorem dX5_leaningShare_11 : decode cX5_leaningShare 11 = .ok (.iload_n 1, 1) := by decide +kernel
theorem dX5_leaningShare_12 : decode cX5_leaningShare 12 = .ok (.invokevirtual 124, 3) := by decide +kernel
theorem dX5_leaningShare_15 : decode cX5_leaningShare 15 = .ok (.ifCond .ne 8, 3) := by decide +kernel
theorem dX5_leaningShare_18 : decode cX5_leaningShare 18 = .ok (.bipush (-15), 2) := by decide +kernel
theorem dX5_leaningShare_20 : decode cX5_leaningShare 20 = .ok (.goto 19, 3) := by decide +kernel
theorem dX5_leaningShare_23 : decode cX5_leaningShare 23 = .ok (.aload_n 0, 1) := by decide +kernel
theorem dX5_leaningShare_24 : decode cX5_leaningShare 24 = .ok (.iload_n 1, 1) := by decide +kernel
theorem dX5_leaningShare_25 : decode cX5_leaningShare 25 = .ok (.invokevirtual 173, 3) := by decide +kernel
theorem dX5_leaningShare_28 : decode cX5_leaningShare 28 = .ok (.i2f, 1) := by decide +kernel
theorem dX5_leaningShare_29 : decode cX5_leaningShare 29 = .ok (.aload_n 0, 1) := by decide +kernel
theorem dX5_leaningShare_30 : decode cX5_leaningShare 30 = .ok (.iload_n 1, 1) := by decide +kernel
theorem dX5_leaningShare_31 : decode cX5_leaningShare 31 = .ok (.invokevirtual 124, 3) := by decide +kernel
theorem dX5_leaningShare_34 : decode cX5_leaningShare 34 = .ok (.i2f, 1) := by decide +kernel
theorem dX5_leaningShare_35 : decode cX5_leaningShare 35 = .ok (.fdiv, 1) := by decide +kernel
theorem dX5_leaningShare_36 : decode cX5_leaningShare 36 = .ok (.invokestatic 209, 3) := by decide +kernel
theorem dX5_leaningShare_39 : decode cX5_leaningShare 39 = .ok (.ireturn, 1) := by decide +kernel
theorem dX5_meanDepth_0 : decode cX5_meanDepth 0 = .ok (.iload_n 1, 1) := by decide +kernel
theorem dX5_meanDepth_1 : decode cX5_meanDepth 1 = .ok (.invokestatic 110, 3) := by decide +kernel
theorem dX5_meanDepth_4 : decode cX5_meanDepth 4 = .ok (.ifCond .ne 7, 3) := by decide +kernel
theorem dX5_meanDepth_7 : decode cX5_meanDepth 7 = .ok (.ldc2_w 207, 3) := by decide +kernel
theorem dX5_meanDepth_10 : decode cX5_meanDepth 10 = .ok (.lreturn, 1) := by decide +kernel
theorem dX5_meanDepth_11 : decode cX5_meanDepth 11 = .ok (.aload_n 0, 1) := by decide +kernel
theorem dX5_meanDepth_12 : decode cX5_meanDepth 12 = .ok (.iload_n 1, 1) := by decide +kernel
theorem dX5_meanDepth_13 : decode cX5_meanDepth 13 = .ok (.invokevirtual 124, 3) := by decide +kernel
theorem dX5_meanDepth_16 : decode cX5_meanDepth 16 = .ok (.ifCond .ne 9, 3) := by decide +kernel
theorem dX5_meanDepth_19 : decode cX5_meanDepth 19 = .ok (.ldc2_w 215, 3) := by decide +kernel
theorem dX5_meanDepth_22 : decode cX5_meanDepth 22 = .ok (.goto 19, 3) := by decide +kernel
theorem dX5_meanDepth_25 : decode cX5_meanDepth 25 = .ok (.aload_n 0, 1) := by decide +kernel
theorem dX5_meanDepth_26 : decode cX5_meanDepth 26 = .ok (.iload_n 1, 1) := by decide +kernel
theorem dX5_meanDepth_27 : decode cX5_meanDepth 27 = .ok (.invokevirtual 176, 3) := by decide +kernel
theorem dX5_meanDepth_30 : decode cX5_meanDepth 30 = .ok (.i2d, 1) := by decide +kernel
theorem dX5_meanDepth_31 : decode cX5_meanDepth 31 = .ok (.aload_n 0, 1) := by decide +kernel
theorem dX5_meanDepth_32 : decode cX5_meanDepth 32 = .ok (.iload_n 1, 1) := by decide +kernel
theorem dX5_meanDepth_33 : decode cX5_meanDepth 33 = .ok (.invokevirtual 124, 3) := by decide +kernel
theorem dX5_meanDepth_36 : decode cX5_meanDepth 36 = .ok (.i2d, 1) := by decide +kernel
theorem dX5_meanDepth_37 : decode cX5_meanDepth 37 = .ok (.ddiv, 1) := by decide +kernel
theorem dX5_meanDepth_38 : decode cX5_meanDepth 38 = .ok (.invokestatic 217, 3) := by decide +kernel
theorem dX5_meanDepth_41 : decode cX5_meanDepth 41 = .ok (.lreturn, 1) := by decide +kernel
theorem dX5_append_0 : decode cX5_append 0 = .ok (.iload_n 1, 1) := by decide +kernel
theorem dX5_append_1 : decode cX5_append 1 = .ok (.bipush 32, 2) := by decide +kernel
theorem dX5_append_3 : decode cX5_append 3 = .ok (.bipush 126, 2) := by decide +kernel
theorem dX5_append_5 : decode cX5_append 5 = .ok (.invokestatic 58, 3) := by decide +kernel
theorem dX5_append_8 : decode cX5_append 8 = .ok (.ifCond .ne 6, 3) := by decide +kernel
theorem dX5_append_11 : decode cX5_append 11 = .ok (.bipush (-12), 2) := by decide +kernel
theorem dX5_append_13 : decode cX5_append 13 = .ok (.ireturn, 1) := by decide +kernel
theorem dX5_append_14 : decode cX5_append 14 = .ok (.aload_n 0, 1) := by decide +kernel
theorem dX5_append_15 : decode cX5_append 15 = .ok (.getfield 223, 3) := by decide +kernel
theorem dX5_append_18 : decode cX5_append 18 = .ok (.bipush 60, 2) := by decide +kernel
theorem dX5_append_20 : decode cX5_append 20 = .ok (.if_icmp .ne 6, 3) := by decide +kernel
theorem dX5_append_23 : decode cX5_append 23 = .ok (.bipush (-13), 2) := by decide +kernel
theorem dX5_append_25 : decode cX5_append 25 = .ok (.ireturn, 1) := by decide +kernel
theorem dX5_append_26 : decode cX5_append 26 = .ok (.aload_n 0, 1) := by decide +kernel
theorem dX5_append_27 : decode cX5_append 27 = .ok (.getfield 30, 3) := by decide +kernel
theorem dX5_append_30 : decode cX5_append 30 = .ok (.aload_n 0, 1) := by decide +kernel
theorem dX5_append_31 : decode cX5_append 31 = .ok (.getfield 223, 3) := by decide +kernel
theorem dX5_append_34 : decode cX5_append 34 = .ok (.iload_n 1, 1) := by decide +kernel
theorem dX5_append_35 : decode cX5_append 35 = .ok (.iastore, 1) := by decide +kernel
theorem dX5_append_36 : decode cX5_append 36 = .ok (.aload_n 0, 1) := by decide +kernel
theorem dX5_append_37 : decode cX5_append 37 = .ok (.dup, 1) := by decide +kernel
theorem dX5_append_38 : decode cX5_append 38 = .ok (.getfield 223, 3) := by decide +kernel
theorem dX5_append_41 : decode cX5_append 41 = .ok (.iconst 1, 1) := by decide +kernel
theorem dX5_append_42 : decode cX5_append 42 = .ok (.iadd, 1) := by decide +kernel
theorem dX5_append_43 : decode cX5_append 43 = .ok (.putfield 223, 3) := by decide +kernel
theorem dX5_append_46 : decode cX5_append 46 = .ok (.aload_n 0, 1) := by decide +kernel
theorem dX5_append_47 : decode cX5_append 47 = .ok (.getfield 223, 3) := by decide +kernel
theorem dX5_append_50 : decode cX5_append 50 = .ok (.ireturn, 1) := by decide +kernel
theorem dX5_sees_0 : decode cX5_sees 0 = .ok (.aload_n 0, 1) := by decide +kernel
theorem dX5_sees_1 : decode cX5_sees 1 = .ok (.getfield 226, 3) := by decide +kernel
theorem dX5_sees_4 : decode cX5_sees 4 = .ok (.ifCond .ne 35, 3) := by decide +kernel
theorem dX5_sees_7 : decode cX5_sees 7 = .ok (.aload_n 0, 1) := by decide +kernel
theorem dX5_sees_8 : decode cX5_sees 8 = .ok (.getfield 229, 3) := by decide +kernel
theorem dX5_sees_11 : decode cX5_sees 11 = .ok (.aload_n 0, 1) := by decide +kernel
theorem dX5_sees_12 : decode cX5_sees 12 = .ok (.getfield 223, 3) := by decide +kernel
theorem dX5_sees_15 : decode cX5_sees 15 = .ok (.if_icmp .ge 24, 3) := by decide +kernel
theorem dX5_sees_18 : decode cX5_sees 18 = .ok (.aload_n 0, 1) := by decide +kernel
theorem dX5_sees_19 : decode cX5_sees 19 = .ok (.getfield 30, 3) := by decide +kernel
theorem dX5_sees_22 : decode cX5_sees 22 = .ok (.aload_n 0, 1) := by decide +kernel
theorem dX5_sees_23 : decode cX5_sees 23 = .ok (.getfield 229, 3) := by decide +kernel
theorem dX5_sees_26 : decode cX5_sees 26 = .ok (.iaload, 1) := by decide +kernel
theorem dX5_sees_27 : decode cX5_sees 27 = .ok (.iload_n 1, 1) := by decide +kernel
theorem dX5_sees_28 : decode cX5_sees 28 = .ok (.iload_n 2, 1) := by decide +kernel
theorem dX5_sees_29 : decode cX5_sees 29 = .ok (.invokestatic 58, 3) := by decide +kernel
theorem dX5_sees_32 : decode cX5_sees 32 = .ok (.ifCond .eq 7, 3) := by decide +kernel
theorem dX5_sees_35 : decode cX5_sees 35 = .ok (.iconst 1, 1) := by decide +kernel
theorem dX5_sees_36 : decode cX5_sees 36 = .ok (.goto 4, 3) := by decide +kernel
theorem dX5_sees_39 : decode cX5_sees 39 = .ok (.iconst 0, 1) := by decide +kernel
theorem dX5_sees_40 : decode cX5_sees 40 = .ok (.ireturn, 1) := by decide +kernel
theorem dX5_must_0 : decode cX5_must 0 = .ok (.aload_n 0, 1) := by decide +kernel
theorem dX5_must_1 : decode cX5_must 1 = .ok (.dup, 1) := by decide +kernel
theorem dX5_must_2 : decode cX5_must 2 = .ok (.getfield 226, 3) := by decide +kernel
theorem dX5_must_5 : decode cX5_must 5 = .ok (.aload_n 0, 1) := by decide +kernel
theorem dX5_must_6 : decode cX5_must 6 = .ok (.iload_n 1, 1) := by decide +kernel
theorem dX5_must_7 : decode cX5_must 7 = .ok (.iload_n 1, 1) := by decide +kernel
theorem dX5_must_8 : decode cX5_must 8 = .ok (.invokevirtual 232, 3) := by decide +kernel
theorem dX5_must_11 : decode cX5_must 11 = .ok (.ifCond .ne 7, 3) := by decide +kernel
theorem dX5_must_14 : decode cX5_must 14 = .ok (.iconst 1, 1) := by decide +kernel
theorem dX5_must_15 : decode cX5_must 15 = .ok (.goto 4, 3) := by decide +kernel
theorem dX5_must_18 : decode cX5_must 18 = .ok (.iconst 0, 1) := by decide +kernel
theorem dX5_must_19 : decode cX5_must 19 = .ok (.ior, 1) := by decide +kernel
theorem dX5_must_20 : decode cX5_must 20 = .ok (.putfield 226, 3) := by decide +kernel
theorem dX5_must_23 : decode cX5_must 23 = .ok (.aload_n 0, 1) := by decide +kernel
theorem dX5_must_24 : decode cX5_must 24 = .ok (.dup, 1) := by decide +kernel
theorem dX5_must_25 : decode cX5_must 25 = .ok (.getfield 229, 3) := by decide +kernel
theorem dX5_must_28 : decode cX5_must 28 = .ok (.aload_n 0, 1) := by decide +kernel
theorem dX5_must_29 : decode cX5_must 29 = .ok (.getfield 226, 3) := by decide +kernel
theorem dX5_must_32 : decode cX5_must 32 = .ok (.ifCond .eq 7, 3) := by decide +kernel
theorem dX5_must_35 : decode cX5_must 35 = .ok (.iconst 0, 1) := by decide +kernel
theorem dX5_must_36 : decode cX5_must 36 = .ok (.goto 4, 3) := by decide +kernel
theorem dX5_must_39 : decode cX5_must 39 = .ok (.iconst 1, 1) := by decide +kernel
theorem dX5_must_40 : decode cX5_must 40 = .ok (.iadd, 1) := by decide +kernel
theorem dX5_must_41 : decode cX5_must 41 = .ok (.putfield 229, 3) := by decide +kernel
theorem dX5_must_44 : decode cX5_must 44 = .ok (.return_, 1) := by decide +kernel
theorem dX5_readNumber_0 : decode cX5_readNumber 0 = .ok (.aload_n 0, 1) := by decide +kernel
theorem dX5_readNumber_1 : decode cX5_readNumber 1 = .ok (.dup, 1) := by decide +kernel
theorem dX5_readNumber_2 : decode cX5_readNumber 2 = .ok (.getfield 226, 3) := by decide +kernel
theorem dX5_readNumber_5 : decode cX5_readNumber 5 = .ok (.aload_n 0, 1) := by decide +kernel
theorem dX5_readNumber_6 : decode cX5_readNumber 6 = .ok (.bipush 48, 2) := by decide +kernel
theorem dX5_readNumber_8 : decode cX5_readNumber 8 = .ok (.bipush 57, 2) := by decide +kernel
theorem dX5_readNumber_10 : decode cX5_readNumber 10 = .ok (.invokevirtual 232, 3) := by decide +kernel
theorem dX5_readNumber_13 : decode cX5_readNumber 13 = .ok (.ifCond .ne 7, 3) := by decide +kernel
theorem dX5_readNumber_16 : decode cX5_readNumber 16 = .ok (.iconst 1, 1) := by decide +kernel
theorem dX5_readNumber_17 : decode cX5_readNumber 17 = .ok (.goto 4, 3) := by decide +kernel
theorem dX5_readNumber_20 : decode cX5_readNumber 20 = .ok (.iconst 0, 1) := by decide +kernel
theorem dX5_readNumber_21 : decode cX5_readNumber 21 = .ok (.ior, 1) := by decide +kernel
theorem dX5_readNumber_22 : decode cX5_readNumber 22 = .ok (.putfield 226, 3) := by decide +kernel
theorem dX5_readNumber_25 : decode cX5_readNumber 25 = .ok (.iconst 0, 1) := by decide +kernel
theorem dX5_readNumber_26 : decode cX5_readNumber 26 = .ok (.istore_n 2, 1) := by decide +kernel
theorem dX5_readNumber_27 : decode cX5_readNumber 27 = .ok (.iconst 0, 1) := by decide +kernel
theorem dX5_readNumber_28 : decode cX5_readNumber 28 = .ok (.istore_n 3, 1) := by decide +kernel
theorem dX5_readNumber_29 : decode cX5_readNumber 29 = .ok (.iload_n 3, 1) := by decide +kernel
theorem dX5_readNumber_30 : decode cX5_readNumber 30 = .ok (.iload_n 1, 1) := by decide +kernel
theorem dX5_readNumber_31 : decode cX5_readNumber 31 = .ok (.if_icmp .ge 48, 3) := by decide +kernel
theorem dX5_readNumber_34 : decode cX5_readNumber 34 = .ok (.aload_n 0, 1) := by decide +kernel
theorem dX5_readNumber_35 : decode cX5_readNumber 35 = .ok (.bipush 48, 2) := by decide +kernel
theorem dX5_readNumber_37 : decode cX5_readNumber 37 = .ok (.bipush 57, 2) := by decide +kernel
theorem dX5_readNumber_39 : decode cX5_readNumber 39 = .ok (.invokevirtual 232, 3) := by decide +kernel
theorem dX5_readNumber_42 : decode cX5_readNumber 42 = .ok (.ifCond .eq 37, 3) := by decide +kernel
theorem dX5_readNumber_45 : decode cX5_readNumber 45 = .ok (.bipush 10, 2) := by decide +kernel
theorem dX5_readNumber_47 : decode cX5_readNumber 47 = .ok (.iload_n 2, 1) := by decide +kernel
theorem dX5_readNumber_48 : decode cX5_readNumber 48 = .ok (.imul, 1) := by decide +kernel
theorem dX5_readNumber_49 : decode cX5_readNumber 49 = .ok (.aload_n 0, 1) := by decide +kernel
theorem dX5_readNumber_50 : decode cX5_readNumber 50 = .ok (.getfield 30, 3) := by decide +kernel
theorem dX5_readNumber_53 : decode cX5_readNumber 53 = .ok (.aload_n 0, 1) := by decide +kernel
theorem dX5_readNumber_54 : decode cX5_readNumber 54 = .ok (.getfield 229, 3) := by decide +kernel
theorem dX5_readNumber_57 : decode cX5_readNumber 57 = .ok (.iaload, 1) := by decide +kernel
theorem dX5_readNumber_58 : decode cX5_readNumber 58 = .ok (.iadd, 1) := by decide +kernel
theorem dX5_readNumber_59 : decode cX5_readNumber 59 = .ok (.bipush 48, 2) := by decide +kernel
theorem dX5_readNumber_61 : decode cX5_readNumber 61 = .ok (.isub, 1) := by decide +kernel
theorem dX5_readNumber_62 : decode cX5_readNumber 62 = .ok (.istore_n 2, 1) := by decide +kernel
theorem dX5_readNumber_63 : decode cX5_readNumber 63 = .ok (.aload_n 0, 1) := by decide +kernel
theorem dX5_readNumber_64 : decode cX5_readNumber 64 = .ok (.dup, 1) := by decide +kernel
theorem dX5_readNumber_65 : decode cX5_readNumber 65 = .ok (.getfield 229, 3) := by decide +kernel
theorem dX5_readNumber_68 : decode cX5_readNumber 68 = .ok (.iconst 1, 1) := by decide +kernel
theorem dX5_readNumber_69 : decode cX5_readNumber 69 = .ok (.iadd, 1) := by decide +kernel
theorem dX5_readNumber_70 : decode cX5_readNumber 70 = .ok (.putfield 229, 3) := by decide +kernel
theorem dX5_readNumber_73 : decode cX5_readNumber 73 = .ok (.iinc 3 1, 3) := by decide +kernel
theorem dX5_readNumber_76 : decode cX5_readNumber 76 = .ok (.goto (-47), 3) := by decide +kernel
theorem dX5_readNumber_79 : decode cX5_readNumber 79 = .ok (.iload_n 2, 1) := by decide +kernel
theorem dX5_readNumber_80 : decode cX5_readNumber 80 = .ok (.ireturn, 1) := by decide +kernel
theorem dX5_readSheaf_0 : decode cX5_readSheaf 0 = .ok (.aload_n 0, 1) := by decide +kernel
theorem dX5_readSheaf_1 : decode cX5_readSheaf 1 = .ok (.aload_n 0, 1) := by decide +kernel
theorem dX5_readSheaf_2 : decode cX5_readSheaf 2 = .ok (.iconst 1, 1) := by decide +kernel
theorem dX5_readSheaf_3 : decode cX5_readSheaf 3 = .ok (.invokevirtual 235, 3) := by decide +kernel
theorem dX5_readSheaf_6 : decode cX5_readSheaf 6 = .ok (.putfield 238, 3) := by decide +kernel
theorem dX5_readSheaf_9 : decode cX5_readSheaf 9 = .ok (.aload_n 0, 1) := by decide +kernel
theorem dX5_readSheaf_10 : decode cX5_readSheaf 10 = .ok (.bipush 58, 2) := by decide +kernel
theorem dX5_readSheaf_12 : decode cX5_readSheaf 12 = .ok (.invokevirtual 241, 3) := by decide +kernel
theorem dX5_readSheaf_15 : decode cX5_readSheaf 15 = .ok (.aload_n 0, 1) := by decide +kernel
theorem dX5_readSheaf_16 : decode cX5_readSheaf 16 = .ok (.aload_n 0, 1) := by decide +kernel
theorem dX5_readSheaf_17 : decode cX5_readSheaf 17 = .ok (.iconst 3, 1) := by decide +kernel
theorem dX5_readSheaf_18 : decode cX5_readSheaf 18 = .ok (.invokevirtual 235, 3) := by decide +kernel
theorem dX5_readSheaf_21 : decode cX5_readSheaf 21 = .ok (.putfield 244, 3) := by decide +kernel
theorem dX5_readSheaf_24 : decode cX5_readSheaf 24 = .ok (.return_, 1) := by decide +kernel
theorem dX5_readOrder_0 : decode cX5_readOrder 0 = .ok (.aload_n 0, 1) := by decide +kernel
theorem dX5_readOrder_1 : decode cX5_readOrder 1 = .ok (.aload_n 0, 1) := by decide +kernel
theorem dX5_readOrder_2 : decode cX5_readOrder 2 = .ok (.getfield 226, 3) := by decide +kernel
theorem dX5_readOrder_5 : decode cX5_readOrder 5 = .ok (.ifCond .ne 26, 3) := by decide +kernel
theorem dX5_readOrder_8 : decode cX5_readOrder 8 = .ok (.aload_n 0, 1) := by decide +kernel
theorem dX5_readOrder_9 : decode cX5_readOrder 9 = .ok (.getfield 229, 3) := by decide +kernel
theorem dX5_readOrder_12 : decode cX5_readOrder 12 = .ok (.aload_n 0, 1) := by decide +kernel
theorem dX5_readOrder_13 : decode cX5_readOrder 13 = .ok (.getfield 223, 3) := by decide +kernel
theorem dX5_readOrder_16 : decode cX5_readOrder 16 = .ok (.if_icmp .ge 15, 3) := by decide +kernel
theorem dX5_readOrder_19 : decode cX5_readOrder 19 = .ok (.aload_n 0, 1) := by decide +kernel
theorem dX5_readOrder_20 : decode cX5_readOrder 20 = .ok (.getfield 30, 3) := by decide +kernel
theorem dX5_readOrder_23 : decode cX5_readOrder 23 = .ok (.aload_n 0, 1) := by decide +kernel
theorem dX5_readOrder_24 : decode cX5_readOrder 24 = .ok (.getfield 229, 3) := by decide +kernel
theorem dX5_readOrder_27 : decode cX5_readOrder 27 = .ok (.iaload, 1) := by decide +kernel
theorem dX5_readOrder_28 : decode cX5_readOrder 28 = .ok (.goto 5, 3) := by decide +kernel
theorem dX5_readOrder_31 : decode cX5_readOrder 31 = .ok (.bipush 32, 2) := by decide +kernel
theorem dX5_readOrder_33 : decode cX5_readOrder 33 = .ok (.putfield 247, 3) := by decide +kernel
theorem dX5_readOrder_36 : decode cX5_readOrder 36 = .ok (.aload_n 0, 1) := by decide +kernel
theorem dX5_readOrder_37 : decode cX5_readOrder 37 = .ok (.dup, 1) := by decide +kernel
theorem dX5_readOrder_38 : decode cX5_readOrder 38 = .ok (.getfield 226, 3) := by decide +kernel
theorem dX5_readOrder_41 : decode cX5_readOrder 41 = .ok (.ldc 250, 2) := by decide +kernel
theorem dX5_readOrder_43 : decode cX5_readOrder 43 = .ok (.aload_n 0, 1) := by decide +kernel
theorem dX5_readOrder_44 : decode cX5_readOrder 44 = .ok (.getfield 247, 3) := by decide +kernel
theorem dX5_readOrder_47 : decode cX5_readOrder 47 = .ok (.i2c, 1) := by decide +kernel
theorem dX5_readOrder_48 : decode cX5_readOrder 48 = .ok (.invokevirtual 252, 3) := by decide +kernel
theorem dX5_readOrder_51 : decode cX5_readOrder 51 = .ok (.ifCond .ge 7, 3) := by decide +kernel
theorem dX5_readOrder_54 : decode cX5_readOrder 54 = .ok (.iconst 1, 1) := by decide +kernel
theorem dX5_readOrder_55 : decode cX5_readOrder 55 = .ok (.goto 4, 3) := by decide +kernel
theorem dX5_readOrder_58 : decode cX5_readOrder 58 = .ok (.iconst 0, 1) := by decide +kernel
theorem dX5_readOrder_59 : decode cX5_readOrder 59 = .ok (.ior, 1) := by decide +kernel
theorem dX5_readOrder_60 : decode cX5_readOrder 60 = .ok (.putfield 226, 3) := by decide +kernel
theorem dX5_readOrder_63 : decode cX5_readOrder 63 = .ok (.aload_n 0, 1) := by decide +kernel
theorem dX5_readOrder_64 : decode cX5_readOrder 64 = .ok (.dup, 1) := by decide +kernel
theorem dX5_readOrder_65 : decode cX5_readOrder 65 = .ok (.getfield 229, 3) := by decide +kernel
theorem dX5_readOrder_68 : decode cX5_readOrder 68 = .ok (.aload_n 0, 1) := by decide +kernel
theorem dX5_readOrder_69 : decode cX5_readOrder 69 = .ok (.getfield 226, 3) := by decide +kernel
theorem dX5_readOrder_72 : decode cX5_readOrder 72 = .ok (.ifCond .eq 7, 3) := by decide +kernel
theorem dX5_readOrder_75 : decode cX5_readOrder 75 = .ok (.iconst 0, 1) := by decide +kernel
theorem dX5_readOrder_76 : decode cX5_readOrder 76 = .ok (.goto 4, 3) := by decide +kernel
theorem dX5_readOrder_79 : decode cX5_readOrder 79 = .ok (.iconst 1, 1) := by decide +kernel
theorem dX5_readOrder_80 : decode cX5_readOrder 80 = .ok (.iadd, 1) := by decide +kernel
theorem dX5_readOrder_81 : decode cX5_readOrder 81 = .ok (.putfield 229, 3) := by decide +kernel
theorem dX5_readOrder_84 : decode cX5_readOrder 84 = .ok (.aload_n 0, 1) := by decide +kernel
theorem dX5_readOrder_85 : decode cX5_readOrder 85 = .ok (.getfield 247, 3) := by decide +kernel
theorem dX5_readOrder_88 : decode cX5_readOrder 88 = .ok (.lookupswitch 106 #[(43, 44), (45, 66), (61, 73), (62, 85)], 44) := by decide +kernel
theorem dX5_readOrder_132 : decode cX5_readOrder 132 = .ok (.aload_n 0, 1) := by decide +kernel
theorem dX5_readOrder_133 : decode cX5_readOrder 133 = .ok (.invokevirtual 257, 3) := by decide +kernel
theorem dX5_readOrder_136 : decode cX5_readOrder 136 = .ok (.aload_n 0, 1) := by decide +kernel
theorem dX5_readOrder_137 : decode cX5_readOrder 137 = .ok (.bipush 42, 2) := by decide +kernel
theorem dX5_readOrder_139 : decode cX5_readOrder 139 = .ok (.invokevirtual 241, 3) := by decide +kernel
theorem dX5_readOrder_142 : decode cX5_readOrder 142 = .ok (.aload_n 0, 1) := by decide +kernel
theorem dX5_readOrder_143 : decode cX5_readOrder 143 = .ok (.aload_n 0, 1) := by decide +kernel
theorem dX5_readOrder_144 : decode cX5_readOrder 144 = .ok (.iconst 2, 1) := by decide +kernel
theorem dX5_readOrder_145 : decode cX5_readOrder 145 = .ok (.invokevirtual 235, 3) := by decide +kernel
theorem dX5_readOrder_148 : decode cX5_readOrder 148 = .ok (.putfield 260, 3) := by decide +kernel
theorem dX5_readOrder_151 : decode cX5_readOrder 151 = .ok (.goto 52, 3) := by decide +kernel
theorem dX5_readOrder_154 : decode cX5_readOrder 154 = .ok (.aload_n 0, 1) := by decide +kernel
theorem dX5_readOrder_155 : decode cX5_readOrder 155 = .ok (.invokevirtual 257, 3) := by decide +kernel
theorem dX5_readOrder_158 : decode cX5_readOrder 158 = .ok (.goto 45, 3) := by decide +kernel
theorem dX5_readOrder_161 : decode cX5_readOrder 161 = .ok (.aload_n 0, 1) := by decide +kernel
theorem dX5_readOrder_162 : decode cX5_readOrder 162 = .ok (.aload_n 0, 1) := by decide +kernel
theorem dX5_readOrder_163 : decode cX5_readOrder 163 = .ok (.iconst 1, 1) := by decide +kernel
theorem dX5_readOrder_164 : decode cX5_readOrder 164 = .ok (.invokevirtual 235, 3) := by decide +kernel
theorem dX5_readOrder_167 : decode cX5_readOrder 167 = .ok (.putfield 238, 3) := by decide +kernel
theorem dX5_readOrder_170 : decode cX5_readOrder 170 = .ok (.goto 33, 3) := by decide +kernel
theorem dX5_readOrder_173 : decode cX5_readOrder 173 = .ok (.aload_n 0, 1) := by decide +kernel
theorem dX5_readOrder_174 : decode cX5_readOrder 174 = .ok (.aload_n 0, 1) := by decide +kernel
theorem dX5_readOrder_175 : decode cX5_readOrder 175 = .ok (.iconst 1, 1) := by decide +kernel
theorem dX5_readOrder_176 : decode cX5_readOrder 176 = .ok (.invokevirtual 235, 3) := by decide +kernel
theorem dX5_readOrder_179 : decode cX5_readOrder 179 = .ok (.putfield 238, 3) := by decide +kernel
theorem dX5_readOrder_182 : decode cX5_readOrder 182 = .ok (.aload_n 0, 1) := by decide +kernel
theorem dX5_readOrder_183 : decode cX5_readOrder 183 = .ok (.aload_n 0, 1) := by decide +kernel
theorem dX5_readOrder_184 : decode cX5_readOrder 184 = .ok (.iconst 1, 1) := by decide +kernel
theorem dX5_readOrder_185 : decode cX5_readOrder 185 = .ok (.invokevirtual 235, 3) := by decide +kernel
theorem dX5_readOrder_188 : decode cX5_readOrder 188 = .ok (.putfield 244, 3) := by decide +kernel
theorem dX5_readOrder_191 : decode cX5_readOrder 191 = .ok (.goto 12, 3) := by decide +kernel
theorem dX5_readOrder_194 : decode cX5_readOrder 194 = .ok (.aload_n 0, 1) := by decide +kernel
theorem dX5_readOrder_195 : decode cX5_readOrder 195 = .ok (.aload_n 0, 1) := by decide +kernel
theorem dX5_readOrder_196 : decode cX5_readOrder 196 = .ok (.iconst 2, 1) := by decide +kernel
theorem dX5_readOrder_197 : decode cX5_readOrder 197 = .ok (.invokevirtual 235, 3) := by decide +kernel
theorem dX5_readOrder_200 : decode cX5_readOrder 200 = .ok (.putfield 238, 3) := by decide +kernel
theorem dX5_readOrder_203 : decode cX5_readOrder 203 = .ok (.return_, 1) := by decide +kernel
theorem dX5_countOrders_0 : decode cX5_countOrders 0 = .ok (.aload_n 0, 1) := by decide +kernel
theorem dX5_countOrders_1 : decode cX5_countOrders 1 = .ok (.iconst 0, 1) := by decide +kernel
theorem dX5_countOrders_2 : decode cX5_countOrders 2 = .ok (.putfield 229, 3) := by decide +kernel
theorem dX5_countOrders_5 : decode cX5_countOrders 5 = .ok (.aload_n 0, 1) := by decide +kernel
theorem dX5_countOrders_6 : decode cX5_countOrders 6 = .ok (.iconst 0, 1) := by decide +kernel
theorem dX5_countOrders_7 : decode cX5_countOrders 7 = .ok (.putfield 226, 3) := by decide +kernel
theorem dX5_countOrders_10 : decode cX5_countOrders 10 = .ok (.iconst 1, 1) := by decide +kernel
theorem dX5_countOrders_11 : decode cX5_countOrders 11 = .ok (.istore_n 1, 1) := by decide +kernel
theorem dX5_countOrders_12 : decode cX5_countOrders 12 = .ok (.aload_n 0, 1) := by decide +kernel
theorem dX5_countOrders_13 : decode cX5_countOrders 13 = .ok (.invokevirtual 263, 3) := by decide +kernel
theorem dX5_countOrders_16 : decode cX5_countOrders 16 = .ok (.aload_n 0, 1) := by decide +kernel
theorem dX5_countOrders_17 : decode cX5_countOrders 17 = .ok (.getfield 226, 3) := by decide +kernel
theorem dX5_countOrders_20 : decode cX5_countOrders 20 = .ok (.ifCond .ne 30, 3) := by decide +kernel
theorem dX5_countOrders_23 : decode cX5_countOrders 23 = .ok (.aload_n 0, 1) := by decide +kernel
theorem dX5_countOrders_24 : decode cX5_countOrders 24 = .ok (.getfield 229, 3) := by decide +kernel
theorem dX5_countOrders_27 : decode cX5_countOrders 27 = .ok (.aload_n 0, 1) := by decide +kernel
theorem dX5_countOrders_28 : decode cX5_countOrders 28 = .ok (.getfield 223, 3) := by decide +kernel
theorem dX5_countOrders_31 : decode cX5_countOrders 31 = .ok (.if_icmp .ge 19, 3) := by decide +kernel
theorem dX5_countOrders_34 : decode cX5_countOrders 34 = .ok (.aload_n 0, 1) := by decide +kernel
theorem dX5_countOrders_35 : decode cX5_countOrders 35 = .ok (.bipush 59, 2) := by decide +kernel
theorem dX5_countOrders_37 : decode cX5_countOrders 37 = .ok (.invokevirtual 241, 3) := by decide +kernel
theorem dX5_countOrders_40 : decode cX5_countOrders 40 = .ok (.aload_n 0, 1) := by decide +kernel
theorem dX5_countOrders_41 : decode cX5_countOrders 41 = .ok (.invokevirtual 263, 3) := by decide +kernel
theorem dX5_countOrders_44 : decode cX5_countOrders 44 = .ok (.iinc 1 1, 3) := by decide +kernel
theorem dX5_countOrders_47 : decode cX5_countOrders 47 = .ok (.goto (-31), 3) := by decide +kernel
theorem dX5_countOrders_50 : decode cX5_countOrders 50 = .ok (.iload_n 1, 1) := by decide +kernel
theorem dX5_countOrders_51 : decode cX5_countOrders 51 = .ok (.ireturn, 1) := by decide +kernel
theorem dX5_carryOut_0 : decode cX5_carryOut 0 = .ok (.aload_n 0, 1) := by decide +kernel
theorem dX5_carryOut_1 : decode cX5_carryOut 1 = .ok (.getfield 247, 3) := by decide +kernel
theorem dX5_carryOut_4 : decode cX5_carryOut 4 = .ok (.lookupswitch 96 #[(43, 44), (45, 61), (61, 74), (62, 83)], 44) := by decide +kernel
theorem dX5_carryOut_48 : decode cX5_carryOut 48 = .ok (.aload_n 0, 1) := by decide +kernel
theorem dX5_carryOut_49 : decode cX5_carryOut 49 = .ok (.aload_n 0, 1) := by decide +kernel
theorem dX5_carryOut_50 : decode cX5_carryOut 50 = .ok (.getfield 238, 3) := by decide +kernel
theorem dX5_carryOut_53 : decode cX5_carryOut 53 = .ok (.aload_n 0, 1) := by decide +kernel
theorem dX5_carryOut_54 : decode cX5_carryOut 54 = .ok (.getfield 244, 3) := by decide +kernel
theorem dX5_carryOut_57 : decode cX5_carryOut 57 = .ok (.aload_n 0, 1) := by decide +kernel
theorem dX5_carryOut_58 : decode cX5_carryOut 58 = .ok (.getfield 260, 3) := by decide +kernel
theorem dX5_carryOut_61 : decode cX5_carryOut 61 = .ok (.invokevirtual 266, 3) := by decide +kernel
theorem dX5_carryOut_64 : decode cX5_carryOut 64 = .ok (.ireturn, 1) := by decide +kernel
theorem dX5_carryOut_65 : decode cX5_carryOut 65 = .ok (.aload_n 0, 1) := by decide +kernel
theorem dX5_carryOut_66 : decode cX5_carryOut 66 = .ok (.aload_n 0, 1) := by decide +kernel
theorem dX5_carryOut_67 : decode cX5_carryOut 67 = .ok (.getfield 238, 3) := by decide +kernel
theorem dX5_carryOut_70 : decode cX5_carryOut 70 = .ok (.aload_n 0, 1) := by decide +kernel
theorem dX5_carryOut_71 : decode cX5_carryOut 71 = .ok (.getfield 244, 3) := by decide +kernel
theorem dX5_carryOut_74 : decode cX5_carryOut 74 = .ok (.invokevirtual 268, 3) := by decide +kernel
theorem dX5_carryOut_77 : decode cX5_carryOut 77 = .ok (.ireturn, 1) := by decide +kernel
theorem dX5_carryOut_78 : decode cX5_carryOut 78 = .ok (.aload_n 0, 1) := by decide +kernel
theorem dX5_carryOut_79 : decode cX5_carryOut 79 = .ok (.aload_n 0, 1) := by decide +kernel
theorem dX5_carryOut_80 : decode cX5_carryOut 80 = .ok (.getfield 238, 3) := by decide +kernel
theorem dX5_carryOut_83 : decode cX5_carryOut 83 = .ok (.invokevirtual 271, 3) := by decide +kernel
theorem dX5_carryOut_86 : decode cX5_carryOut 86 = .ok (.ireturn, 1) := by decide +kernel
theorem dX5_carryOut_87 : decode cX5_carryOut 87 = .ok (.aload_n 0, 1) := by decide +kernel
theorem dX5_carryOut_88 : decode cX5_carryOut 88 = .ok (.aload_n 0, 1) := by decide +kernel
theorem dX5_carryOut_89 : decode cX5_carryOut 89 = .ok (.getfield 238, 3) := by decide +kernel
theorem dX5_carryOut_92 : decode cX5_carryOut 92 = .ok (.aload_n 0, 1) := by decide +kernel
theorem dX5_carryOut_93 : decode cX5_carryOut 93 = .ok (.getfield 244, 3) := by decide +kernel
theorem dX5_carryOut_96 : decode cX5_carryOut 96 = .ok (.invokevirtual 274, 3) := by decide +kernel
theorem dX5_carryOut_99 : decode cX5_carryOut 99 = .ok (.ireturn, 1) := by decide +kernel
theorem dX5_carryOut_100 : decode cX5_carryOut 100 = .ok (.aload_n 0, 1) := by decide +kernel
theorem dX5_carryOut_101 : decode cX5_carryOut 101 = .ok (.aload_n 0, 1) := by decide +kernel
theorem dX5_carryOut_102 : decode cX5_carryOut 102 = .ok (.getfield 238, 3) := by decide +kernel
theorem dX5_carryOut_105 : decode cX5_carryOut 105 = .ok (.invokevirtual 277, 3) := by decide +kernel
theorem dX5_carryOut_108 : decode cX5_carryOut 108 = .ok (.ireturn, 1) := by decide +kernel
theorem dX5_run_0 : decode cX5_run 0 = .ok (.aload_n 0, 1) := by decide +kernel
theorem dX5_run_1 : decode cX5_run 1 = .ok (.invokevirtual 280, 3) := by decide +kernel
theorem dX5_run_4 : decode cX5_run 4 = .ok (.istore_n 1, 1) := by decide +kernel
theorem dX5_run_5 : decode cX5_run 5 = .ok (.aload_n 0, 1) := by decide +kernel
theorem dX5_run_6 : decode cX5_run 6 = .ok (.getfield 226, 3) := by decide +kernel
theorem dX5_run_9 : decode cX5_run 9 = .ok (.ifCond .eq 17, 3) := by decide +kernel
theorem dX5_run_12 : decode cX5_run 12 = .ok (.aload_n 0, 1) := by decide +kernel
theorem dX5_run_13 : decode cX5_run 13 = .ok (.iconst 0, 1) := by decide +kernel
theorem dX5_run_14 : decode cX5_run 14 = .ok (.putfield 223, 3) := by decide +kernel
theorem dX5_run_17 : decode cX5_run 17 = .ok (.sipush (-1000), 3) := by decide +kernel
theorem dX5_run_20 : decode cX5_run 20 = .ok (.aload_n 0, 1) := by decide +kernel
theorem dX5_run_21 : decode cX5_run 21 = .ok (.getfield 229, 3) := by decide +kernel
theorem dX5_run_24 : decode cX5_run 24 = .ok (.isub, 1) := by decide +kernel
theorem dX5_run_25 : decode cX5_run 25 = .ok (.ireturn, 1) := by decide +kernel
theorem dX5_run_26 : decode cX5_run 26 = .ok (.aload_n 0, 1) := by decide +kernel
theorem dX5_run_27 : decode cX5_run 27 = .ok (.getfield 9, 3) := by decide +kernel
theorem dX5_run_30 : decode cX5_run 30 = .ok (.aload_n 0, 1) := by decide +kernel
theorem dX5_run_31 : decode cX5_run 31 = .ok (.getfield 16, 3) := by decide +kernel
theorem dX5_run_34 : decode cX5_run 34 = .ok (.invokestatic 46, 3) := by decide +kernel
theorem dX5_run_37 : decode cX5_run 37 = .ok (.aload_n 0, 1) := by decide +kernel
theorem dX5_run_38 : decode cX5_run 38 = .ok (.iconst 1, 1) := by decide +kernel
theorem dX5_run_39 : decode cX5_run 39 = .ok (.putfield 50, 3) := by decide +kernel
theorem dX5_run_42 : decode cX5_run 42 = .ok (.iconst 0, 1) := by decide +kernel
theorem dX5_run_43 : decode cX5_run 43 = .ok (.istore_n 2, 1) := by decide +kernel
theorem dX5_run_44 : decode cX5_run 44 = .ok (.aload_n 0, 1) := by decide +kernel
theorem dX5_run_45 : decode cX5_run 45 = .ok (.iconst 0, 1) := by decide +kernel
theorem dX5_run_46 : decode cX5_run 46 = .ok (.putfield 229, 3) := by decide +kernel
theorem dX5_run_49 : decode cX5_run 49 = .ok (.iconst 0, 1) := by decide +kernel
theorem dX5_run_50 : decode cX5_run 50 = .ok (.istore_n 3, 1) := by decide +kernel
theorem dX5_run_51 : decode cX5_run 51 = .ok (.iload_n 3, 1) := by decide +kernel
theorem dX5_run_52 : decode cX5_run 52 = .ok (.iload_n 1, 1) := by decide +kernel
theorem dX5_run_53 : decode cX5_run 53 = .ok (.if_icmp .ge 49, 3) := by decide +kernel
theorem dX5_run_56 : decode cX5_run 56 = .ok (.iload_n 2, 1) := by decide +kernel
theorem dX5_run_57 : decode cX5_run 57 = .ok (.ifCond .lt 45, 3) := by decide +kernel
theorem dX5_run_60 : decode cX5_run 60 = .ok (.aload_n 0, 1) := by decide +kernel
theorem dX5_run_61 : decode cX5_run 61 = .ok (.invokevirtual 263, 3) := by decide +kernel
theorem dX5_run_64 : decode cX5_run 64 = .ok (.aload_n 0, 1) := by decide +kernel
theorem dX5_run_65 : decode cX5_run 65 = .ok (.dup, 1) := by decide +kernel
theorem dX5_run_66 : decode cX5_run 66 = .ok (.getfield 229, 3) := by decide +kernel
theorem dX5_run_69 : decode cX5_run 69 = .ok (.iconst 1, 1) := by decide +kernel
theorem dX5_run_70 : decode cX5_run 70 = .ok (.iadd, 1) := by decide +kernel
theorem dX5_run_71 : decode cX5_run 71 = .ok (.putfield 229, 3) := by decide +kernel
theorem dX5_run_74 : decode cX5_run 74 = .ok (.aload_n 0, 1) := by decide +kernel
theorem dX5_run_75 : decode cX5_run 75 = .ok (.invokevirtual 284, 3) := by decide +kernel
theorem dX5_run_78 : decode cX5_run 78 = .ok (.istore_n 2, 1) := by decide +kernel
theorem dX5_run_79 : decode cX5_run 79 = .ok (.aload_n 0, 1) := by decide +kernel
theorem dX5_run_80 : decode cX5_run 80 = .ok (.iload_n 2, 1) := by decide +kernel
theorem dX5_run_81 : decode cX5_run 81 = .ok (.ifCond .ge 7, 3) := by decide +kernel
theorem dX5_run_84 : decode cX5_run 84 = .ok (.iconst 1, 1) := by decide +kernel
theorem dX5_run_85 : decode cX5_run 85 = .ok (.goto 4, 3) := by decide +kernel
theorem dX5_run_88 : decode cX5_run 88 = .ok (.iconst 0, 1) := by decide +kernel
theorem dX5_run_89 : decode cX5_run 89 = .ok (.bipush 6, 2) := by decide +kernel
theorem dX5_run_91 : decode cX5_run 91 = .ok (.iload_n 3, 1) := by decide +kernel
theorem dX5_run_92 : decode cX5_run 92 = .ok (.invokevirtual 120, 3) := by decide +kernel
theorem dX5_run_95 : decode cX5_run 95 = .ok (.pop, 1) := by decide +kernel
theorem dX5_run_96 : decode cX5_run 96 = .ok (.iinc 3 1, 3) := by decide +kernel
theorem dX5_run_99 : decode cX5_run 99 = .ok (.goto (-48), 3) := by decide +kernel
theorem dX5_run_102 : decode cX5_run 102 = .ok (.aload_n 0, 1) := by decide +kernel
theorem dX5_run_103 : decode cX5_run 103 = .ok (.iconst 0, 1) := by decide +kernel
theorem dX5_run_104 : decode cX5_run 104 = .ok (.putfield 50, 3) := by decide +kernel
theorem dX5_run_107 : decode cX5_run 107 = .ok (.aload_n 0, 1) := by decide +kernel
theorem dX5_run_108 : decode cX5_run 108 = .ok (.iconst 0, 1) := by decide +kernel
theorem dX5_run_109 : decode cX5_run 109 = .ok (.putfield 223, 3) := by decide +kernel
theorem dX5_run_112 : decode cX5_run 112 = .ok (.iload_n 2, 1) := by decide +kernel
theorem dX5_run_113 : decode cX5_run 113 = .ok (.ifCond .ge 17, 3) := by decide +kernel
theorem dX5_run_116 : decode cX5_run 116 = .ok (.aload_n 0, 1) := by decide +kernel
theorem dX5_run_117 : decode cX5_run 117 = .ok (.getfield 16, 3) := by decide +kernel
theorem dX5_run_120 : decode cX5_run 120 = .ok (.aload_n 0, 1) := by decide +kernel
theorem dX5_run_121 : decode cX5_run 121 = .ok (.getfield 9, 3) := by decide +kernel
theorem dX5_run_124 : decode cX5_run 124 = .ok (.invokestatic 46, 3) := by decide +kernel
theorem dX5_run_127 : decode cX5_run 127 = .ok (.bipush (-14), 2) := by decide +kernel
theorem dX5_run_129 : decode cX5_run 129 = .ok (.ireturn, 1) := by decide +kernel
theorem dX5_run_130 : decode cX5_run 130 = .ok (.aload_n 0, 1) := by decide +kernel
theorem dX5_run_131 : decode cX5_run 131 = .ok (.aload_n 0, 1) := by decide +kernel
theorem dX5_run_132 : decode cX5_run 132 = .ok (.getfield 16, 3) := by decide +kernel
theorem dX5_run_135 : decode cX5_run 135 = .ok (.invokevirtual 54, 3) := by decide +kernel
theorem dX5_run_138 : decode cX5_run 138 = .ok (.iload_n 1, 1) := by decide +kernel
theorem dX5_run_139 : decode cX5_run 139 = .ok (.ireturn, 1) := by decide +kernel
theorem dX5_write_0 : decode cX5_write 0 = .ok (.aload_n 0, 1) := by decide +kernel
theorem dX5_write_1 : decode cX5_write 1 = .ok (.getfield 287, 3) := by decide +kernel
theorem dX5_write_4 : decode cX5_write 4 = .ok (.bipush 60, 2) := by decide +kernel
theorem dX5_write_6 : decode cX5_write 6 = .ok (.if_icmp .ge 23, 3) := by decide +kernel
theorem dX5_write_9 : decode cX5_write 9 = .ok (.aload_n 0, 1) := by decide +kernel
theorem dX5_write_10 : decode cX5_write 10 = .ok (.getfield 33, 3) := by decide +kernel
theorem dX5_write_13 : decode cX5_write 13 = .ok (.aload_n 0, 1) := by decide +kernel
theorem dX5_write_14 : decode cX5_write 14 = .ok (.getfield 287, 3) := by decide +kernel
theorem dX5_write_17 : decode cX5_write 17 = .ok (.iload_n 1, 1) := by decide +kernel
theorem dX5_write_18 : decode cX5_write 18 = .ok (.iastore, 1) := by decide +kernel
theorem dX5_write_19 : decode cX5_write 19 = .ok (.aload_n 0, 1) := by decide +kernel
theorem dX5_write_20 : decode cX5_write 20 = .ok (.dup, 1) := by decide +kernel
theorem dX5_write_21 : decode cX5_write 21 = .ok (.getfield 287, 3) := by decide +kernel
theorem dX5_write_24 : decode cX5_write 24 = .ok (.iconst 1, 1) := by decide +kernel
theorem dX5_write_25 : decode cX5_write 25 = .ok (.iadd, 1) := by decide +kernel
theorem dX5_write_26 : decode cX5_write 26 = .ok (.putfield 287, 3) := by decide +kernel
theorem dX5_write_29 : decode cX5_write 29 = .ok (.return_, 1) := by decide +kernel
theorem dX5_writeNumber_0 : decode cX5_writeNumber 0 = .ok (.iload_n 1, 1) := by decide +kernel
theorem dX5_writeNumber_1 : decode cX5_writeNumber 1 = .ok (.bipush 9, 2) := by decide +kernel
theorem dX5_writeNumber_3 : decode cX5_writeNumber 3 = .ok (.if_icmp .le 11, 3) := by decide +kernel
theorem dX5_writeNumber_6 : decode cX5_writeNumber 6 = .ok (.aload_n 0, 1) := by decide +kernel
theorem dX5_writeNumber_7 : decode cX5_writeNumber 7 = .ok (.iload_n 1, 1) := by decide +kernel
theorem dX5_writeNumber_8 : decode cX5_writeNumber 8 = .ok (.bipush 10, 2) := by decide +kernel
theorem dX5_writeNumber_10 : decode cX5_writeNumber 10 = .ok (.idiv, 1) := by decide +kernel
theorem dX5_writeNumber_11 : decode cX5_writeNumber 11 = .ok (.invokevirtual 290, 3) := by decide +kernel
theorem dX5_writeNumber_14 : decode cX5_writeNumber 14 = .ok (.aload_n 0, 1) := by decide +kernel
theorem dX5_writeNumber_15 : decode cX5_writeNumber 15 = .ok (.bipush 48, 2) := by decide +kernel
theorem dX5_writeNumber_17 : decode cX5_writeNumber 17 = .ok (.iload_n 1, 1) := by decide +kernel
theorem dX5_writeNumber_18 : decode cX5_writeNumber 18 = .ok (.bipush 10, 2) := by decide +kernel
theorem dX5_writeNumber_20 : decode cX5_writeNumber 20 = .ok (.irem, 1) := by decide +kernel
theorem dX5_writeNumber_21 : decode cX5_writeNumber 21 = .ok (.iadd, 1) := by decide +kernel
theorem dX5_writeNumber_22 : decode cX5_writeNumber 22 = .ok (.invokevirtual 293, 3) := by decide +kernel
theorem dX5_writeNumber_25 : decode cX5_writeNumber 25 = .ok (.return_, 1) := by decide +kernel
theorem dX5_writeSheaf_0 : decode cX5_writeSheaf 0 = .ok (.iload_n 2, 1) := by decide +kernel
theorem dX5_writeSheaf_1 : decode cX5_writeSheaf 1 = .ok (.ifCond .ge 4, 3) := by decide +kernel
theorem dX5_writeSheaf_4 : decode cX5_writeSheaf 4 = .ok (.return_, 1) := by decide +kernel
theorem dX5_writeSheaf_5 : decode cX5_writeSheaf 5 = .ok (.aload_n 0, 1) := by decide +kernel
theorem dX5_writeSheaf_6 : decode cX5_writeSheaf 6 = .ok (.bipush 40, 2) := by decide +kernel
theorem dX5_writeSheaf_8 : decode cX5_writeSheaf 8 = .ok (.invokevirtual 293, 3) := by decide +kernel
theorem dX5_writeSheaf_11 : decode cX5_writeSheaf 11 = .ok (.aload_n 0, 1) := by decide +kernel
theorem dX5_writeSheaf_12 : decode cX5_writeSheaf 12 = .ok (.iload_n 1, 1) := by decide +kernel
theorem dX5_writeSheaf_13 : decode cX5_writeSheaf 13 = .ok (.aload_n 0, 1) := by decide +kernel
theorem dX5_writeSheaf_14 : decode cX5_writeSheaf 14 = .ok (.iload_n 1, 1) := by decide +kernel
theorem dX5_writeSheaf_15 : decode cX5_writeSheaf 15 = .ok (.iload_n 2, 1) := by decide +kernel
theorem dX5_writeSheaf_16 : decode cX5_writeSheaf 16 = .ok (.iconst 2, 1) := by decide +kernel
theorem dX5_writeSheaf_17 : decode cX5_writeSheaf 17 = .ok (.invokevirtual 62, 3) := by decide +kernel
theorem dX5_writeSheaf_20 : decode cX5_writeSheaf 20 = .ok (.invokevirtual 296, 3) := by decide +kernel
theorem dX5_writeSheaf_23 : decode cX5_writeSheaf 23 = .ok (.aload_n 0, 1) := by decide +kernel
theorem dX5_writeSheaf_24 : decode cX5_writeSheaf 24 = .ok (.aload_n 0, 1) := by decide +kernel
theorem dX5_writeSheaf_25 : decode cX5_writeSheaf 25 = .ok (.iload_n 1, 1) := by decide +kernel
theorem dX5_writeSheaf_26 : decode cX5_writeSheaf 26 = .ok (.iload_n 2, 1) := by decide +kernel
theorem dX5_writeSheaf_27 : decode cX5_writeSheaf 27 = .ok (.iconst 0, 1) := by decide +kernel
theorem dX5_writeSheaf_28 : decode cX5_writeSheaf 28 = .ok (.invokevirtual 62, 3) := by decide +kernel
theorem dX5_writeSheaf_31 : decode cX5_writeSheaf 31 = .ok (.invokevirtual 290, 3) := by decide +kernel
theorem dX5_writeSheaf_34 : decode cX5_writeSheaf 34 = .ok (.aload_n 0, 1) := by decide +kernel
theorem dX5_writeSheaf_35 : decode cX5_writeSheaf 35 = .ok (.iload_n 1, 1) := by decide +kernel
theorem dX5_writeSheaf_36 : decode cX5_writeSheaf 36 = .ok (.iload_n 2, 1) := by decide +kernel
theorem dX5_writeSheaf_37 : decode cX5_writeSheaf 37 = .ok (.invokevirtual 145, 3) := by decide +kernel
theorem dX5_writeSheaf_40 : decode cX5_writeSheaf 40 = .ok (.ifCond .eq 9, 3) := by decide +kernel
theorem dX5_writeSheaf_43 : decode cX5_writeSheaf 43 = .ok (.aload_n 0, 1) := by decide +kernel
theorem dX5_writeSheaf_44 : decode cX5_writeSheaf 44 = .ok (.bipush 33, 2) := by decide +kernel
theorem dX5_writeSheaf_46 : decode cX5_writeSheaf 46 = .ok (.invokevirtual 293, 3) := by decide +kernel
theorem dX5_writeSheaf_49 : decode cX5_writeSheaf 49 = .ok (.aload_n 0, 1) := by decide +kernel
theorem dX5_writeSheaf_50 : decode cX5_writeSheaf 50 = .ok (.iload_n 1, 1) := by decide +kernel
theorem dX5_writeSheaf_51 : decode cX5_writeSheaf 51 = .ok (.aload_n 0, 1) := by decide +kernel
theorem dX5_writeSheaf_52 : decode cX5_writeSheaf 52 = .ok (.iload_n 1, 1) := by decide +kernel
theorem dX5_writeSheaf_53 : decode cX5_writeSheaf 53 = .ok (.iload_n 2, 1) := by decide +kernel
theorem dX5_writeSheaf_54 : decode cX5_writeSheaf 54 = .ok (.iconst 3, 1) := by decide +kernel
theorem dX5_writeSheaf_55 : decode cX5_writeSheaf 55 = .ok (.invokevirtual 62, 3) := by decide +kernel
theorem dX5_writeSheaf_58 : decode cX5_writeSheaf 58 = .ok (.invokevirtual 296, 3) := by decide +kernel
theorem dX5_writeSheaf_61 : decode cX5_writeSheaf 61 = .ok (.aload_n 0, 1) := by decide +kernel
theorem dX5_writeSheaf_62 : decode cX5_writeSheaf 62 = .ok (.bipush 41, 2) := by decide +kernel
theorem dX5_writeSheaf_64 : decode cX5_writeSheaf 64 = .ok (.invokevirtual 293, 3) := by decide +kernel
theorem dX5_writeSheaf_67 : decode cX5_writeSheaf 67 = .ok (.return_, 1) := by decide +kernel
theorem dX5_tell_0 : decode cX5_tell 0 = .ok (.iload_n 1, 1) := by decide +kernel
theorem dX5_tell_1 : decode cX5_tell 1 = .ok (.invokestatic 110, 3) := by decide +kernel
theorem dX5_tell_4 : decode cX5_tell 4 = .ok (.ifCond .ne 6, 3) := by decide +kernel
theorem dX5_tell_7 : decode cX5_tell 7 = .ok (.bipush (-11), 2) := by decide +kernel
theorem dX5_tell_9 : decode cX5_tell 9 = .ok (.ireturn, 1) := by decide +kernel
theorem dX5_tell_10 : decode cX5_tell 10 = .ok (.aload_n 0, 1) := by decide +kernel
theorem dX5_tell_11 : decode cX5_tell 11 = .ok (.iconst 0, 1) := by decide +kernel
theorem dX5_tell_12 : decode cX5_tell 12 = .ok (.putfield 287, 3) := by decide +kernel
theorem dX5_tell_15 : decode cX5_tell 15 = .ok (.aload_n 0, 1) := by decide +kernel
theorem dX5_tell_16 : decode cX5_tell 16 = .ok (.iload_n 1, 1) := by decide +kernel
theorem dX5_tell_17 : decode cX5_tell 17 = .ok (.aload_n 0, 1) := by decide +kernel
theorem dX5_tell_18 : decode cX5_tell 18 = .ok (.iload_n 1, 1) := by decide +kernel
theorem dX5_tell_19 : decode cX5_tell 19 = .ok (.invokevirtual 73, 3) := by decide +kernel
theorem dX5_tell_22 : decode cX5_tell 22 = .ok (.invokevirtual 296, 3) := by decide +kernel
theorem dX5_tell_25 : decode cX5_tell 25 = .ok (.aload_n 0, 1) := by decide +kernel
theorem dX5_tell_26 : decode cX5_tell 26 = .ok (.getfield 287, 3) := by decide +kernel
theorem dX5_tell_29 : decode cX5_tell 29 = .ok (.ireturn, 1) := by decide +kernel
theorem dX5_character_0 : decode cX5_character 0 = .ok (.iload_n 1, 1) := by decide +kernel
theorem dX5_character_1 : decode cX5_character 1 = .ok (.iconst 0, 1) := by decide +kernel
theorem dX5_character_2 : decode cX5_character 2 = .ok (.aload_n 0, 1) := by decide +kernel
theorem dX5_character_3 : decode cX5_character 3 = .ok (.getfield 287, 3) := by decide +kernel
theorem dX5_character_6 : decode cX5_character 6 = .ok (.iconst 1, 1) := by decide +kernel
theorem dX5_character_7 : decode cX5_character 7 = .ok (.isub, 1) := by decide +kernel
theorem dX5_character_8 : decode cX5_character 8 = .ok (.invokestatic 58, 3) := by decide +kernel
theorem dX5_character_11 : decode cX5_character 11 = .ok (.ifCond .eq 12, 3) := by decide +kernel
theorem dX5_character_14 : decode cX5_character 14 = .ok (.aload_n 0, 1) := by decide +kernel
theorem dX5_character_15 : decode cX5_character 15 = .ok (.getfield 33, 3) := by decide +kernel
theorem dX5_character_18 : decode cX5_character 18 = .ok (.iload_n 1, 1) := by decide +kernel
theorem dX5_character_19 : decode cX5_character 19 = .ok (.iaload, 1) := by decide +kernel
theorem dX5_character_20 : decode cX5_character 20 = .ok (.goto 5, 3) := by decide +kernel
theorem dX5_character_23 : decode cX5_character 23 = .ok (.bipush (-11), 2) := by decide +kernel
theorem dX5_character_25 : decode cX5_character 25 = .ok (.ireturn, 1) := by decide +kernel
theorem dX5_reason_0 : decode cX5_reason 0 = .ok (.aload_n 0, 1) := by decide +kernel
theorem dX5_reason_1 : decode cX5_reason 1 = .ok (.getfield 36, 3) := by decide +kernel
theorem dX5_reason_4 : decode cX5_reason 4 = .ok (.ifCond .ne 8, 3) := by decide +kernel
theorem dX5_reason_7 : decode cX5_reason 7 = .ok (.bipush (-15), 2) := by decide +kernel
theorem dX5_reason_9 : decode cX5_reason 9 = .ok (.goto 18, 3) := by decide +kernel
theorem dX5_reason_12 : decode cX5_reason 12 = .ok (.iload_n 1, 1) := by decide +kernel
theorem dX5_reason_13 : decode cX5_reason 13 = .ok (.ifCond .eq 10, 3) := by decide +kernel
theorem dX5_reason_16 : decode cX5_reason 16 = .ok (.aload_n 0, 1) := by decide +kernel
theorem dX5_reason_17 : decode cX5_reason 17 = .ok (.getfield 40, 3) := by decide +kernel
theorem dX5_reason_20 : decode cX5_reason 20 = .ok (.goto 7, 3) := by decide +kernel
theorem dX5_reason_23 : decode cX5_reason 23 = .ok (.aload_n 0, 1) := by decide +kernel
theorem dX5_reason_24 : decode cX5_reason 24 = .ok (.getfield 36, 3) := by decide +kernel
theorem dX5_reason_27 : decode cX5_reason 27 = .ok (.ireturn, 1) := by decide +kernel
theorem dX5_allSheaves_0 : decode cX5_allSheaves 0 = .ok (.aload_n 0, 1) := by decide +kernel
theorem dX5_allSheaves_1 : decode cX5_allSheaves 1 = .ok (.iconst 0, 1) := by decide +kernel
theorem dX5_allSheaves_2 : decode cX5_allSheaves 2 = .ok (.invokevirtual 124, 3) := by decide +kernel
theorem dX5_allSheaves_5 : decode cX5_allSheaves 5 = .ok (.aload_n 0, 1) := by decide +kernel
theorem dX5_allSheaves_6 : decode cX5_allSheaves 6 = .ok (.iconst 1, 1) := by decide +kernel
theorem dX5_allSheaves_7 : decode cX5_allSheaves 7 = .ok (.invokevirtual 124, 3) := by decide +kernel
theorem dX5_allSheaves_10 : decode cX5_allSheaves 10 = .ok (.iadd, 1) := by decide +kernel
theorem dX5_allSheaves_11 : decode cX5_allSheaves 11 = .ok (.aload_n 0, 1) := by decide +kernel
theorem dX5_allSheaves_12 : decode cX5_allSheaves 12 = .ok (.iconst 2, 1) := by decide +kernel
theorem dX5_allSheaves_13 : decode cX5_allSheaves 13 = .ok (.invokevirtual 124, 3) := by decide +kernel
theorem dX5_allSheaves_16 : decode cX5_allSheaves 16 = .ok (.iadd, 1) := by decide +kernel
theorem dX5_allSheaves_17 : decode cX5_allSheaves 17 = .ok (.ireturn, 1) := by decide +kernel
theorem dX5_account_0 : decode cX5_account 0 = .ok (.iload_n 1, 1) := by decide +kernel
theorem dX5_account_1 : decode cX5_account 1 = .ok (.tableswitch 123 0 10 #[59, 64, 97, 97, 97, 97, 97, 97, 106, 113, 118], 59) := by decide +kernel
theorem dX5_account_60 : decode cX5_account 60 = .ok (.aload_n 0, 1) := by decide +kernel
theorem dX5_account_61 : decode cX5_account 61 = .ok (.invokevirtual 299, 3) := by decide +kernel
theorem dX5_account_64 : decode cX5_account 64 = .ok (.ireturn, 1) := by decide +kernel
theorem dX5_account_65 : decode cX5_account 65 = .ok (.aload_n 0, 1) := by decide +kernel
theorem dX5_account_66 : decode cX5_account 66 = .ok (.iconst 0, 1) := by decide +kernel
theorem dX5_account_67 : decode cX5_account 67 = .ok (.aload_n 0, 1) := by decide +kernel
theorem dX5_account_68 : decode cX5_account 68 = .ok (.iconst 0, 1) := by decide +kernel
theorem dX5_account_69 : decode cX5_account 69 = .ok (.invokevirtual 73, 3) := by decide +kernel
theorem dX5_account_72 : decode cX5_account 72 = .ok (.invokevirtual 70, 3) := by decide +kernel
theorem dX5_account_75 : decode cX5_account 75 = .ok (.aload_n 0, 1) := by decide +kernel
theorem dX5_account_76 : decode cX5_account 76 = .ok (.iconst 1, 1) := by decide +kernel
theorem dX5_account_77 : decode cX5_account 77 = .ok (.aload_n 0, 1) := by decide +kernel
theorem dX5_account_78 : decode cX5_account 78 = .ok (.iconst 1, 1) := by decide +kernel
theorem dX5_account_79 : decode cX5_account 79 = .ok (.invokevirtual 73, 3) := by decide +kernel
theorem dX5_account_82 : decode cX5_account 82 = .ok (.invokevirtual 70, 3) := by decide +kernel
theorem dX5_account_85 : decode cX5_account 85 = .ok (.iadd, 1) := by decide +kernel
theorem dX5_account_86 : decode cX5_account 86 = .ok (.aload_n 0, 1) := by decide +kernel
theorem dX5_account_87 : decode cX5_account 87 = .ok (.iconst 2, 1) := by decide +kernel
theorem dX5_account_88 : decode cX5_account 88 = .ok (.aload_n 0, 1) := by decide +kernel
theorem dX5_account_89 : decode cX5_account 89 = .ok (.iconst 2, 1) := by decide +kernel
theorem dX5_account_90 : decode cX5_account 90 = .ok (.invokevirtual 73, 3) := by decide +kernel
theorem dX5_account_93 : decode cX5_account 93 = .ok (.invokevirtual 70, 3) := by decide +kernel
theorem dX5_account_96 : decode cX5_account 96 = .ok (.iadd, 1) := by decide +kernel
theorem dX5_account_97 : decode cX5_account 97 = .ok (.ireturn, 1) := by decide +kernel
theorem dX5_account_98 : decode cX5_account 98 = .ok (.aload_n 0, 1) := by decide +kernel
theorem dX5_account_99 : decode cX5_account 99 = .ok (.getfield 9, 3) := by decide +kernel
theorem dX5_account_102 : decode cX5_account 102 = .ok (.iload_n 1, 1) := by decide +kernel
theorem dX5_account_103 : decode cX5_account 103 = .ok (.iconst 1, 1) := by decide +kernel
theorem dX5_account_104 : decode cX5_account 104 = .ok (.isub, 1) := by decide +kernel
theorem dX5_account_105 : decode cX5_account 105 = .ok (.iaload, 1) := by decide +kernel
theorem dX5_account_106 : decode cX5_account 106 = .ok (.ireturn, 1) := by decide +kernel
theorem dX5_account_107 : decode cX5_account 107 = .ok (.aload_n 0, 1) := by decide +kernel
theorem dX5_account_108 : decode cX5_account 108 = .ok (.getfield 9, 3) := by decide +kernel
theorem dX5_account_111 : decode cX5_account 111 = .ok (.iconst 0, 1) := by decide +kernel
theorem dX5_account_112 : decode cX5_account 112 = .ok (.iaload, 1) := by decide +kernel
theorem dX5_account_113 : decode cX5_account 113 = .ok (.ireturn, 1) := by decide +kernel
theorem dX5_account_114 : decode cX5_account 114 = .ok (.aload_n 0, 1) := by decide +kernel
theorem dX5_account_115 : decode cX5_account 115 = .ok (.getfield 223, 3) := by decide +kernel
theorem dX5_account_118 : decode cX5_account 118 = .ok (.ireturn, 1) := by decide +kernel
theorem dX5_account_119 : decode cX5_account 119 = .ok (.aload_n 0, 1) := by decide +kernel
theorem dX5_account_120 : decode cX5_account 120 = .ok (.getfield 43, 3) := by decide +kernel
theorem dX5_account_123 : decode cX5_account 123 = .ok (.ireturn, 1) := by decide +kernel
theorem dX5_account_124 : decode cX5_account 124 = .ok (.bipush (-12), 2) := by decide +kernel
theorem dX5_account_126 : decode cX5_account 126 = .ok (.ireturn, 1) := by decide +kernel
theorem dX5_isBalanced_0 : decode cX5_isBalanced 0 = .ok (.iconst 1, 1) := by decide +kernel
theorem dX5_isBalanced_1 : decode cX5_isBalanced 1 = .ok (.ireturn, 1) := by decide +kernel
theorem dX5_undo_0 : decode cX5_undo 0 = .ok (.aload_n 0, 1) := by decide +kernel
theorem dX5_undo_1 : decode cX5_undo 1 = .ok (.getfield 43, 3) := by decide +kernel
theorem dX5_undo_4 : decode cX5_undo 4 = .ok (.ifCond .ne 6, 3) := by decide +kernel
theorem dX5_undo_7 : decode cX5_undo 7 = .ok (.bipush (-15), 2) := by decide +kernel
theorem dX5_undo_9 : decode cX5_undo 9 = .ok (.ireturn, 1) := by decide +kernel
theorem dX5_undo_10 : decode cX5_undo 10 = .ok (.aload_n 0, 1) := by decide +kernel
theorem dX5_undo_11 : decode cX5_undo 11 = .ok (.dup, 1) := by decide +kernel
theorem dX5_undo_12 : decode cX5_undo 12 = .ok (.getfield 43, 3) := by decide +kernel
theorem dX5_undo_15 : decode cX5_undo 15 = .ok (.iconst 1, 1) := by decide +kernel
theorem dX5_undo_16 : decode cX5_undo 16 = .ok (.isub, 1) := by decide +kernel
theorem dX5_undo_17 : decode cX5_undo 17 = .ok (.putfield 43, 3) := by decide +kernel
theorem dX5_undo_20 : decode cX5_undo 20 = .ok (.aload_n 0, 1) := by decide +kernel
theorem dX5_undo_21 : decode cX5_undo 21 = .ok (.getfield 21, 3) := by decide +kernel
theorem dX5_undo_24 : decode cX5_undo 24 = .ok (.aload_n 0, 1) := by decide +kernel
theorem dX5_undo_25 : decode cX5_undo 25 = .ok (.getfield 43, 3) := by decide +kernel
theorem dX5_undo_28 : decode cX5_undo 28 = .ok (.aaload, 1) := by decide +kernel
theorem dX5_undo_29 : decode cX5_undo 29 = .ok (.aload_n 0, 1) := by decide +kernel
theorem dX5_undo_30 : decode cX5_undo 30 = .ok (.getfield 9, 3) := by decide +kernel
theorem dX5_undo_33 : decode cX5_undo 33 = .ok (.invokestatic 46, 3) := by decide +kernel
theorem dX5_undo_36 : decode cX5_undo 36 = .ok (.aload_n 0, 1) := by decide +kernel
theorem dX5_undo_37 : decode cX5_undo 37 = .ok (.getfield 43, 3) := by decide +kernel
theorem dX5_undo_40 : decode cX5_undo 40 = .ok (.ireturn, 1) := by decide +kernel
theorem dX5_save_0 : decode cX5_save 0 = .ok (.aload_n 0, 1) := by decide +kernel
theorem dX5_save_1 : decode cX5_save 1 = .ok (.iconst 1, 1) := by decide +kernel
theorem dX5_save_2 : decode cX5_save 2 = .ok (.putfield 302, 3) := by decide +kernel
theorem dX5_save_5 : decode cX5_save 5 = .ok (.aload_n 0, 1) := by decide +kernel
theorem dX5_save_6 : decode cX5_save 6 = .ok (.getfield 9, 3) := by decide +kernel
theorem dX5_save_9 : decode cX5_save 9 = .ok (.aload_n 0, 1) := by decide +kernel
theorem dX5_save_10 : decode cX5_save 10 = .ok (.getfield 13, 3) := by decide +kernel
theorem dX5_save_13 : decode cX5_save 13 = .ok (.invokestatic 46, 3) := by decide +kernel
theorem dX5_save_16 : decode cX5_save 16 = .ok (.aload_n 0, 1) := by decide +kernel
theorem dX5_save_17 : decode cX5_save 17 = .ok (.invokevirtual 299, 3) := by decide +kernel
theorem dX5_save_20 : decode cX5_save 20 = .ok (.ireturn, 1) := by decide +kernel
theorem dX5_restore_0 : decode cX5_restore 0 = .ok (.aload_n 0, 1) := by decide +kernel
theorem dX5_restore_1 : decode cX5_restore 1 = .ok (.getfield 302, 3) := by decide +kernel
theorem dX5_restore_4 : decode cX5_restore 4 = .ok (.ifCond .ne 6, 3) := by decide +kernel
theorem dX5_restore_7 : decode cX5_restore 7 = .ok (.bipush (-15), 2) := by decide +kernel
theorem dX5_restore_9 : decode cX5_restore 9 = .ok (.ireturn, 1) := by decide +kernel
theorem dX5_restore_10 : decode cX5_restore 10 = .ok (.aload_n 0, 1) := by decide +kernel
theorem dX5_restore_11 : decode cX5_restore 11 = .ok (.getfield 13, 3) := by decide +kernel
theorem dX5_restore_14 : decode cX5_restore 14 = .ok (.aload_n 0, 1) := by decide +kernel
theorem dX5_restore_15 : decode cX5_restore 15 = .ok (.getfield 9, 3) := by decide +kernel
theorem dX5_restore_18 : decode cX5_restore 18 = .ok (.invokestatic 46, 3) := by decide +kernel
theorem dX5_restore_21 : decode cX5_restore 21 = .ok (.aload_n 0, 1) := by decide +kernel
theorem dX5_restore_22 : decode cX5_restore 22 = .ok (.iconst 0, 1) := by decide +kernel
theorem dX5_restore_23 : decode cX5_restore 23 = .ok (.putfield 43, 3) := by decide +kernel
theorem dX5_restore_26 : decode cX5_restore 26 = .ok (.aload_n 0, 1) := by decide +kernel
theorem dX5_restore_27 : decode cX5_restore 27 = .ok (.invokevirtual 299, 3) := by decide +kernel
theorem dX5_restore_30 : decode cX5_restore 30 = .ok (.ireturn, 1) := by decide +kernel
theorem dJ11_isValidCodePoint_9a6ad_0 : decode cJ11_isValidCodePoint_9a6ad 0 = .ok (.iload_n 0, 1) := by decide +kernel
theorem dJ11_isValidCodePoint_9a6ad_1 : decode cJ11_isValidCodePoint_9a6ad 1 = .ok (.bipush 16, 2) := by decide +kernel
theorem dJ11_isValidCodePoint_9a6ad_3 : decode cJ11_isValidCodePoint_9a6ad 3 = .ok (.iushr, 1) := by decide +kernel
theorem dJ11_isValidCodePoint_9a6ad_4 : decode cJ11_isValidCodePoint_9a6ad 4 = .ok (.istore_n 1, 1) := by decide +kernel
theorem dJ11_isValidCodePoint_9a6ad_5 : decode cJ11_isValidCodePoint_9a6ad 5 = .ok (.iload_n 1, 1) := by decide +kernel
theorem dJ11_isValidCodePoint_9a6ad_6 : decode cJ11_isValidCodePoint_9a6ad 6 = .ok (.bipush 17, 2) := by decide +kernel
theorem dJ11_isValidCodePoint_9a6ad_8 : decode cJ11_isValidCodePoint_9a6ad 8 = .ok (.if_icmp .ge 7, 3) := by decide +kernel
theorem dJ11_isValidCodePoint_9a6ad_11 : decode cJ11_isValidCodePoint_9a6ad 11 = .ok (.iconst 1, 1) := by decide +kernel
theorem dJ11_isValidCodePoint_9a6ad_12 : decode cJ11_isValidCodePoint_9a6ad 12 = .ok (.goto 4, 3) := by decide +kernel
theorem dJ11_isValidCodePoint_9a6ad_15 : decode cJ11_isValidCodePoint_9a6ad 15 = .ok (.iconst 0, 1) := by decide +kernel
theorem dJ11_isValidCodePoint_9a6ad_16 : decode cJ11_isValidCodePoint_9a6ad 16 = .ok (.ireturn, 1) := by decide +kernel
theorem dJ11_highSurrogate_5068e_0 : decode cJ11_highSurrogate_5068e 0 = .ok (.iload_n 0, 1) := by decide +kernel
theorem dJ11_highSurrogate_5068e_1 : decode cJ11_highSurrogate_5068e 1 = .ok (.bipush 10, 2) := by decide +kernel
theorem dJ11_highSurrogate_5068e_3 : decode cJ11_highSurrogate_5068e 3 = .ok (.iushr, 1) := by decide +kernel
theorem dJ11_highSurrogate_5068e_4 : decode cJ11_highSurrogate_5068e 4 = .ok (.ldc 110, 2) := by decide +kernel
theorem dJ11_highSurrogate_5068e_6 : decode cJ11_highSurrogate_5068e 6 = .ok (.iadd, 1) := by decide +kernel
theorem dJ11_highSurrogate_5068e_7 : decode cJ11_highSurrogate_5068e 7 = .ok (.i2c, 1) := by decide +kernel
theorem dJ11_highSurrogate_5068e_8 : decode cJ11_highSurrogate_5068e 8 = .ok (.ireturn, 1) := by decide +kernel
theorem dJ11_lowSurrogate_5068e_0 : decode cJ11_lowSurrogate_5068e 0 = .ok (.iload_n 0, 1) := by decide +kernel
theorem dJ11_lowSurrogate_5068e_1 : decode cJ11_lowSurrogate_5068e 1 = .ok (.sipush 1023, 3) := by decide +kernel
theorem dJ11_lowSurrogate_5068e_4 : decode cJ11_lowSurrogate_5068e 4 = .ok (.iand, 1) := by decide +kernel
theorem dJ11_lowSurrogate_5068e_5 : decode cJ11_lowSurrogate_5068e 5 = .ok (.ldc 76, 2) := by decide +kernel
theorem dJ11_lowSurrogate_5068e_7 : decode cJ11_lowSurrogate_5068e 7 = .ok (.iadd, 1) := by decide +kernel
theorem dJ11_lowSurrogate_5068e_8 : decode cJ11_lowSurrogate_5068e 8 = .ok (.i2c, 1) := by decide +kernel
theorem dJ11_lowSurrogate_5068e_9 : decode cJ11_lowSurrogate_5068e 9 = .ok (.ireturn, 1) := by decide +kernel
theorem dJxe99ae_isNaN_b9ae7_0 : decode cJxe99ae_isNaN_b9ae7 0 = .ok (.dload_n 0, 1) := by decide +kernel
theorem dJxe99ae_isNaN_b9ae7_1 : decode cJxe99ae_isNaN_b9ae7 1 = .ok (.dload_n 0, 1) := by decide +kernel
theorem dJxe99ae_isNaN_b9ae7_2 : decode cJxe99ae_isNaN_b9ae7 2 = .ok (.dcmp .l, 1) := by decide +kernel
theorem dJxe99ae_isNaN_b9ae7_3 : decode cJxe99ae_isNaN_b9ae7 3 = .ok (.ifCond .eq 7, 3) := by decide +kernel
theorem dJxe99ae_isNaN_b9ae7_6 : decode cJxe99ae_isNaN_b9ae7 6 = .ok (.iconst 1, 1) := by decide +kernel
theorem dJxe99ae_isNaN_b9ae7_7 : decode cJxe99ae_isNaN_b9ae7 7 = .ok (.goto 4, 3) := by decide +kernel
theorem dJxe99ae_isNaN_b9ae7_10 : decode cJxe99ae_isNaN_b9ae7 10 = .ok (.iconst 0, 1) := by decide +kernel
theorem dJxe99ae_isNaN_b9ae7_11 : decode cJxe99ae_isNaN_b9ae7 11 = .ok (.ireturn, 1) := by decide +kernel
theorem dJxe99ae_doubleToLongBits_ccdee_0 : decode cJxe99ae_doubleToLongBits_ccdee 0 = .ok (.dload_n 0, 1) := by decide +kernel
theorem dJxe99ae_doubleToLongBits_ccdee_1 : decode cJxe99ae_doubleToLongBits_ccdee 1 = .ok (.invokestatic 122, 3) := by decide +kernel
theorem dJxe99ae_doubleToLongBits_ccdee_4 : decode cJxe99ae_doubleToLongBits_ccdee 4 = .ok (.ifCond .ne 8, 3) := by decide +kernel
theorem dJxe99ae_doubleToLongBits_ccdee_7 : decode cJxe99ae_doubleToLongBits_ccdee 7 = .ok (.dload_n 0, 1) := by decide +kernel
theorem dJxe99ae_doubleToLongBits_ccdee_8 : decode cJxe99ae_doubleToLongBits_ccdee 8 = .ok (.invokestatic 134, 3) := by decide +kernel
theorem dJxe99ae_doubleToLongBits_ccdee_11 : decode cJxe99ae_doubleToLongBits_ccdee 11 = .ok (.lreturn, 1) := by decide +kernel
theorem dJxe99ae_doubleToLongBits_ccdee_12 : decode cJxe99ae_doubleToLongBits_ccdee 12 = .ok (.ldc2_w 137, 3) := by decide +kernel
theorem dJxe99ae_doubleToLongBits_ccdee_15 : decode cJxe99ae_doubleToLongBits_ccdee 15 = .ok (.lreturn, 1) := by decide +kernel
theorem dJxf58ca_isNaN_12338_0 : decode cJxf58ca_isNaN_12338 0 = .ok (.fload_n 0, 1) := by decide +kernel
theorem dJxf58ca_isNaN_12338_1 : decode cJxf58ca_isNaN_12338 1 = .ok (.fload_n 0, 1) := by decide +kernel
theorem dJxf58ca_isNaN_12338_2 : decode cJxf58ca_isNaN_12338 2 = .ok (.fcmp .l, 1) := by decide +kernel
theorem dJxf58ca_isNaN_12338_3 : decode cJxf58ca_isNaN_12338 3 = .ok (.ifCond .eq 7, 3) := by decide +kernel
theorem dJxf58ca_isNaN_12338_6 : decode cJxf58ca_isNaN_12338 6 = .ok (.iconst 1, 1) := by decide +kernel
theorem dJxf58ca_isNaN_12338_7 : decode cJxf58ca_isNaN_12338 7 = .ok (.goto 4, 3) := by decide +kernel
theorem dJxf58ca_isNaN_12338_10 : decode cJxf58ca_isNaN_12338 10 = .ok (.iconst 0, 1) := by decide +kernel
theorem dJxf58ca_isNaN_12338_11 : decode cJxf58ca_isNaN_12338 11 = .ok (.ireturn, 1) := by decide +kernel
theorem dJxf58ca_floatToIntBits_5c35a_0 : decode cJxf58ca_floatToIntBits_5c35a 0 = .ok (.fload_n 0, 1) := by decide +kernel
theorem dJxf58ca_floatToIntBits_5c35a_1 : decode cJxf58ca_floatToIntBits_5c35a 1 = .ok (.invokestatic 59, 3) := by decide +kernel
theorem dJxf58ca_floatToIntBits_5c35a_4 : decode cJxf58ca_floatToIntBits_5c35a 4 = .ok (.ifCond .ne 8, 3) := by decide +kernel
theorem dJxf58ca_floatToIntBits_5c35a_7 : decode cJxf58ca_floatToIntBits_5c35a 7 = .ok (.fload_n 0, 1) := by decide +kernel
theorem dJxf58ca_floatToIntBits_5c35a_8 : decode cJxf58ca_floatToIntBits_5c35a 8 = .ok (.invokestatic 74, 3) := by decide +kernel
theorem dJxf58ca_floatToIntBits_5c35a_11 : decode cJxf58ca_floatToIntBits_5c35a 11 = .ok (.ireturn, 1) := by decide +kernel
theorem dJxf58ca_floatToIntBits_5c35a_12 : decode cJxf58ca_floatToIntBits_5c35a 12 = .ok (.ldc 77, 2) := by decide +kernel
theorem dJxf58ca_floatToIntBits_5c35a_14 : decode cJxf58ca_floatToIntBits_5c35a 14 = .ok (.ireturn, 1) := by decide +kernel
theorem dJ9_max_7cf53_0 : decode cJ9_max_7cf53 0 = .ok (.iload_n 0, 1) := by decide +kernel
theorem dJ9_max_7cf53_1 : decode cJ9_max_7cf53 1 = .ok (.iload_n 1, 1) := by decide +kernel
theorem dJ9_max_7cf53_2 : decode cJ9_max_7cf53 2 = .ok (.if_icmp .lt 7, 3) := by decide +kernel
theorem dJ9_max_7cf53_5 : decode cJ9_max_7cf53 5 = .ok (.iload_n 0, 1) := by decide +kernel
theorem dJ9_max_7cf53_6 : decode cJ9_max_7cf53 6 = .ok (.goto 4, 3) := by decide +kernel
theorem dJ9_max_7cf53_9 : decode cJ9_max_7cf53 9 = .ok (.iload_n 1, 1) := by decide +kernel
theorem dJ9_max_7cf53_10 : decode cJ9_max_7cf53 10 = .ok (.ireturn, 1) := by decide +kernel
theorem dJ9_min_7cf53_0 : decode cJ9_min_7cf53 0 = .ok (.iload_n 0, 1) := by decide +kernel
theorem dJ9_min_7cf53_1 : decode cJ9_min_7cf53 1 = .ok (.iload_n 1, 1) := by decide +kernel
theorem dJ9_min_7cf53_2 : decode cJ9_min_7cf53 2 = .ok (.if_icmp .gt 7, 3) := by decide +kernel
theorem dJ9_min_7cf53_5 : decode cJ9_min_7cf53 5 = .ok (.iload_n 0, 1) := by decide +kernel
theorem dJ9_min_7cf53_6 : decode cJ9_min_7cf53 6 = .ok (.goto 4, 3) := by decide +kernel
theorem dJ9_min_7cf53_9 : decode cJ9_min_7cf53 9 = .ok (.iload_n 1, 1) := by decide +kernel
theorem dJ9_min_7cf53_10 : decode cJ9_min_7cf53 10 = .ok (.ireturn, 1) := by decide +kernel
theorem dJ0_length_8abf5_0 : decode cJ0_length_8abf5 0 = .ok (.aload_n 0, 1) := by decide +kernel
theorem dJ0_length_8abf5_1 : decode cJ0_length_8abf5 1 = .ok (.getfield 9, 3) := by decide +kernel
theorem dJ0_length_8abf5_4 : decode cJ0_length_8abf5 4 = .ok (.arraylength, 1) := by decide +kernel
theorem dJ0_length_8abf5_5 : decode cJ0_length_8abf5 5 = .ok (.aload_n 0, 1) := by decide +kernel
theorem dJ0_length_8abf5_6 : decode cJ0_length_8abf5 6 = .ok (.invokevirtual 335, 3) := by decide +kernel
theorem dJ0_length_8abf5_9 : decode cJ0_length_8abf5 9 = .ok (.ishr, 1) := by decide +kernel
theorem dJ0_length_8abf5_10 : decode cJ0_length_8abf5 10 = .ok (.ireturn, 1) := by decide +kernel
theorem dJ0_indexOf_0f7a4_0 : decode cJ0_indexOf_0f7a4 0 = .ok (.aload_n 0, 1) := by decide +kernel
theorem dJ0_indexOf_0f7a4_1 : decode cJ0_indexOf_0f7a4 1 = .ok (.iload_n 1, 1) := by decide +kernel
theorem dJ0_indexOf_0f7a4_2 : decode cJ0_indexOf_0f7a4 2 = .ok (.iconst 0, 1) := by decide +kernel
theorem dJ0_indexOf_0f7a4_3 : decode cJ0_indexOf_0f7a4 3 = .ok (.invokevirtual 633, 3) := by decide +kernel
theorem dJ0_indexOf_0f7a4_6 : decode cJ0_indexOf_0f7a4 6 = .ok (.ireturn, 1) := by decide +kernel
theorem dJ0_indexOf_7cf53_0 : decode cJ0_indexOf_7cf53 0 = .ok (.aload_n 0, 1) := by decide +kernel
theorem dJ0_indexOf_7cf53_1 : decode cJ0_indexOf_7cf53 1 = .ok (.invokevirtual 492, 3) := by decide +kernel
theorem dJ0_indexOf_7cf53_4 : decode cJ0_indexOf_7cf53 4 = .ok (.ifCond .eq 19, 3) := by decide +kernel
theorem dJ0_indexOf_7cf53_7 : decode cJ0_indexOf_7cf53 7 = .ok (.aload_n 0, 1) := by decide +kernel
theorem dJ0_indexOf_7cf53_8 : decode cJ0_indexOf_7cf53 8 = .ok (.getfield 9, 3) := by decide +kernel
theorem dJ0_indexOf_7cf53_11 : decode cJ0_indexOf_7cf53 11 = .ok (.iload_n 1, 1) := by decide +kernel
theorem dJ0_indexOf_7cf53_12 : decode cJ0_indexOf_7cf53 12 = .ok (.iload_n 2, 1) := by decide +kernel
theorem dJ0_indexOf_7cf53_13 : decode cJ0_indexOf_7cf53 13 = .ok (.aload_n 0, 1) := by decide +kernel
theorem dJ0_indexOf_7cf53_14 : decode cJ0_indexOf_7cf53 14 = .ok (.invokevirtual 505, 3) := by decide +kernel
theorem dJ0_indexOf_7cf53_17 : decode cJ0_indexOf_7cf53 17 = .ok (.invokestatic 637, 3) := by decide +kernel
theorem dJ0_indexOf_7cf53_20 : decode cJ0_indexOf_7cf53 20 = .ok (.goto 16, 3) := by decide +kernel
theorem dJ0_indexOf_7cf53_23 : decode cJ0_indexOf_7cf53 23 = .ok (.aload_n 0, 1) := by decide +kernel
theorem dJ0_indexOf_7cf53_24 : decode cJ0_indexOf_7cf53 24 = .ok (.getfield 9, 3) := by decide +kernel
theorem dJ0_indexOf_7cf53_27 : decode cJ0_indexOf_7cf53 27 = .ok (.iload_n 1, 1) := by decide +kernel
theorem dJ0_indexOf_7cf53_28 : decode cJ0_indexOf_7cf53 28 = .ok (.iload_n 2, 1) := by decide +kernel
theorem dJ0_indexOf_7cf53_29 : decode cJ0_indexOf_7cf53 29 = .ok (.aload_n 0, 1) := by decide +kernel
theorem dJ0_indexOf_7cf53_30 : decode cJ0_indexOf_7cf53 30 = .ok (.invokevirtual 505, 3) := by decide +kernel
theorem dJ0_indexOf_7cf53_33 : decode cJ0_indexOf_7cf53 33 = .ok (.invokestatic 640, 3) := by decide +kernel
theorem dJ0_indexOf_7cf53_36 : decode cJ0_indexOf_7cf53 36 = .ok (.ireturn, 1) := by decide +kernel
theorem dJ0_coder_7d493_0 : decode cJ0_coder_7d493 0 = .ok (.getstatic 38, 3) := by decide +kernel
theorem dJ0_coder_7d493_3 : decode cJ0_coder_7d493 3 = .ok (.ifCond .eq 10, 3) := by decide +kernel
theorem dJ0_coder_7d493_6 : decode cJ0_coder_7d493 6 = .ok (.aload_n 0, 1) := by decide +kernel
theorem dJ0_coder_7d493_7 : decode cJ0_coder_7d493 7 = .ok (.getfield 15, 3) := by decide +kernel
theorem dJ0_coder_7d493_10 : decode cJ0_coder_7d493 10 = .ok (.goto 4, 3) := by decide +kernel
theorem dJ0_coder_7d493_13 : decode cJ0_coder_7d493 13 = .ok (.iconst 1, 1) := by decide +kernel
theorem dJ0_coder_7d493_14 : decode cJ0_coder_7d493 14 = .ok (.ireturn, 1) := by decide +kernel
theorem dJ0_isLatin1_aae02_0 : decode cJ0_isLatin1_aae02 0 = .ok (.getstatic 38, 3) := by decide +kernel
theorem dJ0_isLatin1_aae02_3 : decode cJ0_isLatin1_aae02 3 = .ok (.ifCond .eq 14, 3) := by decide +kernel
theorem dJ0_isLatin1_aae02_6 : decode cJ0_isLatin1_aae02 6 = .ok (.aload_n 0, 1) := by decide +kernel
theorem dJ0_isLatin1_aae02_7 : decode cJ0_isLatin1_aae02 7 = .ok (.getfield 15, 3) := by decide +kernel
theorem dJ0_isLatin1_aae02_10 : decode cJ0_isLatin1_aae02 10 = .ok (.ifCond .ne 7, 3) := by decide +kernel
theorem dJ0_isLatin1_aae02_13 : decode cJ0_isLatin1_aae02 13 = .ok (.iconst 1, 1) := by decide +kernel
theorem dJ0_isLatin1_aae02_14 : decode cJ0_isLatin1_aae02 14 = .ok (.goto 4, 3) := by decide +kernel
theorem dJ0_isLatin1_aae02_17 : decode cJ0_isLatin1_aae02 17 = .ok (.iconst 0, 1) := by decide +kernel
theorem dJ0_isLatin1_aae02_18 : decode cJ0_isLatin1_aae02 18 = .ok (.ireturn, 1) := by decide +kernel
theorem dJ0_checkBoundsBeginEnd_23922_0 : decode cJ0_checkBoundsBeginEnd_23922 0 = .ok (.iload_n 0, 1) := by decide +kernel
theorem dJ0_checkBoundsBeginEnd_23922_1 : decode cJ0_checkBoundsBeginEnd_23922 1 = .ok (.iload_n 1, 1) := by decide +kernel
theorem dJ0_checkBoundsBeginEnd_23922_2 : decode cJ0_checkBoundsBeginEnd_23922 2 = .ok (.iload_n 2, 1) := by decide +kernel
theorem dJ0_checkBoundsBeginEnd_23922_3 : decode cJ0_checkBoundsBeginEnd_23922 3 = .ok (.getstatic 1053, 3) := by decide +kernel
theorem dJ0_checkBoundsBeginEnd_23922_6 : decode cJ0_checkBoundsBeginEnd_23922 6 = .ok (.invokestatic 1062, 3) := by decide +kernel
theorem dJ0_checkBoundsBeginEnd_23922_9 : decode cJ0_checkBoundsBeginEnd_23922 9 = .ok (.pop, 1) := by decide +kernel
theorem dJ0_checkBoundsBeginEnd_23922_10 : decode cJ0_checkBoundsBeginEnd_23922 10 = .ok (.return_, 1) := by decide +kernel
theorem dJ1_canEncode_9a6ad_0 : decode cJ1_canEncode_9a6ad 0 = .ok (.iload_n 0, 1) := by decide +kernel
theorem dJ1_canEncode_9a6ad_1 : decode cJ1_canEncode_9a6ad 1 = .ok (.ifCond .lt 14, 3) := by decide +kernel
theorem dJ1_canEncode_9a6ad_4 : decode cJ1_canEncode_9a6ad 4 = .ok (.iload_n 0, 1) := by decide +kernel
theorem dJ1_canEncode_9a6ad_5 : decode cJ1_canEncode_9a6ad 5 = .ok (.sipush 255, 3) := by decide +kernel
theorem dJ1_canEncode_9a6ad_8 : decode cJ1_canEncode_9a6ad 8 = .ok (.if_icmp .gt 7, 3) := by decide +kernel
theorem dJ1_canEncode_9a6ad_11 : decode cJ1_canEncode_9a6ad 11 = .ok (.iconst 1, 1) := by decide +kernel
theorem dJ1_canEncode_9a6ad_12 : decode cJ1_canEncode_9a6ad 12 = .ok (.goto 4, 3) := by decide +kernel
theorem dJ1_canEncode_9a6ad_15 : decode cJ1_canEncode_9a6ad 15 = .ok (.iconst 0, 1) := by decide +kernel
theorem dJ1_canEncode_9a6ad_16 : decode cJ1_canEncode_9a6ad 16 = .ok (.ireturn, 1) := by decide +kernel
theorem dJ1_indexOf_4cfef_0 : decode cJ1_indexOf_4cfef 0 = .ok (.iload_n 1, 1) := by decide +kernel
theorem dJ1_indexOf_4cfef_1 : decode cJ1_indexOf_4cfef 1 = .ok (.invokestatic 88, 3) := by decide +kernel
theorem dJ1_indexOf_4cfef_4 : decode cJ1_indexOf_4cfef 4 = .ok (.ifCond .ne 5, 3) := by decide +kernel
theorem dJ1_indexOf_4cfef_7 : decode cJ1_indexOf_4cfef 7 = .ok (.iconst (-1), 1) := by decide +kernel
theorem dJ1_indexOf_4cfef_8 : decode cJ1_indexOf_4cfef 8 = .ok (.ireturn, 1) := by decide +kernel
theorem dJ1_indexOf_4cfef_9 : decode cJ1_indexOf_4cfef 9 = .ok (.iload_n 2, 1) := by decide +kernel
theorem dJ1_indexOf_4cfef_10 : decode cJ1_indexOf_4cfef 10 = .ok (.iconst 0, 1) := by decide +kernel
theorem dJ1_indexOf_4cfef_11 : decode cJ1_indexOf_4cfef 11 = .ok (.invokestatic 92, 3) := by decide +kernel
theorem dJ1_indexOf_4cfef_14 : decode cJ1_indexOf_4cfef 14 = .ok (.istore_n 2, 1) := by decide +kernel
theorem dJ1_indexOf_4cfef_15 : decode cJ1_indexOf_4cfef 15 = .ok (.iload_n 3, 1) := by decide +kernel
theorem dJ1_indexOf_4cfef_16 : decode cJ1_indexOf_4cfef 16 = .ok (.aload_n 0, 1) := by decide +kernel
theorem dJ1_indexOf_4cfef_17 : decode cJ1_indexOf_4cfef 17 = .ok (.arraylength, 1) := by decide +kernel
theorem dJ1_indexOf_4cfef_18 : decode cJ1_indexOf_4cfef 18 = .ok (.invokestatic 38, 3) := by decide +kernel
theorem dJ1_indexOf_4cfef_21 : decode cJ1_indexOf_4cfef 21 = .ok (.istore_n 3, 1) := by decide +kernel
theorem dJ1_indexOf_4cfef_22 : decode cJ1_indexOf_4cfef 22 = .ok (.iload_n 2, 1) := by decide +kernel
theorem dJ1_indexOf_4cfef_23 : decode cJ1_indexOf_4cfef 23 = .ok (.iload_n 3, 1) := by decide +kernel
theorem dJ1_indexOf_4cfef_24 : decode cJ1_indexOf_4cfef 24 = .ok (.if_icmp .lt 5, 3) := by decide +kernel
theorem dJ1_indexOf_4cfef_27 : decode cJ1_indexOf_4cfef 27 = .ok (.iconst (-1), 1) := by decide +kernel
theorem dJ1_indexOf_4cfef_28 : decode cJ1_indexOf_4cfef 28 = .ok (.ireturn, 1) := by decide +kernel
theorem dJ1_indexOf_4cfef_29 : decode cJ1_indexOf_4cfef 29 = .ok (.aload_n 0, 1) := by decide +kernel
theorem dJ1_indexOf_4cfef_30 : decode cJ1_indexOf_4cfef 30 = .ok (.iload_n 1, 1) := by decide +kernel
theorem dJ1_indexOf_4cfef_31 : decode cJ1_indexOf_4cfef 31 = .ok (.iload_n 2, 1) := by decide +kernel
theorem dJ1_indexOf_4cfef_32 : decode cJ1_indexOf_4cfef 32 = .ok (.iload_n 3, 1) := by decide +kernel
theorem dJ1_indexOf_4cfef_33 : decode cJ1_indexOf_4cfef 33 = .ok (.invokestatic 95, 3) := by decide +kernel
theorem dJ1_indexOf_4cfef_36 : decode cJ1_indexOf_4cfef 36 = .ok (.ireturn, 1) := by decide +kernel
theorem dJ1_indexOfChar_4cfef_0 : decode cJ1_indexOfChar_4cfef 0 = .ok (.iload_n 1, 1) := by decide +kernel
theorem dJ1_indexOfChar_4cfef_1 : decode cJ1_indexOfChar_4cfef 1 = .ok (.i2b, 1) := by decide +kernel
theorem dJ1_indexOfChar_4cfef_2 : decode cJ1_indexOfChar_4cfef 2 = .ok (.istore 4, 2) := by decide +kernel
theorem dJ1_indexOfChar_4cfef_4 : decode cJ1_indexOfChar_4cfef 4 = .ok (.iload_n 2, 1) := by decide +kernel
theorem dJ1_indexOfChar_4cfef_5 : decode cJ1_indexOfChar_4cfef 5 = .ok (.istore 5, 2) := by decide +kernel
theorem dJ1_indexOfChar_4cfef_7 : decode cJ1_indexOfChar_4cfef 7 = .ok (.iload 5, 2) := by decide +kernel
theorem dJ1_indexOfChar_4cfef_9 : decode cJ1_indexOfChar_4cfef 9 = .ok (.iload_n 3, 1) := by decide +kernel
theorem dJ1_indexOfChar_4cfef_10 : decode cJ1_indexOfChar_4cfef 10 = .ok (.if_icmp .ge 21, 3) := by decide +kernel
theorem dJ1_indexOfChar_4cfef_13 : decode cJ1_indexOfChar_4cfef 13 = .ok (.aload_n 0, 1) := by decide +kernel
theorem dJ1_indexOfChar_4cfef_14 : decode cJ1_indexOfChar_4cfef 14 = .ok (.iload 5, 2) := by decide +kernel
theorem dJ1_indexOfChar_4cfef_16 : decode cJ1_indexOfChar_4cfef 16 = .ok (.baload, 1) := by decide +kernel
theorem dJ1_indexOfChar_4cfef_17 : decode cJ1_indexOfChar_4cfef 17 = .ok (.iload 4, 2) := by decide +kernel
theorem dJ1_indexOfChar_4cfef_19 : decode cJ1_indexOfChar_4cfef 19 = .ok (.if_icmp .ne 6, 3) := by decide +kernel
theorem dJ1_indexOfChar_4cfef_22 : decode cJ1_indexOfChar_4cfef 22 = .ok (.iload 5, 2) := by decide +kernel
theorem dJ1_indexOfChar_4cfef_24 : decode cJ1_indexOfChar_4cfef 24 = .ok (.ireturn, 1) := by decide +kernel
theorem dJ1_indexOfChar_4cfef_25 : decode cJ1_indexOfChar_4cfef 25 = .ok (.iinc 5 1, 3) := by decide +kernel
theorem dJ1_indexOfChar_4cfef_28 : decode cJ1_indexOfChar_4cfef 28 = .ok (.goto (-21), 3) := by decide +kernel
theorem dJ1_indexOfChar_4cfef_31 : decode cJ1_indexOfChar_4cfef 31 = .ok (.iconst (-1), 1) := by decide +kernel
theorem dJ1_indexOfChar_4cfef_32 : decode cJ1_indexOfChar_4cfef 32 = .ok (.ireturn, 1) := by decide +kernel
theorem dJ2_getChar_3b067_0 : decode cJ2_getChar_3b067 0 = .ok (.getstatic 44, 3) := by decide +kernel
theorem dJ2_getChar_3b067_3 : decode cJ2_getChar_3b067 3 = .ok (.ifCond .ne 25, 3) := by decide +kernel
theorem dJ2_getChar_3b067_6 : decode cJ2_getChar_3b067 6 = .ok (.iload_n 1, 1) := by decide +kernel
theorem dJ2_getChar_3b067_7 : decode cJ2_getChar_3b067 7 = .ok (.ifCond .lt 11, 3) := by decide +kernel
theorem dJ2_getChar_3b067_10 : decode cJ2_getChar_3b067 10 = .ok (.iload_n 1, 1) := by decide +kernel
theorem dJ2_getChar_3b067_11 : decode cJ2_getChar_3b067 11 = .ok (.aload_n 0, 1) := by decide +kernel
theorem dJ2_getChar_3b067_12 : decode cJ2_getChar_3b067 12 = .ok (.invokestatic 48, 3) := by decide +kernel
theorem dJ2_getChar_3b067_15 : decode cJ2_getChar_3b067 15 = .ok (.if_icmp .lt 13, 3) := by decide +kernel
theorem dJ2_getChar_3b067_18 : decode cJ2_getChar_3b067 18 = .ok (.new 52, 3) := by decide +kernel
theorem dJ2_getChar_3b067_21 : decode cJ2_getChar_3b067 21 = .ok (.dup, 1) := by decide +kernel
theorem dJ2_getChar_3b067_22 : decode cJ2_getChar_3b067 22 = .ok (.ldc 54, 2) := by decide +kernel
theorem dJ2_getChar_3b067_24 : decode cJ2_getChar_3b067 24 = .ok (.invokespecial 56, 3) := by decide +kernel
theorem dJ2_getChar_3b067_27 : decode cJ2_getChar_3b067 27 = .ok (.athrow, 1) := by decide +kernel
theorem dJ2_getChar_3b067_28 : decode cJ2_getChar_3b067 28 = .ok (.iload_n 1, 1) := by decide +kernel
theorem dJ2_getChar_3b067_29 : decode cJ2_getChar_3b067 29 = .ok (.iconst 1, 1) := by decide +kernel
theorem dJ2_getChar_3b067_30 : decode cJ2_getChar_3b067 30 = .ok (.ishl, 1) := by decide +kernel
theorem dJ2_getChar_3b067_31 : decode cJ2_getChar_3b067 31 = .ok (.istore_n 1, 1) := by decide +kernel
theorem dJ2_getChar_3b067_32 : decode cJ2_getChar_3b067 32 = .ok (.aload_n 0, 1) := by decide +kernel
theorem dJ2_getChar_3b067_33 : decode cJ2_getChar_3b067 33 = .ok (.iload_n 1, 1) := by decide +kernel
theorem dJ2_getChar_3b067_34 : decode cJ2_getChar_3b067 34 = .ok (.iinc 1 1, 3) := by decide +kernel
theorem dJ2_getChar_3b067_37 : decode cJ2_getChar_3b067 37 = .ok (.baload, 1) := by decide +kernel
theorem dJ2_getChar_3b067_38 : decode cJ2_getChar_3b067 38 = .ok (.sipush 255, 3) := by decide +kernel
theorem dJ2_getChar_3b067_41 : decode cJ2_getChar_3b067 41 = .ok (.iand, 1) := by decide +kernel
theorem dJ2_getChar_3b067_42 : decode cJ2_getChar_3b067 42 = .ok (.getstatic 59, 3) := by decide +kernel
theorem dJ2_getChar_3b067_45 : decode cJ2_getChar_3b067 45 = .ok (.ishl, 1) := by decide +kernel
theorem dJ2_getChar_3b067_46 : decode cJ2_getChar_3b067 46 = .ok (.aload_n 0, 1) := by decide +kernel
theorem dJ2_getChar_3b067_47 : decode cJ2_getChar_3b067 47 = .ok (.iload_n 1, 1) := by decide +kernel
theorem dJ2_getChar_3b067_48 : decode cJ2_getChar_3b067 48 = .ok (.baload, 1) := by decide +kernel
theorem dJ2_getChar_3b067_49 : decode cJ2_getChar_3b067 49 = .ok (.sipush 255, 3) := by decide +kernel
theorem dJ2_getChar_3b067_52 : decode cJ2_getChar_3b067 52 = .ok (.iand, 1) := by decide +kernel
theorem dJ2_getChar_3b067_53 : decode cJ2_getChar_3b067 53 = .ok (.getstatic 63, 3) := by decide +kernel
theorem dJ2_getChar_3b067_56 : decode cJ2_getChar_3b067 56 = .ok (.ishl, 1) := by decide +kernel
theorem dJ2_getChar_3b067_57 : decode cJ2_getChar_3b067 57 = .ok (.ior, 1) := by decide +kernel
theorem dJ2_getChar_3b067_58 : decode cJ2_getChar_3b067 58 = .ok (.i2c, 1) := by decide +kernel
theorem dJ2_getChar_3b067_59 : decode cJ2_getChar_3b067 59 = .ok (.ireturn, 1) := by decide +kernel
theorem dJ2_length_9d52b_0 : decode cJ2_length_9d52b 0 = .ok (.aload_n 0, 1) := by decide +kernel
theorem dJ2_length_9d52b_1 : decode cJ2_length_9d52b 1 = .ok (.arraylength, 1) := by decide +kernel
theorem dJ2_length_9d52b_2 : decode cJ2_length_9d52b 2 = .ok (.iconst 1, 1) := by decide +kernel
theorem dJ2_length_9d52b_3 : decode cJ2_length_9d52b 3 = .ok (.ishr, 1) := by decide +kernel
theorem dJ2_length_9d52b_4 : decode cJ2_length_9d52b 4 = .ok (.ireturn, 1) := by decide +kernel
theorem dJ2_indexOf_4cfef_0 : decode cJ2_indexOf_4cfef 0 = .ok (.iload_n 2, 1) := by decide +kernel
theorem dJ2_indexOf_4cfef_1 : decode cJ2_indexOf_4cfef 1 = .ok (.iconst 0, 1) := by decide +kernel
theorem dJ2_indexOf_4cfef_2 : decode cJ2_indexOf_4cfef 2 = .ok (.invokestatic 224, 3) := by decide +kernel
theorem dJ2_indexOf_4cfef_5 : decode cJ2_indexOf_4cfef 5 = .ok (.istore_n 2, 1) := by decide +kernel
theorem dJ2_indexOf_4cfef_6 : decode cJ2_indexOf_4cfef 6 = .ok (.iload_n 3, 1) := by decide +kernel
theorem dJ2_indexOf_4cfef_7 : decode cJ2_indexOf_4cfef 7 = .ok (.aload_n 0, 1) := by decide +kernel
theorem dJ2_indexOf_4cfef_8 : decode cJ2_indexOf_4cfef 8 = .ok (.arraylength, 1) := by decide +kernel
theorem dJ2_indexOf_4cfef_9 : decode cJ2_indexOf_4cfef 9 = .ok (.iconst 1, 1) := by decide +kernel
theorem dJ2_indexOf_4cfef_10 : decode cJ2_indexOf_4cfef 10 = .ok (.ishr, 1) := by decide +kernel
theorem dJ2_indexOf_4cfef_11 : decode cJ2_indexOf_4cfef 11 = .ok (.invokestatic 183, 3) := by decide +kernel
theorem dJ2_indexOf_4cfef_14 : decode cJ2_indexOf_4cfef 14 = .ok (.istore_n 3, 1) := by decide +kernel
theorem dJ2_indexOf_4cfef_15 : decode cJ2_indexOf_4cfef 15 = .ok (.iload_n 2, 1) := by decide +kernel
theorem dJ2_indexOf_4cfef_16 : decode cJ2_indexOf_4cfef 16 = .ok (.iload_n 3, 1) := by decide +kernel
theorem dJ2_indexOf_4cfef_17 : decode cJ2_indexOf_4cfef 17 = .ok (.if_icmp .lt 5, 3) := by decide +kernel
theorem dJ2_indexOf_4cfef_20 : decode cJ2_indexOf_4cfef 20 = .ok (.iconst (-1), 1) := by decide +kernel
theorem dJ2_indexOf_4cfef_21 : decode cJ2_indexOf_4cfef 21 = .ok (.ireturn, 1) := by decide +kernel
theorem dJ2_indexOf_4cfef_22 : decode cJ2_indexOf_4cfef 22 = .ok (.iload_n 1, 1) := by decide +kernel
theorem dJ2_indexOf_4cfef_23 : decode cJ2_indexOf_4cfef 23 = .ok (.ldc 227, 2) := by decide +kernel
theorem dJ2_indexOf_4cfef_25 : decode cJ2_indexOf_4cfef 25 = .ok (.if_icmp .ge 11, 3) := by decide +kernel
theorem dJ2_indexOf_4cfef_28 : decode cJ2_indexOf_4cfef 28 = .ok (.aload_n 0, 1) := by decide +kernel
theorem dJ2_indexOf_4cfef_29 : decode cJ2_indexOf_4cfef 29 = .ok (.iload_n 1, 1) := by decide +kernel
theorem dJ2_indexOf_4cfef_30 : decode cJ2_indexOf_4cfef 30 = .ok (.iload_n 2, 1) := by decide +kernel
theorem dJ2_indexOf_4cfef_31 : decode cJ2_indexOf_4cfef 31 = .ok (.iload_n 3, 1) := by decide +kernel
theorem dJ2_indexOf_4cfef_32 : decode cJ2_indexOf_4cfef 32 = .ok (.invokestatic 228, 3) := by decide +kernel
theorem dJ2_indexOf_4cfef_35 : decode cJ2_indexOf_4cfef 35 = .ok (.ireturn, 1) := by decide +kernel
theorem dJ2_indexOf_4cfef_36 : decode cJ2_indexOf_4cfef 36 = .ok (.aload_n 0, 1) := by decide +kernel
theorem dJ2_indexOf_4cfef_37 : decode cJ2_indexOf_4cfef 37 = .ok (.iload_n 1, 1) := by decide +kernel
theorem dJ2_indexOf_4cfef_38 : decode cJ2_indexOf_4cfef 38 = .ok (.iload_n 2, 1) := by decide +kernel
theorem dJ2_indexOf_4cfef_39 : decode cJ2_indexOf_4cfef 39 = .ok (.iload_n 3, 1) := by decide +kernel
theorem dJ2_indexOf_4cfef_40 : decode cJ2_indexOf_4cfef 40 = .ok (.invokestatic 232, 3) := by decide +kernel
theorem dJ2_indexOf_4cfef_43 : decode cJ2_indexOf_4cfef 43 = .ok (.ireturn, 1) := by decide +kernel
theorem dJ2_indexOfChar_4cfef_0 : decode cJ2_indexOfChar_4cfef 0 = .ok (.iload_n 2, 1) := by decide +kernel
theorem dJ2_indexOfChar_4cfef_1 : decode cJ2_indexOfChar_4cfef 1 = .ok (.iload_n 3, 1) := by decide +kernel
theorem dJ2_indexOfChar_4cfef_2 : decode cJ2_indexOfChar_4cfef 2 = .ok (.aload_n 0, 1) := by decide +kernel
theorem dJ2_indexOfChar_4cfef_3 : decode cJ2_indexOfChar_4cfef 3 = .ok (.invokestatic 96, 3) := by decide +kernel
theorem dJ2_indexOfChar_4cfef_6 : decode cJ2_indexOfChar_4cfef 6 = .ok (.aload_n 0, 1) := by decide +kernel
theorem dJ2_indexOfChar_4cfef_7 : decode cJ2_indexOfChar_4cfef 7 = .ok (.iload_n 1, 1) := by decide +kernel
theorem dJ2_indexOfChar_4cfef_8 : decode cJ2_indexOfChar_4cfef 8 = .ok (.iload_n 2, 1) := by decide +kernel
theorem dJ2_indexOfChar_4cfef_9 : decode cJ2_indexOfChar_4cfef 9 = .ok (.iload_n 3, 1) := by decide +kernel
theorem dJ2_indexOfChar_4cfef_10 : decode cJ2_indexOfChar_4cfef 10 = .ok (.invokestatic 244, 3) := by decide +kernel
theorem dJ2_indexOfChar_4cfef_13 : decode cJ2_indexOfChar_4cfef 13 = .ok (.ireturn, 1) := by decide +kernel
theorem dJ2_indexOfCharUnsafe_4cfef_0 : decode cJ2_indexOfCharUnsafe_4cfef 0 = .ok (.iload_n 2, 1) := by decide +kernel
theorem dJ2_indexOfCharUnsafe_4cfef_1 : decode cJ2_indexOfCharUnsafe_4cfef 1 = .ok (.istore 4, 2) := by decide +kernel
theorem dJ2_indexOfCharUnsafe_4cfef_3 : decode cJ2_indexOfCharUnsafe_4cfef 3 = .ok (.iload 4, 2) := by decide +kernel
theorem dJ2_indexOfCharUnsafe_4cfef_5 : decode cJ2_indexOfCharUnsafe_4cfef 5 = .ok (.iload_n 3, 1) := by decide +kernel
theorem dJ2_indexOfCharUnsafe_4cfef_6 : decode cJ2_indexOfCharUnsafe_4cfef 6 = .ok (.if_icmp .ge 22, 3) := by decide +kernel
theorem dJ2_indexOfCharUnsafe_4cfef_9 : decode cJ2_indexOfCharUnsafe_4cfef 9 = .ok (.aload_n 0, 1) := by decide +kernel
theorem dJ2_indexOfCharUnsafe_4cfef_10 : decode cJ2_indexOfCharUnsafe_4cfef 10 = .ok (.iload 4, 2) := by decide +kernel
theorem dJ2_indexOfCharUnsafe_4cfef_12 : decode cJ2_indexOfCharUnsafe_4cfef 12 = .ok (.invokestatic 71, 3) := by decide +kernel
theorem dJ2_indexOfCharUnsafe_4cfef_15 : decode cJ2_indexOfCharUnsafe_4cfef 15 = .ok (.iload_n 1, 1) := by decide +kernel
theorem dJ2_indexOfCharUnsafe_4cfef_16 : decode cJ2_indexOfCharUnsafe_4cfef 16 = .ok (.if_icmp .ne 6, 3) := by decide +kernel
theorem dJ2_indexOfCharUnsafe_4cfef_19 : decode cJ2_indexOfCharUnsafe_4cfef 19 = .ok (.iload 4, 2) := by decide +kernel
theorem dJ2_indexOfCharUnsafe_4cfef_21 : decode cJ2_indexOfCharUnsafe_4cfef 21 = .ok (.ireturn, 1) := by decide +kernel
theorem dJ2_indexOfCharUnsafe_4cfef_22 : decode cJ2_indexOfCharUnsafe_4cfef 22 = .ok (.iinc 4 1, 3) := by decide +kernel
theorem dJ2_indexOfCharUnsafe_4cfef_25 : decode cJ2_indexOfCharUnsafe_4cfef 25 = .ok (.goto (-22), 3) := by decide +kernel
theorem dJ2_indexOfCharUnsafe_4cfef_28 : decode cJ2_indexOfCharUnsafe_4cfef 28 = .ok (.iconst (-1), 1) := by decide +kernel
theorem dJ2_indexOfCharUnsafe_4cfef_29 : decode cJ2_indexOfCharUnsafe_4cfef 29 = .ok (.ireturn, 1) := by decide +kernel
theorem dJ2_indexOfSupplementary_4cfef_0 : decode cJ2_indexOfSupplementary_4cfef 0 = .ok (.iload_n 1, 1) := by decide +kernel
theorem dJ2_indexOfSupplementary_4cfef_1 : decode cJ2_indexOfSupplementary_4cfef 1 = .ok (.invokestatic 164, 3) := by decide +kernel
theorem dJ2_indexOfSupplementary_4cfef_4 : decode cJ2_indexOfSupplementary_4cfef 4 = .ok (.ifCond .eq 65, 3) := by decide +kernel
theorem dJ2_indexOfSupplementary_4cfef_7 : decode cJ2_indexOfSupplementary_4cfef 7 = .ok (.iload_n 1, 1) := by decide +kernel
theorem dJ2_indexOfSupplementary_4cfef_8 : decode cJ2_indexOfSupplementary_4cfef 8 = .ok (.invokestatic 157, 3) := by decide +kernel
theorem dJ2_indexOfSupplementary_4cfef_11 : decode cJ2_indexOfSupplementary_4cfef 11 = .ok (.istore 4, 2) := by decide +kernel
theorem dJ2_indexOfSupplementary_4cfef_13 : decode cJ2_indexOfSupplementary_4cfef 13 = .ok (.iload_n 1, 1) := by decide +kernel
theorem dJ2_indexOfSupplementary_4cfef_14 : decode cJ2_indexOfSupplementary_4cfef 14 = .ok (.invokestatic 161, 3) := by decide +kernel
theorem dJ2_indexOfSupplementary_4cfef_17 : decode cJ2_indexOfSupplementary_4cfef 17 = .ok (.istore 5, 2) := by decide +kernel
theorem dJ2_indexOfSupplementary_4cfef_19 : decode cJ2_indexOfSupplementary_4cfef 19 = .ok (.iload_n 2, 1) := by decide +kernel
theorem dJ2_indexOfSupplementary_4cfef_20 : decode cJ2_indexOfSupplementary_4cfef 20 = .ok (.iload_n 3, 1) := by decide +kernel
theorem dJ2_indexOfSupplementary_4cfef_21 : decode cJ2_indexOfSupplementary_4cfef 21 = .ok (.aload_n 0, 1) := by decide +kernel
theorem dJ2_indexOfSupplementary_4cfef_22 : decode cJ2_indexOfSupplementary_4cfef 22 = .ok (.invokestatic 96, 3) := by decide +kernel
theorem dJ2_indexOfSupplementary_4cfef_25 : decode cJ2_indexOfSupplementary_4cfef 25 = .ok (.iload_n 2, 1) := by decide +kernel
theorem dJ2_indexOfSupplementary_4cfef_26 : decode cJ2_indexOfSupplementary_4cfef 26 = .ok (.istore 6, 2) := by decide +kernel
theorem dJ2_indexOfSupplementary_4cfef_28 : decode cJ2_indexOfSupplementary_4cfef 28 = .ok (.iload 6, 2) := by decide +kernel
theorem dJ2_indexOfSupplementary_4cfef_30 : decode cJ2_indexOfSupplementary_4cfef 30 = .ok (.iload_n 3, 1) := by decide +kernel
theorem dJ2_indexOfSupplementary_4cfef_31 : decode cJ2_indexOfSupplementary_4cfef 31 = .ok (.iconst 1, 1) := by decide +kernel
theorem dJ2_indexOfSupplementary_4cfef_32 : decode cJ2_indexOfSupplementary_4cfef 32 = .ok (.isub, 1) := by decide +kernel
theorem dJ2_indexOfSupplementary_4cfef_33 : decode cJ2_indexOfSupplementary_4cfef 33 = .ok (.if_icmp .ge 36, 3) := by decide +kernel
theorem dJ2_indexOfSupplementary_4cfef_36 : decode cJ2_indexOfSupplementary_4cfef 36 = .ok (.aload_n 0, 1) := by decide +kernel
theorem dJ2_indexOfSupplementary_4cfef_37 : decode cJ2_indexOfSupplementary_4cfef 37 = .ok (.iload 6, 2) := by decide +kernel
theorem dJ2_indexOfSupplementary_4cfef_39 : decode cJ2_indexOfSupplementary_4cfef 39 = .ok (.invokestatic 71, 3) := by decide +kernel
theorem dJ2_indexOfSupplementary_4cfef_42 : decode cJ2_indexOfSupplementary_4cfef 42 = .ok (.iload 4, 2) := by decide +kernel
theorem dJ2_indexOfSupplementary_4cfef_44 : decode cJ2_indexOfSupplementary_4cfef 44 = .ok (.if_icmp .ne 19, 3) := by decide +kernel
theorem dJ2_indexOfSupplementary_4cfef_47 : decode cJ2_indexOfSupplementary_4cfef 47 = .ok (.aload_n 0, 1) := by decide +kernel
theorem dJ2_indexOfSupplementary_4cfef_48 : decode cJ2_indexOfSupplementary_4cfef 48 = .ok (.iload 6, 2) := by decide +kernel
theorem dJ2_indexOfSupplementary_4cfef_50 : decode cJ2_indexOfSupplementary_4cfef 50 = .ok (.iconst 1, 1) := by decide +kernel
theorem dJ2_indexOfSupplementary_4cfef_51 : decode cJ2_indexOfSupplementary_4cfef 51 = .ok (.iadd, 1) := by decide +kernel
theorem dJ2_indexOfSupplementary_4cfef_52 : decode cJ2_indexOfSupplementary_4cfef 52 = .ok (.invokestatic 71, 3) := by decide +kernel
theorem dJ2_indexOfSupplementary_4cfef_55 : decode cJ2_indexOfSupplementary_4cfef 55 = .ok (.iload 5, 2) := by decide +kernel
theorem dJ2_indexOfSupplementary_4cfef_57 : decode cJ2_indexOfSupplementary_4cfef 57 = .ok (.if_icmp .ne 6, 3) := by decide +kernel
theorem dJ2_indexOfSupplementary_4cfef_60 : decode cJ2_indexOfSupplementary_4cfef 60 = .ok (.iload 6, 2) := by decide +kernel
theorem dJ2_indexOfSupplementary_4cfef_62 : decode cJ2_indexOfSupplementary_4cfef 62 = .ok (.ireturn, 1) := by decide +kernel
theorem dJ2_indexOfSupplementary_4cfef_63 : decode cJ2_indexOfSupplementary_4cfef 63 = .ok (.iinc 6 1, 3) := by decide +kernel
theorem dJ2_indexOfSupplementary_4cfef_66 : decode cJ2_indexOfSupplementary_4cfef 66 = .ok (.goto (-38), 3) := by decide +kernel
theorem dJ2_indexOfSupplementary_4cfef_69 : decode cJ2_indexOfSupplementary_4cfef 69 = .ok (.iconst (-1), 1) := by decide +kernel
theorem dJ2_indexOfSupplementary_4cfef_70 : decode cJ2_indexOfSupplementary_4cfef 70 = .ok (.ireturn, 1) := by decide +kernel
theorem dJ2_checkBoundsBeginEnd_d044e_0 : decode cJ2_checkBoundsBeginEnd_d044e 0 = .ok (.iload_n 0, 1) := by decide +kernel
theorem dJ2_checkBoundsBeginEnd_d044e_1 : decode cJ2_checkBoundsBeginEnd_d044e 1 = .ok (.iload_n 1, 1) := by decide +kernel
theorem dJ2_checkBoundsBeginEnd_d044e_2 : decode cJ2_checkBoundsBeginEnd_d044e 2 = .ok (.aload_n 2, 1) := by decide +kernel
theorem dJ2_checkBoundsBeginEnd_d044e_3 : decode cJ2_checkBoundsBeginEnd_d044e 3 = .ok (.invokestatic 48, 3) := by decide +kernel
theorem dJ2_checkBoundsBeginEnd_d044e_6 : decode cJ2_checkBoundsBeginEnd_d044e 6 = .ok (.invokestatic 241, 3) := by decide +kernel
theorem dJ2_checkBoundsBeginEnd_d044e_9 : decode cJ2_checkBoundsBeginEnd_d044e 9 = .ok (.return_, 1) := by decide +kernel
theorem dJ3_checkFromToIndex_8c36e_0 : decode cJ3_checkFromToIndex_8c36e 0 = .ok (.iload_n 0, 1) := by decide +kernel
theorem dJ3_checkFromToIndex_8c36e_1 : decode cJ3_checkFromToIndex_8c36e 1 = .ok (.ifCond .lt 13, 3) := by decide +kernel
theorem dJ3_checkFromToIndex_8c36e_4 : decode cJ3_checkFromToIndex_8c36e 4 = .ok (.iload_n 0, 1) := by decide +kernel
theorem dJ3_checkFromToIndex_8c36e_5 : decode cJ3_checkFromToIndex_8c36e 5 = .ok (.iload_n 1, 1) := by decide +kernel
theorem dJ3_checkFromToIndex_8c36e_6 : decode cJ3_checkFromToIndex_8c36e 6 = .ok (.if_icmp .gt 8, 3) := by decide +kernel
theorem dJ3_checkFromToIndex_8c36e_9 : decode cJ3_checkFromToIndex_8c36e 9 = .ok (.iload_n 1, 1) := by decide +kernel
theorem dJ3_checkFromToIndex_8c36e_10 : decode cJ3_checkFromToIndex_8c36e 10 = .ok (.iload_n 2, 1) := by decide +kernel
theorem dJ3_checkFromToIndex_8c36e_11 : decode cJ3_checkFromToIndex_8c36e 11 = .ok (.if_icmp .le 11, 3) := by decide +kernel
theorem dJ3_checkFromToIndex_8c36e_14 : decode cJ3_checkFromToIndex_8c36e 14 = .ok (.aload_n 3, 1) := by decide +kernel
theorem dJ3_checkFromToIndex_8c36e_15 : decode cJ3_checkFromToIndex_8c36e 15 = .ok (.iload_n 0, 1) := by decide +kernel
theorem dJ3_checkFromToIndex_8c36e_16 : decode cJ3_checkFromToIndex_8c36e 16 = .ok (.iload_n 1, 1) := by decide +kernel
theorem dJ3_checkFromToIndex_8c36e_17 : decode cJ3_checkFromToIndex_8c36e 17 = .ok (.iload_n 2, 1) := by decide +kernel
theorem dJ3_checkFromToIndex_8c36e_18 : decode cJ3_checkFromToIndex_8c36e 18 = .ok (.invokestatic 99, 3) := by decide +kernel
theorem dJ3_checkFromToIndex_8c36e_21 : decode cJ3_checkFromToIndex_8c36e 21 = .ok (.athrow, 1) := by decide +kernel
theorem dJ3_checkFromToIndex_8c36e_22 : decode cJ3_checkFromToIndex_8c36e 22 = .ok (.iload_n 0, 1) := by decide +kernel
theorem dJ3_checkFromToIndex_8c36e_23 : decode cJ3_checkFromToIndex_8c36e 23 = .ok (.ireturn, 1) := by decide +kernel
end
section
theorem dL_law_0 : decode cL_law 0 = .ok (.new 7, 3) := by decide +kernel
theorem dL_law_3 : decode cL_law 3 = .ok (.dup, 1) := by decide +kernel
theorem dL_law_4 : decode cL_law 4 = .ok (.invokespecial 9, 3) := by decide +kernel
theorem dL_law_7 : decode cL_law 7 = .ok (.astore_n 1, 1) := by decide +kernel
theorem dL_law_8 : decode cL_law 8 = .ok (.new 10, 3) := by decide +kernel
theorem dL_law_11 : decode cL_law 11 = .ok (.dup, 1) := by decide +kernel
theorem dL_law_12 : decode cL_law 12 = .ok (.invokespecial 12, 3) := by decide +kernel
theorem dL_law_15 : decode cL_law 15 = .ok (.astore_n 2, 1) := by decide +kernel
theorem dL_law_16 : decode cL_law 16 = .ok (.iconst 0, 1) := by decide +kernel
theorem dL_law_17 : decode cL_law 17 = .ok (.istore_n 3, 1) := by decide +kernel
theorem dL_law_18 : decode cL_law 18 = .ok (.iload_n 3, 1) := by decide +kernel
theorem dL_law_19 : decode cL_law 19 = .ok (.aload_n 0, 1) := by decide +kernel
theorem dL_law_20 : decode cL_law 20 = .ok (.arraylength, 1) := by decide +kernel
theorem dL_law_21 : decode cL_law 21 = .ok (.iconst 4, 1) := by decide +kernel
theorem dL_law_22 : decode cL_law 22 = .ok (.isub, 1) := by decide +kernel
theorem dL_law_23 : decode cL_law 23 = .ok (.if_icmp .gt 963, 3) := by decide +kernel
theorem dL_law_26 : decode cL_law 26 = .ok (.aload_n 0, 1) := by decide +kernel
theorem dL_law_27 : decode cL_law 27 = .ok (.iload_n 3, 1) := by decide +kernel
theorem dL_law_28 : decode cL_law 28 = .ok (.iaload, 1) := by decide +kernel
theorem dL_law_29 : decode cL_law 29 = .ok (.bipush 31, 2) := by decide +kernel
theorem dL_law_31 : decode cL_law 31 = .ok (.iand, 1) := by decide +kernel
theorem dL_law_32 : decode cL_law 32 = .ok (.tableswitch 948 0 28 #[132, 175, 208, 231, 264, 287, 330, 363, 396, 429, 462, 505, 548, 571, 604, 647, 671, 705, 728, 752, 775, 788, 811, 834, 873, 896, 909, 922, 935], 132) := by decide +kernel
theorem dL_law_164 : decode cL_law 164 = .ok (.aload_n 1, 1) := by decide +kernel
theorem dL_law_165 : decode cL_law 165 = .ok (.aload_n 0, 1) := by decide +kernel
theorem dL_law_166 : decode cL_law 166 = .ok (.iload_n 3, 1) := by decide +kernel
theorem dL_law_167 : decode cL_law 167 = .ok (.iconst 1, 1) := by decide +kernel
theorem dL_law_168 : decode cL_law 168 = .ok (.iadd, 1) := by decide +kernel
theorem dL_law_169 : decode cL_law 169 = .ok (.iaload, 1) := by decide +kernel
theorem dL_law_170 : decode cL_law 170 = .ok (.aload_n 0, 1) := by decide +kernel
theorem dL_law_171 : decode cL_law 171 = .ok (.iload_n 3, 1) := by decide +kernel
theorem dL_law_172 : decode cL_law 172 = .ok (.iconst 2, 1) := by decide +kernel
theorem dL_law_173 : decode cL_law 173 = .ok (.iadd, 1) := by decide +kernel
theorem dL_law_174 : decode cL_law 174 = .ok (.iaload, 1) := by decide +kernel
theorem dL_law_175 : decode cL_law 175 = .ok (.aload_n 0, 1) := by decide +kernel
theorem dL_law_176 : decode cL_law 176 = .ok (.iload_n 3, 1) := by decide +kernel
theorem dL_law_177 : decode cL_law 177 = .ok (.iconst 3, 1) := by decide +kernel
theorem dL_law_178 : decode cL_law 178 = .ok (.iadd, 1) := by decide +kernel
theorem dL_law_179 : decode cL_law 179 = .ok (.iaload, 1) := by decide +kernel
theorem dL_law_180 : decode cL_law 180 = .ok (.invokevirtual 13, 3) := by decide +kernel
theorem dL_law_183 : decode cL_law 183 = .ok (.aload_n 2, 1) := by decide +kernel
theorem dL_law_184 : decode cL_law 184 = .ok (.aload_n 0, 1) := by decide +kernel
theorem dL_law_185 : decode cL_law 185 = .ok (.iload_n 3, 1) := by decide +kernel
theorem dL_law_186 : decode cL_law 186 = .ok (.iconst 1, 1) := by decide +kernel
theorem dL_law_187 : decode cL_law 187 = .ok (.iadd, 1) := by decide +kernel
theorem dL_law_188 : decode cL_law 188 = .ok (.iaload, 1) := by decide +kernel
theorem dL_law_189 : decode cL_law 189 = .ok (.aload_n 0, 1) := by decide +kernel
theorem dL_law_190 : decode cL_law 190 = .ok (.iload_n 3, 1) := by decide +kernel
theorem dL_law_191 : decode cL_law 191 = .ok (.iconst 2, 1) := by decide +kernel
theorem dL_law_192 : decode cL_law 192 = .ok (.iadd, 1) := by decide +kernel
theorem dL_law_193 : decode cL_law 193 = .ok (.iaload, 1) := by decide +kernel
theorem dL_law_194 : decode cL_law 194 = .ok (.aload_n 0, 1) := by decide +kernel
theorem dL_law_195 : decode cL_law 195 = .ok (.iload_n 3, 1) := by decide +kernel
theorem dL_law_196 : decode cL_law 196 = .ok (.iconst 3, 1) := by decide +kernel
theorem dL_law_197 : decode cL_law 197 = .ok (.iadd, 1) := by decide +kernel
theorem dL_law_198 : decode cL_law 198 = .ok (.iaload, 1) := by decide +kernel
theorem dL_law_199 : decode cL_law 199 = .ok (.invokevirtual 17, 3) := by decide +kernel
theorem dL_law_202 : decode cL_law 202 = .ok (.if_icmp .eq 778, 3) := by decide +kernel
theorem dL_law_205 : decode cL_law 205 = .ok (.iconst 0, 1) := by decide +kernel
theorem dL_law_206 : decode cL_law 206 = .ok (.ireturn, 1) := by decide +kernel
theorem dL_law_207 : decode cL_law 207 = .ok (.aload_n 1, 1) := by decide +kernel
theorem dL_law_208 : decode cL_law 208 = .ok (.aload_n 0, 1) := by decide +kernel
theorem dL_law_209 : decode cL_law 209 = .ok (.iload_n 3, 1) := by decide +kernel
theorem dL_law_210 : decode cL_law 210 = .ok (.iconst 1, 1) := by decide +kernel
theorem dL_law_211 : decode cL_law 211 = .ok (.iadd, 1) := by decide +kernel
theorem dL_law_212 : decode cL_law 212 = .ok (.iaload, 1) := by decide +kernel
theorem dL_law_213 : decode cL_law 213 = .ok (.aload_n 0, 1) := by decide +kernel
theorem dL_law_214 : decode cL_law 214 = .ok (.iload_n 3, 1) := by decide +kernel
theorem dL_law_215 : decode cL_law 215 = .ok (.iconst 2, 1) := by decide +kernel
theorem dL_law_216 : decode cL_law 216 = .ok (.iadd, 1) := by decide +kernel
theorem dL_law_217 : decode cL_law 217 = .ok (.iaload, 1) := by decide +kernel
theorem dL_law_218 : decode cL_law 218 = .ok (.invokevirtual 18, 3) := by decide +kernel
theorem dL_law_221 : decode cL_law 221 = .ok (.aload_n 2, 1) := by decide +kernel
theorem dL_law_222 : decode cL_law 222 = .ok (.aload_n 0, 1) := by decide +kernel
theorem dL_law_223 : decode cL_law 223 = .ok (.iload_n 3, 1) := by decide +kernel
theorem dL_law_224 : decode cL_law 224 = .ok (.iconst 1, 1) := by decide +kernel
theorem dL_law_225 : decode cL_law 225 = .ok (.iadd, 1) := by decide +kernel
theorem dL_law_226 : decode cL_law 226 = .ok (.iaload, 1) := by decide +kernel
theorem dL_law_227 : decode cL_law 227 = .ok (.aload_n 0, 1) := by decide +kernel
theorem dL_law_228 : decode cL_law 228 = .ok (.iload_n 3, 1) := by decide +kernel
theorem dL_law_229 : decode cL_law 229 = .ok (.iconst 2, 1) := by decide +kernel
theorem dL_law_230 : decode cL_law 230 = .ok (.iadd, 1) := by decide +kernel
theorem dL_law_231 : decode cL_law 231 = .ok (.iaload, 1) := by decide +kernel
theorem dL_law_232 : decode cL_law 232 = .ok (.invokevirtual 22, 3) := by decide +kernel
theorem dL_law_235 : decode cL_law 235 = .ok (.if_icmp .eq 745, 3) := by decide +kernel
theorem dL_law_238 : decode cL_law 238 = .ok (.iconst 0, 1) := by decide +kernel
theorem dL_law_239 : decode cL_law 239 = .ok (.ireturn, 1) := by decide +kernel
theorem dL_law_240 : decode cL_law 240 = .ok (.aload_n 1, 1) := by decide +kernel
theorem dL_law_241 : decode cL_law 241 = .ok (.aload_n 0, 1) := by decide +kernel
theorem dL_law_242 : decode cL_law 242 = .ok (.iload_n 3, 1) := by decide +kernel
theorem dL_law_243 : decode cL_law 243 = .ok (.iconst 1, 1) := by decide +kernel
theorem dL_law_244 : decode cL_law 244 = .ok (.iadd, 1) := by decide +kernel
theorem dL_law_245 : decode cL_law 245 = .ok (.iaload, 1) := by decide +kernel
theorem dL_law_246 : decode cL_law 246 = .ok (.invokevirtual 23, 3) := by decide +kernel
theorem dL_law_249 : decode cL_law 249 = .ok (.aload_n 2, 1) := by decide +kernel
theorem dL_law_250 : decode cL_law 250 = .ok (.aload_n 0, 1) := by decide +kernel
theorem dL_law_251 : decode cL_law 251 = .ok (.iload_n 3, 1) := by decide +kernel
theorem dL_law_252 : decode cL_law 252 = .ok (.iconst 1, 1) := by decide +kernel
theorem dL_law_253 : decode cL_law 253 = .ok (.iadd, 1) := by decide +kernel
theorem dL_law_254 : decode cL_law 254 = .ok (.iaload, 1) := by decide +kernel
theorem dL_law_255 : decode cL_law 255 = .ok (.invokevirtual 27, 3) := by decide +kernel
theorem dL_law_258 : decode cL_law 258 = .ok (.if_icmp .eq 722, 3) := by decide +kernel
theorem dL_law_261 : decode cL_law 261 = .ok (.iconst 0, 1) := by decide +kernel
theorem dL_law_262 : decode cL_law 262 = .ok (.ireturn, 1) := by decide +kernel
theorem dL_law_263 : decode cL_law 263 = .ok (.aload_n 1, 1) := by decide +kernel
theorem dL_law_264 : decode cL_law 264 = .ok (.aload_n 0, 1) := by decide +kernel
theorem dL_law_265 : decode cL_law 265 = .ok (.iload_n 3, 1) := by decide +kernel
theorem dL_law_266 : decode cL_law 266 = .ok (.iconst 1, 1) := by decide +kernel
theorem dL_law_267 : decode cL_law 267 = .ok (.iadd, 1) := by decide +kernel
theorem dL_law_268 : decode cL_law 268 = .ok (.iaload, 1) := by decide +kernel
theorem dL_law_269 : decode cL_law 269 = .ok (.aload_n 0, 1) := by decide +kernel
theorem dL_law_270 : decode cL_law 270 = .ok (.iload_n 3, 1) := by decide +kernel
theorem dL_law_271 : decode cL_law 271 = .ok (.iconst 2, 1) := by decide +kernel
theorem dL_law_272 : decode cL_law 272 = .ok (.iadd, 1) := by decide +kernel
theorem dL_law_273 : decode cL_law 273 = .ok (.iaload, 1) := by decide +kernel
theorem dL_law_274 : decode cL_law 274 = .ok (.invokevirtual 28, 3) := by decide +kernel
theorem dL_law_277 : decode cL_law 277 = .ok (.aload_n 2, 1) := by decide +kernel
theorem dL_law_278 : decode cL_law 278 = .ok (.aload_n 0, 1) := by decide +kernel
theorem dL_law_279 : decode cL_law 279 = .ok (.iload_n 3, 1) := by decide +kernel
theorem dL_law_280 : decode cL_law 280 = .ok (.iconst 1, 1) := by decide +kernel
theorem dL_law_281 : decode cL_law 281 = .ok (.iadd, 1) := by decide +kernel
theorem dL_law_282 : decode cL_law 282 = .ok (.iaload, 1) := by decide +kernel
theorem dL_law_283 : decode cL_law 283 = .ok (.aload_n 0, 1) := by decide +kernel
theorem dL_law_284 : decode cL_law 284 = .ok (.iload_n 3, 1) := by decide +kernel
theorem dL_law_285 : decode cL_law 285 = .ok (.iconst 2, 1) := by decide +kernel
theorem dL_law_286 : decode cL_law 286 = .ok (.iadd, 1) := by decide +kernel
theorem dL_law_287 : decode cL_law 287 = .ok (.iaload, 1) := by decide +kernel
theorem dL_law_288 : decode cL_law 288 = .ok (.invokevirtual 31, 3) := by decide +kernel
theorem dL_law_291 : decode cL_law 291 = .ok (.if_icmp .eq 689, 3) := by decide +kernel
theorem dL_law_294 : decode cL_law 294 = .ok (.iconst 0, 1) := by decide +kernel
theorem dL_law_295 : decode cL_law 295 = .ok (.ireturn, 1) := by decide +kernel
theorem dL_law_296 : decode cL_law 296 = .ok (.aload_n 1, 1) := by decide +kernel
theorem dL_law_297 : decode cL_law 297 = .ok (.aload_n 0, 1) := by decide +kernel
theorem dL_law_298 : decode cL_law 298 = .ok (.iload_n 3, 1) := by decide +kernel
theorem dL_law_299 : decode cL_law 299 = .ok (.iconst 1, 1) := by decide +kernel
theorem dL_law_300 : decode cL_law 300 = .ok (.iadd, 1) := by decide +kernel
theorem dL_law_301 : decode cL_law 301 = .ok (.iaload, 1) := by decide +kernel
theorem dL_law_302 : decode cL_law 302 = .ok (.invokevirtual 32, 3) := by decide +kernel
theorem dL_law_305 : decode cL_law 305 = .ok (.aload_n 2, 1) := by decide +kernel
theorem dL_law_306 : decode cL_law 306 = .ok (.aload_n 0, 1) := by decide +kernel
theorem dL_law_307 : decode cL_law 307 = .ok (.iload_n 3, 1) := by decide +kernel
theorem dL_law_308 : decode cL_law 308 = .ok (.iconst 1, 1) := by decide +kernel
theorem dL_law_309 : decode cL_law 309 = .ok (.iadd, 1) := by decide +kernel
theorem dL_law_310 : decode cL_law 310 = .ok (.iaload, 1) := by decide +kernel
theorem dL_law_311 : decode cL_law 311 = .ok (.invokevirtual 35, 3) := by decide +kernel
theorem dL_law_314 : decode cL_law 314 = .ok (.if_icmp .eq 666, 3) := by decide +kernel
theorem dL_law_317 : decode cL_law 317 = .ok (.iconst 0, 1) := by decide +kernel
theorem dL_law_318 : decode cL_law 318 = .ok (.ireturn, 1) := by decide +kernel
theorem dL_law_319 : decode cL_law 319 = .ok (.aload_n 1, 1) := by decide +kernel
theorem dL_law_320 : decode cL_law 320 = .ok (.aload_n 0, 1) := by decide +kernel
theorem dL_law_321 : decode cL_law 321 = .ok (.iload_n 3, 1) := by decide +kernel
theorem dL_law_322 : decode cL_law 322 = .ok (.iconst 1, 1) := by decide +kernel
theorem dL_law_323 : decode cL_law 323 = .ok (.iadd, 1) := by decide +kernel
theorem dL_law_324 : decode cL_law 324 = .ok (.iaload, 1) := by decide +kernel
theorem dL_law_325 : decode cL_law 325 = .ok (.aload_n 0, 1) := by decide +kernel
theorem dL_law_326 : decode cL_law 326 = .ok (.iload_n 3, 1) := by decide +kernel
theorem dL_law_327 : decode cL_law 327 = .ok (.iconst 2, 1) := by decide +kernel
theorem dL_law_328 : decode cL_law 328 = .ok (.iadd, 1) := by decide +kernel
theorem dL_law_329 : decode cL_law 329 = .ok (.iaload, 1) := by decide +kernel
theorem dL_law_330 : decode cL_law 330 = .ok (.aload_n 0, 1) := by decide +kernel
theorem dL_law_331 : decode cL_law 331 = .ok (.iload_n 3, 1) := by decide +kernel
theorem dL_law_332 : decode cL_law 332 = .ok (.iconst 3, 1) := by decide +kernel
theorem dL_law_333 : decode cL_law 333 = .ok (.iadd, 1) := by decide +kernel
theorem dL_law_334 : decode cL_law 334 = .ok (.iaload, 1) := by decide +kernel
theorem dL_law_335 : decode cL_law 335 = .ok (.invokevirtual 36, 3) := by decide +kernel
theorem dL_law_338 : decode cL_law 338 = .ok (.aload_n 2, 1) := by decide +kernel
theorem dL_law_339 : decode cL_law 339 = .ok (.aload_n 0, 1) := by decide +kernel
theorem dL_law_340 : decode cL_law 340 = .ok (.iload_n 3, 1) := by decide +kernel
theorem dL_law_341 : decode cL_law 341 = .ok (.iconst 1, 1) := by decide +kernel
theorem dL_law_342 : decode cL_law 342 = .ok (.iadd, 1) := by decide +kernel
theorem dL_law_343 : decode cL_law 343 = .ok (.iaload, 1) := by decide +kernel
theorem dL_law_344 : decode cL_law 344 = .ok (.aload_n 0, 1) := by decide +kernel
theorem dL_law_345 : decode cL_law 345 = .ok (.iload_n 3, 1) := by decide +kernel
theorem dL_law_346 : decode cL_law 346 = .ok (.iconst 2, 1) := by decide +kernel
theorem dL_law_347 : decode cL_law 347 = .ok (.iadd, 1) := by decide +kernel
theorem dL_law_348 : decode cL_law 348 = .ok (.iaload, 1) := by decide +kernel
theorem dL_law_349 : decode cL_law 349 = .ok (.aload_n 0, 1) := by decide +kernel
theorem dL_law_350 : decode cL_law 350 = .ok (.iload_n 3, 1) := by decide +kernel
theorem dL_law_351 : decode cL_law 351 = .ok (.iconst 3, 1) := by decide +kernel
theorem dL_law_352 : decode cL_law 352 = .ok (.iadd, 1) := by decide +kernel
theorem dL_law_353 : decode cL_law 353 = .ok (.iaload, 1) := by decide +kernel
theorem dL_law_354 : decode cL_law 354 = .ok (.invokevirtual 39, 3) := by decide +kernel
theorem dL_law_357 : decode cL_law 357 = .ok (.if_icmp .eq 623, 3) := by decide +kernel
theorem dL_law_360 : decode cL_law 360 = .ok (.iconst 0, 1) := by decide +kernel
theorem dL_law_361 : decode cL_law 361 = .ok (.ireturn, 1) := by decide +kernel
theorem dL_law_362 : decode cL_law 362 = .ok (.aload_n 1, 1) := by decide +kernel
theorem dL_law_363 : decode cL_law 363 = .ok (.aload_n 0, 1) := by decide +kernel
theorem dL_law_364 : decode cL_law 364 = .ok (.iload_n 3, 1) := by decide +kernel
theorem dL_law_365 : decode cL_law 365 = .ok (.iconst 1, 1) := by decide +kernel
theorem dL_law_366 : decode cL_law 366 = .ok (.iadd, 1) := by decide +kernel
theorem dL_law_367 : decode cL_law 367 = .ok (.iaload, 1) := by decide +kernel
theorem dL_law_368 : decode cL_law 368 = .ok (.aload_n 0, 1) := by decide +kernel
theorem dL_law_369 : decode cL_law 369 = .ok (.iload_n 3, 1) := by decide +kernel
theorem dL_law_370 : decode cL_law 370 = .ok (.iconst 2, 1) := by decide +kernel
theorem dL_law_371 : decode cL_law 371 = .ok (.iadd, 1) := by decide +kernel
theorem dL_law_372 : decode cL_law 372 = .ok (.iaload, 1) := by decide +kernel
theorem dL_law_373 : decode cL_law 373 = .ok (.invokevirtual 40, 3) := by decide +kernel
theorem dL_law_376 : decode cL_law 376 = .ok (.aload_n 2, 1) := by decide +kernel
theorem dL_law_377 : decode cL_law 377 = .ok (.aload_n 0, 1) := by decide +kernel
theorem dL_law_378 : decode cL_law 378 = .ok (.iload_n 3, 1) := by decide +kernel
theorem dL_law_379 : decode cL_law 379 = .ok (.iconst 1, 1) := by decide +kernel
theorem dL_law_380 : decode cL_law 380 = .ok (.iadd, 1) := by decide +kernel
theorem dL_law_381 : decode cL_law 381 = .ok (.iaload, 1) := by decide +kernel
theorem dL_law_382 : decode cL_law 382 = .ok (.aload_n 0, 1) := by decide +kernel
theorem dL_law_383 : decode cL_law 383 = .ok (.iload_n 3, 1) := by decide +kernel
theorem dL_law_384 : decode cL_law 384 = .ok (.iconst 2, 1) := by decide +kernel
theorem dL_law_385 : decode cL_law 385 = .ok (.iadd, 1) := by decide +kernel
theorem dL_law_386 : decode cL_law 386 = .ok (.iaload, 1) := by decide +kernel
theorem dL_law_387 : decode cL_law 387 = .ok (.invokevirtual 43, 3) := by decide +kernel
theorem dL_law_390 : decode cL_law 390 = .ok (.if_icmp .eq 590, 3) := by decide +kernel
theorem dL_law_393 : decode cL_law 393 = .ok (.iconst 0, 1) := by decide +kernel
theorem dL_law_394 : decode cL_law 394 = .ok (.ireturn, 1) := by decide +kernel
theorem dL_law_395 : decode cL_law 395 = .ok (.aload_n 1, 1) := by decide +kernel
theorem dL_law_396 : decode cL_law 396 = .ok (.aload_n 0, 1) := by decide +kernel
theorem dL_law_397 : decode cL_law 397 = .ok (.iload_n 3, 1) := by decide +kernel
theorem dL_law_398 : decode cL_law 398 = .ok (.iconst 1, 1) := by decide +kernel
theorem dL_law_399 : decode cL_law 399 = .ok (.iadd, 1) := by decide +kernel
theorem dL_law_400 : decode cL_law 400 = .ok (.iaload, 1) := by decide +kernel
theorem dL_law_401 : decode cL_law 401 = .ok (.aload_n 0, 1) := by decide +kernel
theorem dL_law_402 : decode cL_law 402 = .ok (.iload_n 3, 1) := by decide +kernel
theorem dL_law_403 : decode cL_law 403 = .ok (.iconst 2, 1) := by decide +kernel
theorem dL_law_404 : decode cL_law 404 = .ok (.iadd, 1) := by decide +kernel
theorem dL_law_405 : decode cL_law 405 = .ok (.iaload, 1) := by decide +kernel
theorem dL_law_406 : decode cL_law 406 = .ok (.invokevirtual 44, 3) := by decide +kernel
theorem dL_law_409 : decode cL_law 409 = .ok (.aload_n 2, 1) := by decide +kernel
theorem dL_law_410 : decode cL_law 410 = .ok (.aload_n 0, 1) := by decide +kernel
theorem dL_law_411 : decode cL_law 411 = .ok (.iload_n 3, 1) := by decide +kernel
theorem dL_law_412 : decode cL_law 412 = .ok (.iconst 1, 1) := by decide +kernel
theorem dL_law_413 : decode cL_law 413 = .ok (.iadd, 1) := by decide +kernel
theorem dL_law_414 : decode cL_law 414 = .ok (.iaload, 1) := by decide +kernel
theorem dL_law_415 : decode cL_law 415 = .ok (.aload_n 0, 1) := by decide +kernel
theorem dL_law_416 : decode cL_law 416 = .ok (.iload_n 3, 1) := by decide +kernel
theorem dL_law_417 : decode cL_law 417 = .ok (.iconst 2, 1) := by decide +kernel
theorem dL_law_418 : decode cL_law 418 = .ok (.iadd, 1) := by decide +kernel
theorem dL_law_419 : decode cL_law 419 = .ok (.iaload, 1) := by decide +kernel
theorem dL_law_420 : decode cL_law 420 = .ok (.invokevirtual 47, 3) := by decide +kernel
theorem dL_law_423 : decode cL_law 423 = .ok (.if_icmp .eq 557, 3) := by decide +kernel
theorem dL_law_426 : decode cL_law 426 = .ok (.iconst 0, 1) := by decide +kernel
theorem dL_law_427 : decode cL_law 427 = .ok (.ireturn, 1) := by decide +kernel
theorem dL_law_428 : decode cL_law 428 = .ok (.aload_n 1, 1) := by decide +kernel
theorem dL_law_429 : decode cL_law 429 = .ok (.aload_n 0, 1) := by decide +kernel
theorem dL_law_430 : decode cL_law 430 = .ok (.iload_n 3, 1) := by decide +kernel
theorem dL_law_431 : decode cL_law 431 = .ok (.iconst 1, 1) := by decide +kernel
theorem dL_law_432 : decode cL_law 432 = .ok (.iadd, 1) := by decide +kernel
theorem dL_law_433 : decode cL_law 433 = .ok (.iaload, 1) := by decide +kernel
theorem dL_law_434 : decode cL_law 434 = .ok (.aload_n 0, 1) := by decide +kernel
theorem dL_law_435 : decode cL_law 435 = .ok (.iload_n 3, 1) := by decide +kernel
theorem dL_law_436 : decode cL_law 436 = .ok (.iconst 2, 1) := by decide +kernel
theorem dL_law_437 : decode cL_law 437 = .ok (.iadd, 1) := by decide +kernel
theorem dL_law_438 : decode cL_law 438 = .ok (.iaload, 1) := by decide +kernel
theorem dL_law_439 : decode cL_law 439 = .ok (.invokevirtual 48, 3) := by decide +kernel
theorem dL_law_442 : decode cL_law 442 = .ok (.aload_n 2, 1) := by decide +kernel
theorem dL_law_443 : decode cL_law 443 = .ok (.aload_n 0, 1) := by decide +kernel
theorem dL_law_444 : decode cL_law 444 = .ok (.iload_n 3, 1) := by decide +kernel
theorem dL_law_445 : decode cL_law 445 = .ok (.iconst 1, 1) := by decide +kernel
theorem dL_law_446 : decode cL_law 446 = .ok (.iadd, 1) := by decide +kernel
theorem dL_law_447 : decode cL_law 447 = .ok (.iaload, 1) := by decide +kernel
theorem dL_law_448 : decode cL_law 448 = .ok (.aload_n 0, 1) := by decide +kernel
theorem dL_law_449 : decode cL_law 449 = .ok (.iload_n 3, 1) := by decide +kernel
theorem dL_law_450 : decode cL_law 450 = .ok (.iconst 2, 1) := by decide +kernel
theorem dL_law_451 : decode cL_law 451 = .ok (.iadd, 1) := by decide +kernel
theorem dL_law_452 : decode cL_law 452 = .ok (.iaload, 1) := by decide +kernel
theorem dL_law_453 : decode cL_law 453 = .ok (.invokevirtual 51, 3) := by decide +kernel
theorem dL_law_456 : decode cL_law 456 = .ok (.if_icmp .eq 524, 3) := by decide +kernel
theorem dL_law_459 : decode cL_law 459 = .ok (.iconst 0, 1) := by decide +kernel
theorem dL_law_460 : decode cL_law 460 = .ok (.ireturn, 1) := by decide +kernel
theorem dL_law_461 : decode cL_law 461 = .ok (.aload_n 1, 1) := by decide +kernel
theorem dL_law_462 : decode cL_law 462 = .ok (.aload_n 0, 1) := by decide +kernel
theorem dL_law_463 : decode cL_law 463 = .ok (.iload_n 3, 1) := by decide +kernel
theorem dL_law_464 : decode cL_law 464 = .ok (.iconst 1, 1) := by decide +kernel
theorem dL_law_465 : decode cL_law 465 = .ok (.iadd, 1) := by decide +kernel
theorem dL_law_466 : decode cL_law 466 = .ok (.iaload, 1) := by decide +kernel
theorem dL_law_467 : decode cL_law 467 = .ok (.aload_n 0, 1) := by decide +kernel
theorem dL_law_468 : decode cL_law 468 = .ok (.iload_n 3, 1) := by decide +kernel
theorem dL_law_469 : decode cL_law 469 = .ok (.iconst 2, 1) := by decide +kernel
theorem dL_law_470 : decode cL_law 470 = .ok (.iadd, 1) := by decide +kernel
theorem dL_law_471 : decode cL_law 471 = .ok (.iaload, 1) := by decide +kernel
theorem dL_law_472 : decode cL_law 472 = .ok (.invokevirtual 52, 3) := by decide +kernel
theorem dL_law_475 : decode cL_law 475 = .ok (.aload_n 2, 1) := by decide +kernel
theorem dL_law_476 : decode cL_law 476 = .ok (.aload_n 0, 1) := by decide +kernel
theorem dL_law_477 : decode cL_law 477 = .ok (.iload_n 3, 1) := by decide +kernel
theorem dL_law_478 : decode cL_law 478 = .ok (.iconst 1, 1) := by decide +kernel
theorem dL_law_479 : decode cL_law 479 = .ok (.iadd, 1) := by decide +kernel
theorem dL_law_480 : decode cL_law 480 = .ok (.iaload, 1) := by decide +kernel
theorem dL_law_481 : decode cL_law 481 = .ok (.aload_n 0, 1) := by decide +kernel
theorem dL_law_482 : decode cL_law 482 = .ok (.iload_n 3, 1) := by decide +kernel
theorem dL_law_483 : decode cL_law 483 = .ok (.iconst 2, 1) := by decide +kernel
theorem dL_law_484 : decode cL_law 484 = .ok (.iadd, 1) := by decide +kernel
theorem dL_law_485 : decode cL_law 485 = .ok (.iaload, 1) := by decide +kernel
theorem dL_law_486 : decode cL_law 486 = .ok (.invokevirtual 55, 3) := by decide +kernel
theorem dL_law_489 : decode cL_law 489 = .ok (.if_icmp .eq 491, 3) := by decide +kernel
theorem dL_law_492 : decode cL_law 492 = .ok (.iconst 0, 1) := by decide +kernel
theorem dL_law_493 : decode cL_law 493 = .ok (.ireturn, 1) := by decide +kernel
theorem dL_law_494 : decode cL_law 494 = .ok (.aload_n 1, 1) := by decide +kernel
theorem dL_law_495 : decode cL_law 495 = .ok (.aload_n 0, 1) := by decide +kernel
theorem dL_law_496 : decode cL_law 496 = .ok (.iload_n 3, 1) := by decide +kernel
theorem dL_law_497 : decode cL_law 497 = .ok (.iconst 1, 1) := by decide +kernel
theorem dL_law_498 : decode cL_law 498 = .ok (.iadd, 1) := by decide +kernel
theorem dL_law_499 : decode cL_law 499 = .ok (.iaload, 1) := by decide +kernel
theorem dL_law_500 : decode cL_law 500 = .ok (.aload_n 0, 1) := by decide +kernel
theorem dL_law_501 : decode cL_law 501 = .ok (.iload_n 3, 1) := by decide +kernel
theorem dL_law_502 : decode cL_law 502 = .ok (.iconst 2, 1) := by decide +kernel
theorem dL_law_503 : decode cL_law 503 = .ok (.iadd, 1) := by decide +kernel
theorem dL_law_504 : decode cL_law 504 = .ok (.iaload, 1) := by decide +kernel
theorem dL_law_505 : decode cL_law 505 = .ok (.aload_n 0, 1) := by decide +kernel
theorem dL_law_506 : decode cL_law 506 = .ok (.iload_n 3, 1) := by decide +kernel
theorem dL_law_507 : decode cL_law 507 = .ok (.iconst 3, 1) := by decide +kernel
theorem dL_law_508 : decode cL_law 508 = .ok (.iadd, 1) := by decide +kernel
theorem dL_law_509 : decode cL_law 509 = .ok (.iaload, 1) := by decide +kernel
theorem dL_law_510 : decode cL_law 510 = .ok (.invokevirtual 56, 3) := by decide +kernel
theorem dL_law_513 : decode cL_law 513 = .ok (.aload_n 2, 1) := by decide +kernel
theorem dL_law_514 : decode cL_law 514 = .ok (.aload_n 0, 1) := by decide +kernel
theorem dL_law_515 : decode cL_law 515 = .ok (.iload_n 3, 1) := by decide +kernel
theorem dL_law_516 : decode cL_law 516 = .ok (.iconst 1, 1) := by decide +kernel
theorem dL_law_517 : decode cL_law 517 = .ok (.iadd, 1) := by decide +kernel
theorem dL_law_518 : decode cL_law 518 = .ok (.iaload, 1) := by decide +kernel
theorem dL_law_519 : decode cL_law 519 = .ok (.aload_n 0, 1) := by decide +kernel
theorem dL_law_520 : decode cL_law 520 = .ok (.iload_n 3, 1) := by decide +kernel
theorem dL_law_521 : decode cL_law 521 = .ok (.iconst 2, 1) := by decide +kernel
theorem dL_law_522 : decode cL_law 522 = .ok (.iadd, 1) := by decide +kernel
theorem dL_law_523 : decode cL_law 523 = .ok (.iaload, 1) := by decide +kernel
theorem dL_law_524 : decode cL_law 524 = .ok (.aload_n 0, 1) := by decide +kernel
theorem dL_law_525 : decode cL_law 525 = .ok (.iload_n 3, 1) := by decide +kernel
theorem dL_law_526 : decode cL_law 526 = .ok (.iconst 3, 1) := by decide +kernel
theorem dL_law_527 : decode cL_law 527 = .ok (.iadd, 1) := by decide +kernel
theorem dL_law_528 : decode cL_law 528 = .ok (.iaload, 1) := by decide +kernel
theorem dL_law_529 : decode cL_law 529 = .ok (.invokevirtual 59, 3) := by decide +kernel
theorem dL_law_532 : decode cL_law 532 = .ok (.if_icmp .eq 448, 3) := by decide +kernel
theorem dL_law_535 : decode cL_law 535 = .ok (.iconst 0, 1) := by decide +kernel
theorem dL_law_536 : decode cL_law 536 = .ok (.ireturn, 1) := by decide +kernel
theorem dL_law_537 : decode cL_law 537 = .ok (.aload_n 1, 1) := by decide +kernel
theorem dL_law_538 : decode cL_law 538 = .ok (.aload_n 0, 1) := by decide +kernel
theorem dL_law_539 : decode cL_law 539 = .ok (.iload_n 3, 1) := by decide +kernel
theorem dL_law_540 : decode cL_law 540 = .ok (.iconst 1, 1) := by decide +kernel
theorem dL_law_541 : decode cL_law 541 = .ok (.iadd, 1) := by decide +kernel
theorem dL_law_542 : decode cL_law 542 = .ok (.iaload, 1) := by decide +kernel
theorem dL_law_543 : decode cL_law 543 = .ok (.aload_n 0, 1) := by decide +kernel
theorem dL_law_544 : decode cL_law 544 = .ok (.iload_n 3, 1) := by decide +kernel
theorem dL_law_545 : decode cL_law 545 = .ok (.iconst 2, 1) := by decide +kernel
theorem dL_law_546 : decode cL_law 546 = .ok (.iadd, 1) := by decide +kernel
theorem dL_law_547 : decode cL_law 547 = .ok (.iaload, 1) := by decide +kernel
theorem dL_law_548 : decode cL_law 548 = .ok (.aload_n 0, 1) := by decide +kernel
theorem dL_law_549 : decode cL_law 549 = .ok (.iload_n 3, 1) := by decide +kernel
theorem dL_law_550 : decode cL_law 550 = .ok (.iconst 3, 1) := by decide +kernel
theorem dL_law_551 : decode cL_law 551 = .ok (.iadd, 1) := by decide +kernel
theorem dL_law_552 : decode cL_law 552 = .ok (.iaload, 1) := by decide +kernel
theorem dL_law_553 : decode cL_law 553 = .ok (.invokevirtual 60, 3) := by decide +kernel
theorem dL_law_556 : decode cL_law 556 = .ok (.aload_n 2, 1) := by decide +kernel
theorem dL_law_557 : decode cL_law 557 = .ok (.aload_n 0, 1) := by decide +kernel
theorem dL_law_558 : decode cL_law 558 = .ok (.iload_n 3, 1) := by decide +kernel
theorem dL_law_559 : decode cL_law 559 = .ok (.iconst 1, 1) := by decide +kernel
theorem dL_law_560 : decode cL_law 560 = .ok (.iadd, 1) := by decide +kernel
theorem dL_law_561 : decode cL_law 561 = .ok (.iaload, 1) := by decide +kernel
theorem dL_law_562 : decode cL_law 562 = .ok (.aload_n 0, 1) := by decide +kernel
theorem dL_law_563 : decode cL_law 563 = .ok (.iload_n 3, 1) := by decide +kernel
theorem dL_law_564 : decode cL_law 564 = .ok (.iconst 2, 1) := by decide +kernel
theorem dL_law_565 : decode cL_law 565 = .ok (.iadd, 1) := by decide +kernel
theorem dL_law_566 : decode cL_law 566 = .ok (.iaload, 1) := by decide +kernel
theorem dL_law_567 : decode cL_law 567 = .ok (.aload_n 0, 1) := by decide +kernel
theorem dL_law_568 : decode cL_law 568 = .ok (.iload_n 3, 1) := by decide +kernel
theorem dL_law_569 : decode cL_law 569 = .ok (.iconst 3, 1) := by decide +kernel
theorem dL_law_570 : decode cL_law 570 = .ok (.iadd, 1) := by decide +kernel
theorem dL_law_571 : decode cL_law 571 = .ok (.iaload, 1) := by decide +kernel
theorem dL_law_572 : decode cL_law 572 = .ok (.invokevirtual 63, 3) := by decide +kernel
theorem dL_law_575 : decode cL_law 575 = .ok (.if_icmp .eq 405, 3) := by decide +kernel
theorem dL_law_578 : decode cL_law 578 = .ok (.iconst 0, 1) := by decide +kernel
theorem dL_law_579 : decode cL_law 579 = .ok (.ireturn, 1) := by decide +kernel
theorem dL_law_580 : decode cL_law 580 = .ok (.aload_n 1, 1) := by decide +kernel
theorem dL_law_581 : decode cL_law 581 = .ok (.aload_n 0, 1) := by decide +kernel
theorem dL_law_582 : decode cL_law 582 = .ok (.iload_n 3, 1) := by decide +kernel
theorem dL_law_583 : decode cL_law 583 = .ok (.iconst 1, 1) := by decide +kernel
theorem dL_law_584 : decode cL_law 584 = .ok (.iadd, 1) := by decide +kernel
theorem dL_law_585 : decode cL_law 585 = .ok (.iaload, 1) := by decide +kernel
theorem dL_law_586 : decode cL_law 586 = .ok (.invokevirtual 64, 3) := by decide +kernel
theorem dL_law_589 : decode cL_law 589 = .ok (.aload_n 2, 1) := by decide +kernel
theorem dL_law_590 : decode cL_law 590 = .ok (.aload_n 0, 1) := by decide +kernel
theorem dL_law_591 : decode cL_law 591 = .ok (.iload_n 3, 1) := by decide +kernel
theorem dL_law_592 : decode cL_law 592 = .ok (.iconst 1, 1) := by decide +kernel
theorem dL_law_593 : decode cL_law 593 = .ok (.iadd, 1) := by decide +kernel
theorem dL_law_594 : decode cL_law 594 = .ok (.iaload, 1) := by decide +kernel
theorem dL_law_595 : decode cL_law 595 = .ok (.invokevirtual 67, 3) := by decide +kernel
theorem dL_law_598 : decode cL_law 598 = .ok (.if_icmp .eq 382, 3) := by decide +kernel
theorem dL_law_601 : decode cL_law 601 = .ok (.iconst 0, 1) := by decide +kernel
theorem dL_law_602 : decode cL_law 602 = .ok (.ireturn, 1) := by decide +kernel
theorem dL_law_603 : decode cL_law 603 = .ok (.aload_n 1, 1) := by decide +kernel
theorem dL_law_604 : decode cL_law 604 = .ok (.aload_n 0, 1) := by decide +kernel
theorem dL_law_605 : decode cL_law 605 = .ok (.iload_n 3, 1) := by decide +kernel
theorem dL_law_606 : decode cL_law 606 = .ok (.iconst 1, 1) := by decide +kernel
theorem dL_law_607 : decode cL_law 607 = .ok (.iadd, 1) := by decide +kernel
theorem dL_law_608 : decode cL_law 608 = .ok (.iaload, 1) := by decide +kernel
theorem dL_law_609 : decode cL_law 609 = .ok (.aload_n 0, 1) := by decide +kernel
theorem dL_law_610 : decode cL_law 610 = .ok (.iload_n 3, 1) := by decide +kernel
theorem dL_law_611 : decode cL_law 611 = .ok (.iconst 2, 1) := by decide +kernel
theorem dL_law_612 : decode cL_law 612 = .ok (.iadd, 1) := by decide +kernel
theorem dL_law_613 : decode cL_law 613 = .ok (.iaload, 1) := by decide +kernel
theorem dL_law_614 : decode cL_law 614 = .ok (.invokevirtual 68, 3) := by decide +kernel
theorem dL_law_617 : decode cL_law 617 = .ok (.aload_n 2, 1) := by decide +kernel
theorem dL_law_618 : decode cL_law 618 = .ok (.aload_n 0, 1) := by decide +kernel
theorem dL_law_619 : decode cL_law 619 = .ok (.iload_n 3, 1) := by decide +kernel
theorem dL_law_620 : decode cL_law 620 = .ok (.iconst 1, 1) := by decide +kernel
theorem dL_law_621 : decode cL_law 621 = .ok (.iadd, 1) := by decide +kernel
theorem dL_law_622 : decode cL_law 622 = .ok (.iaload, 1) := by decide +kernel
theorem dL_law_623 : decode cL_law 623 = .ok (.aload_n 0, 1) := by decide +kernel
theorem dL_law_624 : decode cL_law 624 = .ok (.iload_n 3, 1) := by decide +kernel
theorem dL_law_625 : decode cL_law 625 = .ok (.iconst 2, 1) := by decide +kernel
theorem dL_law_626 : decode cL_law 626 = .ok (.iadd, 1) := by decide +kernel
theorem dL_law_627 : decode cL_law 627 = .ok (.iaload, 1) := by decide +kernel
theorem dL_law_628 : decode cL_law 628 = .ok (.invokevirtual 71, 3) := by decide +kernel
theorem dL_law_631 : decode cL_law 631 = .ok (.if_icmp .eq 349, 3) := by decide +kernel
theorem dL_law_634 : decode cL_law 634 = .ok (.iconst 0, 1) := by decide +kernel
theorem dL_law_635 : decode cL_law 635 = .ok (.ireturn, 1) := by decide +kernel
theorem dL_law_636 : decode cL_law 636 = .ok (.aload_n 1, 1) := by decide +kernel
theorem dL_law_637 : decode cL_law 637 = .ok (.aload_n 0, 1) := by decide +kernel
theorem dL_law_638 : decode cL_law 638 = .ok (.iload_n 3, 1) := by decide +kernel
theorem dL_law_639 : decode cL_law 639 = .ok (.iconst 1, 1) := by decide +kernel
theorem dL_law_640 : decode cL_law 640 = .ok (.iadd, 1) := by decide +kernel
theorem dL_law_641 : decode cL_law 641 = .ok (.iaload, 1) := by decide +kernel
theorem dL_law_642 : decode cL_law 642 = .ok (.aload_n 0, 1) := by decide +kernel
theorem dL_law_643 : decode cL_law 643 = .ok (.iload_n 3, 1) := by decide +kernel
theorem dL_law_644 : decode cL_law 644 = .ok (.iconst 2, 1) := by decide +kernel
theorem dL_law_645 : decode cL_law 645 = .ok (.iadd, 1) := by decide +kernel
theorem dL_law_646 : decode cL_law 646 = .ok (.iaload, 1) := by decide +kernel
theorem dL_law_647 : decode cL_law 647 = .ok (.aload_n 0, 1) := by decide +kernel
theorem dL_law_648 : decode cL_law 648 = .ok (.iload_n 3, 1) := by decide +kernel
theorem dL_law_649 : decode cL_law 649 = .ok (.iconst 3, 1) := by decide +kernel
theorem dL_law_650 : decode cL_law 650 = .ok (.iadd, 1) := by decide +kernel
theorem dL_law_651 : decode cL_law 651 = .ok (.iaload, 1) := by decide +kernel
theorem dL_law_652 : decode cL_law 652 = .ok (.invokevirtual 72, 3) := by decide +kernel
theorem dL_law_655 : decode cL_law 655 = .ok (.aload_n 2, 1) := by decide +kernel
theorem dL_law_656 : decode cL_law 656 = .ok (.aload_n 0, 1) := by decide +kernel
theorem dL_law_657 : decode cL_law 657 = .ok (.iload_n 3, 1) := by decide +kernel
theorem dL_law_658 : decode cL_law 658 = .ok (.iconst 1, 1) := by decide +kernel
theorem dL_law_659 : decode cL_law 659 = .ok (.iadd, 1) := by decide +kernel
theorem dL_law_660 : decode cL_law 660 = .ok (.iaload, 1) := by decide +kernel
theorem dL_law_661 : decode cL_law 661 = .ok (.aload_n 0, 1) := by decide +kernel
theorem dL_law_662 : decode cL_law 662 = .ok (.iload_n 3, 1) := by decide +kernel
theorem dL_law_663 : decode cL_law 663 = .ok (.iconst 2, 1) := by decide +kernel
theorem dL_law_664 : decode cL_law 664 = .ok (.iadd, 1) := by decide +kernel
theorem dL_law_665 : decode cL_law 665 = .ok (.iaload, 1) := by decide +kernel
theorem dL_law_666 : decode cL_law 666 = .ok (.aload_n 0, 1) := by decide +kernel
theorem dL_law_667 : decode cL_law 667 = .ok (.iload_n 3, 1) := by decide +kernel
theorem dL_law_668 : decode cL_law 668 = .ok (.iconst 3, 1) := by decide +kernel
theorem dL_law_669 : decode cL_law 669 = .ok (.iadd, 1) := by decide +kernel
theorem dL_law_670 : decode cL_law 670 = .ok (.iaload, 1) := by decide +kernel
theorem dL_law_671 : decode cL_law 671 = .ok (.invokevirtual 75, 3) := by decide +kernel
theorem dL_law_674 : decode cL_law 674 = .ok (.if_icmp .eq 306, 3) := by decide +kernel
theorem dL_law_677 : decode cL_law 677 = .ok (.iconst 0, 1) := by decide +kernel
theorem dL_law_678 : decode cL_law 678 = .ok (.ireturn, 1) := by decide +kernel
theorem dL_law_679 : decode cL_law 679 = .ok (.aload_n 1, 1) := by decide +kernel
theorem dL_law_680 : decode cL_law 680 = .ok (.aload_n 0, 1) := by decide +kernel
theorem dL_law_681 : decode cL_law 681 = .ok (.iload_n 3, 1) := by decide +kernel
theorem dL_law_682 : decode cL_law 682 = .ok (.iconst 1, 1) := by decide +kernel
theorem dL_law_683 : decode cL_law 683 = .ok (.iadd, 1) := by decide +kernel
theorem dL_law_684 : decode cL_law 684 = .ok (.iaload, 1) := by decide +kernel
theorem dL_law_685 : decode cL_law 685 = .ok (.invokevirtual 76, 3) := by decide +kernel
theorem dL_law_688 : decode cL_law 688 = .ok (.aload_n 2, 1) := by decide +kernel
theorem dL_law_689 : decode cL_law 689 = .ok (.aload_n 0, 1) := by decide +kernel
theorem dL_law_690 : decode cL_law 690 = .ok (.iload_n 3, 1) := by decide +kernel
theorem dL_law_691 : decode cL_law 691 = .ok (.iconst 1, 1) := by decide +kernel
theorem dL_law_692 : decode cL_law 692 = .ok (.iadd, 1) := by decide +kernel
theorem dL_law_693 : decode cL_law 693 = .ok (.iaload, 1) := by decide +kernel
theorem dL_law_694 : decode cL_law 694 = .ok (.invokevirtual 80, 3) := by decide +kernel
theorem dL_law_697 : decode cL_law 697 = .ok (.lcmp, 1) := by decide +kernel
theorem dL_law_698 : decode cL_law 698 = .ok (.ifCond .eq 282, 3) := by decide +kernel
theorem dL_law_701 : decode cL_law 701 = .ok (.iconst 0, 1) := by decide +kernel
theorem dL_law_702 : decode cL_law 702 = .ok (.ireturn, 1) := by decide +kernel
theorem dL_law_703 : decode cL_law 703 = .ok (.aload_n 1, 1) := by decide +kernel
theorem dL_law_704 : decode cL_law 704 = .ok (.aload_n 0, 1) := by decide +kernel
theorem dL_law_705 : decode cL_law 705 = .ok (.iload_n 3, 1) := by decide +kernel
theorem dL_law_706 : decode cL_law 706 = .ok (.iconst 1, 1) := by decide +kernel
theorem dL_law_707 : decode cL_law 707 = .ok (.iadd, 1) := by decide +kernel
theorem dL_law_708 : decode cL_law 708 = .ok (.iaload, 1) := by decide +kernel
theorem dL_law_709 : decode cL_law 709 = .ok (.aload_n 0, 1) := by decide +kernel
theorem dL_law_710 : decode cL_law 710 = .ok (.iload_n 3, 1) := by decide +kernel
theorem dL_law_711 : decode cL_law 711 = .ok (.iconst 2, 1) := by decide +kernel
theorem dL_law_712 : decode cL_law 712 = .ok (.iadd, 1) := by decide +kernel
theorem dL_law_713 : decode cL_law 713 = .ok (.iaload, 1) := by decide +kernel
theorem dL_law_714 : decode cL_law 714 = .ok (.invokevirtual 81, 3) := by decide +kernel
theorem dL_law_717 : decode cL_law 717 = .ok (.aload_n 2, 1) := by decide +kernel
theorem dL_law_718 : decode cL_law 718 = .ok (.aload_n 0, 1) := by decide +kernel
theorem dL_law_719 : decode cL_law 719 = .ok (.iload_n 3, 1) := by decide +kernel
theorem dL_law_720 : decode cL_law 720 = .ok (.iconst 1, 1) := by decide +kernel
theorem dL_law_721 : decode cL_law 721 = .ok (.iadd, 1) := by decide +kernel
theorem dL_law_722 : decode cL_law 722 = .ok (.iaload, 1) := by decide +kernel
theorem dL_law_723 : decode cL_law 723 = .ok (.aload_n 0, 1) := by decide +kernel
theorem dL_law_724 : decode cL_law 724 = .ok (.iload_n 3, 1) := by decide +kernel
theorem dL_law_725 : decode cL_law 725 = .ok (.iconst 2, 1) := by decide +kernel
theorem dL_law_726 : decode cL_law 726 = .ok (.iadd, 1) := by decide +kernel
theorem dL_law_727 : decode cL_law 727 = .ok (.iaload, 1) := by decide +kernel
theorem dL_law_728 : decode cL_law 728 = .ok (.invokevirtual 85, 3) := by decide +kernel
theorem dL_law_731 : decode cL_law 731 = .ok (.lcmp, 1) := by decide +kernel
theorem dL_law_732 : decode cL_law 732 = .ok (.ifCond .eq 248, 3) := by decide +kernel
theorem dL_law_735 : decode cL_law 735 = .ok (.iconst 0, 1) := by decide +kernel
theorem dL_law_736 : decode cL_law 736 = .ok (.ireturn, 1) := by decide +kernel
theorem dL_law_737 : decode cL_law 737 = .ok (.aload_n 1, 1) := by decide +kernel
theorem dL_law_738 : decode cL_law 738 = .ok (.aload_n 0, 1) := by decide +kernel
theorem dL_law_739 : decode cL_law 739 = .ok (.iload_n 3, 1) := by decide +kernel
theorem dL_law_740 : decode cL_law 740 = .ok (.iconst 1, 1) := by decide +kernel
theorem dL_law_741 : decode cL_law 741 = .ok (.iadd, 1) := by decide +kernel
theorem dL_law_742 : decode cL_law 742 = .ok (.iaload, 1) := by decide +kernel
theorem dL_law_743 : decode cL_law 743 = .ok (.invokevirtual 86, 3) := by decide +kernel
theorem dL_law_746 : decode cL_law 746 = .ok (.aload_n 2, 1) := by decide +kernel
theorem dL_law_747 : decode cL_law 747 = .ok (.aload_n 0, 1) := by decide +kernel
theorem dL_law_748 : decode cL_law 748 = .ok (.iload_n 3, 1) := by decide +kernel
theorem dL_law_749 : decode cL_law 749 = .ok (.iconst 1, 1) := by decide +kernel
theorem dL_law_750 : decode cL_law 750 = .ok (.iadd, 1) := by decide +kernel
theorem dL_law_751 : decode cL_law 751 = .ok (.iaload, 1) := by decide +kernel
theorem dL_law_752 : decode cL_law 752 = .ok (.invokevirtual 89, 3) := by decide +kernel
theorem dL_law_755 : decode cL_law 755 = .ok (.if_icmp .eq 225, 3) := by decide +kernel
theorem dL_law_758 : decode cL_law 758 = .ok (.iconst 0, 1) := by decide +kernel
theorem dL_law_759 : decode cL_law 759 = .ok (.ireturn, 1) := by decide +kernel
theorem dL_law_760 : decode cL_law 760 = .ok (.aload_n 1, 1) := by decide +kernel
theorem dL_law_761 : decode cL_law 761 = .ok (.aload_n 0, 1) := by decide +kernel
theorem dL_law_762 : decode cL_law 762 = .ok (.iload_n 3, 1) := by decide +kernel
theorem dL_law_763 : decode cL_law 763 = .ok (.iconst 1, 1) := by decide +kernel
theorem dL_law_764 : decode cL_law 764 = .ok (.iadd, 1) := by decide +kernel
theorem dL_law_765 : decode cL_law 765 = .ok (.iaload, 1) := by decide +kernel
theorem dL_law_766 : decode cL_law 766 = .ok (.invokevirtual 90, 3) := by decide +kernel
theorem dL_law_769 : decode cL_law 769 = .ok (.aload_n 2, 1) := by decide +kernel
theorem dL_law_770 : decode cL_law 770 = .ok (.aload_n 0, 1) := by decide +kernel
theorem dL_law_771 : decode cL_law 771 = .ok (.iload_n 3, 1) := by decide +kernel
theorem dL_law_772 : decode cL_law 772 = .ok (.iconst 1, 1) := by decide +kernel
theorem dL_law_773 : decode cL_law 773 = .ok (.iadd, 1) := by decide +kernel
theorem dL_law_774 : decode cL_law 774 = .ok (.iaload, 1) := by decide +kernel
theorem dL_law_775 : decode cL_law 775 = .ok (.invokevirtual 93, 3) := by decide +kernel
theorem dL_law_778 : decode cL_law 778 = .ok (.lcmp, 1) := by decide +kernel
theorem dL_law_779 : decode cL_law 779 = .ok (.ifCond .eq 201, 3) := by decide +kernel
theorem dL_law_782 : decode cL_law 782 = .ok (.iconst 0, 1) := by decide +kernel
theorem dL_law_783 : decode cL_law 783 = .ok (.ireturn, 1) := by decide +kernel
theorem dL_law_784 : decode cL_law 784 = .ok (.aload_n 1, 1) := by decide +kernel
theorem dL_law_785 : decode cL_law 785 = .ok (.aload_n 0, 1) := by decide +kernel
theorem dL_law_786 : decode cL_law 786 = .ok (.iload_n 3, 1) := by decide +kernel
theorem dL_law_787 : decode cL_law 787 = .ok (.iconst 1, 1) := by decide +kernel
theorem dL_law_788 : decode cL_law 788 = .ok (.iadd, 1) := by decide +kernel
theorem dL_law_789 : decode cL_law 789 = .ok (.iaload, 1) := by decide +kernel
theorem dL_law_790 : decode cL_law 790 = .ok (.invokevirtual 94, 3) := by decide +kernel
theorem dL_law_793 : decode cL_law 793 = .ok (.aload_n 2, 1) := by decide +kernel
theorem dL_law_794 : decode cL_law 794 = .ok (.aload_n 0, 1) := by decide +kernel
theorem dL_law_795 : decode cL_law 795 = .ok (.iload_n 3, 1) := by decide +kernel
theorem dL_law_796 : decode cL_law 796 = .ok (.iconst 1, 1) := by decide +kernel
theorem dL_law_797 : decode cL_law 797 = .ok (.iadd, 1) := by decide +kernel
theorem dL_law_798 : decode cL_law 798 = .ok (.iaload, 1) := by decide +kernel
theorem dL_law_799 : decode cL_law 799 = .ok (.invokevirtual 97, 3) := by decide +kernel
theorem dL_law_802 : decode cL_law 802 = .ok (.if_icmp .eq 178, 3) := by decide +kernel
theorem dL_law_805 : decode cL_law 805 = .ok (.iconst 0, 1) := by decide +kernel
theorem dL_law_806 : decode cL_law 806 = .ok (.ireturn, 1) := by decide +kernel
theorem dL_law_807 : decode cL_law 807 = .ok (.aload_n 1, 1) := by decide +kernel
theorem dL_law_808 : decode cL_law 808 = .ok (.invokevirtual 98, 3) := by decide +kernel
theorem dL_law_811 : decode cL_law 811 = .ok (.aload_n 2, 1) := by decide +kernel
theorem dL_law_812 : decode cL_law 812 = .ok (.invokevirtual 102, 3) := by decide +kernel
theorem dL_law_815 : decode cL_law 815 = .ok (.if_icmp .eq 165, 3) := by decide +kernel
theorem dL_law_818 : decode cL_law 818 = .ok (.iconst 0, 1) := by decide +kernel
theorem dL_law_819 : decode cL_law 819 = .ok (.ireturn, 1) := by decide +kernel
theorem dL_law_820 : decode cL_law 820 = .ok (.aload_n 1, 1) := by decide +kernel
theorem dL_law_821 : decode cL_law 821 = .ok (.aload_n 0, 1) := by decide +kernel
theorem dL_law_822 : decode cL_law 822 = .ok (.iload_n 3, 1) := by decide +kernel
theorem dL_law_823 : decode cL_law 823 = .ok (.iconst 1, 1) := by decide +kernel
theorem dL_law_824 : decode cL_law 824 = .ok (.iadd, 1) := by decide +kernel
theorem dL_law_825 : decode cL_law 825 = .ok (.iaload, 1) := by decide +kernel
theorem dL_law_826 : decode cL_law 826 = .ok (.invokevirtual 103, 3) := by decide +kernel
theorem dL_law_829 : decode cL_law 829 = .ok (.aload_n 2, 1) := by decide +kernel
theorem dL_law_830 : decode cL_law 830 = .ok (.aload_n 0, 1) := by decide +kernel
theorem dL_law_831 : decode cL_law 831 = .ok (.iload_n 3, 1) := by decide +kernel
theorem dL_law_832 : decode cL_law 832 = .ok (.iconst 1, 1) := by decide +kernel
theorem dL_law_833 : decode cL_law 833 = .ok (.iadd, 1) := by decide +kernel
theorem dL_law_834 : decode cL_law 834 = .ok (.iaload, 1) := by decide +kernel
theorem dL_law_835 : decode cL_law 835 = .ok (.invokevirtual 106, 3) := by decide +kernel
theorem dL_law_838 : decode cL_law 838 = .ok (.if_icmp .eq 142, 3) := by decide +kernel
theorem dL_law_841 : decode cL_law 841 = .ok (.iconst 0, 1) := by decide +kernel
theorem dL_law_842 : decode cL_law 842 = .ok (.ireturn, 1) := by decide +kernel
theorem dL_law_843 : decode cL_law 843 = .ok (.aload_n 1, 1) := by decide +kernel
theorem dL_law_844 : decode cL_law 844 = .ok (.aload_n 0, 1) := by decide +kernel
theorem dL_law_845 : decode cL_law 845 = .ok (.iload_n 3, 1) := by decide +kernel
theorem dL_law_846 : decode cL_law 846 = .ok (.iconst 1, 1) := by decide +kernel
theorem dL_law_847 : decode cL_law 847 = .ok (.iadd, 1) := by decide +kernel
theorem dL_law_848 : decode cL_law 848 = .ok (.iaload, 1) := by decide +kernel
theorem dL_law_849 : decode cL_law 849 = .ok (.invokevirtual 107, 3) := by decide +kernel
theorem dL_law_852 : decode cL_law 852 = .ok (.aload_n 2, 1) := by decide +kernel
theorem dL_law_853 : decode cL_law 853 = .ok (.aload_n 0, 1) := by decide +kernel
theorem dL_law_854 : decode cL_law 854 = .ok (.iload_n 3, 1) := by decide +kernel
theorem dL_law_855 : decode cL_law 855 = .ok (.iconst 1, 1) := by decide +kernel
theorem dL_law_856 : decode cL_law 856 = .ok (.iadd, 1) := by decide +kernel
theorem dL_law_857 : decode cL_law 857 = .ok (.iaload, 1) := by decide +kernel
theorem dL_law_858 : decode cL_law 858 = .ok (.invokevirtual 110, 3) := by decide +kernel
theorem dL_law_861 : decode cL_law 861 = .ok (.if_icmp .eq 119, 3) := by decide +kernel
theorem dL_law_864 : decode cL_law 864 = .ok (.iconst 0, 1) := by decide +kernel
theorem dL_law_865 : decode cL_law 865 = .ok (.ireturn, 1) := by decide +kernel
theorem dL_law_866 : decode cL_law 866 = .ok (.aload_n 1, 1) := by decide +kernel
theorem dL_law_867 : decode cL_law 867 = .ok (.aload_n 0, 1) := by decide +kernel
theorem dL_law_868 : decode cL_law 868 = .ok (.iload_n 3, 1) := by decide +kernel
theorem dL_law_869 : decode cL_law 869 = .ok (.iconst 1, 1) := by decide +kernel
theorem dL_law_870 : decode cL_law 870 = .ok (.iadd, 1) := by decide +kernel
theorem dL_law_871 : decode cL_law 871 = .ok (.iaload, 1) := by decide +kernel
theorem dL_law_872 : decode cL_law 872 = .ok (.ifCond .eq 7, 3) := by decide +kernel
theorem dL_law_875 : decode cL_law 875 = .ok (.iconst 1, 1) := by decide +kernel
theorem dL_law_876 : decode cL_law 876 = .ok (.goto 4, 3) := by decide +kernel
theorem dL_law_879 : decode cL_law 879 = .ok (.iconst 0, 1) := by decide +kernel
theorem dL_law_880 : decode cL_law 880 = .ok (.invokevirtual 111, 3) := by decide +kernel
theorem dL_law_883 : decode cL_law 883 = .ok (.aload_n 2, 1) := by decide +kernel
theorem dL_law_884 : decode cL_law 884 = .ok (.aload_n 0, 1) := by decide +kernel
theorem dL_law_885 : decode cL_law 885 = .ok (.iload_n 3, 1) := by decide +kernel
theorem dL_law_886 : decode cL_law 886 = .ok (.iconst 1, 1) := by decide +kernel
theorem dL_law_887 : decode cL_law 887 = .ok (.iadd, 1) := by decide +kernel
theorem dL_law_888 : decode cL_law 888 = .ok (.iaload, 1) := by decide +kernel
theorem dL_law_889 : decode cL_law 889 = .ok (.ifCond .eq 7, 3) := by decide +kernel
theorem dL_law_892 : decode cL_law 892 = .ok (.iconst 1, 1) := by decide +kernel
theorem dL_law_893 : decode cL_law 893 = .ok (.goto 4, 3) := by decide +kernel
theorem dL_law_896 : decode cL_law 896 = .ok (.iconst 0, 1) := by decide +kernel
theorem dL_law_897 : decode cL_law 897 = .ok (.invokevirtual 115, 3) := by decide +kernel
theorem dL_law_900 : decode cL_law 900 = .ok (.if_icmp .eq 80, 3) := by decide +kernel
theorem dL_law_903 : decode cL_law 903 = .ok (.iconst 0, 1) := by decide +kernel
theorem dL_law_904 : decode cL_law 904 = .ok (.ireturn, 1) := by decide +kernel
theorem dL_law_905 : decode cL_law 905 = .ok (.aload_n 1, 1) := by decide +kernel
theorem dL_law_906 : decode cL_law 906 = .ok (.aload_n 0, 1) := by decide +kernel
theorem dL_law_907 : decode cL_law 907 = .ok (.iload_n 3, 1) := by decide +kernel
theorem dL_law_908 : decode cL_law 908 = .ok (.iconst 1, 1) := by decide +kernel
theorem dL_law_909 : decode cL_law 909 = .ok (.iadd, 1) := by decide +kernel
theorem dL_law_910 : decode cL_law 910 = .ok (.iaload, 1) := by decide +kernel
theorem dL_law_911 : decode cL_law 911 = .ok (.invokevirtual 116, 3) := by decide +kernel
theorem dL_law_914 : decode cL_law 914 = .ok (.aload_n 2, 1) := by decide +kernel
theorem dL_law_915 : decode cL_law 915 = .ok (.aload_n 0, 1) := by decide +kernel
theorem dL_law_916 : decode cL_law 916 = .ok (.iload_n 3, 1) := by decide +kernel
theorem dL_law_917 : decode cL_law 917 = .ok (.iconst 1, 1) := by decide +kernel
theorem dL_law_918 : decode cL_law 918 = .ok (.iadd, 1) := by decide +kernel
theorem dL_law_919 : decode cL_law 919 = .ok (.iaload, 1) := by decide +kernel
theorem dL_law_920 : decode cL_law 920 = .ok (.invokevirtual 119, 3) := by decide +kernel
theorem dL_law_923 : decode cL_law 923 = .ok (.if_icmp .eq 57, 3) := by decide +kernel
theorem dL_law_926 : decode cL_law 926 = .ok (.iconst 0, 1) := by decide +kernel
theorem dL_law_927 : decode cL_law 927 = .ok (.ireturn, 1) := by decide +kernel
theorem dL_law_928 : decode cL_law 928 = .ok (.aload_n 1, 1) := by decide +kernel
theorem dL_law_929 : decode cL_law 929 = .ok (.invokevirtual 120, 3) := by decide +kernel
theorem dL_law_932 : decode cL_law 932 = .ok (.aload_n 2, 1) := by decide +kernel
theorem dL_law_933 : decode cL_law 933 = .ok (.invokevirtual 123, 3) := by decide +kernel
theorem dL_law_936 : decode cL_law 936 = .ok (.if_icmp .eq 44, 3) := by decide +kernel
theorem dL_law_939 : decode cL_law 939 = .ok (.iconst 0, 1) := by decide +kernel
theorem dL_law_940 : decode cL_law 940 = .ok (.ireturn, 1) := by decide +kernel
theorem dL_law_941 : decode cL_law 941 = .ok (.aload_n 1, 1) := by decide +kernel
theorem dL_law_942 : decode cL_law 942 = .ok (.invokevirtual 124, 3) := by decide +kernel
theorem dL_law_945 : decode cL_law 945 = .ok (.aload_n 2, 1) := by decide +kernel
theorem dL_law_946 : decode cL_law 946 = .ok (.invokevirtual 127, 3) := by decide +kernel
theorem dL_law_949 : decode cL_law 949 = .ok (.if_icmp .eq 31, 3) := by decide +kernel
theorem dL_law_952 : decode cL_law 952 = .ok (.iconst 0, 1) := by decide +kernel
theorem dL_law_953 : decode cL_law 953 = .ok (.ireturn, 1) := by decide +kernel
theorem dL_law_954 : decode cL_law 954 = .ok (.aload_n 1, 1) := by decide +kernel
theorem dL_law_955 : decode cL_law 955 = .ok (.invokevirtual 128, 3) := by decide +kernel
theorem dL_law_958 : decode cL_law 958 = .ok (.aload_n 2, 1) := by decide +kernel
theorem dL_law_959 : decode cL_law 959 = .ok (.invokevirtual 131, 3) := by decide +kernel
theorem dL_law_962 : decode cL_law 962 = .ok (.if_icmp .eq 18, 3) := by decide +kernel
theorem dL_law_965 : decode cL_law 965 = .ok (.iconst 0, 1) := by decide +kernel
theorem dL_law_966 : decode cL_law 966 = .ok (.ireturn, 1) := by decide +kernel
theorem dL_law_967 : decode cL_law 967 = .ok (.aload_n 1, 1) := by decide +kernel
theorem dL_law_968 : decode cL_law 968 = .ok (.invokevirtual 132, 3) := by decide +kernel
theorem dL_law_971 : decode cL_law 971 = .ok (.aload_n 2, 1) := by decide +kernel
theorem dL_law_972 : decode cL_law 972 = .ok (.invokevirtual 135, 3) := by decide +kernel
theorem dL_law_975 : decode cL_law 975 = .ok (.if_icmp .eq 5, 3) := by decide +kernel
theorem dL_law_978 : decode cL_law 978 = .ok (.iconst 0, 1) := by decide +kernel
theorem dL_law_979 : decode cL_law 979 = .ok (.ireturn, 1) := by decide +kernel
theorem dL_law_980 : decode cL_law 980 = .ok (.iinc 3 4, 3) := by decide +kernel
theorem dL_law_983 : decode cL_law 983 = .ok (.goto (-965), 3) := by decide +kernel
theorem dL_law_986 : decode cL_law 986 = .ok (.iconst 1, 1) := by decide +kernel
theorem dL_law_987 : decode cL_law 987 = .ok (.ireturn, 1) := by decide +kernel
end
section
/-! ===== the abstract world: cells by their numbers behind the start's heap; ints and references apart ===== -/
abbrev Mm : Type := Nat → Nat → Int32
/-- how many cells; of what kind each is; the references in them -/
abbrev Sx : Type := Nat × (Nat → Nat) × (Nat → Nat → Option Nat)
/-- the start's heap, the classes' numbers and slots, the array classes of int, Rick, Yard, int[] -/
abbrev Ev : Type := Heap × va_G × ClassId × ClassId × ClassId × ClassId × (Nat → Nat) × (Nat → Nat)
abbrev Cx : Type := Program × Launch × Jvm.Env × Room × State × MethodId × Array Value × List Frame × Method × Code × (State → Prop) × Ev
abbrev xp (X : Cx) : Program := X.1
abbrev xl (X : Cx) : Launch := X.2.1
abbrev xe (X : Cx) : Jvm.Env := X.2.2.1
abbrev xR (X : Cx) : Room := X.2.2.2.1
abbrev xs (X : Cx) : State := X.2.2.2.2.1
abbrev xm (X : Cx) : MethodId := X.2.2.2.2.2.1
abbrev xa (X : Cx) : Array Value := X.2.2.2.2.2.2.1
abbrev xb (X : Cx) : List Frame := X.2.2.2.2.2.2.2.1
abbrev xM (X : Cx) : Method := X.2.2.2.2.2.2.2.2.1
abbrev xc (X : Cx) : Code := X.2.2.2.2.2.2.2.2.2.1
abbrev xQ (X : Cx) : State → Prop := X.2.2.2.2.2.2.2.2.2.2.1
abbrev xE (X : Cx) : Ev := X.2.2.2.2.2.2.2.2.2.2.2
/-- a method: its name, its code, its locals, what it returns -/
abbrev Yd : Type := MethodName × ByteArray × Nat × Option FieldType
def wr (I : Mm) (a j : Nat) (v : Int32) : Mm := fun b k => if b = a ∧ k = j then v else I b k
/-- how many fields a class has -/
def nfs (c : Nat) : Nat := match c with
  | 0 => 4
  | 1 => 5
  | 2 => 2
  | 3 => 8
  | 4 => 11
  | 5 => 22
  | _ => 0
/-- is a field a reference -/
def isR (c j : Nat) : Bool := match c with
  | 0 => decide (j < 2)
  | 1 => decide (j < 3)
  | 2 => decide (j < 1)
  | 3 => decide (j < 1)
  | 4 => [0, 1, 3, 6, 7, 8].contains j
  | 5 => [0, 1, 2, 3, 9, 11, 12, 20].contains j
  | _ => false
def rvE (E : Ev) (o : Option Nat) : Value := va_rf (o.map (fun k => E.1.size + k))
def fsE (E : Ev) (S : Sx) (I : Mm) (k c : Nat) : List Value := (List.range (nfs c)).map fun j => if isR c j then rvE E (S.2.2 k j) else .int (I k j)
def rowE (E : Ev) (S : Sx) (k : Nat) : Nat → Option Nat := fun j => (S.2.2 k j).map (fun k => E.1.size + k)
def cellE (E : Ev) (S : Sx) (I : Mm) (k : Nat) : va_E :=
  if S.2.1 k < 6 then .inr (S.2.1 k, fsE E S I k (S.2.1 k))
  else if S.2.1 k = 6 then .inl (E.2.2.2.1, 3, .inr (.inr (.inr (.inr (rowE E S k)))))
  else if S.2.1 k = 7 then .inl (E.2.2.2.2.1, 9, .inr (.inr (.inr (.inr (rowE E S k)))))
  else if S.2.1 k = 8 then .inl (E.2.2.2.2.2.1, 8, .inr (.inr (.inr (.inr (rowE E S k)))))
  else .inl (E.2.2.1, S.2.1 k - 10, .inl (I k))
def wsE (E : Ev) (S : Sx) (I : Mm) : va_W := (List.range S.1).map fun k => (E.1.size + k, cellE E S I k)
def tyl (E : Ev) : List (ClassId × FieldType) := [(E.2.2.1, .int), (E.2.2.2.1, .object "LeaningRicks$Rick"), (E.2.2.2.2.1, .object "LeaningRicks$Yard"), (E.2.2.2.2.2.1, .array .int)]
def Fr (E : Ev) : Nat → Prop := fun q => E.1.size ≤ q
/-- the heap is the world -/
def RepH (E : Ev) (S : Sx) (I : Mm) (H : Heap) : Prop := va_P E.2.1 vwCl (wsE E S I) H ∧ H.size = E.1.size + S.1 ∧ (∀ q, q < E.1.size → H[q]? = E.1[q]?) ∧ ∀ a, S.1 ≤ a → S.2.1 a = 9
/-- links between nest mates -/
def isNw : Cond → Bool
  | .fieldLinkNest .. => true
  | .methodLinkNest .. => true
  | _ => false
def lw_nest : List Cond := lw_tbl.filter isNw
theorem nw_mem {w : Cond} (k : Nat) (h : lw_tbl[k]? = some w) (g : isNw w = true) : w ∈ lw_nest := List.mem_filter.mpr ⟨List.mem_of_getElem? h, g⟩
/-- what else of the tables and of the old cells a method may use -/
def NW (E : Ev) (U : State) : Prop := (∀ w ∈ lw_nest, va_Nw w U) ∧ va_AO "LeaningRicks$Rick" U ∧ va_AO "LeaningRicks$Yard" U ∧ vk_R "LeaningRicksModel" 250 "+-=>%" (E.2.2.2.2.2.2.1 0) U ∧ vk_S 1 [5] [[43, 45, 61, 62, 37]] E.2.2.2.2.2.2.1 E.2.2.2.2.2.2.2 (Fr E) U E.1 ∧ va_Z "java/lang/String" "COMPACT_STRINGS" "Z" (.int 1) (Fr E) U E.1
theorem NW.same {E : Ev} {u U : State} (h : u.vm = U.vm) (q : NW E u) : NW E U := by
  obtain ⟨h1, h2, h3, h4, h5, h6⟩ := q
  have ha : u.vm.Alike U.vm := by rw [h]; exact Vm.Alike.refl _
  refine ⟨fun w hw => ?_, h2.moved ha, h3.moved ha, h4.same h.symm, h5.moved ha, h6.moved ha⟩
  have hq := (List.mem_filter.mp hw).2
  cases w <;> first | (cases hq; done) | exact va_Nw.same rfl h (h1 _ hw)
theorem NW.warm {E : Ev} {s U : State} (hW : s.WarmedH U.vm) (q : NW E s) : NW E U := by
  obtain ⟨h1, h2, h3, h4, h5, h6⟩ := q
  have ha : s.vm.Alike U.vm := hW.alike
  refine ⟨fun w hw => ?_, h2.moved ha, h3.moved ha, h4.warm hW, h5.moved ha, h6.moved ha⟩
  have hq := (List.mem_filter.mp hw).2
  cases w <;> first | (cases hq; done) | exact va_Nw.warmF hW (h1 _ hw) | exact va_Nw.warmM hW (h1 _ hw)
def RepU (E : Ev) (S : Sx) (I : Mm) (U : State) : Prop := RepH E S I U.heap ∧ va_K E.2.1 vwCl (tyl E) U ∧ NW E U
theorem ws_at {E : Ev} {S : Sx} {I : Mm} {k : Nat} (h : k < S.1) : (wsE E S I)[k]? = some (E.1.size + k, cellE E S I k) := by
  simp [wsE, h]
theorem ws_D (E : Ev) (S : Sx) (I : Mm) : va_D (Fr E) (wsE E S I) := by
  have key : ∀ (i : Nat) (p : Nat × va_E), (wsE E S I)[i]? = some p → p.1 = E.1.size + i := by
    intro i p h
    simp only [wsE, List.getElem?_map] at h
    by_cases hi : i < S.1
    · rw [List.getElem?_range hi] at h
      cases h
      rfl
    · rw [List.getElem?_eq_none (by rw [List.length_range]; omega)] at h
      cases h
  refine ⟨fun i j p q hi hj e => ?_, fun k q hk => ?_⟩
  · have := key i p hi
    have := key j q hj
    omega
  · show E.1.size ≤ q.1
    rw [key k q hk]
    omega
theorem ws_set {E : Ev} {S : Sx} {I : Mm} {k j : Nat} {v : Int32} {e : va_E} (hk : k < S.1) (he : e = cellE E S (wr I k j v) k) : (wsE E S I).set k (E.1.size + k, e) = wsE E S (wr I k j v) := by
  apply List.ext_getElem?
  intro i
  by_cases hi : i = k
  · subst hi
    rw [List.getElem?_set_self (by simp [wsE, hk]), ws_at hk, he]
  · rw [List.getElem?_set_ne (Ne.symm hi)]
    by_cases h : i < S.1
    · rw [ws_at h, ws_at h]
      have e1 : ∀ j', wr I k j v i j' = I i j' := fun j' => by simp [wr, hi]
      have e2 : (wr I k j v) i = I i := funext e1
      simp only [cellE, fsE, e1, e2]
    · rw [List.getElem?_eq_none (by simp [wsE]; omega), List.getElem?_eq_none (by simp [wsE]; omega)]
/-- the locals: what each holds, or nothing that is known -/
def al : Nat → List (Option Value) → List (Nat × Value)
  | _, [] => []
  | i, none :: l => al (i + 1) l
  | i, some v :: l => (i, v) :: al (i + 1) l
theorem al_mem : ∀ (l : List (Option Value)) (i : Nat) (q : Nat × Value), q ∈ al i l ↔ i ≤ q.1 ∧ l[q.1 - i]? = some (some q.2)
  | [], i, q => by simp [al]
  | none :: l, i, q => by
    rw [al, al_mem l (i + 1) q]
    constructor
    · rintro ⟨h1, h2⟩
      refine ⟨by omega, ?_⟩
      rw [show q.1 - i = (q.1 - (i + 1)) + 1 by omega, List.getElem?_cons_succ]
      exact h2
    · rintro ⟨h1, h2⟩
      by_cases h : q.1 = i
      · rw [h, Nat.sub_self] at h2
        simp at h2
      · refine ⟨by omega, ?_⟩
        rw [show q.1 - i = (q.1 - (i + 1)) + 1 by omega, List.getElem?_cons_succ] at h2
        exact h2
  | some v :: l, i, q => by
    rw [al, List.mem_cons, al_mem l (i + 1) q]
    constructor
    · rintro (rfl | ⟨h1, h2⟩)
      · simp
      · refine ⟨by omega, ?_⟩
        rw [show q.1 - i = (q.1 - (i + 1)) + 1 by omega, List.getElem?_cons_succ]
        exact h2
    · rintro ⟨h1, h2⟩
      by_cases h : q.1 = i
      · rw [h, Nat.sub_self] at h2
        simp at h2
        left
        exact Prod.ext h h2.symm
      · right
        refine ⟨by omega, ?_⟩
        rw [show q.1 - i = (q.1 - (i + 1)) + 1 by omega, List.getElem?_cons_succ] at h2
        exact h2
theorem al_get {ls : List (Option Value)} {lsa : Array Slot} {nL i : Nat} {v : Value} (h : lv_has lsa nL (al 0 ls)) (hv : ls[i]? = some (some v)) : lsa[i]? = some (.val v) :=
  h.2.2 (i, v) ((al_mem ls 0 (i, v)).mpr ⟨Nat.zero_le _, by simpa using hv⟩)
/-- may a value be laid at i: nothing wide stands just ahead, and of a wide one the next is free -/
def okst (ls : List (Option Value)) (i : Nat) (v : Value) : Bool :=
  (match i with
    | 0 => true
    | k + 1 => match ls[k]? with
      | some (some w) => !(w.category == 2)
      | _ => true) && (!(v.category == 2) || (match ls[i + 1]? with
        | some none => true
        | _ => false))
theorem al_set1 {ls : List (Option Value)} {lsa : Array Slot} {nL i : Nat} {v : Value} (hi : i < ls.length) (h : lv_has lsa nL ((i, v) :: (al 0 ls).filter (fun q => !(q.1 == i) && !(q.1 + 1 == i && q.2.category == 2)))) (ok : okst ls i v = true) : lv_has lsa nL (al 0 (ls.set i (some v))) := by
  refine ⟨h.1, h.2.1, fun q hq => h.2.2 q ?_⟩
  obtain ⟨-, h2⟩ := (al_mem _ _ _).mp hq
  rw [Nat.sub_zero] at h2
  by_cases e : q.1 = i
  · rw [e, List.getElem?_set_self hi] at h2
    simp at h2
    exact List.mem_cons.mpr (Or.inl (Prod.ext e h2.symm))
  · rw [List.getElem?_set_ne (Ne.symm e)] at h2
    refine List.mem_cons.mpr (Or.inr (List.mem_filter.mpr ⟨(al_mem _ _ _).mpr ⟨Nat.zero_le _, by simpa using h2⟩, ?_⟩))
    simp only [Bool.and_eq_true, Bool.not_eq_true', beq_eq_false_iff_ne, ne_eq, Bool.and_eq_false_iff]
    refine ⟨e, ?_⟩
    by_cases e2 : q.1 + 1 = i
    · right
      subst e2
      have := (Bool.and_eq_true _ _ ▸ ok).1
      simp only [h2] at this
      simpa using this
    · exact Or.inl e2
theorem al_set2 {ls : List (Option Value)} {lsa : Array Slot} {nL i : Nat} {v : Value} (hi : i < ls.length) (hc : v.category = 2) (h : lv_has lsa nL ((i, v) :: (al 0 ls).filter (fun q => !(q.1 == i) && (!(q.1 == i + 1) && !(q.1 + 1 == i && q.2.category == 2))))) (ok : okst ls i v = true) : lv_has lsa nL (al 0 (ls.set i (some v))) := by
  refine ⟨h.1, h.2.1, fun q hq => h.2.2 q ?_⟩
  obtain ⟨-, h2⟩ := (al_mem _ _ _).mp hq
  rw [Nat.sub_zero] at h2
  by_cases e : q.1 = i
  · rw [e, List.getElem?_set_self hi] at h2
    simp at h2
    exact List.mem_cons.mpr (Or.inl (Prod.ext e h2.symm))
  · rw [List.getElem?_set_ne (Ne.symm e)] at h2
    refine List.mem_cons.mpr (Or.inr (List.mem_filter.mpr ⟨(al_mem _ _ _).mpr ⟨Nat.zero_le _, by simpa using h2⟩, ?_⟩))
    simp only [Bool.and_eq_true, Bool.not_eq_true', beq_eq_false_iff_ne, ne_eq, Bool.and_eq_false_iff]
    refine ⟨e, ?_, ?_⟩
    · intro e3
      have := (Bool.and_eq_true _ _ ▸ ok).2
      rw [← e3] at this
      simp [h2, hc] at this
    · by_cases e2 : q.1 + 1 = i
      · right
        subst e2
        have := (Bool.and_eq_true _ _ ▸ ok).1
        simp only [h2] at this
        simpa using this
      · exact Or.inl e2
/-- some of the locals, the others forgotten -/
def mk_ : List Bool → List (Option Value) → List (Option Value)
  | true :: b, v :: l => v :: mk_ b l
  | false :: b, _ :: l => none :: mk_ b l
  | _, _ => []
theorem mk_get : ∀ (b : List Bool) (l : List (Option Value)) (i : Nat) (v : Value), (mk_ b l)[i]? = some (some v) → l[i]? = some (some v)
  | [], _, i, v, h => by simp [mk_] at h
  | true :: b, [], i, v, h => by simp [mk_] at h
  | false :: b, [], i, v, h => by simp [mk_] at h
  | true :: b, x :: l, 0, v, h => by simpa [mk_] using h
  | true :: b, x :: l, i + 1, v, h => by
    simp only [mk_, List.getElem?_cons_succ] at h ⊢
    exact mk_get b l i v h
  | false :: b, x :: l, 0, v, h => by simp [mk_] at h
  | false :: b, x :: l, i + 1, v, h => by
    simp only [mk_, List.getElem?_cons_succ] at h ⊢
    exact mk_get b l i v h
/-- the words that every method shares -/
def lw_good : List Cond := lw_tbl.filter goodWord
theorem gw_mem {w : Cond} (k : Nat) (h : lw_tbl[k]? = some w) (g : goodWord w = true) : w ∈ lw_good := List.mem_filter.mpr ⟨List.mem_of_getElem? h, g⟩
theorem gw_tbl {w : Cond} (h : w ∈ lw_good) : w ∈ lw_tbl := (List.mem_filter.mp h).1
def GW (y : Yd) : List Cond := .code y.1 y.2.1 y.2.2.1 y.2.2.2 :: lw_good
theorem gw_in {y : Yd} (h : Cond.code y.1 y.2.1 y.2.2.1 y.2.2.2 ∈ lw_tbl) : GoodIn lw_tbl (GW y) := by
  intro w hw
  rcases List.mem_cons.mp hw with rfl | hw
  · exact ⟨h, Or.inl rfl⟩
  · exact ⟨gw_tbl hw, good_of_word (List.mem_filter.mp hw).2⟩
/-- the method's own context -/
def CtxOK (X : Cx) (y : Yd) : Prop :=
  (xp X).tables.exec = Jvm.exec ∧ (xc X).code = y.2.1 ∧ (xc X).maxLocals = y.2.2.1 ∧ (xs X).vm.findClass y.1.cls = some (xm X).cls ∧ (∀ w ∈ lw_good, w.before (xa X) (xs X) = true) ∧ va_K (xE X).2.1 vwCl (tyl (xE X)) (xs X) ∧ (xM X).sig.returnType = y.2.2.2 ∧ (xM X).locks = false ∧ (xM X).name = y.1.name ∧ (xE X).1.size ≤ (xs X).heap.size ∧ NW (xE X) (xs X)
/-- at pc, with the locals ls and the stack st, the world (S, I), k cells of n slots new since the method began: it comes to its end as it should -/
def WM (X : Cx) (y : Yd) (pc : Nat) (ls : List (Option Value)) (st : List Value) (S : Sx) (I : Mm) (k n : Nat) : Prop :=
  ∀ (H : Heap) (locs : List Loc) (lsa : Array Slot), RepH (xE X) S I H → va_S (Fr (xE X)) (xs X).heap H locs → lv_has lsa y.2.2.1 (al 0 ls) →
    W (xp X) (xl X) (xe X) (xR X) (xs X) (xm X) (xa X) (xb X) (xM X) (xc X) H locs k n (xQ X) (F0 (xm X) pc lsa st)
section RL
variable {X : Cx} {y : Yd} {pc : Nat} {ls ls' : List (Option Value)} {st : List Value} {S : Sx} {I : Mm} {k n : Nat}
theorem s_weak (b : List Bool) (e : mk_ b ls = ls') (K : WM X y pc ls' st S I k n) : WM X y pc ls st S I k n := by
  intro H locs lsa r s h
  refine K H locs lsa r s ⟨h.1, h.2.1, fun q hq => ?_⟩
  obtain ⟨h1, h2⟩ := (al_mem _ _ _).mp hq
  rw [← e] at h2
  exact h.2.2 q ((al_mem _ _ _).mpr ⟨h1, mk_get b ls _ _ h2⟩)
theorem s_pc {pc' : Nat} (e : pc = pc') (K : WM X y pc' ls st S I k n) : WM X y pc ls st S I k n := e ▸ K
theorem s_iconst {z : Int} {v : Int32} (C : CtxOK X y) (d : decode y.2.1 pc = .ok (.iconst z, 1)) (hv : Int32.ofInt z = v) (K : WM X y (pc + 1) ls (.int v :: st) S I k n) : WM X y pc ls st S I k n := fun H locs lsa r s l => lv_iconst C.1 C.2.1 d hv (K H locs lsa r s l)
theorem s_bipush {z : Int} {v : Int32} (C : CtxOK X y) (d : decode y.2.1 pc = .ok (.bipush z, 2)) (hv : (Int8.ofInt z).toInt32 = v) (K : WM X y (pc + 2) ls (.int v :: st) S I k n) : WM X y pc ls st S I k n := fun H locs lsa r s l => lv_bipush C.1 C.2.1 d hv (K H locs lsa r s l)
theorem s_sipush {z : Int} {v : Int32} (C : CtxOK X y) (d : decode y.2.1 pc = .ok (.sipush z, 3)) (hv : (Int16.ofInt z).toInt32 = v) (K : WM X y (pc + 3) ls (.int v :: st) S I k n) : WM X y pc ls st S I k n := fun H locs lsa r s l => lv_sipush C.1 C.2.1 d hv (K H locs lsa r s l)
theorem s_lconst {z : Fin 2} {v : Int64} (C : CtxOK X y) (d : decode y.2.1 pc = .ok (.lconst z, 1)) (hv : Int64.ofNat (z : Nat) = v) (K : WM X y (pc + 1) ls (.long v :: st) S I k n) : WM X y pc ls st S I k n := fun H locs lsa r s l => lv_lconst C.1 C.2.1 d hv (K H locs lsa r s l)
theorem s_fconst0 (C : CtxOK X y) (d : decode y.2.1 pc = .ok (.fconst 0, 1)) (K : WM X y (pc + 1) ls (.float FP.fconst0 :: st) S I k n) : WM X y pc ls st S I k n := fun H locs lsa r s l => lv_fconst0 C.1 C.2.1 d (K H locs lsa r s l)
theorem s_fconst1 (C : CtxOK X y) (d : decode y.2.1 pc = .ok (.fconst 1, 1)) (K : WM X y (pc + 1) ls (.float FP.fconst1 :: st) S I k n) : WM X y pc ls st S I k n := fun H locs lsa r s l => lv_fconst1 C.1 C.2.1 d (K H locs lsa r s l)
theorem s_fconst2 (C : CtxOK X y) (d : decode y.2.1 pc = .ok (.fconst 2, 1)) (K : WM X y (pc + 1) ls (.float FP.fconst2 :: st) S I k n) : WM X y pc ls st S I k n := fun H locs lsa r s l => lv_fconst2 C.1 C.2.1 d (K H locs lsa r s l)
theorem s_dconst0 (C : CtxOK X y) (d : decode y.2.1 pc = .ok (.dconst 0, 1)) (K : WM X y (pc + 1) ls (.double FP.dconst0 :: st) S I k n) : WM X y pc ls st S I k n := fun H locs lsa r s l => lv_dconst0 C.1 C.2.1 d (K H locs lsa r s l)
theorem s_dconst1 (C : CtxOK X y) (d : decode y.2.1 pc = .ok (.dconst 1, 1)) (K : WM X y (pc + 1) ls (.double FP.dconst1 :: st) S I k n) : WM X y pc ls st S I k n := fun H locs lsa r s l => lv_dconst1 C.1 C.2.1 d (K H locs lsa r s l)
theorem s_null (C : CtxOK X y) (d : decode y.2.1 pc = .ok (.aconst_null, 1)) (K : WM X y (pc + 1) ls (.null :: st) S I k n) : WM X y pc ls st S I k n := fun H locs lsa r s l => lv_null C.1 C.2.1 d (K H locs lsa r s l)
theorem s_ldc {ix : Nat} {v : Int32} (C : CtxOK X y) (d : decode y.2.1 pc = .ok (.ldc ix, 2)) (hw : Cond.constant y.1.cls ix v ∈ lw_good) (K : WM X y (pc + 2) ls (.int v :: st) S I k n) : WM X y pc ls st S I k n := fun H locs lsa r s l => lv_ldc C.1 C.2.1 C.2.2.2.1 (C.2.2.2.2.1 _ hw) d (K H locs lsa r s l)
theorem s_ldcw {ix : Nat} {v : Int32} (C : CtxOK X y) (d : decode y.2.1 pc = .ok (.ldc_w ix, 3)) (hw : Cond.constant y.1.cls ix v ∈ lw_good) (K : WM X y (pc + 3) ls (.int v :: st) S I k n) : WM X y pc ls st S I k n := fun H locs lsa r s l => lv_ldcw C.1 C.2.1 C.2.2.2.1 (C.2.2.2.2.1 _ hw) d (K H locs lsa r s l)
theorem s_ldc2 {ix : Nat} {v : Int64} (C : CtxOK X y) (d : decode y.2.1 pc = .ok (.ldc2_w ix, 3)) (hw : Cond.constantLong y.1.cls ix v ∈ lw_good) (K : WM X y (pc + 3) ls (.long v :: st) S I k n) : WM X y pc ls st S I k n := fun H locs lsa r s l => lv_ldc2 C.1 C.2.1 C.2.2.2.1 (C.2.2.2.2.1 _ hw) d (K H locs lsa r s l)
theorem s_ldcf {ix : Nat} {v : UInt32} (C : CtxOK X y) (d : decode y.2.1 pc = .ok (.ldc ix, 2)) (hw : Cond.constantFloat y.1.cls ix v ∈ lw_good) (K : WM X y (pc + 2) ls (.float v :: st) S I k n) : WM X y pc ls st S I k n := fun H locs lsa r s l => lv_ldcf C.1 C.2.1 C.2.2.2.1 (C.2.2.2.2.1 _ hw) d (K H locs lsa r s l)
theorem s_ldcd {ix : Nat} {v : UInt64} (C : CtxOK X y) (d : decode y.2.1 pc = .ok (.ldc2_w ix, 3)) (hw : Cond.constantDouble y.1.cls ix v ∈ lw_good) (K : WM X y (pc + 3) ls (.double v :: st) S I k n) : WM X y pc ls st S I k n := fun H locs lsa r s l => lv_ldc2d C.1 C.2.1 C.2.2.2.1 (C.2.2.2.2.1 _ hw) d (K H locs lsa r s l)
theorem s_iload_n {i : Nat} {q : Fin 4} {v : Int32} (C : CtxOK X y) (d : decode y.2.1 pc = .ok (.iload_n q, 1)) (hi : (q : Nat) = i) (hl : ls[i]? = some (some (.int v))) (K : WM X y (pc + 1) ls (.int v :: st) S I k n) : WM X y pc ls st S I k n := fun H locs lsa r s l => lv_iload_n C.1 C.2.1 d hi (al_get l hl) (K H locs lsa r s l)
theorem s_iload {i : Nat} {v : Int32} (C : CtxOK X y) (d : decode y.2.1 pc = .ok (.iload i, 2)) (hl : ls[i]? = some (some (.int v))) (K : WM X y (pc + 2) ls (.int v :: st) S I k n) : WM X y pc ls st S I k n := fun H locs lsa r s l => lv_iload C.1 C.2.1 d (al_get l hl) (K H locs lsa r s l)
theorem s_istore_n {i : Nat} {q : Fin 4} {v : Int32} (C : CtxOK X y) (d : decode y.2.1 pc = .ok (.istore_n q, 1)) (hi : (q : Nat) = i) (hi2 : i < y.2.2.1) (hi3 : i < ls.length) (ok : okst ls i (.int v) = true) (e : ls.set i (some (.int v)) = ls') (K : WM X y (pc + 1) ls' st S I k n) : WM X y pc ls (.int v :: st) S I k n := fun H locs lsa r s l => lv_istore_n C.1 C.2.1 d hi l hi2 rfl (fun lsa2 l2 => K H locs lsa2 r s (e ▸ al_set1 hi3 l2 ok))
theorem s_istore {i : Nat} {v : Int32} (C : CtxOK X y) (d : decode y.2.1 pc = .ok (.istore i, 2)) (hi2 : i < y.2.2.1) (hi3 : i < ls.length) (ok : okst ls i (.int v) = true) (e : ls.set i (some (.int v)) = ls') (K : WM X y (pc + 2) ls' st S I k n) : WM X y pc ls (.int v :: st) S I k n := fun H locs lsa r s l => lv_istore C.1 C.2.1 d l hi2 rfl (fun lsa2 l2 => K H locs lsa2 r s (e ▸ al_set1 hi3 l2 ok))
theorem s_lload_n {i : Nat} {q : Fin 4} {v : Int64} (C : CtxOK X y) (d : decode y.2.1 pc = .ok (.lload_n q, 1)) (hi : (q : Nat) = i) (hl : ls[i]? = some (some (.long v))) (K : WM X y (pc + 1) ls (.long v :: st) S I k n) : WM X y pc ls st S I k n := fun H locs lsa r s l => lv_lload_n C.1 C.2.1 d hi (al_get l hl) (K H locs lsa r s l)
theorem s_lload {i : Nat} {v : Int64} (C : CtxOK X y) (d : decode y.2.1 pc = .ok (.lload i, 2)) (hl : ls[i]? = some (some (.long v))) (K : WM X y (pc + 2) ls (.long v :: st) S I k n) : WM X y pc ls st S I k n := fun H locs lsa r s l => lv_lload C.1 C.2.1 d (al_get l hl) (K H locs lsa r s l)
theorem s_lstore_n {i : Nat} {q : Fin 4} {v : Int64} (C : CtxOK X y) (d : decode y.2.1 pc = .ok (.lstore_n q, 1)) (hi : (q : Nat) = i) (hi2 : i + 1 < y.2.2.1) (hi3 : i < ls.length) (ok : okst ls i (.long v) = true) (e : ls.set i (some (.long v)) = ls') (K : WM X y (pc + 1) ls' st S I k n) : WM X y pc ls (.long v :: st) S I k n := fun H locs lsa r s l => lv_lstore_n C.1 C.2.1 d hi l hi2 rfl (fun lsa2 l2 => K H locs lsa2 r s (e ▸ al_set2 hi3 rfl l2 ok))
theorem s_lstore {i : Nat} {v : Int64} (C : CtxOK X y) (d : decode y.2.1 pc = .ok (.lstore i, 2)) (hi2 : i + 1 < y.2.2.1) (hi3 : i < ls.length) (ok : okst ls i (.long v) = true) (e : ls.set i (some (.long v)) = ls') (K : WM X y (pc + 2) ls' st S I k n) : WM X y pc ls (.long v :: st) S I k n := fun H locs lsa r s l => lv_lstore C.1 C.2.1 d l hi2 rfl (fun lsa2 l2 => K H locs lsa2 r s (e ▸ al_set2 hi3 rfl l2 ok))
theorem s_fload_n {i : Nat} {q : Fin 4} {v : UInt32} (C : CtxOK X y) (d : decode y.2.1 pc = .ok (.fload_n q, 1)) (hi : (q : Nat) = i) (hl : ls[i]? = some (some (.float v))) (K : WM X y (pc + 1) ls (.float v :: st) S I k n) : WM X y pc ls st S I k n := fun H locs lsa r s l => lv_fload_n C.1 C.2.1 d hi (al_get l hl) (K H locs lsa r s l)
theorem s_fload {i : Nat} {v : UInt32} (C : CtxOK X y) (d : decode y.2.1 pc = .ok (.fload i, 2)) (hl : ls[i]? = some (some (.float v))) (K : WM X y (pc + 2) ls (.float v :: st) S I k n) : WM X y pc ls st S I k n := fun H locs lsa r s l => lv_fload C.1 C.2.1 d (al_get l hl) (K H locs lsa r s l)
theorem s_fstore_n {i : Nat} {q : Fin 4} {v : UInt32} (C : CtxOK X y) (d : decode y.2.1 pc = .ok (.fstore_n q, 1)) (hi : (q : Nat) = i) (hi2 : i < y.2.2.1) (hi3 : i < ls.length) (ok : okst ls i (.float v) = true) (e : ls.set i (some (.float v)) = ls') (K : WM X y (pc + 1) ls' st S I k n) : WM X y pc ls (.float v :: st) S I k n := fun H locs lsa r s l => lv_fstore_n C.1 C.2.1 d hi l hi2 rfl (fun lsa2 l2 => K H locs lsa2 r s (e ▸ al_set1 hi3 l2 ok))
theorem s_fstore {i : Nat} {v : UInt32} (C : CtxOK X y) (d : decode y.2.1 pc = .ok (.fstore i, 2)) (hi2 : i < y.2.2.1) (hi3 : i < ls.length) (ok : okst ls i (.float v) = true) (e : ls.set i (some (.float v)) = ls') (K : WM X y (pc + 2) ls' st S I k n) : WM X y pc ls (.float v :: st) S I k n := fun H locs lsa r s l => lv_fstore C.1 C.2.1 d l hi2 rfl (fun lsa2 l2 => K H locs lsa2 r s (e ▸ al_set1 hi3 l2 ok))
theorem s_dload_n {i : Nat} {q : Fin 4} {v : UInt64} (C : CtxOK X y) (d : decode y.2.1 pc = .ok (.dload_n q, 1)) (hi : (q : Nat) = i) (hl : ls[i]? = some (some (.double v))) (K : WM X y (pc + 1) ls (.double v :: st) S I k n) : WM X y pc ls st S I k n := fun H locs lsa r s l => lv_dload_n C.1 C.2.1 d hi (al_get l hl) (K H locs lsa r s l)
theorem s_dload {i : Nat} {v : UInt64} (C : CtxOK X y) (d : decode y.2.1 pc = .ok (.dload i, 2)) (hl : ls[i]? = some (some (.double v))) (K : WM X y (pc + 2) ls (.double v :: st) S I k n) : WM X y pc ls st S I k n := fun H locs lsa r s l => lv_dload C.1 C.2.1 d (al_get l hl) (K H locs lsa r s l)
theorem s_dstore_n {i : Nat} {q : Fin 4} {v : UInt64} (C : CtxOK X y) (d : decode y.2.1 pc = .ok (.dstore_n q, 1)) (hi : (q : Nat) = i) (hi2 : i + 1 < y.2.2.1) (hi3 : i < ls.length) (ok : okst ls i (.double v) = true) (e : ls.set i (some (.double v)) = ls') (K : WM X y (pc + 1) ls' st S I k n) : WM X y pc ls (.double v :: st) S I k n := fun H locs lsa r s l => lv_dstore_n C.1 C.2.1 d hi l hi2 rfl (fun lsa2 l2 => K H locs lsa2 r s (e ▸ al_set2 hi3 rfl l2 ok))
theorem s_dstore {i : Nat} {v : UInt64} (C : CtxOK X y) (d : decode y.2.1 pc = .ok (.dstore i, 2)) (hi2 : i + 1 < y.2.2.1) (hi3 : i < ls.length) (ok : okst ls i (.double v) = true) (e : ls.set i (some (.double v)) = ls') (K : WM X y (pc + 2) ls' st S I k n) : WM X y pc ls (.double v :: st) S I k n := fun H locs lsa r s l => lv_dstore C.1 C.2.1 d l hi2 rfl (fun lsa2 l2 => K H locs lsa2 r s (e ▸ al_set2 hi3 rfl l2 ok))
theorem s_aload_n {i : Nat} {q : Fin 4} {v : Nat} (C : CtxOK X y) (d : decode y.2.1 pc = .ok (.aload_n q, 1)) (hi : (q : Nat) = i) (hl : ls[i]? = some (some (.ref v))) (K : WM X y (pc + 1) ls (.ref v :: st) S I k n) : WM X y pc ls st S I k n := fun H locs lsa r s l => lv_aload_n C.1 C.2.1 d hi (al_get l hl) (K H locs lsa r s l)
theorem s_aload {i : Nat} {v : Nat} (C : CtxOK X y) (d : decode y.2.1 pc = .ok (.aload i, 2)) (hl : ls[i]? = some (some (.ref v))) (K : WM X y (pc + 2) ls (.ref v :: st) S I k n) : WM X y pc ls st S I k n := fun H locs lsa r s l => lv_aload C.1 C.2.1 d (al_get l hl) (K H locs lsa r s l)
theorem s_astore_n {i : Nat} {q : Fin 4} {v : Nat} (C : CtxOK X y) (d : decode y.2.1 pc = .ok (.astore_n q, 1)) (hi : (q : Nat) = i) (hi2 : i < y.2.2.1) (hi3 : i < ls.length) (ok : okst ls i (.ref v) = true) (e : ls.set i (some (.ref v)) = ls') (K : WM X y (pc + 1) ls' st S I k n) : WM X y pc ls (.ref v :: st) S I k n := fun H locs lsa r s l => lv_astore_n C.1 C.2.1 d hi l hi2 rfl (fun lsa2 l2 => K H locs lsa2 r s (e ▸ al_set1 hi3 l2 ok))
theorem s_astore {i : Nat} {v : Nat} (C : CtxOK X y) (d : decode y.2.1 pc = .ok (.astore i, 2)) (hi2 : i < y.2.2.1) (hi3 : i < ls.length) (ok : okst ls i (.ref v) = true) (e : ls.set i (some (.ref v)) = ls') (K : WM X y (pc + 2) ls' st S I k n) : WM X y pc ls (.ref v :: st) S I k n := fun H locs lsa r s l => lv_astore C.1 C.2.1 d l hi2 rfl (fun lsa2 l2 => K H locs lsa2 r s (e ▸ al_set1 hi3 l2 ok))
theorem s_aload_no {i : Nat} {q : Fin 4} {o : Option Nat} (C : CtxOK X y) (d : decode y.2.1 pc = .ok (.aload_n q, 1)) (hi : (q : Nat) = i) (hl : ls[i]? = some (some (rvE (xE X) o))) (K : WM X y (pc + 1) ls (rvE (xE X) o :: st) S I k n) : WM X y pc ls st S I k n := by
  cases o with
  | none => exact fun H locs lsa r s l => lv_aload_nN C.1 C.2.1 d hi (al_get l hl) (K H locs lsa r s l)
  | some x => exact s_aload_n C d hi hl K
theorem s_aload_o {i : Nat} {o : Option Nat} (C : CtxOK X y) (d : decode y.2.1 pc = .ok (.aload i, 2)) (hl : ls[i]? = some (some (rvE (xE X) o))) (K : WM X y (pc + 2) ls (rvE (xE X) o :: st) S I k n) : WM X y pc ls st S I k n := by
  cases o with
  | none => exact fun H locs lsa r s l => lv_aloadN C.1 C.2.1 d (al_get l hl) (K H locs lsa r s l)
  | some x => exact s_aload C d hl K
theorem s_astore_no {i : Nat} {q : Fin 4} {o : Option Nat} (C : CtxOK X y) (d : decode y.2.1 pc = .ok (.astore_n q, 1)) (hi : (q : Nat) = i) (hi2 : i < y.2.2.1) (hi3 : i < ls.length) (ok : okst ls i .null = true) (e : ls.set i (some (rvE (xE X) o)) = ls') (K : WM X y (pc + 1) ls' st S I k n) : WM X y pc ls (rvE (xE X) o :: st) S I k n := by
  cases o with
  | none => exact fun H locs lsa r s l => lv_astore_nN C.1 C.2.1 d hi l hi2 rfl (fun lsa2 l2 => K H locs lsa2 r s (e ▸ al_set1 hi3 l2 ok))
  | some x => exact s_astore_n C d hi hi2 hi3 ok e K
theorem s_astore_o {i : Nat} {o : Option Nat} (C : CtxOK X y) (d : decode y.2.1 pc = .ok (.astore i, 2)) (hi2 : i < y.2.2.1) (hi3 : i < ls.length) (ok : okst ls i .null = true) (e : ls.set i (some (rvE (xE X) o)) = ls') (K : WM X y (pc + 2) ls' st S I k n) : WM X y pc ls (rvE (xE X) o :: st) S I k n := by
  cases o with
  | none => exact fun H locs lsa r s l => lv_astoreN C.1 C.2.1 d l hi2 rfl (fun lsa2 l2 => K H locs lsa2 r s (e ▸ al_set1 hi3 l2 ok))
  | some x => exact s_astore C d hi2 hi3 ok e K
theorem s_ifnonnull {x : Nat} {off : Int} {tgt : Nat} (C : CtxOK X y) (d : decode y.2.1 pc = .ok (.ifnonnull off, 3)) (ht : (pc : Int) + off = (tgt : Int)) (K : WM X y tgt ls st S I k n) : WM X y pc ls (.ref x :: st) S I k n := fun H locs lsa r s l => lv_ifnonnull C.1 C.2.1 d ht (K H locs lsa r s l)
theorem s_ifnonnullN {off : Int} (C : CtxOK X y) (d : decode y.2.1 pc = .ok (.ifnonnull off, 3)) (K : WM X y (pc + 3) ls st S I k n) : WM X y pc ls (.null :: st) S I k n := fun H locs lsa r s l => lv_ifnonnullN C.1 C.2.1 d (K H locs lsa r s l)
theorem s_ifnull {x : Nat} {off : Int} (C : CtxOK X y) (d : decode y.2.1 pc = .ok (.ifnull off, 3)) (K : WM X y (pc + 3) ls st S I k n) : WM X y pc ls (.ref x :: st) S I k n := fun H locs lsa r s l => lv_ifnull C.1 C.2.1 d (K H locs lsa r s l)
theorem s_ifnullN {off : Int} {tgt : Nat} (C : CtxOK X y) (d : decode y.2.1 pc = .ok (.ifnull off, 3)) (ht : (pc : Int) + off = (tgt : Int)) (K : WM X y tgt ls st S I k n) : WM X y pc ls (.null :: st) S I k n := fun H locs lsa r s l => lv_ifnullN C.1 C.2.1 d ht (K H locs lsa r s l)
theorem s_iinc {i : Nat} {z : Int} {x v : Int32} (C : CtxOK X y) (d : decode y.2.1 pc = .ok (.iinc i z, 3)) (hl : ls[i]? = some (some (.int x))) (hi2 : i < y.2.2.1) (hi3 : i < ls.length) (hv : x + Int32.ofInt z = v) (ok : okst ls i (.int v) = true) (e : ls.set i (some (.int v)) = ls') (K : WM X y (pc + 3) ls' st S I k n) : WM X y pc ls st S I k n := by
  intro H locs lsa r s l
  obtain ⟨q, hq⟩ := List.getElem?_of_mem ((al_mem ls 0 (i, .int x)).mpr ⟨Nat.zero_le _, by simpa using hl⟩)
  exact lv_iinc C.1 C.2.1 d l hq hv hi2 rfl (fun lsa2 l2 => K H locs lsa2 r s (e ▸ al_set1 hi3 l2 ok))
theorem s_iadd {a b : Int32} (C : CtxOK X y) (d : decode y.2.1 pc = .ok (.iadd, 1))  (K : WM X y (pc + 1) ls (.int (a + b) :: st) S I k n) : WM X y pc ls (.int b :: .int a :: st) S I k n := fun H locs lsa r s l => lv_iadd C.1 C.2.1 d (K H locs lsa r s l)
theorem s_isub {a b : Int32} (C : CtxOK X y) (d : decode y.2.1 pc = .ok (.isub, 1))  (K : WM X y (pc + 1) ls (.int (a - b) :: st) S I k n) : WM X y pc ls (.int b :: .int a :: st) S I k n := fun H locs lsa r s l => lv_isub C.1 C.2.1 d (K H locs lsa r s l)
theorem s_imul {a b : Int32} (C : CtxOK X y) (d : decode y.2.1 pc = .ok (.imul, 1))  (K : WM X y (pc + 1) ls (.int (a * b) :: st) S I k n) : WM X y pc ls (.int b :: .int a :: st) S I k n := fun H locs lsa r s l => lv_imul C.1 C.2.1 d (K H locs lsa r s l)
theorem s_iand {a b : Int32} (C : CtxOK X y) (d : decode y.2.1 pc = .ok (.iand, 1))  (K : WM X y (pc + 1) ls (.int (a &&& b) :: st) S I k n) : WM X y pc ls (.int b :: .int a :: st) S I k n := fun H locs lsa r s l => lv_iand C.1 C.2.1 d (K H locs lsa r s l)
theorem s_ior {a b : Int32} (C : CtxOK X y) (d : decode y.2.1 pc = .ok (.ior, 1))  (K : WM X y (pc + 1) ls (.int (a ||| b) :: st) S I k n) : WM X y pc ls (.int b :: .int a :: st) S I k n := fun H locs lsa r s l => lv_ior C.1 C.2.1 d (K H locs lsa r s l)
theorem s_ishl {a b : Int32} (C : CtxOK X y) (d : decode y.2.1 pc = .ok (.ishl, 1))  (K : WM X y (pc + 1) ls (.int (a <<< (b &&& 31)) :: st) S I k n) : WM X y pc ls (.int b :: .int a :: st) S I k n := fun H locs lsa r s l => lv_ishl C.1 C.2.1 d (K H locs lsa r s l)
theorem s_idiv {a b : Int32} (C : CtxOK X y) (d : decode y.2.1 pc = .ok (.idiv, 1)) (hz : ¬ b = 0) (K : WM X y (pc + 1) ls (.int (a / b) :: st) S I k n) : WM X y pc ls (.int b :: .int a :: st) S I k n := fun H locs lsa r s l => lv_idiv C.1 C.2.1 d hz (K H locs lsa r s l)
theorem s_irem {a b : Int32} (C : CtxOK X y) (d : decode y.2.1 pc = .ok (.irem, 1)) (hz : ¬ b = 0) (K : WM X y (pc + 1) ls (.int (a - a / b * b) :: st) S I k n) : WM X y pc ls (.int b :: .int a :: st) S I k n := fun H locs lsa r s l => lv_irem C.1 C.2.1 d hz (K H locs lsa r s l)
theorem s_ladd {a b : Int64} (C : CtxOK X y) (d : decode y.2.1 pc = .ok (.ladd, 1))  (K : WM X y (pc + 1) ls (.long (a + b) :: st) S I k n) : WM X y pc ls (.long b :: .long a :: st) S I k n := fun H locs lsa r s l => lv_ladd C.1 C.2.1 d (K H locs lsa r s l)
theorem s_lsub {a b : Int64} (C : CtxOK X y) (d : decode y.2.1 pc = .ok (.lsub, 1))  (K : WM X y (pc + 1) ls (.long (a - b) :: st) S I k n) : WM X y pc ls (.long b :: .long a :: st) S I k n := fun H locs lsa r s l => lv_lsub C.1 C.2.1 d (K H locs lsa r s l)
theorem s_lor {a b : Int64} (C : CtxOK X y) (d : decode y.2.1 pc = .ok (.lor, 1))  (K : WM X y (pc + 1) ls (.long (a ||| b) :: st) S I k n) : WM X y pc ls (.long b :: .long a :: st) S I k n := fun H locs lsa r s l => lv_lor C.1 C.2.1 d (K H locs lsa r s l)
theorem s_lshl {a : Int64} {b : Int32} (C : CtxOK X y) (d : decode y.2.1 pc = .ok (.lshl, 1))  (K : WM X y (pc + 1) ls (.long (a <<< (b.toInt64 &&& 63)) :: st) S I k n) : WM X y pc ls (.int b :: .long a :: st) S I k n := fun H locs lsa r s l => lv_lshl C.1 C.2.1 d rfl (K H locs lsa r s l)
theorem s_lcmp {a b : Int64} (C : CtxOK X y) (d : decode y.2.1 pc = .ok (.lcmp, 1))  (K : WM X y (pc + 1) ls (.int (lg_cmp a b) :: st) S I k n) : WM X y pc ls (.long b :: .long a :: st) S I k n := fun H locs lsa r s l => W.lcmp C.1 C.2.1 d (K H locs lsa r s l)
theorem s_i2l {a : Int32} (C : CtxOK X y) (d : decode y.2.1 pc = .ok (.i2l, 1))  (K : WM X y (pc + 1) ls (.long a.toInt64 :: st) S I k n) : WM X y pc ls (.int a :: st) S I k n := fun H locs lsa r s l => lv_i2l C.1 C.2.1 d rfl (K H locs lsa r s l)
theorem s_i2c {a : Int32} (C : CtxOK X y) (d : decode y.2.1 pc = .ok (.i2c, 1))  (K : WM X y (pc + 1) ls (.int (a.toUInt32 % 65536).toInt32 :: st) S I k n) : WM X y pc ls (.int a :: st) S I k n := fun H locs lsa r s l => lv_i2c C.1 C.2.1 d rfl (K H locs lsa r s l)
theorem s_i2f {a : Int32} (C : CtxOK X y) (d : decode y.2.1 pc = .ok (.i2f, 1))  (K : WM X y (pc + 1) ls (.float (FP.i2f a) :: st) S I k n) : WM X y pc ls (.int a :: st) S I k n := fun H locs lsa r s l => lv_i2f C.1 C.2.1 d (K H locs lsa r s l)
theorem s_i2d {a : Int32} (C : CtxOK X y) (d : decode y.2.1 pc = .ok (.i2d, 1))  (K : WM X y (pc + 1) ls (.double (FP.i2d a) :: st) S I k n) : WM X y pc ls (.int a :: st) S I k n := fun H locs lsa r s l => lv_i2d C.1 C.2.1 d (K H locs lsa r s l)
theorem s_f2i {a : UInt32} (C : CtxOK X y) (d : decode y.2.1 pc = .ok (.f2i, 1))  (K : WM X y (pc + 1) ls (.int (FP.f2i a) :: st) S I k n) : WM X y pc ls (.float a :: st) S I k n := fun H locs lsa r s l => lv_f2i C.1 C.2.1 d (K H locs lsa r s l)
theorem s_d2l {a : UInt64} (C : CtxOK X y) (d : decode y.2.1 pc = .ok (.d2l, 1))  (K : WM X y (pc + 1) ls (.long (FP.d2l a) :: st) S I k n) : WM X y pc ls (.double a :: st) S I k n := fun H locs lsa r s l => lv_d2l C.1 C.2.1 d (K H locs lsa r s l)
theorem s_fmul {a b : UInt32} (C : CtxOK X y) (d : decode y.2.1 pc = .ok (.fmul, 1)) (hz : vf_n32 (FP.fmul a b)) (K : WM X y (pc + 1) ls (.float (FP.fmul a b) :: st) S I k n) : WM X y pc ls (.float b :: .float a :: st) S I k n := fun H locs lsa r s l => lv_fmul C.1 C.2.1 d hz (K H locs lsa r s l)
theorem s_fdiv {a b : UInt32} (C : CtxOK X y) (d : decode y.2.1 pc = .ok (.fdiv, 1)) (hz : vf_n32 (FP.fdiv a b)) (K : WM X y (pc + 1) ls (.float (FP.fdiv a b) :: st) S I k n) : WM X y pc ls (.float b :: .float a :: st) S I k n := fun H locs lsa r s l => lv_fdiv C.1 C.2.1 d hz (K H locs lsa r s l)
theorem s_fsub {a b : UInt32} (C : CtxOK X y) (d : decode y.2.1 pc = .ok (.fsub, 1)) (hz : vf_n32 (FP.fsub a b)) (K : WM X y (pc + 1) ls (.float (FP.fsub a b) :: st) S I k n) : WM X y pc ls (.float b :: .float a :: st) S I k n := fun H locs lsa r s l => lv_fsub C.1 C.2.1 d hz (K H locs lsa r s l)
theorem s_dmul {a b : UInt64} (C : CtxOK X y) (d : decode y.2.1 pc = .ok (.dmul, 1)) (hz : vf_n64 (FP.dmul a b)) (K : WM X y (pc + 1) ls (.double (FP.dmul a b) :: st) S I k n) : WM X y pc ls (.double b :: .double a :: st) S I k n := fun H locs lsa r s l => lv_dmul C.1 C.2.1 d hz (K H locs lsa r s l)
theorem s_ddiv {a b : UInt64} (C : CtxOK X y) (d : decode y.2.1 pc = .ok (.ddiv, 1)) (hz : vf_n64 (FP.ddiv a b)) (K : WM X y (pc + 1) ls (.double (FP.ddiv a b) :: st) S I k n) : WM X y pc ls (.double b :: .double a :: st) S I k n := fun H locs lsa r s l => lv_ddiv C.1 C.2.1 d hz (K H locs lsa r s l)
theorem s_dsub {a b : UInt64} (C : CtxOK X y) (d : decode y.2.1 pc = .ok (.dsub, 1)) (hz : vf_n64 (FP.dsub a b)) (K : WM X y (pc + 1) ls (.double (FP.dsub a b) :: st) S I k n) : WM X y pc ls (.double b :: .double a :: st) S I k n := fun H locs lsa r s l => lv_dsub C.1 C.2.1 d hz (K H locs lsa r s l)
theorem s_fcmp {a b : UInt32} {op : CmpOp} (C : CtxOK X y) (d : decode y.2.1 pc = .ok (.fcmp op, 1))  (K : WM X y (pc + 1) ls (.int (Op.cmpValue (FP.fcmp a b) op) :: st) S I k n) : WM X y pc ls (.float b :: .float a :: st) S I k n := fun H locs lsa r s l => lv_fcmp C.1 C.2.1 d (K H locs lsa r s l)
theorem s_dcmp {a b : UInt64} {op : CmpOp} (C : CtxOK X y) (d : decode y.2.1 pc = .ok (.dcmp op, 1))  (K : WM X y (pc + 1) ls (.int (Op.cmpValue (FP.dcmp a b) op) :: st) S I k n) : WM X y pc ls (.double b :: .double a :: st) S I k n := fun H locs lsa r s l => lv_dcmp C.1 C.2.1 d (K H locs lsa r s l)
theorem s_dup {v : Value} (C : CtxOK X y) (d : decode y.2.1 pc = .ok (.dup, 1)) (hc : v.category = 1) (K : WM X y (pc + 1) ls (v :: v :: st) S I k n) : WM X y pc ls (v :: st) S I k n := fun H locs lsa r s l => lv_dup C.1 C.2.1 d hc (K H locs lsa r s l)
theorem s_pop {v : Value} (C : CtxOK X y) (d : decode y.2.1 pc = .ok (.pop, 1)) (hc : v.category = 1) (K : WM X y (pc + 1) ls st S I k n) : WM X y pc ls (v :: st) S I k n := fun H locs lsa r s l => lv_pop C.1 C.2.1 d hc (K H locs lsa r s l)
theorem s_dup2 {v v2 : Value} (C : CtxOK X y) (d : decode y.2.1 pc = .ok (.dup2, 1)) (hc : v.category = 1) (hc2 : v2.category = 1) (K : WM X y (pc + 1) ls (v :: v2 :: v :: v2 :: st) S I k n) : WM X y pc ls (v :: v2 :: st) S I k n := fun H locs lsa r s l => lv_dup2_11 C.1 C.2.1 d hc hc2 (K H locs lsa r s l)
theorem s_if_eq {x : Int32} {off : Int} {tgt : Nat} (C : CtxOK X y) (d : decode y.2.1 pc = .ok (.ifCond .eq off, 3)) (ht : (pc : Int) + off = (tgt : Int)) (K1 : x = 0 → WM X y tgt ls st S I k n) (K2 : ¬ x = 0 → WM X y (pc + 3) ls st S I k n) : WM X y pc ls (.int x :: st) S I k n := fun H locs lsa r s l => lv_if_eq C.1 C.2.1 d ht (fun h => K1 h H locs lsa r s l) (fun h => K2 h H locs lsa r s l)
theorem s_icmp_eq {x y2 : Int32} {off : Int} {tgt : Nat} (C : CtxOK X y) (d : decode y.2.1 pc = .ok (.if_icmp .eq off, 3)) (ht : (pc : Int) + off = (tgt : Int)) (K1 : x = y2 → WM X y tgt ls st S I k n) (K2 : ¬ x = y2 → WM X y (pc + 3) ls st S I k n) : WM X y pc ls (.int y2 :: .int x :: st) S I k n := fun H locs lsa r s l => lv_icmp_eq C.1 C.2.1 d ht (fun h => K1 h H locs lsa r s l) (fun h => K2 h H locs lsa r s l)
theorem s_if_ne {x : Int32} {off : Int} {tgt : Nat} (C : CtxOK X y) (d : decode y.2.1 pc = .ok (.ifCond .ne off, 3)) (ht : (pc : Int) + off = (tgt : Int)) (K1 : ¬ x = 0 → WM X y tgt ls st S I k n) (K2 : x = 0 → WM X y (pc + 3) ls st S I k n) : WM X y pc ls (.int x :: st) S I k n := fun H locs lsa r s l => lv_if_ne C.1 C.2.1 d ht (fun h => K1 h H locs lsa r s l) (fun h => K2 h H locs lsa r s l)
theorem s_icmp_ne {x y2 : Int32} {off : Int} {tgt : Nat} (C : CtxOK X y) (d : decode y.2.1 pc = .ok (.if_icmp .ne off, 3)) (ht : (pc : Int) + off = (tgt : Int)) (K1 : ¬ x = y2 → WM X y tgt ls st S I k n) (K2 : x = y2 → WM X y (pc + 3) ls st S I k n) : WM X y pc ls (.int y2 :: .int x :: st) S I k n := fun H locs lsa r s l => lv_icmp_ne C.1 C.2.1 d ht (fun h => K1 h H locs lsa r s l) (fun h => K2 h H locs lsa r s l)
theorem s_if_lt {x : Int32} {off : Int} {tgt : Nat} (C : CtxOK X y) (d : decode y.2.1 pc = .ok (.ifCond .lt off, 3)) (ht : (pc : Int) + off = (tgt : Int)) (K1 : x < 0 → WM X y tgt ls st S I k n) (K2 : ¬ x < 0 → WM X y (pc + 3) ls st S I k n) : WM X y pc ls (.int x :: st) S I k n := fun H locs lsa r s l => lv_if_lt C.1 C.2.1 d ht (fun h => K1 h H locs lsa r s l) (fun h => K2 h H locs lsa r s l)
theorem s_icmp_lt {x y2 : Int32} {off : Int} {tgt : Nat} (C : CtxOK X y) (d : decode y.2.1 pc = .ok (.if_icmp .lt off, 3)) (ht : (pc : Int) + off = (tgt : Int)) (K1 : x < y2 → WM X y tgt ls st S I k n) (K2 : ¬ x < y2 → WM X y (pc + 3) ls st S I k n) : WM X y pc ls (.int y2 :: .int x :: st) S I k n := fun H locs lsa r s l => lv_icmp_lt C.1 C.2.1 d ht (fun h => K1 h H locs lsa r s l) (fun h => K2 h H locs lsa r s l)
theorem s_if_ge {x : Int32} {off : Int} {tgt : Nat} (C : CtxOK X y) (d : decode y.2.1 pc = .ok (.ifCond .ge off, 3)) (ht : (pc : Int) + off = (tgt : Int)) (K1 : 0 ≤ x → WM X y tgt ls st S I k n) (K2 : ¬ 0 ≤ x → WM X y (pc + 3) ls st S I k n) : WM X y pc ls (.int x :: st) S I k n := fun H locs lsa r s l => lv_if_ge C.1 C.2.1 d ht (fun h => K1 h H locs lsa r s l) (fun h => K2 h H locs lsa r s l)
theorem s_icmp_ge {x y2 : Int32} {off : Int} {tgt : Nat} (C : CtxOK X y) (d : decode y.2.1 pc = .ok (.if_icmp .ge off, 3)) (ht : (pc : Int) + off = (tgt : Int)) (K1 : y2 ≤ x → WM X y tgt ls st S I k n) (K2 : ¬ y2 ≤ x → WM X y (pc + 3) ls st S I k n) : WM X y pc ls (.int y2 :: .int x :: st) S I k n := fun H locs lsa r s l => lv_icmp_ge C.1 C.2.1 d ht (fun h => K1 h H locs lsa r s l) (fun h => K2 h H locs lsa r s l)
theorem s_if_gt {x : Int32} {off : Int} {tgt : Nat} (C : CtxOK X y) (d : decode y.2.1 pc = .ok (.ifCond .gt off, 3)) (ht : (pc : Int) + off = (tgt : Int)) (K1 : 0 < x → WM X y tgt ls st S I k n) (K2 : ¬ 0 < x → WM X y (pc + 3) ls st S I k n) : WM X y pc ls (.int x :: st) S I k n := fun H locs lsa r s l => lv_if_gt C.1 C.2.1 d ht (fun h => K1 h H locs lsa r s l) (fun h => K2 h H locs lsa r s l)
theorem s_icmp_gt {x y2 : Int32} {off : Int} {tgt : Nat} (C : CtxOK X y) (d : decode y.2.1 pc = .ok (.if_icmp .gt off, 3)) (ht : (pc : Int) + off = (tgt : Int)) (K1 : y2 < x → WM X y tgt ls st S I k n) (K2 : ¬ y2 < x → WM X y (pc + 3) ls st S I k n) : WM X y pc ls (.int y2 :: .int x :: st) S I k n := fun H locs lsa r s l => lv_icmp_gt C.1 C.2.1 d ht (fun h => K1 h H locs lsa r s l) (fun h => K2 h H locs lsa r s l)
theorem s_if_le {x : Int32} {off : Int} {tgt : Nat} (C : CtxOK X y) (d : decode y.2.1 pc = .ok (.ifCond .le off, 3)) (ht : (pc : Int) + off = (tgt : Int)) (K1 : x ≤ 0 → WM X y tgt ls st S I k n) (K2 : ¬ x ≤ 0 → WM X y (pc + 3) ls st S I k n) : WM X y pc ls (.int x :: st) S I k n := fun H locs lsa r s l => lv_if_le C.1 C.2.1 d ht (fun h => K1 h H locs lsa r s l) (fun h => K2 h H locs lsa r s l)
theorem s_icmp_le {x y2 : Int32} {off : Int} {tgt : Nat} (C : CtxOK X y) (d : decode y.2.1 pc = .ok (.if_icmp .le off, 3)) (ht : (pc : Int) + off = (tgt : Int)) (K1 : x ≤ y2 → WM X y tgt ls st S I k n) (K2 : ¬ x ≤ y2 → WM X y (pc + 3) ls st S I k n) : WM X y pc ls (.int y2 :: .int x :: st) S I k n := fun H locs lsa r s l => lv_icmp_le C.1 C.2.1 d ht (fun h => K1 h H locs lsa r s l) (fun h => K2 h H locs lsa r s l)
theorem s_goto {off : Int} {tgt : Nat} (C : CtxOK X y) (d : decode y.2.1 pc = .ok (.goto off, 3)) (ht : (pc : Int) + off = (tgt : Int)) (K : WM X y tgt ls st S I k n) : WM X y pc ls st S I k n := fun H locs lsa r s l => lv_goto C.1 C.2.1 d ht (K H locs lsa r s l)
theorem s_lookup {dflt : Int} {ps : Array (Int × Int)} {len : Nat} {x : Int32} {off : Int} {tgt : Nat} (C : CtxOK X y) (d : decode y.2.1 pc = .ok (.lookupswitch dflt ps, len)) (hp : (ps.toList.zip (ps.toList.drop 1)).all (fun (a, next) => a.1 < next.1) = true) (ho : Op.lookupswitch.offset ps.toList dflt x.toInt = off) (ht : (pc : Int) + off = (tgt : Int)) (K : WM X y tgt ls st S I k n) : WM X y pc ls (.int x :: st) S I k n := fun H locs lsa r s l => lv_lookup C.1 C.2.1 d hp ho ht (K H locs lsa r s l)
theorem s_tableOut {dflt lo hi : Int} {offs : Array Int} {len : Nat} {x : Int32} {tgt : Nat} (C : CtxOK X y) (d : decode y.2.1 pc = .ok (.tableswitch dflt lo hi offs, len)) (h : x.toInt < lo ∨ hi < x.toInt) (ht : (pc : Int) + dflt = (tgt : Int)) (K : WM X y tgt ls st S I k n) : WM X y pc ls (.int x :: st) S I k n := fun H locs lsa r s l => lv_tableOut C.1 C.2.1 d h ht (K H locs lsa r s l)
theorem s_tableIn {dflt lo hi : Int} {offs : Array Int} {len : Nat} {x : Int32} {off : Int} {tgt : Nat} (C : CtxOK X y) (d : decode y.2.1 pc = .ok (.tableswitch dflt lo hi offs, len)) (h1 : ¬ x.toInt < lo) (h2 : ¬ hi < x.toInt) (ho : offs[(x.toInt - lo).toNat]? = some off) (ht : (pc : Int) + off = (tgt : Int)) (K : WM X y tgt ls st S I k n) : WM X y pc ls (.int x :: st) S I k n := fun H locs lsa r s l => lv_tableIn C.1 C.2.1 d h1 h2 ho ht (K H locs lsa r s l)
end RL
end
section
/-! ===== fields, arrays, calls, ends ===== -/
abbrev rfX (X : Cx) (k : Nat) : Value := .ref ((xE X).1.size + k)
theorem ws_upd {E : Ev} {S : Sx} {I I' : Mm} {k : Nat} {e : va_E} (hk : k < S.1) (ho : ∀ i, i ≠ k → I' i = I i) (he : e = cellE E S I' k) : (wsE E S I).set k (E.1.size + k, e) = wsE E S I' := by
  apply List.ext_getElem?
  intro i
  by_cases hi : i = k
  · subst hi
    rw [List.getElem?_set_self (by simp [wsE, hk]), ws_at hk, he]
  · rw [List.getElem?_set_ne (Ne.symm hi)]
    by_cases h : i < S.1
    · rw [ws_at h, ws_at h]
      simp only [cellE, fsE, ho i hi]
    · rw [List.getElem?_eq_none (by simp [wsE]; omega), List.getElem?_eq_none (by simp [wsE]; omega)]
theorem wr_row (I : Mm) (a j : Nat) (v : Int32) : (wr I a j v) a = upd (I a) j v := by
  funext q
  by_cases h : q = j <;> simp [wr, upd, h]
theorem wr_off (I : Mm) (a j : Nat) (v : Int32) {i : Nat} (h : i ≠ a) : (wr I a j v) i = I i := by
  funext q
  simp [wr, h]
theorem rep_lt {E : Ev} {S : Sx} {I : Mm} {H : Heap} (r : RepH E S I H) {a : Nat} (h : S.2.1 a ≠ 9) : a < S.1 := by
  rcases Nat.lt_or_ge a S.1 with q | q
  · exact q
  · exact absurd (r.2.2.2 a q) h
theorem cell_o {E : Ev} {S : Sx} {I : Mm} {a c : Nat} (h : S.2.1 a = c) (hc : c < 6) : cellE E S I a = .inr (c, fsE E S I a c) := by
  subst h
  simp [cellE, hc]
theorem cell_i {E : Ev} {S : Sx} {I : Mm} {a m : Nat} (h : S.2.1 a = m) (hm : 10 ≤ m) : cellE E S I a = .inl (E.2.2.1, m - 10, .inl (I a)) := by
  subst h
  simp only [cellE]
  rw [if_neg (by omega), if_neg (by omega), if_neg (by omega), if_neg (by omega)]
theorem fs_get {E : Ev} {S : Sx} {I : Mm} {a c j : Nat} (hj : j < nfs c) : (fsE E S I a c)[j]? = some (if isR c j then rvE E (S.2.2 a j) else .int (I a j)) := by
  simp [fsE, hj]
theorem fs_set {E : Ev} {S : Sx} {I : Mm} {a c j : Nat} {v : Int32} (hr : isR c j = false) : (fsE E S I a c).set j (.int v) = fsE E S (wr I a j v) a c := by
  apply List.ext_getElem?
  intro i
  by_cases hi : i = j
  · subst hi
    by_cases h : i < nfs c
    · rw [List.getElem?_set_self (by simp [fsE, h]), fs_get h]
      simp [hr, wr]
    · rw [List.getElem?_eq_none (by simp [fsE]; omega), List.getElem?_eq_none (by simp [fsE]; omega)]
  · rw [List.getElem?_set_ne (Ne.symm hi)]
    by_cases h : i < nfs c
    · rw [fs_get h, fs_get h]
      simp [wr, hi]
    · rw [List.getElem?_eq_none (by simp [fsE]; omega), List.getElem?_eq_none (by simp [fsE]; omega)]
/-- a field that a pool entry of a class names: field j of class c -/
def FldOK (own : String) (ix c j : Nat) : Prop := ∃ (T : u_T) (C : String), vwCl[c]? = some (C, T, nfs c) ∧ j < nfs c ∧ c < 6 ∧ (∀ w ∈ u_ws C T (nfs c), w ∈ lw_good) ∧ (T j).1 = C ∧
  (Cond.fieldLink own ix C (T j).2.1 (T j).2.2.1 ∈ lw_good ∨ ∃ host, Cond.fieldLinkNest own ix C (T j).2.1 (T j).2.2.1 host ∈ lw_nest)
/-- one that may be written, of this type -/
def PutOK (own : String) (ix c j : Nat) (ty : FieldType) : Prop := ∃ (T : u_T) (C : String) (ty0 : Nat → FieldType), vwCl[c]? = some (C, T, nfs c) ∧ j < nfs c ∧ c < 6 ∧ (∀ w ∈ u_ws C T (nfs c), w ∈ lw_good) ∧ (T j).1 = C ∧
  (Cond.fieldLink own ix C (T j).2.1 (T j).2.2.1 ∈ lw_good ∨ ∃ host, Cond.fieldLinkNest own ix C (T j).2.1 (T j).2.2.1 host ∈ lw_nest) ∧
  (∀ k, k < nfs c → parseFieldDescriptor (T k).2.2.1 = some (ty0 k)) ∧ (∀ a, a < nfs c → ∀ b, b < nfs c → a ≠ b → (T a).2.1 ≠ (T b).2.1) ∧ (T j).2.2.2 = false ∧ parseFieldDescriptor (T j).2.2.1 = some ty
section RL2
variable {X : Cx} {y : Yd} {pc : Nat} {ls ls' : List (Option Value)} {st : List Value} {S : Sx} {I : Mm} {k n : Nat}
theorem s_get {a c j ix : Nat} {v : Value} (C : CtxOK X y) (d : decode y.2.1 pc = .ok (.getfield ix, 3)) (hk : S.2.1 a = c) (hf : FldOK y.1.cls ix c j) (hv : (if isR c j then rvE (xE X) (S.2.2 a j) else .int (I a j)) = v)
    (K : WM X y (pc + 3) ls (v :: st) S I k n) : WM X y pc ls (rfX X a :: st) S I k n := by
  intro H locs lsa r s l
  obtain ⟨T, Cn, h1, h2, h3, h4, h5, h6⟩ := hf
  have ha : a < S.1 := rep_lt r (by omega)
  have he := ws_at (E := xE X) (S := S) (I := I) ha
  rw [cell_o hk h3] at he
  have hsame : ∀ x, (xs X).fieldFound? (T j).1 (T j).2.1 (T j).2.2.1 = some x → (xs X).fieldFound? Cn (T j).2.1 (T j).2.2.1 = some x := fun x h => by rw [h5] at h; exact h
  rcases h6 with h6 | ⟨host, h6⟩
  · exact va_get C.1 C.2.1 C.2.2.2.2.1 h4 C.2.2.2.1 C.2.2.2.2.2.1 r.1 a he h1 j h2 (C.2.2.2.2.1 _ h6) hsame (by rw [fs_get h2, hv]) d (K H locs lsa r s l)
  · exact va_getN C.1 C.2.1 C.2.2.2.2.1 h4 C.2.2.2.1 C.2.2.2.2.2.1 r.1 a he h1 j h2 (va_Nw.use rfl (C.2.2.2.2.2.2.2.2.2.2.1 _ h6)) hsame (by rw [fs_get h2, hv]) d (K H locs lsa r s l)
theorem s_getI {a c j ix : Nat} (C : CtxOK X y) (d : decode y.2.1 pc = .ok (.getfield ix, 3)) (hk : S.2.1 a = c) (hf : FldOK y.1.cls ix c j) (hr : isR c j = false)
    (K : WM X y (pc + 3) ls (.int (I a j) :: st) S I k n) : WM X y pc ls (rfX X a :: st) S I k n := s_get C d hk hf (by rw [hr]; rfl) K
theorem s_getR {a c j ix b : Nat} (C : CtxOK X y) (d : decode y.2.1 pc = .ok (.getfield ix, 3)) (hk : S.2.1 a = c) (hf : FldOK y.1.cls ix c j) (hr : isR c j = true) (hb : S.2.2 a j = some b)
    (K : WM X y (pc + 3) ls (rfX X b :: st) S I k n) : WM X y pc ls (rfX X a :: st) S I k n := s_get C d hk hf (by rw [hr, hb]; rfl) K
theorem s_putT {a c j ix : Nat} {v : Int32} {ty : FieldType} (C : CtxOK X y) (d : decode y.2.1 pc = .ok (.putfield ix, 3)) (hk : S.2.1 a = c) (hf : PutOK y.1.cls ix c j ty) (hr : isR c j = false) (hn : narrow ty (.int v) = .int v) (hfit : fits ty (.int v) = true)
    (K : WM X y (pc + 3) ls st S (wr I a j v) k n) : WM X y pc ls (.int v :: rfX X a :: st) S I k n := by
  intro H locs lsa r s l
  obtain ⟨T, Cn, ty0, h1, h2, h3, h4, h5, h6, h7, h8, h9, h10⟩ := hf
  have ha : a < S.1 := rep_lt r (by omega)
  have he := ws_at (E := xE X) (S := S) (I := I) ha
  rw [cell_o hk h3] at he
  have hsame : ∀ x, (xs X).fieldFound? (T j).1 (T j).2.1 (T j).2.2.1 = some x → (xs X).fieldFound? Cn (T j).2.1 (T j).2.2.1 = some x := fun x h => by rw [h5] at h; exact h
  have hz : H.size = (xE X).1.size + S.1 := r.2.1
  have fin : ∀ (H1 : Heap) (locs1 : List Loc), va_P (xE X).2.1 vwCl ((wsE (xE X) S I).set a ((xE X).1.size + a, .inr (c, (fsE (xE X) S I a c).set j (.int v)))) H1 → va_S (Fr (xE X)) (xs X).heap H1 locs1 → H1.size = H.size → (∀ q, q < (xE X).1.size → H1[q]? = H[q]?) →
      W (xp X) (xl X) (xe X) (xR X) (xs X) (xm X) (xa X) (xb X) (xM X) (xc X) H1 locs1 k n (xQ X) (F0 (xm X) (pc + 3) lsa st) := by
    intro H1 locs1 p1 s1 z1 o1
    rw [fs_set hr, ws_upd (I' := wr I a j v) ha (fun i hi => wr_off I a j v hi) (by rw [cell_o hk h3])] at p1
    exact K H1 locs1 lsa ⟨p1, z1.trans hz, fun q hq => (o1 q hq).trans (r.2.2.1 q hq), r.2.2.2⟩ s1 l
  have hap := va_apart (own := y.1.cls) C.2.2.2.2.1 h4 ty0 h7 h8 C.2.2.2.2.2.1 h1
  obtain ⟨rr, g1, cell, q1, q2, q3, q4⟩ := r.1 a _ he
  have hrr : rr = (Cn, T, nfs c) := Option.some.inj (g1.symm.trans h1)
  subst hrr
  obtain ⟨hS, hfc, kC, hkC, hkind⟩ := C.2.2.2.2.2.1.1 c _ h1
  obtain ⟨cf, kf, fi, f, hi, hsl⟩ := hS j h2
  have hlay := C.2.2.2.2.1 _ (h4 _ (u_in_lay h2))
  unfold u_lay at hlay
  rw [if_neg (by rw [h9]; decide)] at hlay
  have hst := (u_facts hfc hkC (u_lays C.2.2.2.2.1 h4 h2) hi).1
  have h6' := u_store hfc hkC hkind hlay hi h10 hn hfit
  have goal : ∀ (H' : Heap), H'[(xE X).1.size + a]? = some (cell.setSlot f.slot (.int v)) → H'.size = H.size → (∀ q, q ≠ (xE X).1.size + a → H'[q]? = H[q]?) → W (xp X) (xl X) (xe X) (xR X) (xs X) (xm X) (xa X) (xb X) (xM X) (xc X) H' (locs ++ [⟨(xE X).1.size + a, f.slot⟩]) k n (xQ X) (F0 (xm X) (pc + 3) lsa st) := by
    intro H' e1 e2 e3
    rw [hsl] at e1
    refine fin H' _ (r.1.set (ws_D _ _ _) he ⟨_, h1, t_OB.to (V := updV (vp_V (fsE (xE X) S I a c)) j (.int v)) ⟨_, e1, q2, q3, t_set q4 hap h2 _⟩ (fun i _ => vp_updV_set (by simp [fsE, h2]) _ i)⟩ e3) ?_ e2 (fun q hq => e3 q (by omega))
    exact s.put e2 e3 (show (xE X).1.size ≤ (xE X).1.size + a by omega)
  rcases h6 with h6 | ⟨host, h6⟩
  · exact W.putK C.1 C.2.1 (f := f) ⟨C.2.2.2.1, C.2.2.2.2.1 _ h6, ⟨_, _, _, hsame _ hi⟩, hst⟩ (by rw [q2]; exact h6') q1 q3 (by rw [hsl]; exact k2_hasslot (q4 j h2)) rfl rfl d goal
  · exact va_WputK C.1 C.2.1 (f := f) C.2.2.2.1 (va_Nw.use rfl (C.2.2.2.2.2.2.2.2.2.2.1 _ h6)) (hsame _ hi) hst (by rw [q2]; exact h6') q1 q3 (by rw [hsl]; exact k2_hasslot (q4 j h2)) rfl rfl d goal
end RL2
section RL3
variable {X : Cx} {y : Yd} {pc : Nat} {ls ls' : List (Option Value)} {st : List Value} {S : Sx} {I : Mm} {k n : Nat}
theorem s_iald {a m : Nat} {i : Int32} (C : CtxOK X y) (d : decode y.2.1 pc = .ok (.iaload, 1)) (hk : S.2.1 a = m) (hm : 10 ≤ m) (hin : ¬ (i < 0 ∨ m - 10 ≤ i.toNatClampNeg))
    (K : WM X y (pc + 1) ls (.int (I a i.toNatClampNeg) :: st) S I k n) : WM X y pc ls (.int i :: rfX X a :: st) S I k n := by
  intro H locs lsa r s l
  have ha : a < S.1 := rep_lt r (by omega)
  have he := ws_at (E := xE X) (S := S) (I := I) ha
  rw [cell_i hk hm] at he
  exact va_iald C.1 C.2.1 C.2.2.2.2.2.1 r.1 a 0 he rfl hin d (K H locs lsa r s l)
theorem s_iast {a m : Nat} {i v : Int32} (C : CtxOK X y) (d : decode y.2.1 pc = .ok (.iastore, 1)) (hk : S.2.1 a = m) (hm : 10 ≤ m) (hin : ¬ (i < 0 ∨ m - 10 ≤ i.toNatClampNeg))
    (K : WM X y (pc + 1) ls st S (wr I a i.toNatClampNeg v) k n) : WM X y pc ls (.int v :: .int i :: rfX X a :: st) S I k n := by
  intro H locs lsa r s l
  have ha : a < S.1 := rep_lt r (by omega)
  have he := ws_at (E := xE X) (S := S) (I := I) ha
  rw [cell_i hk hm] at he
  refine W.iast C.1 C.2.1 (r.1 a _ he) ((C.2.2.2.2.2.1.2 0 _ rfl).1 (m - 10) (fun j => .int (I a j))) (fun q => by cases q) (by show ¬ (i < 0 ∨ (arrV _ _ _).slots.size ≤ _); rw [arrV_size]; exact hin) rfl rfl d fun H1 e z oq => ?_
  have p1 : va_P (xE X).2.1 vwCl ((wsE (xE X) S I).set a ((xE X).1.size + a, cellE (xE X) S (wr I a i.toNatClampNeg v) a)) H1 := by
    refine r.1.set (ws_D _ _ _) he ?_ oq
    rw [cell_i hk hm, wr_row]
    show H1[(xE X).1.size + a]? = some (vp_cell _ _)
    rw [e]
    rw [vp_cell_i, vp_cell_i, arrV_store]
    congr 2
    funext q
    by_cases hq : q = i.toNatClampNeg
    · subst hq
      simp [updV, upd]
    · simp [updV, upd, hq]
  rw [ws_upd (I' := wr I a i.toNatClampNeg v) ha (fun j hj => wr_off I a _ v hj) rfl] at p1
  exact K H1 _ lsa ⟨p1, z.trans r.2.1, fun q hq => (oq q (Nat.ne_of_lt (Nat.lt_of_lt_of_le hq (Nat.le_add_right _ _)))).trans (r.2.2.1 q hq), r.2.2.2⟩ (s.put z oq (show (xE X).1.size ≤ (xE X).1.size + a by omega)) l
theorem s_alen {a m : Nat} {v : Int32} (C : CtxOK X y) (d : decode y.2.1 pc = .ok (.arraylength, 1)) (hk : S.2.1 a = m) (hm : 10 ≤ m) (hv : Int32.ofNat (m - 10) = v)
    (K : WM X y (pc + 1) ls (.int v :: st) S I k n) : WM X y pc ls (rfX X a :: st) S I k n := by
  intro H locs lsa r s l
  have ha : a < S.1 := rep_lt r (by omega)
  have he := ws_at (E := xE X) (S := S) (I := I) ha
  rw [cell_i hk hm] at he
  exact va_alen C.1 C.2.1 C.2.2.2.2.2.1 r.1 a 0 he rfl hv d (K H locs lsa r s l)
/-- the arrays of references: what they are over, how long -/
def rkT (m : Nat) : Nat × Nat := match m with
  | 6 => (1, 3)
  | 7 => (2, 9)
  | _ => (3, 8)
theorem cell_r {E : Ev} {S : Sx} {I : Mm} {a m : Nat} (h : S.2.1 a = m) (hm : 6 ≤ m ∧ m ≤ 8) : ∃ (cA : ClassId) (ty : FieldType), cellE E S I a = .inl (cA, (rkT m).2, .inr (.inr (.inr (.inr (rowE E S a))))) ∧ (tyl E)[(rkT m).1]? = some (cA, ty) ∧ ty.isReference = true := by
  subst h
  rcases (show S.2.1 a = 6 ∨ S.2.1 a = 7 ∨ S.2.1 a = 8 by omega) with h | h | h
  · exact ⟨_, _, by simp only [cellE, h]; rfl, by rw [h]; rfl, rfl⟩
  · exact ⟨_, _, by simp only [cellE, h]; rfl, by rw [h]; rfl, rfl⟩
  · exact ⟨_, _, by simp only [cellE, h]; rfl, by rw [h]; rfl, rfl⟩
theorem s_alenR {a m : Nat} {v : Int32} (C : CtxOK X y) (d : decode y.2.1 pc = .ok (.arraylength, 1)) (hk : S.2.1 a = m) (hm : 6 ≤ m ∧ m ≤ 8) (hv : Int32.ofNat (rkT m).2 = v)
    (K : WM X y (pc + 1) ls (.int v :: st) S I k n) : WM X y pc ls (rfX X a :: st) S I k n := by
  intro H locs lsa r s l
  have ha : a < S.1 := rep_lt r (by omega)
  have he := ws_at (E := xE X) (S := S) (I := I) ha
  obtain ⟨cA, ty, h1, h2, h3⟩ := cell_r (E := xE X) (I := I) hk hm
  rw [h1] at he
  exact va_alen C.1 C.2.1 C.2.2.2.2.2.1 r.1 a _ he h2 hv d (K H locs lsa r s l)
theorem s_aald {a m b : Nat} {i : Int32} (C : CtxOK X y) (d : decode y.2.1 pc = .ok (.aaload, 1)) (hk : S.2.1 a = m) (hm : 6 ≤ m ∧ m ≤ 8) (hin : ¬ (i < 0 ∨ (rkT m).2 ≤ i.toNatClampNeg)) (hb : S.2.2 a i.toNatClampNeg = some b)
    (K : WM X y (pc + 1) ls (rfX X b :: st) S I k n) : WM X y pc ls (.int i :: rfX X a :: st) S I k n := by
  intro H locs lsa r s l
  have ha : a < S.1 := rep_lt r (by omega)
  have he := ws_at (E := xE X) (S := S) (I := I) ha
  obtain ⟨cA, ty, h1, h2, h3⟩ := cell_r (E := xE X) (I := I) hk hm
  rw [h1] at he
  have hlt : i.toNatClampNeg < (rkT m).2 := Nat.not_le.mp fun q => hin (Or.inr q)
  have hv : va_rf (rowE (xE X) S a i.toNatClampNeg) = rfX X b := by simp only [rowE, hb]; rfl
  exact W.aald (v := rfX X b) (ty := ty) C.1 C.2.1 (r.1 a _ he) ((C.2.2.2.2.2.1.2 _ _ h2).1 (rkT m).2 (fun j => va_rf (rowE (xE X) S a j))) h3 (fun q => by cases q) (by show ¬ (i < 0 ∨ (arrV _ _ _).slots.size ≤ _); rw [arrV_size]; exact hin) (by show (arrV _ _ _).slots[_]? = _; rw [arrV_read _ _ hlt, hv]) rfl rfl d (K H locs lsa r s l)
/-! calls -/
def QcR (E : Ev) (r : Option Value) (S : Sx) (I : Mm) : Array Value → State → Outcome → State → Prop := fun _ st oc t => (oc = .returned r ∧ RepU E S I t) ∧ va_F (Fr E) st t
def rmD (d k n : Nat) : Room := { frames := d, cells := k, slots := n, locals := 41 * d }
/-- a method's contract: with these arguments over the world (S, I) it returns r, the world then being (S', I') -/
def SemM (E : Ev) (d k n : Nat) (y : Yd) (args : List Value) (S : Sx) (I : Mm) (r : Option Value) (S' : Sx) (I' : Mm) : Prop :=
  ∀ l : Launch, Met l y.1 (GW y) (rmD d k n) (va_Pc args (fun U => RepU E S I U)) (QcR E r S' I') k n (Fr E)
/-- a context's goal is the contract's -/
def MX (X : Cx) (E : Ev) (d k n : Nat) (r : Option Value) (S' : Sx) (I' : Mm) : Prop := xE X = E ∧ xR X = rmD d k n ∧ xQ X = MQ (xb X) (QcR E r S' I') (xa X) (xs X) k n (Fr E)
theorem SemM.of {E : Ev} {d k n : Nat} {y : Yd} {args : List Value} {S S' : Sx} {I I' : Mm} {r : Option Value} {ls : List (Option Value)} (hy : plainName y.1.cls = true) (hsl : (lg_sl args).length ≤ y.2.2.1) (hls : lv_args 0 args = al 0 ls)
    (body : ∀ X : Cx, CtxOK X y → MX X E d k n r S' I' → WM X y 0 ls [] S I 0 0) : SemM E d k n y args S I r S' I' := by
  intro l
  refine Met.ofW (cc := y.2.1) (maxL := y.2.2.1) (ret := y.2.2.2) (ws' := lw_good) hy rfl ?_
  intro p e s m as below meth c s₁ B hml hv
  obtain ⟨rfl, hR, hK, hN⟩ := hv
  have hts := atoms_spec (ws := GW y) B.pre
  have hnm := name_of_methodNamed B.named B.method
  have hown : s.vm.findClass y.1.cls = some m.cls := findClass_of_methodNamed B.named
  have hbase : E.1.size ≤ s.heap.size := by rw [hR.2.1]; omega
  have hb := body (p, l, e, (headSpec (GW y) (rmD d k n)).room, s, m, args.toArray, below, meth, c, MQ below (QcR E r S' I') args.toArray s k n (Fr E), E)
    ⟨B.exec, B.bytes, hml, hown, fun w hw => hts w (List.mem_cons_of_mem _ hw), hK, B.returns, B.notSynchronized, hnm.1, hbase, hN⟩ ⟨rfl, rfl, rfl⟩
  have hl := lv_entry args (n := y.2.2.1) hsl
  rw [lg_entry_eq]
  generalize (lg_sl args ++ List.replicate (y.2.2.1 - (lg_sl args).length) Slot.unset).toArray = lsa at hl ⊢
  rw [hls] at hl
  exact hb s.heap [] lsa hR va_S.rf hl
def MthV (y : Yd) (c np : Nat) : Prop := Cond.instanceMethod y.1 ∈ lw_good ∧ Cond.selects y.1.cls y.1 y.1 ∈ lw_good ∧ Cond.initialized y.1.cls ∈ lw_good ∧ Cond.code y.1 y.2.1 y.2.2.1 y.2.2.2 ∈ lw_good ∧ (y.1.cls ≠ "java/lang/invoke/MethodHandle" ∧ y.1.cls ≠ "java/lang/invoke/VarHandle" ∧ (parseMethodDescriptor y.1.desc).map (fun d => d.parameters.length) = some np) ∧ y.2.2.1 ≤ 22 ∧ (∃ (T : u_T) (N : Nat), vwCl[c]? = some (y.1.cls, T, N)) ∧ c < 6
def MthS (y : Yd) (np : Nat) : Prop := Cond.static y.1 ∈ lw_good ∧ Cond.initialized y.1.cls ∈ lw_good ∧ Cond.code y.1 y.2.1 y.2.2.1 y.2.2.2 ∈ lw_good ∧ (y.1.cls ≠ "java/lang/invoke/MethodHandle" ∧ y.1.cls ≠ "java/lang/invoke/VarHandle" ∧ (parseMethodDescriptor y.1.desc).map (fun d => d.parameters.length) = some np) ∧ y.2.2.1 ≤ 22
theorem gwG {y : Yd} (h : Cond.code y.1 y.2.1 y.2.2.1 y.2.2.2 ∈ lw_good) : GoodIn lw_good (GW y) := by
  intro w hw
  rcases List.mem_cons.mp hw with rfl | hw
  · exact ⟨h, Or.inl rfl⟩
  · exact ⟨hw, good_of_word (List.mem_filter.mp hw).2⟩
theorem blind {E : Ev} {S : Sx} {I : Mm} {args : List Value} : FrameBlind (va_Pc args (fun U => RepU E S I U)) :=
  fun a U g mk q => ⟨q.1, q.2.1, va_K.moved (u := U) (U := U.calling g mk a) (Vm.Alike.refl U.vm) q.2.2.1, NW.same (u := U) (U := U.calling g mk a) rfl q.2.2.2⟩
/-- what comes back from a call -/
theorem s_back {mc ms : Nat} {r : Option Value} {S1 : Sx} {I1 : Mm} {st0 : List Value} {a : Array Value} {H : Heap} {locs : List Loc} {lsa : Array Slot} (C : CtxOK X y) (s : va_S (Fr (xE X)) (xs X).heap H locs) (l : lv_has lsa y.2.2.1 (al 0 ls))
    (hr : va_Run (xp X) (xl X) (xe X) (xR X) (xs X) (xm X) (xa X) (xb X) (xM X) (xc X) H locs k n mc ms (F0 (xm X) pc lsa st0) st (QcR (xE X) r S1 I1 a) (Fr (xE X)))
    (K : WM X y (pc + 3) ls (r.toList ++ st) S1 I1 (k + mc) (n + ms)) : W (xp X) (xl X) (xe X) (xR X) (xs X) (xm X) (xa X) (xb X) (xM X) (xc X) H locs k n (xQ X) (F0 (xm X) pc lsa st0) := by
  intro T hT Xs
  obtain ⟨v, st₀, t, T', L, h0, X', hL, e1, e2, ⟨⟨hv, hR1, -⟩, hz, hk⟩, step⟩ := hr T hT Xs
  cases hv
  rw [h0] at hz hk
  obtain ⟨t2, a1, b1⟩ := K T'.heap (locs ++ L) lsa (by rw [e1]; exact hR1)
    ⟨Nat.le_trans s.1 (by rw [e1]; exact hz), fun q h1 h2 => by rw [e1, hk q (Nat.lt_of_lt_of_le h1 s.1) h2]; exact s.2.1 q h1 h2, fun q hq => by
      rcases List.mem_append.mp hq with h | h
      · exact s.2.2 q h
      · exact hL q h⟩ l T' rfl X'
  exact ⟨t2, step t2 a1, b1⟩
theorem s_callV {c np ix a d d' kk nn mc ms : Nat} {yc : Yd} {as st0 : List Value} {r : Option Value} {S1 : Sx} {I1 : Mm} (C : CtxOK X y) (hR : xR X = rmD d kk nn) (hd : d' + 1 ≤ d) (hw : MthV yc c np) (hl : Cond.methodLink y.1.cls ix yc.1 ∈ lw_good) (dd : decode y.2.1 pc = .ok (.invokevirtual ix, 3))
    (hS : SemM (xE X) d' mc ms yc (rfX X a :: as) S I r S1 I1) (ha : S.2.1 a = c) (hlen : as.length = np) (hst : st0 = as.reverse ++ rfX X a :: st) (hcat : (st.map fun v => v.category).sum ≤ 8) (hc : k + mc ≤ kk) (hn : n + ms ≤ nn)
    (K : WM X y (pc + 3) ls (r.toList ++ st) S1 I1 (k + mc) (n + ms)) : WM X y pc ls st0 S I k n := by
  intro H locs lsa rp s l
  obtain ⟨h1, h2, h3, h4, h5, h6, ⟨T, N, h7⟩, h8⟩ := hw
  have hts := C.2.2.2.2.1
  have hal : a < S.1 := rep_lt rp (by omega)
  have he := ws_at (E := xE X) (S := S) (I := I) hal
  rw [cell_o ha h8] at he
  have cb : CallB (xR X) (xs X) (xa X) y.1.cls ix yc.1 yc.2.1 yc.2.2.1 yc.2.2.2 (GW yc) (rmD d' mc ms) mc ms np :=
    callB_of np hts (gwG h4) rfl rfl rfl (hts _ h3) (hts _ hl) h5 ⟨by rw [hR]; exact hd, by rw [hR]; show 8 + (yc.2.2.1 + 11) + 41 * d' ≤ 41 * d; omega⟩
  have hrun := va_runV (e := xe X) (g := F0 (xm X) pc lsa st0) (locs := locs) (cells := k) (slots := n) (rest := st) (below := xb X) (meth := xM X) ⟨C.1, C.2.1, C.2.2.1, C.2.2.2.1, hts⟩ (hS (xl X)) ⟨cb, hts _ h1, hts _ h2⟩
    ⟨blind, va_recv C.2.2.2.2.2.1 rp.1 h7 he, fun U hU hW => ⟨rfl, And.intro (show RepH (xE X) S I U.heap from hU ▸ rp) (And.intro (va_K.moved hW.alike C.2.2.2.2.2.1) (NW.warm hW C.2.2.2.2.2.2.2.2.2.2))⟩⟩ rfl hlen l.1 hst (lv_room hcat) dd ⟨by rw [hR]; exact hc, by rw [hR]; exact hn⟩
  exact s_back C s l hrun K
theorem s_callS {np ix d d' kk nn mc ms : Nat} {yc : Yd} {as st0 : List Value} {r : Option Value} {S1 : Sx} {I1 : Mm} (C : CtxOK X y) (hR : xR X = rmD d kk nn) (hd : d' + 1 ≤ d) (hw : MthS yc np) (hl : Cond.methodLink y.1.cls ix yc.1 ∈ lw_good) (dd : decode y.2.1 pc = .ok (.invokestatic ix, 3))
    (hS : SemM (xE X) d' mc ms yc as S I r S1 I1) (hlen : as.length = np) (hst : st0 = as.reverse ++ st) (hcat : (st.map fun v => v.category).sum ≤ 8) (hc : k + mc ≤ kk) (hn : n + ms ≤ nn)
    (K : WM X y (pc + 3) ls (r.toList ++ st) S1 I1 (k + mc) (n + ms)) : WM X y pc ls st0 S I k n := by
  intro H locs lsa rp s l
  obtain ⟨h1, h3, h4, h5, h6⟩ := hw
  have hts := C.2.2.2.2.1
  have cb : CallB (xR X) (xs X) (xa X) y.1.cls ix yc.1 yc.2.1 yc.2.2.1 yc.2.2.2 (GW yc) (rmD d' mc ms) mc ms np :=
    callB_of np hts (gwG h4) rfl rfl rfl (hts _ h3) (hts _ hl) h5 ⟨by rw [hR]; exact hd, by rw [hR]; show 8 + (yc.2.2.1 + 11) + 41 * d' ≤ 41 * d; omega⟩
  have hrun := va_runS (e := xe X) (g := F0 (xm X) pc lsa st0) (locs := locs) (cells := k) (slots := n) (rest := st) (below := xb X) (meth := xM X) ⟨C.1, C.2.1, C.2.2.1, C.2.2.2.1, hts⟩ (hS (xl X)) ⟨cb, hts _ h1⟩
    ⟨blind, fun U hU hW => ⟨rfl, And.intro (show RepH (xE X) S I U.heap from hU ▸ rp) (And.intro (va_K.moved hW.alike C.2.2.2.2.2.1) (NW.warm hW C.2.2.2.2.2.2.2.2.2.2))⟩⟩ rfl hlen l.1 hst (lv_room hcat) dd ⟨by rw [hR]; exact hc, by rw [hR]; exact hn⟩
  exact s_back C s l hrun K
/-! ends -/
theorem s_end {E : Ev} {r : Option Value} {H : Heap} {locs : List Loc} {t : State} (C : CtxOK X y) (rp : RepH (xE X) S I H) (s : va_S (Fr (xE X)) (xs X).heap H locs) (hE : xE X = E) (ht : t.heap = H) (hW : (xs X).WarmedH t.vm) : QcR E r S I (xa X) (xs X) (.returned r) t := by
  subst hE
  exact ⟨⟨rfl, And.intro (show RepH (xE X) S I t.heap from ht ▸ rp) (And.intro (va_K.moved hW.alike C.2.2.2.2.2.1) (NW.warm hW C.2.2.2.2.2.2.2.2.2.2))⟩, s.F ht⟩
theorem s_iret {E : Ev} {d k' n' : Nat} {v : Int32} {ty : FieldType} (C : CtxOK X y) (M : MX X E d k' n' (some (.int v)) S I) (dd : decode y.2.1 pc = .ok (.ireturn, 1)) (hret : y.2.2.2 = some ty) (hn : narrow ty (.int v) = .int v) (hk : k ≤ k') (hn' : n ≤ n') : WM X y pc ls [.int v] S I k n := by
  intro H locs lsa rp s l
  obtain ⟨hE, hR, hQ⟩ := M
  rw [hQ]
  refine W.widen hk hn' (W.zret C.1 C.2.1 (C.2.2.2.2.2.2.1.trans hret) hn (fun t ht hW => s_end C rp s hE ht hW) ?_ dd C.2.2.2.2.2.2.2.1)
  rw [← hE]; exact s.2.2
theorem s_lret {E : Ev} {d k' n' : Nat} {v : Int64} (C : CtxOK X y) (M : MX X E d k' n' (some (.long v)) S I) (dd : decode y.2.1 pc = .ok (.lreturn, 1)) (hret : y.2.2.2 = some .long) (hk : k ≤ k') (hn' : n ≤ n') : WM X y pc ls [.long v] S I k n := by
  intro H locs lsa rp s l
  obtain ⟨hE, hR, hQ⟩ := M
  rw [hQ]
  refine W.widen hk hn' (W.lret C.1 C.2.1 (C.2.2.2.2.2.2.1.trans hret) (fun t ht hW => s_end C rp s hE ht hW) ?_ dd C.2.2.2.2.2.2.2.1)
  rw [← hE]; exact s.2.2
theorem s_vret {E : Ev} {d k' n' : Nat} (C : CtxOK X y) (M : MX X E d k' n' none S I) (dd : decode y.2.1 pc = .ok (.return_, 1)) (hret : y.2.2.2 = none) (hk : k ≤ k') (hn' : n ≤ n') : WM X y pc ls [] S I k n := by
  intro H locs lsa rp s l
  obtain ⟨hE, hR, hQ⟩ := M
  rw [hQ]
  refine W.widen hk hn' (W.vret C.1 C.2.1 (C.2.2.2.2.2.2.1.trans hret) (fun t ht hW => s_end C rp s hE ht hW) ?_ dd C.2.2.2.2.2.2.2.1)
  rw [← hE]; exact s.2.2
theorem s_aret {E : Ev} {d k' n' : Nat} {o : Option Nat} {rt : FieldType} (C : CtxOK X y) (M : MX X E d k' n' (some (rvE E o)) S I) (dd : decode y.2.1 pc = .ok (.areturn, 1)) (hret : y.2.2.2 = some rt) (hrt : (∃ n, rt = .object n) ∨ ∃ t, rt = .array t) (hk : k ≤ k') (hn' : n ≤ n') : WM X y pc ls [rvE (xE X) o] S I k n := by
  intro H locs lsa rp s l
  obtain ⟨hE, hR, hQ⟩ := M
  rw [hQ]
  refine W.widen hk hn' (W.aret C.1 C.2.1 (C.2.2.2.2.2.2.1.trans hret) hrt (by cases o with | none => exact Or.inl rfl | some x => exact Or.inr ⟨_, rfl⟩) (fun t ht hW => hE ▸ s_end C rp s rfl ht hW) ?_ dd C.2.2.2.2.2.2.2.1)
  rw [← hE]; exact s.2.2
end RL3
end
section
/-! ===== the finished world ===== -/
def kdL : List Nat := [4, 3, 6, 1, 40, 40, 40, 1, 40, 40, 40, 1, 40, 40, 40, 3, 6, 1, 40, 40, 40, 1, 40, 40, 40, 1, 40, 40, 40, 7, 2, 70, 2, 70, 0, 30, 70, 3, 6, 1, 40, 40, 40, 1, 40, 40, 40, 1, 40, 40, 40, 3, 6, 1, 40, 40, 40, 1, 40, 40, 40, 1, 40, 40, 40, 3, 6, 1, 40, 40, 40, 1, 40, 40, 40, 1, 40, 40, 40, 3, 6, 1, 40, 40, 40, 1, 40, 40, 40, 1, 40, 40, 40, 3, 6, 1, 40, 40, 40, 1, 40, 40, 40, 1, 40, 40, 40, 3, 6, 1, 40, 40, 40, 1, 40, 40, 40, 1, 40, 40, 40, 3, 6, 1, 40, 40, 40, 1, 40, 40, 40, 1, 40, 40, 40, 3, 6, 1, 40, 40, 40, 1, 40, 40, 40, 1, 40, 40, 40, 3, 6, 1, 40, 40, 40, 1, 40, 40, 40, 1, 40, 40, 40, 5, 383, 383, 383, 8, 383, 383, 383, 383, 383, 383, 383, 383, 100, 40, 70, 70]
def kd0 (a : Nat) : Nat := kdL.getD a 9
def R0k (k a j : Nat) : Option Nat := match k with
  | 4 => (match j with | 0 => some 1 | 1 => some 15 | 3 => some 29 | 6 => some 30 | 7 => some 32 | 8 => some 34 | _ => none)
  | 3 => (match j with | 0 => some (a + 1) | _ => none)
  | 6 => if j < 3 then some (a + 1 + 4 * j) else none
  | 1 => if j < 3 then some (a + 1 + j) else none
  | 7 => if j < 9 then some (37 + 14 * j) else none
  | 2 => (match j with | 0 => some (a + 1) | _ => none)
  | 0 => (match j with | 0 => some 35 | 1 => some 36 | _ => none)
  | 5 => (match j with | 0 => some 164 | 1 => some 165 | 2 => some 166 | 3 => some 167 | 9 => some 176 | 11 => some 177 | 12 => some 178 | 20 => some 179 | _ => none)
  | 8 => if j < 8 then some (168 + j) else none
  | _ => none
def R0 (a j : Nat) : Option Nat := R0k (kd0 a) a j
abbrev S0 : Sx := (180, kd0, R0)
theorem kd_lt {a : Nat} (h : kd0 a ≠ 9) : a < 180 := by
  rcases Nat.lt_or_ge a 180 with q | q
  · exact q
  · exact absurd (by unfold kd0; rw [List.getD_eq_getElem?_getD, List.getElem?_eq_none (by show 180 ≤ a; exact q)]; rfl) h
theorem kd1a : ∀ a, a < 180 → kd0 a = 1 → kd0 (a + 1) = 40 ∧ kd0 (a + 2) = 40 ∧ kd0 (a + 3) = 40 := by decide +kernel
theorem kd1 {a : Nat} (h : kd0 a = 1) : kd0 (a + 1) = 40 ∧ kd0 (a + 2) = 40 ∧ kd0 (a + 3) = 40 := kd1a a (kd_lt (by omega)) h
theorem kd2a : ∀ a, a < 180 → kd0 a = 2 → kd0 (a + 1) = 70 := by decide +kernel
theorem kd2 {a : Nat} (h : kd0 a = 2) : kd0 (a + 1) = 70 := kd2a a (kd_lt (by omega)) h
theorem kd3a : ∀ a, a < 180 → kd0 a = 3 → kd0 (a + 1) = 6 := by decide +kernel
theorem kd3 {a : Nat} (h : kd0 a = 3) : kd0 (a + 1) = 6 := kd3a a (kd_lt (by omega)) h
theorem kd6a : ∀ a, a < 180 → kd0 a = 6 → ∀ j, j < 3 → kd0 (a + 1 + 4 * j) = 1 := by decide +kernel
theorem kd6 {a j : Nat} (h : kd0 a = 6) (hj : j < 3) : kd0 (a + 1 + 4 * j) = 1 := kd6a a (kd_lt (by omega)) h j hj
theorem kd7 {j : Nat} (hj : j < 9) : kd0 (37 + 14 * j) = 3 := (by decide +kernel : ∀ j, j < 9 → kd0 (37 + 14 * j) = 3) j hj
theorem kd8 {j : Nat} (hj : j < 8) : kd0 (168 + j) = 383 := (by decide +kernel : ∀ j, j < 8 → kd0 (168 + j) = 383) j hj
theorem rr1 {a : Nat} (h : kd0 a = 1) : R0 a 0 = some (a + 1) ∧ R0 a 1 = some (a + 2) ∧ R0 a 2 = some (a + 3) := by unfold R0; rw [h]; exact ⟨rfl, rfl, rfl⟩
theorem rr2 {a : Nat} (h : kd0 a = 2) : R0 a 0 = some (a + 1) := by unfold R0; rw [h]; rfl
theorem rr3 {a : Nat} (h : kd0 a = 3) : R0 a 0 = some (a + 1) := by unfold R0; rw [h]; rfl
theorem rr6 {a j : Nat} (h : kd0 a = 6) (hj : j < 3) : R0 a j = some (a + 1 + 4 * j) := by unfold R0; rw [h]; exact if_pos hj
theorem rr7 {a j : Nat} (h : kd0 a = 7) (hj : j < 9) : R0 a j = some (37 + 14 * j) := by unfold R0; rw [h]; exact if_pos hj
theorem rr8 {a j : Nat} (h : kd0 a = 8) (hj : j < 8) : R0 a j = some (168 + j) := by unfold R0; rw [h]; exact if_pos hj
theorem ck_lt {i : Int32} {m : Nat} (h : ¬ (i < 0 ∨ m ≤ i.toNatClampNeg)) : i.toNatClampNeg < m := Nat.not_le.mp fun q => h (Or.inr q)
theorem kk_0 : kd0 0 = 4 := by decide +kernel
theorem kk_29 : kd0 29 = 7 := by decide +kernel
theorem kk_30 : kd0 30 = 2 := by decide +kernel
theorem kk_31 : kd0 31 = 70 := by decide +kernel
theorem kk_32 : kd0 32 = 2 := by decide +kernel
theorem kk_33 : kd0 33 = 70 := by decide +kernel
theorem kk_34 : kd0 34 = 0 := by decide +kernel
theorem kk_35 : kd0 35 = 30 := by decide +kernel
theorem kk_36 : kd0 36 = 70 := by decide +kernel
theorem kk_163 : kd0 163 = 5 := by decide +kernel
theorem kk_164 : kd0 164 = 383 := by decide +kernel
theorem kk_165 : kd0 165 = 383 := by decide +kernel
theorem kk_166 : kd0 166 = 383 := by decide +kernel
theorem kk_167 : kd0 167 = 8 := by decide +kernel
theorem kk_176 : kd0 176 = 100 := by decide +kernel
theorem kk_177 : kd0 177 = 40 := by decide +kernel
theorem kk_178 : kd0 178 = 70 := by decide +kernel
theorem kk_179 : kd0 179 = 70 := by decide +kernel
theorem kk_1 : kd0 1 = 3 := by decide +kernel
theorem kk_15 : kd0 15 = 3 := by decide +kernel
theorem rk_0_0 : R0 0 0 = some 1 := by decide +kernel
theorem rk_0_1 : R0 0 1 = some 15 := by decide +kernel
theorem rk_0_3 : R0 0 3 = some 29 := by decide +kernel
theorem rk_0_6 : R0 0 6 = some 30 := by decide +kernel
theorem rk_0_7 : R0 0 7 = some 32 := by decide +kernel
theorem rk_0_8 : R0 0 8 = some 34 := by decide +kernel
theorem rk_34_0 : R0 34 0 = some 35 := by decide +kernel
theorem rk_34_1 : R0 34 1 = some 36 := by decide +kernel
theorem rk_163_0 : R0 163 0 = some 164 := by decide +kernel
theorem rk_163_1 : R0 163 1 = some 165 := by decide +kernel
theorem rk_163_2 : R0 163 2 = some 166 := by decide +kernel
theorem rk_163_3 : R0 163 3 = some 167 := by decide +kernel
theorem rk_163_9 : R0 163 9 = some 176 := by decide +kernel
theorem rk_163_11 : R0 163 11 = some 177 := by decide +kernel
theorem rk_163_12 : R0 163 12 = some 178 := by decide +kernel
theorem rk_163_20 : R0 163 20 = some 179 := by decide +kernel
/-! control words of the functions that the methods are -/
def bd {α β : Type} (o : Option (α × Mm)) (k : α → Mm → Option β) : Option β := match o with
  | some q => k q.1 q.2
  | none => none
def ltm {α β : Type} (a : α) (k : α → β) : β := k a
def onm {β : Type} (o : Option Nat) (A : β) (B : Nat → β) : β := match o with
  | none => A
  | some a => B a
theorem bd_e {α β : Type} {o : Option (α × Mm)} {k : α → Mm → Option β} {x : β} (h : bd o k = some x) : ∃ (a : α) (I : Mm), o = some (a, I) ∧ k a I = some x := by
  cases o with
  | none => cases h
  | some q => exact ⟨q.1, q.2, rfl, h⟩
theorem ltm_e {α β : Type} {a : α} {k : α → Option β} {x : β} (h : ltm a k = some x) : ∃ b, b = a ∧ k b = some x := ⟨a, rfl, h⟩
theorem it_t {c : Prop} [Decidable c] {β : Type} {a b : Option β} {x : β} (hc : c) (h : (if c then a else b) = some x) : a = some x := by rwa [if_pos hc] at h
theorem it_f {c : Prop} [Decidable c] {β : Type} {a b : Option β} {x : β} (hc : ¬ c) (h : (if c then a else b) = some x) : b = some x := by rwa [if_neg hc] at h
theorem it_n {c : Prop} [Decidable c] {β : Type} {a : Option β} {x : β} (h : (if c then none else a) = some x) : ¬ c ∧ a = some x := by
  by_cases hc : c
  · rw [if_pos hc] at h; cases h
  · rw [if_neg hc] at h; exact ⟨hc, h⟩
theorem it_s {c : Prop} [Decidable c] {β : Type} {a : Option β} {x : β} (h : (if c then a else none) = some x) : c ∧ a = some x := by
  by_cases hc : c
  · rw [if_pos hc] at h; exact ⟨hc, h⟩
  · rw [if_neg hc] at h; cases h
theorem nz_b {v : Int32} (h : v = 0 ∨ v = 1) : narrow .boolean (.int v) = .int v := by rcases h with rfl | rfl <;> rfl
theorem fz_b {v : Int32} (h : v = 0 ∨ v = 1) : fits .boolean (.int v) = true := by rcases h with rfl | rfl <;> rfl
theorem ne_i {x z : Int32} (k : Int) (hz : z.toInt = k) (h : ¬ x = z) : x.toInt ≠ k := fun q => h (Int32.toInt_inj.mp (q.trans hz.symm))
def mxI (a b : Int32) : Int32 := if a < b then b else a
def mnI (a b : Int32) : Int32 := if b < a then b else a
def cpI (I : Mm) (s t n : Nat) : Mm := fun b k => if b = t ∧ k < n then I s k else I b k
section RL5
variable {X : Cx} {y : Yd} {pc : Nat} {ls ls' : List (Option Value)} {st : List Value} {S : Sx} {I I1 : Mm} {k n : Nat}
def RG (X : Cx) (d kk nn : Nat) : Prop := d ≤ (xR X).frames ∧ 41 * d ≤ (xR X).locals ∧ kk ≤ (xR X).cells ∧ nn ≤ (xR X).slots
theorem MX.rg {E : Ev} {d k' n' : Nat} {r : Option Value} {S' : Sx} {I' : Mm} (M : MX X E d k' n' r S' I') : RG X d k' n' := by
  obtain ⟨-, h, -⟩ := M
  rw [RG, h]
  exact ⟨Nat.le_refl _, Nat.le_refl _, Nat.le_refl _, Nat.le_refl _⟩
theorem s_top_i {v w' : Int32} (e : v = w') (K : WM X y pc ls (.int v :: st) S I k n) : WM X y pc ls (.int w' :: st) S I k n := e ▸ K
theorem s_top_l {v w' : Int64} (e : v = w') (K : WM X y pc ls (.long v :: st) S I k n) : WM X y pc ls (.long w' :: st) S I k n := e ▸ K
theorem s_top_f {v w' : UInt32} (e : v = w') (K : WM X y pc ls (.float v :: st) S I k n) : WM X y pc ls (.float w' :: st) S I k n := e ▸ K
theorem s_top_d {v w' : UInt64} (e : v = w') (K : WM X y pc ls (.double v :: st) S I k n) : WM X y pc ls (.double w' :: st) S I k n := e ▸ K
theorem s_putI {a c j ix : Nat} {v : Int32} (C : CtxOK X y) (d : decode y.2.1 pc = .ok (.putfield ix, 3)) (hk : S.2.1 a = c) (hf : PutOK y.1.cls ix c j .int) (hr : isR c j = false) (e : I1 = wr I a j v)
    (K : WM X y (pc + 3) ls st S I1 k n) : WM X y pc ls (.int v :: rfX X a :: st) S I k n := s_putT C d hk hf hr rfl rfl (e ▸ K)
theorem s_putZ {a c j ix : Nat} {v : Int32} (C : CtxOK X y) (d : decode y.2.1 pc = .ok (.putfield ix, 3)) (hk : S.2.1 a = c) (hf : PutOK y.1.cls ix c j .boolean) (hr : isR c j = false) (hz : v = 0 ∨ v = 1) (e : I1 = wr I a j v)
    (K : WM X y (pc + 3) ls st S I1 k n) : WM X y pc ls (.int v :: rfX X a :: st) S I k n := s_putT C d hk hf hr (nz_b hz) (fz_b hz) (e ▸ K)
theorem s_ald {a m q : Nat} {i : Int32} (C : CtxOK X y) (d : decode y.2.1 pc = .ok (.iaload, 1)) (hk : S.2.1 a = m) (hm : 10 ≤ m) (hj : i.toNatClampNeg = q) (hin : ¬ (i < 0 ∨ m - 10 ≤ i.toNatClampNeg))
    (K : WM X y (pc + 1) ls (.int (I a q) :: st) S I k n) : WM X y pc ls (.int i :: rfX X a :: st) S I k n := s_iald C d hk hm hin (hj ▸ K)
theorem s_ast {a m q : Nat} {i v : Int32} (C : CtxOK X y) (d : decode y.2.1 pc = .ok (.iastore, 1)) (hk : S.2.1 a = m) (hm : 10 ≤ m) (hj : i.toNatClampNeg = q) (hin : ¬ (i < 0 ∨ m - 10 ≤ i.toNatClampNeg)) (e : I1 = wr I a q v)
    (K : WM X y (pc + 1) ls st S I1 k n) : WM X y pc ls (.int v :: .int i :: rfX X a :: st) S I k n := s_iast C d hk hm hin (hj ▸ e ▸ K)
theorem s_cV {c np ix a d d' kk nn mc ms : Nat} {yc : Yd} {as st0 : List Value} {r : Option Value} {S1 : Sx} (C : CtxOK X y) (hR : RG X d kk nn) (hd : d' + 1 ≤ d) (hw : MthV yc c np) (hl : Cond.methodLink y.1.cls ix yc.1 ∈ lw_good) (dd : decode y.2.1 pc = .ok (.invokevirtual ix, 3))
    (hS : SemM (xE X) d' mc ms yc (rfX X a :: as) S I r S1 I1) (ha : S.2.1 a = c) (hlen : as.length = np) (hst : st0 = as.reverse ++ rfX X a :: st) (hcat : (st.map fun v => v.category).sum ≤ 8) (hc : k + mc ≤ kk) (hn : n + ms ≤ nn)
    (K : WM X y (pc + 3) ls (r.toList ++ st) S1 I1 (k + mc) (n + ms)) : WM X y pc ls st0 S I k n := by
  intro H locs lsa rp s l
  obtain ⟨h1, h2, h3, h4, h5, h6, ⟨T, N, h7⟩, h8⟩ := hw
  obtain ⟨g1, g2, g3, g4⟩ := hR
  have hts := C.2.2.2.2.1
  have hal : a < S.1 := rep_lt rp (by omega)
  have he := ws_at (E := xE X) (S := S) (I := I) hal
  rw [cell_o ha h8] at he
  have cb : CallB (xR X) (xs X) (xa X) y.1.cls ix yc.1 yc.2.1 yc.2.2.1 yc.2.2.2 (GW yc) (rmD d' mc ms) mc ms np :=
    callB_of np hts (gwG h4) rfl rfl rfl (hts _ h3) (hts _ hl) h5 ⟨Nat.le_trans hd g1, Nat.le_trans (show 8 + (yc.2.2.1 + 11) + 41 * d' ≤ 41 * d by omega) g2⟩
  have hrun := va_runV (e := xe X) (g := F0 (xm X) pc lsa st0) (locs := locs) (cells := k) (slots := n) (rest := st) (below := xb X) (meth := xM X) ⟨C.1, C.2.1, C.2.2.1, C.2.2.2.1, hts⟩ (hS (xl X)) ⟨cb, hts _ h1, hts _ h2⟩
    ⟨blind, va_recv C.2.2.2.2.2.1 rp.1 h7 he, fun U hU hW => ⟨rfl, And.intro (show RepH (xE X) S I U.heap from hU ▸ rp) (And.intro (va_K.moved hW.alike C.2.2.2.2.2.1) (NW.warm hW C.2.2.2.2.2.2.2.2.2.2))⟩⟩ rfl hlen l.1 hst (lv_room hcat) dd ⟨Nat.le_trans hc g3, Nat.le_trans hn g4⟩
  exact s_back C s l hrun K
theorem s_cS {np ix d d' kk nn mc ms : Nat} {yc : Yd} {as st0 : List Value} {r : Option Value} {S1 : Sx} (C : CtxOK X y) (hR : RG X d kk nn) (hd : d' + 1 ≤ d) (hw : MthS yc np) (hl : Cond.methodLink y.1.cls ix yc.1 ∈ lw_good) (dd : decode y.2.1 pc = .ok (.invokestatic ix, 3))
    (hS : SemM (xE X) d' mc ms yc as S I r S1 I1) (hlen : as.length = np) (hst : st0 = as.reverse ++ st) (hcat : (st.map fun v => v.category).sum ≤ 8) (hc : k + mc ≤ kk) (hn : n + ms ≤ nn)
    (K : WM X y (pc + 3) ls (r.toList ++ st) S1 I1 (k + mc) (n + ms)) : WM X y pc ls st0 S I k n := by
  intro H locs lsa rp s l
  obtain ⟨h1, h3, h4, h5, h6⟩ := hw
  obtain ⟨g1, g2, g3, g4⟩ := hR
  have hts := C.2.2.2.2.1
  have cb : CallB (xR X) (xs X) (xa X) y.1.cls ix yc.1 yc.2.1 yc.2.2.1 yc.2.2.2 (GW yc) (rmD d' mc ms) mc ms np :=
    callB_of np hts (gwG h4) rfl rfl rfl (hts _ h3) (hts _ hl) h5 ⟨Nat.le_trans hd g1, Nat.le_trans (show 8 + (yc.2.2.1 + 11) + 41 * d' ≤ 41 * d by omega) g2⟩
  have hrun := va_runS (e := xe X) (g := F0 (xm X) pc lsa st0) (locs := locs) (cells := k) (slots := n) (rest := st) (below := xb X) (meth := xM X) ⟨C.1, C.2.1, C.2.2.1, C.2.2.2.1, hts⟩ (hS (xl X)) ⟨cb, hts _ h1⟩
    ⟨blind, fun U hU hW => ⟨rfl, And.intro (show RepH (xE X) S I U.heap from hU ▸ rp) (And.intro (va_K.moved hW.alike C.2.2.2.2.2.1) (NW.warm hW C.2.2.2.2.2.2.2.2.2.2))⟩⟩ rfl hlen l.1 hst (lv_room hcat) dd ⟨Nat.le_trans hc g3, Nat.le_trans hn g4⟩
  exact s_back C s l hrun K
theorem s_max {ix d kk nn : Nat} {a b : Int32} (C : CtxOK X y) (hR : RG X d kk nn) (hd : 1 ≤ d) (hl : Cond.methodLink y.1.cls ix Lib.Math.max.name ∈ lw_good) (dd : decode y.2.1 pc = .ok (.invokestatic ix, 3)) (w1 : Cond.static Lib.Math.max.name ∈ lw_good) (w2 : Cond.initialized "java/lang/Math" ∈ lw_good) (w3 : Cond.code Lib.Math.max.name Lib.Math.max.code 2 (some .int) ∈ lw_good) (hcat : (st.map fun v => v.category).sum ≤ 8) (hc : k ≤ kk) (hn : n ≤ nn)
    (K : WM X y (pc + 3) ls (.int (mxI a b) :: st) S I k n) : WM X y pc ls (.int b :: .int a :: st) S I k n := fun H locs lsa r s l =>
  va_mmax C.1 C.2.1 (C.2.2.1.trans l.1.symm) C.2.2.2.1 (C.2.2.2.2.1 _ hl) (C.2.2.2.2.1 _ w1) (C.2.2.2.2.1 _ w2) (C.2.2.2.2.1 _ w3) (Nat.le_trans hd hR.1) (Nat.le_trans (by omega) hR.2.1) (Nat.le_trans hc hR.2.2.1) (Nat.le_trans hn hR.2.2.2) dd (K H locs lsa r s l)
theorem s_min {ix d kk nn : Nat} {a b : Int32} (C : CtxOK X y) (hR : RG X d kk nn) (hd : 1 ≤ d) (hl : Cond.methodLink y.1.cls ix Lib.Math.min.name ∈ lw_good) (dd : decode y.2.1 pc = .ok (.invokestatic ix, 3)) (w1 : Cond.static Lib.Math.min.name ∈ lw_good) (w2 : Cond.initialized "java/lang/Math" ∈ lw_good) (w3 : Cond.code Lib.Math.min.name Lib.Math.min.code 2 (some .int) ∈ lw_good) (hcat : (st.map fun v => v.category).sum ≤ 8) (hc : k ≤ kk) (hn : n ≤ nn)
    (K : WM X y (pc + 3) ls (.int (mnI a b) :: st) S I k n) : WM X y pc ls (.int b :: .int a :: st) S I k n := fun H locs lsa r s l =>
  va_mmin C.1 C.2.1 (C.2.2.1.trans l.1.symm) C.2.2.2.1 (C.2.2.2.2.1 _ hl) (C.2.2.2.2.1 _ w1) (C.2.2.2.2.1 _ w2) (C.2.2.2.2.1 _ w3) (Nat.le_trans hd hR.1) (Nat.le_trans (by omega) hR.2.1) (Nat.le_trans hc hR.2.2.1) (Nat.le_trans hn hR.2.2.2) dd (K H locs lsa r s l)
end RL5
/-! calls in a world that doesn't grow -/
section RL6
variable {X : Cx} {y : Yd} {pc : Nat} {ls ls' : List (Option Value)} {st : List Value} {I I1 : Mm}
theorem s_cV0 {c np ix a d d' : Nat} {yc : Yd} {as st0 : List Value} {r : Option Value} (C : CtxOK X y) (hR : RG X d 0 0) (hd : d' + 1 ≤ d) (hw : MthV yc c np) (hl : Cond.methodLink y.1.cls ix yc.1 ∈ lw_good) (dd : decode y.2.1 pc = .ok (.invokevirtual ix, 3))
    (hS : SemM (xE X) d' 0 0 yc (rfX X a :: as) S0 I r S0 I1) (ha : kd0 a = c) (hlen : as.length = np) (hst : st0 = as.reverse ++ rfX X a :: st) (hcat : (st.map fun v => v.category).sum ≤ 8)
    (K : WM X y (pc + 3) ls (r.toList ++ st) S0 I1 0 0) : WM X y pc ls st0 S0 I 0 0 := s_cV C hR hd hw hl dd hS ha hlen hst hcat (Nat.le_refl 0) (Nat.le_refl 0) K
theorem s_cS0 {np ix d d' : Nat} {yc : Yd} {as st0 : List Value} {r : Option Value} (C : CtxOK X y) (hR : RG X d 0 0) (hd : d' + 1 ≤ d) (hw : MthS yc np) (hl : Cond.methodLink y.1.cls ix yc.1 ∈ lw_good) (dd : decode y.2.1 pc = .ok (.invokestatic ix, 3))
    (hS : SemM (xE X) d' 0 0 yc as S0 I r S0 I1) (hlen : as.length = np) (hst : st0 = as.reverse ++ st) (hcat : (st.map fun v => v.category).sum ≤ 8)
    (K : WM X y (pc + 3) ls (r.toList ++ st) S0 I1 0 0) : WM X y pc ls st0 S0 I 0 0 := s_cS C hR hd hw hl dd hS hlen hst hcat (Nat.le_refl 0) (Nat.le_refl 0) K
end RL6
theorem SemM.ofX {E : Ev} {d k n : Nat} {y : Yd} {args : Ev → List Value} {S S' : Sx} {I I' : Mm} {r : Ev → Option Value} (ls : Ev → List (Option Value)) (hy : plainName y.1.cls = true) (hsl : (lg_sl (args E)).length ≤ y.2.2.1) (hls : lv_args 0 (args E) = al 0 (ls E))
    (body : ∀ X : Cx, CtxOK X y → MX X (xE X) d k n (r (xE X)) S' I' → WM X y 0 (ls (xE X)) [] S I 0 0) : SemM E d k n y (args E) S I (r E) S' I' :=
  SemM.of hy hsl hls (fun X C M => by
    obtain ⟨h1, h2, h3⟩ := M
    subst h1
    exact body X C ⟨rfl, h2, h3⟩)
abbrev rfE (E : Ev) (k : Nat) : Value := .ref (E.1.size + k)
end
section
/-! what each method is, by the tables -/
abbrev mX0_init : Yd := (yX0_init, cX0_init, 1, none)
abbrev mX0_signOf : Yd := (yX0_signOf, cX0_signOf, 2, (some .int))
abbrev mX0_numberOf : Yd := (yX0_numberOf, cX0_numberOf, 4, (some .int))
abbrev mX0_read : Yd := (yX0_read, cX0_read, 4, (some .int))
abbrev mX0_isOrder : Yd := (yX0_isOrder, cX0_isOrder, 3, (some .boolean))
abbrev mX0_isCode : Yd := (yX0_isCode, cX0_isCode, 3, (some .boolean))
abbrev mX0_isNumber : Yd := (yX0_isNumber, cX0_isNumber, 6, (some .boolean))
abbrev mX0_isDigit : Yd := (yX0_isDigit, cX0_isDigit, 1, (some .boolean))
abbrev mX1_init : Yd := (yX1_init, cX1_init, 1, none)
abbrev mX1_isPlace : Yd := (yX1_isPlace, cX1_isPlace, 2, (some .boolean))
abbrev mX1_weightAt : Yd := (yX1_weightAt, cX1_weightAt, 2, (some .int))
abbrev mX1_loadAt : Yd := (yX1_loadAt, cX1_loadAt, 2, (some .int))
abbrev mX1_depthAt : Yd := (yX1_depthAt, cX1_depthAt, 2, (some .int))
abbrev mX1_find : Yd := (yX1_find, cX1_find, 3, (some .int))
abbrev mX1_firstOf : Yd := (yX1_firstOf, cX1_firstOf, 3, (some .int))
abbrev mX1_lastOf : Yd := (yX1_lastOf, cX1_lastOf, 3, (some .int))
abbrev mX1_topOf : Yd := (yX1_topOf, cX1_topOf, 5, (some .int))
abbrev mX1_above : Yd := (yX1_above, cX1_above, 5, (some .int))
abbrev mX1_leans : Yd := (yX1_leans, cX1_leans, 6, (some .boolean))
abbrev mX1_loadsFrom : Yd := (yX1_loadsFrom, cX1_loadsFrom, 5, (some .int))
abbrev mX1_depths : Yd := (yX1_depths, cX1_depths, 3, (some .int))
abbrev mX1_greatestDepth : Yd := (yX1_greatestDepth, cX1_greatestDepth, 3, (some .int))
abbrev mX1_leaning : Yd := (yX1_leaning, cX1_leaning, 4, (some .int))
abbrev mX1_lowest : Yd := (yX1_lowest, cX1_lowest, 3, (some .int))
abbrev mX1_cartsUpTo : Yd := (yX1_cartsUpTo, cX1_cartsUpTo, 6, (some .int))
abbrev mX1_lighterByParts : Yd := (yX1_lighterByParts, cX1_lighterByParts, 7, (some .int))
abbrev mX1_lighterOneByOne : Yd := (yX1_lighterOneByOne, cX1_lighterOneByOne, 4, (some .int))
abbrev mX1_loadsByParts : Yd := (yX1_loadsByParts, cX1_loadsByParts, 3, (some .int))
abbrev mX1_loadsOfLighter : Yd := (yX1_loadsOfLighter, cX1_loadsOfLighter, 8, (some .int))
abbrev mX1_loadsOneByOne : Yd := (yX1_loadsOneByOne, cX1_loadsOneByOne, 5, (some .int))
abbrev mX1_isInOrder : Yd := (yX1_isInOrder, cX1_isInOrder, 2, (some .boolean))
abbrev mX1_lay : Yd := (yX1_lay, cX1_lay, 6, (some .int))
abbrev mX1_lift : Yd := (yX1_lift, cX1_lift, 5, none)
abbrev mX1_buildPartAbove : Yd := (yX1_buildPartAbove, cX1_buildPartAbove, 7, (some .int))
abbrev mX1_buildWhole : Yd := (yX1_buildWhole, cX1_buildWhole, 1, (some .int))
abbrev mX1_spread : Yd := (yX1_spread, cX1_spread, 6, (some .int))
abbrev mX1_raise : Yd := (yX1_raise, cX1_raise, 4, none)
abbrev mX1_set : Yd := (yX1_set, cX1_set, 5, none)
abbrev mX1_setDepth : Yd := (yX1_setDepth, cX1_setDepth, 3, none)
abbrev mX1_copyFrom : Yd := (yX1_copyFrom, cX1_copyFrom, 2, none)
abbrev mX2_init : Yd := (yX2_init, cX2_init, 1, none)
abbrev mX2_clear : Yd := (yX2_clear, cX2_clear, 1, none)
abbrev mX2_add : Yd := (yX2_add, cX2_add, 2, (some .boolean))
abbrev mX2_addNumber : Yd := (yX2_addNumber, cX2_addNumber, 2, none)
abbrev mX2_codeAt : Yd := (yX2_codeAt, cX2_codeAt, 2, (some .int))
abbrev mX3_init : Yd := (yX3_init, cX3_init, 2, none)
abbrev mX3_rickAt : Yd := (yX3_rickAt, cX3_rickAt, 2, (some (.object "LeaningRicks$Rick")))
abbrev mX3_sheaves : Yd := (yX3_sheaves, cX3_sheaves, 4, (some .int))
abbrev mX3_loads : Yd := (yX3_loads, cX3_loads, 4, (some .int))
abbrev mX3_keyAfter : Yd := (yX3_keyAfter, cX3_keyAfter, 8, (some .int))
abbrev mX3_copyFrom : Yd := (yX3_copyFrom, cX3_copyFrom, 5, none)
abbrev mX4_init : Yd := (yX4_init, cX4_init, 2, none)
abbrev mX4_put : Yd := (yX4_put, cX4_put, 4, (some .int))
abbrev mX4_take : Yd := (yX4_take, cX4_take, 3, (some .int))
abbrev mX4_build : Yd := (yX4_build, cX4_build, 2, (some .int))
abbrev mX4_pour : Yd := (yX4_pour, cX4_pour, 3, (some .int))
abbrev mX4_limit : Yd := (yX4_limit, cX4_limit, 2, (some .int))
abbrev mX4_sheafOf : Yd := (yX4_sheafOf, cX4_sheafOf, 8, (some .int))
abbrev mX4_rickOf : Yd := (yX4_rickOf, cX4_rickOf, 4, (some .int))
abbrev mX4_rank : Yd := (yX4_rank, cX4_rank, 4, (some .int))
abbrev mX4_rankAgain : Yd := (yX4_rankAgain, cX4_rankAgain, 4, (some .int))
abbrev mX4_at : Yd := (yX4_at, cX4_at, 4, (some .int))
abbrev mX4_between : Yd := (yX4_between, cX4_between, 5, (some .int))
abbrev mX4_betweenAgain : Yd := (yX4_betweenAgain, cX4_betweenAgain, 5, (some .int))
abbrev mX4_heaviest : Yd := (yX4_heaviest, cX4_heaviest, 4, (some .int))
abbrev mX4_carts : Yd := (yX4_carts, cX4_carts, 4, (some .int))
abbrev mX4_cartOf : Yd := (yX4_cartOf, cX4_cartOf, 6, (some .int))
abbrev mX4_shape : Yd := (yX4_shape, cX4_shape, 3, (some .long))
abbrev mX4_weights : Yd := (yX4_weights, cX4_weights, 8, (some .long))
abbrev mX4_leaningShare : Yd := (yX4_leaningShare, cX4_leaningShare, 3, (some .int))
abbrev mX4_meanDepth : Yd := (yX4_meanDepth, cX4_meanDepth, 3, (some .long))
abbrev mX4_append : Yd := (yX4_append, cX4_append, 2, (some .int))
abbrev mX4_run : Yd := (yX4_run, cX4_run, 3, (some .int))
abbrev mX4_tell : Yd := (yX4_tell, cX4_tell, 3, (some .int))
abbrev mX4_character : Yd := (yX4_character, cX4_character, 2, (some .int))
abbrev mX4_reason : Yd := (yX4_reason, cX4_reason, 2, (some .int))
abbrev mX4_account : Yd := (yX4_account, cX4_account, 2, (some .int))
abbrev mX4_isBalanced : Yd := (yX4_isBalanced, cX4_isBalanced, 3, (some .int))
abbrev mX4_undo : Yd := (yX4_undo, cX4_undo, 1, (some .int))
abbrev mX4_save : Yd := (yX4_save, cX4_save, 1, (some .int))
abbrev mX4_restore : Yd := (yX4_restore, cX4_restore, 1, (some .int))
abbrev mX4_putNow : Yd := (yX4_putNow, cX4_putNow, 7, (some .int))
abbrev mX4_takeNow : Yd := (yX4_takeNow, cX4_takeNow, 6, (some .int))
abbrev mX4_buildNow : Yd := (yX4_buildNow, cX4_buildNow, 3, (some .int))
abbrev mX4_pourNow : Yd := (yX4_pourNow, cX4_pourNow, 6, (some .int))
abbrev mX4_limitNow : Yd := (yX4_limitNow, cX4_limitNow, 3, (some .int))
abbrev mX4_buildWhole : Yd := (yX4_buildWhole, cX4_buildWhole, 3, (some .int))
abbrev mX4_carryOut : Yd := (yX4_carryOut, cX4_carryOut, 4, (some .int))
abbrev mX4_refuse : Yd := (yX4_refuse, cX4_refuse, 3, (some .int))
abbrev mX4_hold : Yd := (yX4_hold, cX4_hold, 2, none)
abbrev mX4_keep : Yd := (yX4_keep, cX4_keep, 2, (some .int))
abbrev mX4_giveBack : Yd := (yX4_giveBack, cX4_giveBack, 2, none)
abbrev mX4_beforeNow : Yd := (yX4_beforeNow, cX4_beforeNow, 1, (some (.object "LeaningRicks$Yard")))
abbrev mX4_isBears : Yd := (yX4_isBears, cX4_isBears, 1, (some .boolean))
abbrev mX4_depthFor : Yd := (yX4_depthFor, cX4_depthFor, 5, (some .int))
abbrev mX4_shapeOf : Yd := (yX4_shapeOf, cX4_shapeOf, 9, (some .long))
abbrev mX4_write : Yd := (yX4_write, cX4_write, 7, none)
abbrev mX4_isSound : Yd := (yX4_isSound, cX4_isSound, 3, (some .boolean))
abbrev mX4_isTree : Yd := (yX4_isTree, cX4_isTree, 5, (some .boolean))
abbrev mX4_shareBits : Yd := (yX4_shareBits, cX4_shareBits, 4, (some .int))
abbrev mX4_meanBits : Yd := (yX4_meanBits, cX4_meanBits, 7, (some .long))
abbrev mX5_init : Yd := (yX5_init, cX5_init, 1, none)
abbrev mX5_isBetween : Yd := (yX5_isBetween, cX5_isBetween, 3, (some .boolean))
abbrev mX5_copyRow : Yd := (yX5_copyRow, cX5_copyRow, 3, none)
abbrev mX5_refuse : Yd := (yX5_refuse, cX5_refuse, 4, (some .boolean))
abbrev mX5_remember : Yd := (yX5_remember, cX5_remember, 3, none)
abbrev mX5_change : Yd := (yX5_change, cX5_change, 1, none)
abbrev mX5_isRick : Yd := (yX5_isRick, cX5_isRick, 1, (some .boolean))
abbrev mX5_top : Yd := (yX5_top, cX5_top, 2, (some .int))
abbrev mX5_most : Yd := (yX5_most, cX5_most, 2, (some .int))
abbrev mX5_setTop : Yd := (yX5_setTop, cX5_setTop, 3, none)
abbrev mX5_setMost : Yd := (yX5_setMost, cX5_setMost, 3, none)
abbrev mX5_of : Yd := (yX5_of, cX5_of, 4, (some .int))
abbrev mX5_put : Yd := (yX5_put, cX5_put, 5, none)
abbrev mX5_size : Yd := (yX5_size, cX5_size, 3, (some .int))
abbrev mX5_loads : Yd := (yX5_loads, cX5_loads, 3, (some .int))
abbrev mX5_count : Yd := (yX5_count, cX5_count, 2, (some .int))
abbrev mX5_find : Yd := (yX5_find, cX5_find, 4, (some .int))
abbrev mX5_above : Yd := (yX5_above, cX5_above, 5, (some .int))
abbrev mX5_depth : Yd := (yX5_depth, cX5_depth, 5, (some .int))
abbrev mX5_leans : Yd := (yX5_leans, cX5_leans, 6, (some .boolean))
abbrev mX5_mayHave : Yd := (yX5_mayHave, cX5_mayHave, 4, (some .int))
abbrev mX5_listFrom : Yd := (yX5_listFrom, cX5_listFrom, 3, none)
abbrev mX5_listAll : Yd := (yX5_listAll, cX5_listAll, 2, none)
abbrev mX5_make : Yd := (yX5_make, cX5_make, 6, (some .int))
abbrev mX5_replace : Yd := (yX5_replace, cX5_replace, 5, none)
abbrev mX5_buildPart : Yd := (yX5_buildPart, cX5_buildPart, 4, none)
abbrev mX5_buildWhole : Yd := (yX5_buildWhole, cX5_buildWhole, 2, none)
abbrev mX5_emptyStall : Yd := (yX5_emptyStall, cX5_emptyStall, 3, (some .int))
abbrev mX5_enter : Yd := (yX5_enter, cX5_enter, 5, (some .int))
abbrev mX5_hang : Yd := (yX5_hang, cX5_hang, 6, none)
abbrev mX5_isWeight : Yd := (yX5_isWeight, cX5_isWeight, 1, (some .boolean))
abbrev mX5_put_ : Yd := (yX5_put_, cX5_put_, 7, (some .int))
abbrev mX5_unhang : Yd := (yX5_unhang, cX5_unhang, 4, none)
abbrev mX5_takeOut : Yd := (yX5_takeOut, cX5_takeOut, 5, none)
abbrev mX5_clear : Yd := (yX5_clear, cX5_clear, 3, none)
abbrev mX5_take : Yd := (yX5_take, cX5_take, 5, (some .int))
abbrev mX5_build : Yd := (yX5_build, cX5_build, 4, (some .int))
abbrev mX5_common : Yd := (yX5_common, cX5_common, 4, (some .int))
abbrev mX5_pour : Yd := (yX5_pour, cX5_pour, 6, (some .int))
abbrev mX5_limit : Yd := (yX5_limit, cX5_limit, 3, (some .int))
abbrev mX5_weightOr : Yd := (yX5_weightOr, cX5_weightOr, 3, (some .int))
abbrev mX5_sheafOf : Yd := (yX5_sheafOf, cX5_sheafOf, 5, (some .int))
abbrev mX5_greatestDepth : Yd := (yX5_greatestDepth, cX5_greatestDepth, 5, (some .int))
abbrev mX5_leaning : Yd := (yX5_leaning, cX5_leaning, 4, (some .int))
abbrev mX5_allDepths : Yd := (yX5_allDepths, cX5_allDepths, 4, (some .int))
abbrev mX5_lowest : Yd := (yX5_lowest, cX5_lowest, 4, (some .int))
abbrev mX5_rickOf : Yd := (yX5_rickOf, cX5_rickOf, 3, (some .int))
abbrev mX5_rank : Yd := (yX5_rank, cX5_rank, 4, (some .int))
abbrev mX5_rankAgain : Yd := (yX5_rankAgain, cX5_rankAgain, 3, (some .int))
abbrev mX5_at : Yd := (yX5_at, cX5_at, 3, (some .int))
abbrev mX5_between : Yd := (yX5_between, cX5_between, 6, (some .int))
abbrev mX5_betweenAgain : Yd := (yX5_betweenAgain, cX5_betweenAgain, 4, (some .int))
abbrev mX5_isThere : Yd := (yX5_isThere, cX5_isThere, 2, (some .boolean))
abbrev mX5_ofAll : Yd := (yX5_ofAll, cX5_ofAll, 3, (some .int))
abbrev mX5_isAhead : Yd := (yX5_isAhead, cX5_isAhead, 5, (some .boolean))
abbrev mX5_heaviest : Yd := (yX5_heaviest, cX5_heaviest, 5, (some .int))
abbrev mX5_load : Yd := (yX5_load, cX5_load, 8, (some .int))
abbrev mX5_isBearing : Yd := (yX5_isBearing, cX5_isBearing, 1, (some .boolean))
abbrev mX5_carts : Yd := (yX5_carts, cX5_carts, 3, (some .int))
abbrev mX5_cartOf : Yd := (yX5_cartOf, cX5_cartOf, 4, (some .int))
abbrev mX5_bits : Yd := (yX5_bits, cX5_bits, 5, (some .long))
abbrev mX5_shape : Yd := (yX5_shape, cX5_shape, 2, (some .long))
abbrev mX5_weights : Yd := (yX5_weights, cX5_weights, 6, (some .long))
abbrev mX5_leaningShare : Yd := (yX5_leaningShare, cX5_leaningShare, 2, (some .int))
abbrev mX5_meanDepth : Yd := (yX5_meanDepth, cX5_meanDepth, 2, (some .long))
abbrev mX5_append : Yd := (yX5_append, cX5_append, 2, (some .int))
abbrev mX5_sees : Yd := (yX5_sees, cX5_sees, 3, (some .boolean))
abbrev mX5_must : Yd := (yX5_must, cX5_must, 2, none)
abbrev mX5_readNumber : Yd := (yX5_readNumber, cX5_readNumber, 4, (some .int))
abbrev mX5_readSheaf : Yd := (yX5_readSheaf, cX5_readSheaf, 1, none)
abbrev mX5_readOrder : Yd := (yX5_readOrder, cX5_readOrder, 1, none)
abbrev mX5_countOrders : Yd := (yX5_countOrders, cX5_countOrders, 2, (some .int))
abbrev mX5_carryOut : Yd := (yX5_carryOut, cX5_carryOut, 1, (some .int))
abbrev mX5_run : Yd := (yX5_run, cX5_run, 4, (some .int))
abbrev mX5_write : Yd := (yX5_write, cX5_write, 2, none)
abbrev mX5_writeNumber : Yd := (yX5_writeNumber, cX5_writeNumber, 2, none)
abbrev mX5_writeSheaf : Yd := (yX5_writeSheaf, cX5_writeSheaf, 3, none)
abbrev mX5_tell : Yd := (yX5_tell, cX5_tell, 2, (some .int))
abbrev mX5_character : Yd := (yX5_character, cX5_character, 2, (some .int))
abbrev mX5_reason : Yd := (yX5_reason, cX5_reason, 2, (some .int))
abbrev mX5_allSheaves : Yd := (yX5_allSheaves, cX5_allSheaves, 1, (some .int))
abbrev mX5_account : Yd := (yX5_account, cX5_account, 2, (some .int))
abbrev mX5_isBalanced : Yd := (yX5_isBalanced, cX5_isBalanced, 1, (some .int))
abbrev mX5_undo : Yd := (yX5_undo, cX5_undo, 1, (some .int))
abbrev mX5_save : Yd := (yX5_save, cX5_save, 1, (some .int))
abbrev mX5_restore : Yd := (yX5_restore, cX5_restore, 1, (some .int))
abbrev mJ11_isValidCodePoint_9a6ad : Yd := (yJ11_isValidCodePoint_9a6ad, cJ11_isValidCodePoint_9a6ad, 2, (some .boolean))
abbrev mJ11_highSurrogate_5068e : Yd := (yJ11_highSurrogate_5068e, cJ11_highSurrogate_5068e, 1, (some .char))
abbrev mJ11_lowSurrogate_5068e : Yd := (yJ11_lowSurrogate_5068e, cJ11_lowSurrogate_5068e, 1, (some .char))
abbrev mJxe99ae_isNaN_b9ae7 : Yd := (yJxe99ae_isNaN_b9ae7, cJxe99ae_isNaN_b9ae7, 2, (some .boolean))
abbrev mJxe99ae_doubleToLongBits_ccdee : Yd := (yJxe99ae_doubleToLongBits_ccdee, cJxe99ae_doubleToLongBits_ccdee, 2, (some .long))
abbrev mJxf58ca_isNaN_12338 : Yd := (yJxf58ca_isNaN_12338, cJxf58ca_isNaN_12338, 1, (some .boolean))
abbrev mJxf58ca_floatToIntBits_5c35a : Yd := (yJxf58ca_floatToIntBits_5c35a, cJxf58ca_floatToIntBits_5c35a, 1, (some .int))
abbrev mJ9_max_7cf53 : Yd := (yJ9_max_7cf53, cJ9_max_7cf53, 2, (some .int))
abbrev mJ9_min_7cf53 : Yd := (yJ9_min_7cf53, cJ9_min_7cf53, 2, (some .int))
abbrev mJ0_length_8abf5 : Yd := (yJ0_length_8abf5, cJ0_length_8abf5, 1, (some .int))
abbrev mJ0_indexOf_0f7a4 : Yd := (yJ0_indexOf_0f7a4, cJ0_indexOf_0f7a4, 2, (some .int))
abbrev mJ0_indexOf_7cf53 : Yd := (yJ0_indexOf_7cf53, cJ0_indexOf_7cf53, 3, (some .int))
abbrev mJ0_coder_7d493 : Yd := (yJ0_coder_7d493, cJ0_coder_7d493, 1, (some .byte))
abbrev mJ0_isLatin1_aae02 : Yd := (yJ0_isLatin1_aae02, cJ0_isLatin1_aae02, 1, (some .boolean))
abbrev mJ0_checkBoundsBeginEnd_23922 : Yd := (yJ0_checkBoundsBeginEnd_23922, cJ0_checkBoundsBeginEnd_23922, 3, none)
abbrev mJ1_canEncode_9a6ad : Yd := (yJ1_canEncode_9a6ad, cJ1_canEncode_9a6ad, 1, (some .boolean))
abbrev mJ1_indexOf_4cfef : Yd := (yJ1_indexOf_4cfef, cJ1_indexOf_4cfef, 4, (some .int))
abbrev mJ1_indexOfChar_4cfef : Yd := (yJ1_indexOfChar_4cfef, cJ1_indexOfChar_4cfef, 6, (some .int))
abbrev mJ2_getChar_3b067 : Yd := (yJ2_getChar_3b067, cJ2_getChar_3b067, 2, (some .char))
abbrev mJ2_length_9d52b : Yd := (yJ2_length_9d52b, cJ2_length_9d52b, 1, (some .int))
abbrev mJ2_indexOf_4cfef : Yd := (yJ2_indexOf_4cfef, cJ2_indexOf_4cfef, 4, (some .int))
abbrev mJ2_indexOfChar_4cfef : Yd := (yJ2_indexOfChar_4cfef, cJ2_indexOfChar_4cfef, 4, (some .int))
abbrev mJ2_indexOfCharUnsafe_4cfef : Yd := (yJ2_indexOfCharUnsafe_4cfef, cJ2_indexOfCharUnsafe_4cfef, 5, (some .int))
abbrev mJ2_indexOfSupplementary_4cfef : Yd := (yJ2_indexOfSupplementary_4cfef, cJ2_indexOfSupplementary_4cfef, 7, (some .int))
abbrev mJ2_checkBoundsBeginEnd_d044e : Yd := (yJ2_checkBoundsBeginEnd_d044e, cJ2_checkBoundsBeginEnd_d044e, 3, none)
abbrev mJ3_checkFromToIndex_8c36e : Yd := (yJ3_checkFromToIndex_8c36e, cJ3_checkFromToIndex_8c36e, 4, (some .int))
theorem mwX0_signOf : MthV mX0_signOf 0 1 := ⟨gw_mem 573 (by decide +kernel) (by decide +kernel), gw_mem 574 (by decide +kernel) (by decide +kernel), gw_mem 75 (by decide +kernel) (by decide +kernel), gw_mem 575 (by decide +kernel) (by decide +kernel), ⟨by decide +kernel, by decide +kernel, by decide +kernel⟩, by decide, ⟨_, _, rfl⟩, by decide⟩
theorem mwX0_numberOf : MthV mX0_numberOf 0 2 := ⟨gw_mem 569 (by decide +kernel) (by decide +kernel), gw_mem 570 (by decide +kernel) (by decide +kernel), gw_mem 75 (by decide +kernel) (by decide +kernel), gw_mem 571 (by decide +kernel) (by decide +kernel), ⟨by decide +kernel, by decide +kernel, by decide +kernel⟩, by decide, ⟨_, _, rfl⟩, by decide⟩
theorem mwX0_read : MthV mX0_read 0 1 := ⟨gw_mem 538 (by decide +kernel) (by decide +kernel), gw_mem 539 (by decide +kernel) (by decide +kernel), gw_mem 75 (by decide +kernel) (by decide +kernel), gw_mem 540 (by decide +kernel) (by decide +kernel), ⟨by decide +kernel, by decide +kernel, by decide +kernel⟩, by decide, ⟨_, _, rfl⟩, by decide⟩
theorem mwX0_isOrder : MthV mX0_isOrder 0 1 := ⟨gw_mem 543 (by decide +kernel) (by decide +kernel), gw_mem 14 (by decide +kernel) (by decide +kernel), gw_mem 75 (by decide +kernel) (by decide +kernel), gw_mem 544 (by decide +kernel) (by decide +kernel), ⟨by decide +kernel, by decide +kernel, by decide +kernel⟩, by decide, ⟨_, _, rfl⟩, by decide⟩
theorem mwX0_isCode : MthV mX0_isCode 0 2 := ⟨gw_mem 551 (by decide +kernel) (by decide +kernel), gw_mem 15 (by decide +kernel) (by decide +kernel), gw_mem 75 (by decide +kernel) (by decide +kernel), gw_mem 552 (by decide +kernel) (by decide +kernel), ⟨by decide +kernel, by decide +kernel, by decide +kernel⟩, by decide, ⟨_, _, rfl⟩, by decide⟩
theorem mwX0_isNumber : MthV mX0_isNumber 0 3 := ⟨gw_mem 555 (by decide +kernel) (by decide +kernel), gw_mem 16 (by decide +kernel) (by decide +kernel), gw_mem 75 (by decide +kernel) (by decide +kernel), gw_mem 556 (by decide +kernel) (by decide +kernel), ⟨by decide +kernel, by decide +kernel, by decide +kernel⟩, by decide, ⟨_, _, rfl⟩, by decide⟩
theorem mwX0_isDigit : MthS mX0_isDigit 1 := ⟨gw_mem 558 (by decide +kernel) (by decide +kernel), gw_mem 75 (by decide +kernel) (by decide +kernel), gw_mem 559 (by decide +kernel) (by decide +kernel), ⟨by decide +kernel, by decide +kernel, by decide +kernel⟩, by decide⟩
theorem mwX1_isPlace : MthV mX1_isPlace 1 1 := ⟨gw_mem 317 (by decide +kernel) (by decide +kernel), gw_mem 318 (by decide +kernel) (by decide +kernel), gw_mem 73 (by decide +kernel) (by decide +kernel), gw_mem 319 (by decide +kernel) (by decide +kernel), ⟨by decide +kernel, by decide +kernel, by decide +kernel⟩, by decide, ⟨_, _, rfl⟩, by decide⟩
theorem mwX1_weightAt : MthV mX1_weightAt 1 1 := ⟨gw_mem 265 (by decide +kernel) (by decide +kernel), gw_mem 266 (by decide +kernel) (by decide +kernel), gw_mem 73 (by decide +kernel) (by decide +kernel), gw_mem 267 (by decide +kernel) (by decide +kernel), ⟨by decide +kernel, by decide +kernel, by decide +kernel⟩, by decide, ⟨_, _, rfl⟩, by decide⟩
theorem mwX1_loadAt : MthV mX1_loadAt 1 1 := ⟨gw_mem 288 (by decide +kernel) (by decide +kernel), gw_mem 289 (by decide +kernel) (by decide +kernel), gw_mem 73 (by decide +kernel) (by decide +kernel), gw_mem 290 (by decide +kernel) (by decide +kernel), ⟨by decide +kernel, by decide +kernel, by decide +kernel⟩, by decide, ⟨_, _, rfl⟩, by decide⟩
theorem mwX1_depthAt : MthV mX1_depthAt 1 1 := ⟨gw_mem 281 (by decide +kernel) (by decide +kernel), gw_mem 282 (by decide +kernel) (by decide +kernel), gw_mem 73 (by decide +kernel) (by decide +kernel), gw_mem 283 (by decide +kernel) (by decide +kernel), ⟨by decide +kernel, by decide +kernel, by decide +kernel⟩, by decide, ⟨_, _, rfl⟩, by decide⟩
theorem mwX1_find : MthV mX1_find 1 1 := ⟨gw_mem 261 (by decide +kernel) (by decide +kernel), gw_mem 262 (by decide +kernel) (by decide +kernel), gw_mem 73 (by decide +kernel) (by decide +kernel), gw_mem 263 (by decide +kernel) (by decide +kernel), ⟨by decide +kernel, by decide +kernel, by decide +kernel⟩, by decide, ⟨_, _, rfl⟩, by decide⟩
theorem mwX1_firstOf : MthV mX1_firstOf 1 1 := ⟨gw_mem 309 (by decide +kernel) (by decide +kernel), gw_mem 310 (by decide +kernel) (by decide +kernel), gw_mem 73 (by decide +kernel) (by decide +kernel), gw_mem 311 (by decide +kernel) (by decide +kernel), ⟨by decide +kernel, by decide +kernel, by decide +kernel⟩, by decide, ⟨_, _, rfl⟩, by decide⟩
theorem mwX1_lastOf : MthV mX1_lastOf 1 1 := ⟨gw_mem 313 (by decide +kernel) (by decide +kernel), gw_mem 314 (by decide +kernel) (by decide +kernel), gw_mem 73 (by decide +kernel) (by decide +kernel), gw_mem 315 (by decide +kernel) (by decide +kernel), ⟨by decide +kernel, by decide +kernel, by decide +kernel⟩, by decide, ⟨_, _, rfl⟩, by decide⟩
theorem mwX1_topOf : MthV mX1_topOf 1 2 := ⟨gw_mem 401 (by decide +kernel) (by decide +kernel), gw_mem 402 (by decide +kernel) (by decide +kernel), gw_mem 73 (by decide +kernel) (by decide +kernel), gw_mem 403 (by decide +kernel) (by decide +kernel), ⟨by decide +kernel, by decide +kernel, by decide +kernel⟩, by decide, ⟨_, _, rfl⟩, by decide⟩
theorem mwX1_above : MthV mX1_above 1 1 := ⟨gw_mem 305 (by decide +kernel) (by decide +kernel), gw_mem 306 (by decide +kernel) (by decide +kernel), gw_mem 73 (by decide +kernel) (by decide +kernel), gw_mem 307 (by decide +kernel) (by decide +kernel), ⟨by decide +kernel, by decide +kernel, by decide +kernel⟩, by decide, ⟨_, _, rfl⟩, by decide⟩
theorem mwX1_leans : MthV mX1_leans 1 2 := ⟨gw_mem 321 (by decide +kernel) (by decide +kernel), gw_mem 322 (by decide +kernel) (by decide +kernel), gw_mem 73 (by decide +kernel) (by decide +kernel), gw_mem 323 (by decide +kernel) (by decide +kernel), ⟨by decide +kernel, by decide +kernel, by decide +kernel⟩, by decide, ⟨_, _, rfl⟩, by decide⟩
theorem mwX1_loadsFrom : MthV mX1_loadsFrom 1 2 := ⟨gw_mem 395 (by decide +kernel) (by decide +kernel), gw_mem 396 (by decide +kernel) (by decide +kernel), gw_mem 73 (by decide +kernel) (by decide +kernel), gw_mem 397 (by decide +kernel) (by decide +kernel), ⟨by decide +kernel, by decide +kernel, by decide +kernel⟩, by decide, ⟨_, _, rfl⟩, by decide⟩
theorem mwX1_depths : MthV mX1_depths 1 0 := ⟨gw_mem 417 (by decide +kernel) (by decide +kernel), gw_mem 418 (by decide +kernel) (by decide +kernel), gw_mem 73 (by decide +kernel) (by decide +kernel), gw_mem 419 (by decide +kernel) (by decide +kernel), ⟨by decide +kernel, by decide +kernel, by decide +kernel⟩, by decide, ⟨_, _, rfl⟩, by decide⟩
theorem mwX1_greatestDepth : MthV mX1_greatestDepth 1 0 := ⟨gw_mem 409 (by decide +kernel) (by decide +kernel), gw_mem 410 (by decide +kernel) (by decide +kernel), gw_mem 73 (by decide +kernel) (by decide +kernel), gw_mem 411 (by decide +kernel) (by decide +kernel), ⟨by decide +kernel, by decide +kernel, by decide +kernel⟩, by decide, ⟨_, _, rfl⟩, by decide⟩
theorem mwX1_leaning : MthV mX1_leaning 1 1 := ⟨gw_mem 413 (by decide +kernel) (by decide +kernel), gw_mem 414 (by decide +kernel) (by decide +kernel), gw_mem 73 (by decide +kernel) (by decide +kernel), gw_mem 415 (by decide +kernel) (by decide +kernel), ⟨by decide +kernel, by decide +kernel, by decide +kernel⟩, by decide, ⟨_, _, rfl⟩, by decide⟩
theorem mwX1_lowest : MthV mX1_lowest 1 0 := ⟨gw_mem 421 (by decide +kernel) (by decide +kernel), gw_mem 422 (by decide +kernel) (by decide +kernel), gw_mem 73 (by decide +kernel) (by decide +kernel), gw_mem 423 (by decide +kernel) (by decide +kernel), ⟨by decide +kernel, by decide +kernel, by decide +kernel⟩, by decide, ⟨_, _, rfl⟩, by decide⟩
theorem mwX1_cartsUpTo : MthV mX1_cartsUpTo 1 2 := ⟨gw_mem 487 (by decide +kernel) (by decide +kernel), gw_mem 488 (by decide +kernel) (by decide +kernel), gw_mem 73 (by decide +kernel) (by decide +kernel), gw_mem 489 (by decide +kernel) (by decide +kernel), ⟨by decide +kernel, by decide +kernel, by decide +kernel⟩, by decide, ⟨_, _, rfl⟩, by decide⟩
theorem mwX1_lighterByParts : MthV mX1_lighterByParts 1 1 := ⟨gw_mem 429 (by decide +kernel) (by decide +kernel), gw_mem 430 (by decide +kernel) (by decide +kernel), gw_mem 73 (by decide +kernel) (by decide +kernel), gw_mem 431 (by decide +kernel) (by decide +kernel), ⟨by decide +kernel, by decide +kernel, by decide +kernel⟩, by decide, ⟨_, _, rfl⟩, by decide⟩
theorem mwX1_lighterOneByOne : MthV mX1_lighterOneByOne 1 1 := ⟨gw_mem 277 (by decide +kernel) (by decide +kernel), gw_mem 278 (by decide +kernel) (by decide +kernel), gw_mem 73 (by decide +kernel) (by decide +kernel), gw_mem 279 (by decide +kernel) (by decide +kernel), ⟨by decide +kernel, by decide +kernel, by decide +kernel⟩, by decide, ⟨_, _, rfl⟩, by decide⟩
theorem mwX1_loadsByParts : MthV mX1_loadsByParts 1 2 := ⟨gw_mem 448 (by decide +kernel) (by decide +kernel), gw_mem 449 (by decide +kernel) (by decide +kernel), gw_mem 73 (by decide +kernel) (by decide +kernel), gw_mem 450 (by decide +kernel) (by decide +kernel), ⟨by decide +kernel, by decide +kernel, by decide +kernel⟩, by decide, ⟨_, _, rfl⟩, by decide⟩
theorem mwX1_loadsOfLighter : MthV mX1_loadsOfLighter 1 1 := ⟨gw_mem 453 (by decide +kernel) (by decide +kernel), gw_mem 13 (by decide +kernel) (by decide +kernel), gw_mem 73 (by decide +kernel) (by decide +kernel), gw_mem 454 (by decide +kernel) (by decide +kernel), ⟨by decide +kernel, by decide +kernel, by decide +kernel⟩, by decide, ⟨_, _, rfl⟩, by decide⟩
theorem mwX1_loadsOneByOne : MthV mX1_loadsOneByOne 1 2 := ⟨gw_mem 461 (by decide +kernel) (by decide +kernel), gw_mem 462 (by decide +kernel) (by decide +kernel), gw_mem 73 (by decide +kernel) (by decide +kernel), gw_mem 463 (by decide +kernel) (by decide +kernel), ⟨by decide +kernel, by decide +kernel, by decide +kernel⟩, by decide, ⟨_, _, rfl⟩, by decide⟩
theorem mwX1_isInOrder : MthV mX1_isInOrder 1 0 := ⟨gw_mem 618 (by decide +kernel) (by decide +kernel), gw_mem 619 (by decide +kernel) (by decide +kernel), gw_mem 73 (by decide +kernel) (by decide +kernel), gw_mem 620 (by decide +kernel) (by decide +kernel), ⟨by decide +kernel, by decide +kernel, by decide +kernel⟩, by decide, ⟨_, _, rfl⟩, by decide⟩
theorem mwX1_lay : MthV mX1_lay 1 2 := ⟨gw_mem 273 (by decide +kernel) (by decide +kernel), gw_mem 274 (by decide +kernel) (by decide +kernel), gw_mem 73 (by decide +kernel) (by decide +kernel), gw_mem 275 (by decide +kernel) (by decide +kernel), ⟨by decide +kernel, by decide +kernel, by decide +kernel⟩, by decide, ⟨_, _, rfl⟩, by decide⟩
theorem mwX1_lift : MthV mX1_lift 1 1 := ⟨gw_mem 348 (by decide +kernel) (by decide +kernel), gw_mem 349 (by decide +kernel) (by decide +kernel), gw_mem 73 (by decide +kernel) (by decide +kernel), gw_mem 350 (by decide +kernel) (by decide +kernel), ⟨by decide +kernel, by decide +kernel, by decide +kernel⟩, by decide, ⟨_, _, rfl⟩, by decide⟩
theorem mwX1_buildPartAbove : MthV mX1_buildPartAbove 1 2 := ⟨gw_mem 301 (by decide +kernel) (by decide +kernel), gw_mem 302 (by decide +kernel) (by decide +kernel), gw_mem 73 (by decide +kernel) (by decide +kernel), gw_mem 303 (by decide +kernel) (by decide +kernel), ⟨by decide +kernel, by decide +kernel, by decide +kernel⟩, by decide, ⟨_, _, rfl⟩, by decide⟩
theorem mwX1_buildWhole : MthV mX1_buildWhole 1 0 := ⟨gw_mem 360 (by decide +kernel) (by decide +kernel), gw_mem 361 (by decide +kernel) (by decide +kernel), gw_mem 73 (by decide +kernel) (by decide +kernel), gw_mem 362 (by decide +kernel) (by decide +kernel), ⟨by decide +kernel, by decide +kernel, by decide +kernel⟩, by decide, ⟨_, _, rfl⟩, by decide⟩
theorem mwX1_spread : MthS mX1_spread 4 := ⟨gw_mem 325 (by decide +kernel) (by decide +kernel), gw_mem 73 (by decide +kernel) (by decide +kernel), gw_mem 326 (by decide +kernel) (by decide +kernel), ⟨by decide +kernel, by decide +kernel, by decide +kernel⟩, by decide⟩
theorem mwX1_raise : MthV mX1_raise 1 2 := ⟨gw_mem 353 (by decide +kernel) (by decide +kernel), gw_mem 8 (by decide +kernel) (by decide +kernel), gw_mem 73 (by decide +kernel) (by decide +kernel), gw_mem 354 (by decide +kernel) (by decide +kernel), ⟨by decide +kernel, by decide +kernel, by decide +kernel⟩, by decide, ⟨_, _, rfl⟩, by decide⟩
theorem mwX1_set : MthV mX1_set 1 4 := ⟨gw_mem 293 (by decide +kernel) (by decide +kernel), gw_mem 4 (by decide +kernel) (by decide +kernel), gw_mem 73 (by decide +kernel) (by decide +kernel), gw_mem 294 (by decide +kernel) (by decide +kernel), ⟨by decide +kernel, by decide +kernel, by decide +kernel⟩, by decide, ⟨_, _, rfl⟩, by decide⟩
theorem mwX1_setDepth : MthV mX1_setDepth 1 2 := ⟨gw_mem 329 (by decide +kernel) (by decide +kernel), gw_mem 5 (by decide +kernel) (by decide +kernel), gw_mem 73 (by decide +kernel) (by decide +kernel), gw_mem 330 (by decide +kernel) (by decide +kernel), ⟨by decide +kernel, by decide +kernel, by decide +kernel⟩, by decide, ⟨_, _, rfl⟩, by decide⟩
theorem mwX1_copyFrom : MthV mX1_copyFrom 1 1 := ⟨gw_mem 249 (by decide +kernel) (by decide +kernel), gw_mem 250 (by decide +kernel) (by decide +kernel), gw_mem 73 (by decide +kernel) (by decide +kernel), gw_mem 251 (by decide +kernel) (by decide +kernel), ⟨by decide +kernel, by decide +kernel, by decide +kernel⟩, by decide, ⟨_, _, rfl⟩, by decide⟩
theorem mwX2_clear : MthV mX2_clear 2 0 := ⟨gw_mem 561 (by decide +kernel) (by decide +kernel), gw_mem 562 (by decide +kernel) (by decide +kernel), gw_mem 74 (by decide +kernel) (by decide +kernel), gw_mem 563 (by decide +kernel) (by decide +kernel), ⟨by decide +kernel, by decide +kernel, by decide +kernel⟩, by decide, ⟨_, _, rfl⟩, by decide⟩
theorem mwX2_add : MthV mX2_add 2 1 := ⟨gw_mem 530 (by decide +kernel) (by decide +kernel), gw_mem 531 (by decide +kernel) (by decide +kernel), gw_mem 74 (by decide +kernel) (by decide +kernel), gw_mem 532 (by decide +kernel) (by decide +kernel), ⟨by decide +kernel, by decide +kernel, by decide +kernel⟩, by decide, ⟨_, _, rfl⟩, by decide⟩
theorem mwX2_addNumber : MthV mX2_addNumber 2 1 := ⟨gw_mem 588 (by decide +kernel) (by decide +kernel), gw_mem 589 (by decide +kernel) (by decide +kernel), gw_mem 74 (by decide +kernel) (by decide +kernel), gw_mem 590 (by decide +kernel) (by decide +kernel), ⟨by decide +kernel, by decide +kernel, by decide +kernel⟩, by decide, ⟨_, _, rfl⟩, by decide⟩
theorem mwX2_codeAt : MthV mX2_codeAt 2 1 := ⟨gw_mem 546 (by decide +kernel) (by decide +kernel), gw_mem 547 (by decide +kernel) (by decide +kernel), gw_mem 74 (by decide +kernel) (by decide +kernel), gw_mem 548 (by decide +kernel) (by decide +kernel), ⟨by decide +kernel, by decide +kernel, by decide +kernel⟩, by decide, ⟨_, _, rfl⟩, by decide⟩
theorem mwX3_rickAt : MthV mX3_rickAt 3 1 := ⟨gw_mem 245 (by decide +kernel) (by decide +kernel), gw_mem 246 (by decide +kernel) (by decide +kernel), gw_mem 72 (by decide +kernel) (by decide +kernel), gw_mem 247 (by decide +kernel) (by decide +kernel), ⟨by decide +kernel, by decide +kernel, by decide +kernel⟩, by decide, ⟨_, _, rfl⟩, by decide⟩
theorem mwX3_sheaves : MthV mX3_sheaves 3 0 := ⟨gw_mem 469 (by decide +kernel) (by decide +kernel), gw_mem 470 (by decide +kernel) (by decide +kernel), gw_mem 72 (by decide +kernel) (by decide +kernel), gw_mem 471 (by decide +kernel) (by decide +kernel), ⟨by decide +kernel, by decide +kernel, by decide +kernel⟩, by decide, ⟨_, _, rfl⟩, by decide⟩
theorem mwX3_loads : MthV mX3_loads 3 0 := ⟨gw_mem 606 (by decide +kernel) (by decide +kernel), gw_mem 607 (by decide +kernel) (by decide +kernel), gw_mem 72 (by decide +kernel) (by decide +kernel), gw_mem 608 (by decide +kernel) (by decide +kernel), ⟨by decide +kernel, by decide +kernel, by decide +kernel⟩, by decide, ⟨_, _, rfl⟩, by decide⟩
theorem mwX3_keyAfter : MthV mX3_keyAfter 3 1 := ⟨gw_mem 473 (by decide +kernel) (by decide +kernel), gw_mem 474 (by decide +kernel) (by decide +kernel), gw_mem 72 (by decide +kernel) (by decide +kernel), gw_mem 475 (by decide +kernel) (by decide +kernel), ⟨by decide +kernel, by decide +kernel, by decide +kernel⟩, by decide, ⟨_, _, rfl⟩, by decide⟩
theorem mwX3_copyFrom : MthV mX3_copyFrom 3 1 := ⟨gw_mem 241 (by decide +kernel) (by decide +kernel), gw_mem 242 (by decide +kernel) (by decide +kernel), gw_mem 72 (by decide +kernel) (by decide +kernel), gw_mem 243 (by decide +kernel) (by decide +kernel), ⟨by decide +kernel, by decide +kernel, by decide +kernel⟩, by decide, ⟨_, _, rfl⟩, by decide⟩
theorem mwX4_put : MthV mX4_put 4 3 := ⟨gw_mem 229 (by decide +kernel) (by decide +kernel), gw_mem 230 (by decide +kernel) (by decide +kernel), gw_mem 71 (by decide +kernel) (by decide +kernel), gw_mem 231 (by decide +kernel) (by decide +kernel), ⟨by decide +kernel, by decide +kernel, by decide +kernel⟩, by decide, ⟨_, _, rfl⟩, by decide⟩
theorem mwX4_take : MthV mX4_take 4 2 := ⟨gw_mem 339 (by decide +kernel) (by decide +kernel), gw_mem 340 (by decide +kernel) (by decide +kernel), gw_mem 71 (by decide +kernel) (by decide +kernel), gw_mem 341 (by decide +kernel) (by decide +kernel), ⟨by decide +kernel, by decide +kernel, by decide +kernel⟩, by decide, ⟨_, _, rfl⟩, by decide⟩
theorem mwX4_build : MthV mX4_build 4 1 := ⟨gw_mem 364 (by decide +kernel) (by decide +kernel), gw_mem 365 (by decide +kernel) (by decide +kernel), gw_mem 71 (by decide +kernel) (by decide +kernel), gw_mem 366 (by decide +kernel) (by decide +kernel), ⟨by decide +kernel, by decide +kernel, by decide +kernel⟩, by decide, ⟨_, _, rfl⟩, by decide⟩
theorem mwX4_pour : MthV mX4_pour 4 2 := ⟨gw_mem 372 (by decide +kernel) (by decide +kernel), gw_mem 373 (by decide +kernel) (by decide +kernel), gw_mem 71 (by decide +kernel) (by decide +kernel), gw_mem 374 (by decide +kernel) (by decide +kernel), ⟨by decide +kernel, by decide +kernel, by decide +kernel⟩, by decide, ⟨_, _, rfl⟩, by decide⟩
theorem mwX4_limit : MthV mX4_limit 4 1 := ⟨gw_mem 381 (by decide +kernel) (by decide +kernel), gw_mem 382 (by decide +kernel) (by decide +kernel), gw_mem 71 (by decide +kernel) (by decide +kernel), gw_mem 383 (by decide +kernel) (by decide +kernel), ⟨by decide +kernel, by decide +kernel, by decide +kernel⟩, by decide, ⟨_, _, rfl⟩, by decide⟩
theorem mwX4_sheafOf : MthV mX4_sheafOf 4 3 := ⟨gw_mem 389 (by decide +kernel) (by decide +kernel), gw_mem 390 (by decide +kernel) (by decide +kernel), gw_mem 71 (by decide +kernel) (by decide +kernel), gw_mem 391 (by decide +kernel) (by decide +kernel), ⟨by decide +kernel, by decide +kernel, by decide +kernel⟩, by decide, ⟨_, _, rfl⟩, by decide⟩
theorem mwX4_rickOf : MthV mX4_rickOf 4 2 := ⟨gw_mem 405 (by decide +kernel) (by decide +kernel), gw_mem 406 (by decide +kernel) (by decide +kernel), gw_mem 71 (by decide +kernel) (by decide +kernel), gw_mem 407 (by decide +kernel) (by decide +kernel), ⟨by decide +kernel, by decide +kernel, by decide +kernel⟩, by decide, ⟨_, _, rfl⟩, by decide⟩
theorem mwX4_rank : MthV mX4_rank 4 2 := ⟨gw_mem 425 (by decide +kernel) (by decide +kernel), gw_mem 426 (by decide +kernel) (by decide +kernel), gw_mem 71 (by decide +kernel) (by decide +kernel), gw_mem 427 (by decide +kernel) (by decide +kernel), ⟨by decide +kernel, by decide +kernel, by decide +kernel⟩, by decide, ⟨_, _, rfl⟩, by decide⟩
theorem mwX4_rankAgain : MthV mX4_rankAgain 4 2 := ⟨gw_mem 434 (by decide +kernel) (by decide +kernel), gw_mem 435 (by decide +kernel) (by decide +kernel), gw_mem 71 (by decide +kernel) (by decide +kernel), gw_mem 436 (by decide +kernel) (by decide +kernel), ⟨by decide +kernel, by decide +kernel, by decide +kernel⟩, by decide, ⟨_, _, rfl⟩, by decide⟩
theorem mwX4_at : MthV mX4_at 4 2 := ⟨gw_mem 439 (by decide +kernel) (by decide +kernel), gw_mem 440 (by decide +kernel) (by decide +kernel), gw_mem 71 (by decide +kernel) (by decide +kernel), gw_mem 441 (by decide +kernel) (by decide +kernel), ⟨by decide +kernel, by decide +kernel, by decide +kernel⟩, by decide, ⟨_, _, rfl⟩, by decide⟩
theorem mwX4_between : MthV mX4_between 4 3 := ⟨gw_mem 444 (by decide +kernel) (by decide +kernel), gw_mem 445 (by decide +kernel) (by decide +kernel), gw_mem 71 (by decide +kernel) (by decide +kernel), gw_mem 446 (by decide +kernel) (by decide +kernel), ⟨by decide +kernel, by decide +kernel, by decide +kernel⟩, by decide, ⟨_, _, rfl⟩, by decide⟩
theorem mwX4_betweenAgain : MthV mX4_betweenAgain 4 3 := ⟨gw_mem 457 (by decide +kernel) (by decide +kernel), gw_mem 458 (by decide +kernel) (by decide +kernel), gw_mem 71 (by decide +kernel) (by decide +kernel), gw_mem 459 (by decide +kernel) (by decide +kernel), ⟨by decide +kernel, by decide +kernel, by decide +kernel⟩, by decide, ⟨_, _, rfl⟩, by decide⟩
theorem mwX4_heaviest : MthV mX4_heaviest 4 1 := ⟨gw_mem 465 (by decide +kernel) (by decide +kernel), gw_mem 466 (by decide +kernel) (by decide +kernel), gw_mem 71 (by decide +kernel) (by decide +kernel), gw_mem 467 (by decide +kernel) (by decide +kernel), ⟨by decide +kernel, by decide +kernel, by decide +kernel⟩, by decide, ⟨_, _, rfl⟩, by decide⟩
theorem mwX4_carts : MthV mX4_carts 4 2 := ⟨gw_mem 480 (by decide +kernel) (by decide +kernel), gw_mem 481 (by decide +kernel) (by decide +kernel), gw_mem 71 (by decide +kernel) (by decide +kernel), gw_mem 482 (by decide +kernel) (by decide +kernel), ⟨by decide +kernel, by decide +kernel, by decide +kernel⟩, by decide, ⟨_, _, rfl⟩, by decide⟩
theorem mwX4_cartOf : MthV mX4_cartOf 4 3 := ⟨gw_mem 491 (by decide +kernel) (by decide +kernel), gw_mem 492 (by decide +kernel) (by decide +kernel), gw_mem 71 (by decide +kernel) (by decide +kernel), gw_mem 493 (by decide +kernel) (by decide +kernel), ⟨by decide +kernel, by decide +kernel, by decide +kernel⟩, by decide, ⟨_, _, rfl⟩, by decide⟩
theorem mwX4_shape : MthV mX4_shape 4 1 := ⟨gw_mem 495 (by decide +kernel) (by decide +kernel), gw_mem 496 (by decide +kernel) (by decide +kernel), gw_mem 71 (by decide +kernel) (by decide +kernel), gw_mem 497 (by decide +kernel) (by decide +kernel), ⟨by decide +kernel, by decide +kernel, by decide +kernel⟩, by decide, ⟨_, _, rfl⟩, by decide⟩
theorem mwX4_weights : MthV mX4_weights 4 2 := ⟨gw_mem 503 (by decide +kernel) (by decide +kernel), gw_mem 504 (by decide +kernel) (by decide +kernel), gw_mem 71 (by decide +kernel) (by decide +kernel), gw_mem 505 (by decide +kernel) (by decide +kernel), ⟨by decide +kernel, by decide +kernel, by decide +kernel⟩, by decide, ⟨_, _, rfl⟩, by decide⟩
theorem mwX4_leaningShare : MthV mX4_leaningShare 4 1 := ⟨gw_mem 507 (by decide +kernel) (by decide +kernel), gw_mem 508 (by decide +kernel) (by decide +kernel), gw_mem 71 (by decide +kernel) (by decide +kernel), gw_mem 509 (by decide +kernel) (by decide +kernel), ⟨by decide +kernel, by decide +kernel, by decide +kernel⟩, by decide, ⟨_, _, rfl⟩, by decide⟩
theorem mwX4_meanDepth : MthV mX4_meanDepth 4 1 := ⟨gw_mem 515 (by decide +kernel) (by decide +kernel), gw_mem 516 (by decide +kernel) (by decide +kernel), gw_mem 71 (by decide +kernel) (by decide +kernel), gw_mem 517 (by decide +kernel) (by decide +kernel), ⟨by decide +kernel, by decide +kernel, by decide +kernel⟩, by decide, ⟨_, _, rfl⟩, by decide⟩
theorem mwX4_append : MthV mX4_append 4 1 := ⟨gw_mem 526 (by decide +kernel) (by decide +kernel), gw_mem 527 (by decide +kernel) (by decide +kernel), gw_mem 71 (by decide +kernel) (by decide +kernel), gw_mem 528 (by decide +kernel) (by decide +kernel), ⟨by decide +kernel, by decide +kernel, by decide +kernel⟩, by decide, ⟨_, _, rfl⟩, by decide⟩
theorem mwX4_run : MthV mX4_run 4 0 := ⟨gw_mem 534 (by decide +kernel) (by decide +kernel), gw_mem 535 (by decide +kernel) (by decide +kernel), gw_mem 71 (by decide +kernel) (by decide +kernel), gw_mem 536 (by decide +kernel) (by decide +kernel), ⟨by decide +kernel, by decide +kernel, by decide +kernel⟩, by decide, ⟨_, _, rfl⟩, by decide⟩
theorem mwX4_tell : MthV mX4_tell 4 1 := ⟨gw_mem 581 (by decide +kernel) (by decide +kernel), gw_mem 582 (by decide +kernel) (by decide +kernel), gw_mem 71 (by decide +kernel) (by decide +kernel), gw_mem 583 (by decide +kernel) (by decide +kernel), ⟨by decide +kernel, by decide +kernel, by decide +kernel⟩, by decide, ⟨_, _, rfl⟩, by decide⟩
theorem mwX4_character : MthV mX4_character 4 1 := ⟨gw_mem 593 (by decide +kernel) (by decide +kernel), gw_mem 594 (by decide +kernel) (by decide +kernel), gw_mem 71 (by decide +kernel) (by decide +kernel), gw_mem 595 (by decide +kernel) (by decide +kernel), ⟨by decide +kernel, by decide +kernel, by decide +kernel⟩, by decide, ⟨_, _, rfl⟩, by decide⟩
theorem mwX4_reason : MthV mX4_reason 4 1 := ⟨gw_mem 598 (by decide +kernel) (by decide +kernel), gw_mem 599 (by decide +kernel) (by decide +kernel), gw_mem 71 (by decide +kernel) (by decide +kernel), gw_mem 600 (by decide +kernel) (by decide +kernel), ⟨by decide +kernel, by decide +kernel, by decide +kernel⟩, by decide, ⟨_, _, rfl⟩, by decide⟩
theorem mwX4_account : MthV mX4_account 4 1 := ⟨gw_mem 602 (by decide +kernel) (by decide +kernel), gw_mem 603 (by decide +kernel) (by decide +kernel), gw_mem 71 (by decide +kernel) (by decide +kernel), gw_mem 604 (by decide +kernel) (by decide +kernel), ⟨by decide +kernel, by decide +kernel, by decide +kernel⟩, by decide, ⟨_, _, rfl⟩, by decide⟩
theorem mwX4_isBalanced : MthV mX4_isBalanced 4 0 := ⟨gw_mem 611 (by decide +kernel) (by decide +kernel), gw_mem 612 (by decide +kernel) (by decide +kernel), gw_mem 71 (by decide +kernel) (by decide +kernel), gw_mem 613 (by decide +kernel) (by decide +kernel), ⟨by decide +kernel, by decide +kernel, by decide +kernel⟩, by decide, ⟨_, _, rfl⟩, by decide⟩
theorem mwX4_undo : MthV mX4_undo 4 0 := ⟨gw_mem 625 (by decide +kernel) (by decide +kernel), gw_mem 626 (by decide +kernel) (by decide +kernel), gw_mem 71 (by decide +kernel) (by decide +kernel), gw_mem 627 (by decide +kernel) (by decide +kernel), ⟨by decide +kernel, by decide +kernel, by decide +kernel⟩, by decide, ⟨_, _, rfl⟩, by decide⟩
theorem mwX4_save : MthV mX4_save 4 0 := ⟨gw_mem 629 (by decide +kernel) (by decide +kernel), gw_mem 630 (by decide +kernel) (by decide +kernel), gw_mem 71 (by decide +kernel) (by decide +kernel), gw_mem 631 (by decide +kernel) (by decide +kernel), ⟨by decide +kernel, by decide +kernel, by decide +kernel⟩, by decide, ⟨_, _, rfl⟩, by decide⟩
theorem mwX4_restore : MthV mX4_restore 4 0 := ⟨gw_mem 633 (by decide +kernel) (by decide +kernel), gw_mem 634 (by decide +kernel) (by decide +kernel), gw_mem 71 (by decide +kernel) (by decide +kernel), gw_mem 635 (by decide +kernel) (by decide +kernel), ⟨by decide +kernel, by decide +kernel, by decide +kernel⟩, by decide, ⟨_, _, rfl⟩, by decide⟩
theorem mwX4_putNow : MthV mX4_putNow 4 3 := ⟨gw_mem 257 (by decide +kernel) (by decide +kernel), gw_mem 2 (by decide +kernel) (by decide +kernel), gw_mem 71 (by decide +kernel) (by decide +kernel), gw_mem 258 (by decide +kernel) (by decide +kernel), ⟨by decide +kernel, by decide +kernel, by decide +kernel⟩, by decide, ⟨_, _, rfl⟩, by decide⟩
theorem mwX4_takeNow : MthV mX4_takeNow 4 2 := ⟨gw_mem 344 (by decide +kernel) (by decide +kernel), gw_mem 7 (by decide +kernel) (by decide +kernel), gw_mem 71 (by decide +kernel) (by decide +kernel), gw_mem 345 (by decide +kernel) (by decide +kernel), ⟨by decide +kernel, by decide +kernel, by decide +kernel⟩, by decide, ⟨_, _, rfl⟩, by decide⟩
theorem mwX4_buildNow : MthV mX4_buildNow 4 1 := ⟨gw_mem 369 (by decide +kernel) (by decide +kernel), gw_mem 10 (by decide +kernel) (by decide +kernel), gw_mem 71 (by decide +kernel) (by decide +kernel), gw_mem 370 (by decide +kernel) (by decide +kernel), ⟨by decide +kernel, by decide +kernel, by decide +kernel⟩, by decide, ⟨_, _, rfl⟩, by decide⟩
theorem mwX4_pourNow : MthV mX4_pourNow 4 2 := ⟨gw_mem 377 (by decide +kernel) (by decide +kernel), gw_mem 11 (by decide +kernel) (by decide +kernel), gw_mem 71 (by decide +kernel) (by decide +kernel), gw_mem 378 (by decide +kernel) (by decide +kernel), ⟨by decide +kernel, by decide +kernel, by decide +kernel⟩, by decide, ⟨_, _, rfl⟩, by decide⟩
theorem mwX4_limitNow : MthV mX4_limitNow 4 1 := ⟨gw_mem 386 (by decide +kernel) (by decide +kernel), gw_mem 12 (by decide +kernel) (by decide +kernel), gw_mem 71 (by decide +kernel) (by decide +kernel), gw_mem 387 (by decide +kernel) (by decide +kernel), ⟨by decide +kernel, by decide +kernel, by decide +kernel⟩, by decide, ⟨_, _, rfl⟩, by decide⟩
theorem mwX4_buildWhole : MthV mX4_buildWhole 4 1 := ⟨gw_mem 357 (by decide +kernel) (by decide +kernel), gw_mem 9 (by decide +kernel) (by decide +kernel), gw_mem 71 (by decide +kernel) (by decide +kernel), gw_mem 358 (by decide +kernel) (by decide +kernel), ⟨by decide +kernel, by decide +kernel, by decide +kernel⟩, by decide, ⟨_, _, rfl⟩, by decide⟩
theorem mwX4_carryOut : MthV mX4_carryOut 4 1 := ⟨gw_mem 566 (by decide +kernel) (by decide +kernel), gw_mem 17 (by decide +kernel) (by decide +kernel), gw_mem 71 (by decide +kernel) (by decide +kernel), gw_mem 567 (by decide +kernel) (by decide +kernel), ⟨by decide +kernel, by decide +kernel, by decide +kernel⟩, by decide, ⟨_, _, rfl⟩, by decide⟩
theorem mwX4_refuse : MthV mX4_refuse 4 2 := ⟨gw_mem 270 (by decide +kernel) (by decide +kernel), gw_mem 3 (by decide +kernel) (by decide +kernel), gw_mem 71 (by decide +kernel) (by decide +kernel), gw_mem 271 (by decide +kernel) (by decide +kernel), ⟨by decide +kernel, by decide +kernel, by decide +kernel⟩, by decide, ⟨_, _, rfl⟩, by decide⟩
theorem mwX4_hold : MthV mX4_hold 4 0 := ⟨gw_mem 234 (by decide +kernel) (by decide +kernel), gw_mem 0 (by decide +kernel) (by decide +kernel), gw_mem 71 (by decide +kernel) (by decide +kernel), gw_mem 235 (by decide +kernel) (by decide +kernel), ⟨by decide +kernel, by decide +kernel, by decide +kernel⟩, by decide, ⟨_, _, rfl⟩, by decide⟩
theorem mwX4_keep : MthV mX4_keep 4 1 := ⟨gw_mem 333 (by decide +kernel) (by decide +kernel), gw_mem 6 (by decide +kernel) (by decide +kernel), gw_mem 71 (by decide +kernel) (by decide +kernel), gw_mem 334 (by decide +kernel) (by decide +kernel), ⟨by decide +kernel, by decide +kernel, by decide +kernel⟩, by decide, ⟨_, _, rfl⟩, by decide⟩
theorem mwX4_giveBack : MthV mX4_giveBack 4 0 := ⟨gw_mem 578 (by decide +kernel) (by decide +kernel), gw_mem 18 (by decide +kernel) (by decide +kernel), gw_mem 71 (by decide +kernel) (by decide +kernel), gw_mem 579 (by decide +kernel) (by decide +kernel), ⟨by decide +kernel, by decide +kernel, by decide +kernel⟩, by decide, ⟨_, _, rfl⟩, by decide⟩
theorem mwX4_beforeNow : MthV mX4_beforeNow 4 0 := ⟨gw_mem 238 (by decide +kernel) (by decide +kernel), gw_mem 1 (by decide +kernel) (by decide +kernel), gw_mem 71 (by decide +kernel) (by decide +kernel), gw_mem 239 (by decide +kernel) (by decide +kernel), ⟨by decide +kernel, by decide +kernel, by decide +kernel⟩, by decide, ⟨_, _, rfl⟩, by decide⟩
theorem mwX4_isBears : MthS mX4_isBears 1 := ⟨gw_mem 484 (by decide +kernel) (by decide +kernel), gw_mem 71 (by decide +kernel) (by decide +kernel), gw_mem 485 (by decide +kernel) (by decide +kernel), ⟨by decide +kernel, by decide +kernel, by decide +kernel⟩, by decide⟩
theorem mwX4_depthFor : MthS mX4_depthFor 2 := ⟨gw_mem 298 (by decide +kernel) (by decide +kernel), gw_mem 71 (by decide +kernel) (by decide +kernel), gw_mem 299 (by decide +kernel) (by decide +kernel), ⟨by decide +kernel, by decide +kernel, by decide +kernel⟩, by decide⟩
theorem mwX4_shapeOf : MthS mX4_shapeOf 5 := ⟨gw_mem 500 (by decide +kernel) (by decide +kernel), gw_mem 71 (by decide +kernel) (by decide +kernel), gw_mem 501 (by decide +kernel) (by decide +kernel), ⟨by decide +kernel, by decide +kernel, by decide +kernel⟩, by decide⟩
theorem mwX4_write : MthS mX4_write 6 := ⟨gw_mem 585 (by decide +kernel) (by decide +kernel), gw_mem 71 (by decide +kernel) (by decide +kernel), gw_mem 586 (by decide +kernel) (by decide +kernel), ⟨by decide +kernel, by decide +kernel, by decide +kernel⟩, by decide⟩
theorem mwX4_isSound : MthS mX4_isSound 1 := ⟨gw_mem 615 (by decide +kernel) (by decide +kernel), gw_mem 71 (by decide +kernel) (by decide +kernel), gw_mem 616 (by decide +kernel) (by decide +kernel), ⟨by decide +kernel, by decide +kernel, by decide +kernel⟩, by decide⟩
theorem mwX4_isTree : MthS mX4_isTree 4 := ⟨gw_mem 622 (by decide +kernel) (by decide +kernel), gw_mem 71 (by decide +kernel) (by decide +kernel), gw_mem 623 (by decide +kernel) (by decide +kernel), ⟨by decide +kernel, by decide +kernel, by decide +kernel⟩, by decide⟩
theorem mwX4_shareBits : MthS mX4_shareBits 1 := ⟨gw_mem 511 (by decide +kernel) (by decide +kernel), gw_mem 71 (by decide +kernel) (by decide +kernel), gw_mem 512 (by decide +kernel) (by decide +kernel), ⟨by decide +kernel, by decide +kernel, by decide +kernel⟩, by decide⟩
theorem mwX4_meanBits : MthS mX4_meanBits 1 := ⟨gw_mem 520 (by decide +kernel) (by decide +kernel), gw_mem 71 (by decide +kernel) (by decide +kernel), gw_mem 521 (by decide +kernel) (by decide +kernel), ⟨by decide +kernel, by decide +kernel, by decide +kernel⟩, by decide⟩
theorem mwX5_isBetween : MthS mX5_isBetween 3 := ⟨gw_mem 719 (by decide +kernel) (by decide +kernel), gw_mem 76 (by decide +kernel) (by decide +kernel), gw_mem 720 (by decide +kernel) (by decide +kernel), ⟨by decide +kernel, by decide +kernel, by decide +kernel⟩, by decide⟩
theorem mwX5_copyRow : MthS mX5_copyRow 2 := ⟨gw_mem 757 (by decide +kernel) (by decide +kernel), gw_mem 76 (by decide +kernel) (by decide +kernel), gw_mem 758 (by decide +kernel) (by decide +kernel), ⟨by decide +kernel, by decide +kernel, by decide +kernel⟩, by decide⟩
theorem mwX5_refuse : MthV mX5_refuse 5 3 := ⟨gw_mem 738 (by decide +kernel) (by decide +kernel), gw_mem 22 (by decide +kernel) (by decide +kernel), gw_mem 76 (by decide +kernel) (by decide +kernel), gw_mem 739 (by decide +kernel) (by decide +kernel), ⟨by decide +kernel, by decide +kernel, by decide +kernel⟩, by decide, ⟨_, _, rfl⟩, by decide⟩
theorem mwX5_remember : MthV mX5_remember 5 1 := ⟨gw_mem 754 (by decide +kernel) (by decide +kernel), gw_mem 26 (by decide +kernel) (by decide +kernel), gw_mem 76 (by decide +kernel) (by decide +kernel), gw_mem 755 (by decide +kernel) (by decide +kernel), ⟨by decide +kernel, by decide +kernel, by decide +kernel⟩, by decide, ⟨_, _, rfl⟩, by decide⟩
theorem mwX5_change : MthV mX5_change 5 0 := ⟨gw_mem 750 (by decide +kernel) (by decide +kernel), gw_mem 25 (by decide +kernel) (by decide +kernel), gw_mem 76 (by decide +kernel) (by decide +kernel), gw_mem 751 (by decide +kernel) (by decide +kernel), ⟨by decide +kernel, by decide +kernel, by decide +kernel⟩, by decide, ⟨_, _, rfl⟩, by decide⟩
theorem mwX5_isRick : MthS mX5_isRick 1 := ⟨gw_mem 716 (by decide +kernel) (by decide +kernel), gw_mem 76 (by decide +kernel) (by decide +kernel), gw_mem 717 (by decide +kernel) (by decide +kernel), ⟨by decide +kernel, by decide +kernel, by decide +kernel⟩, by decide⟩
theorem mwX5_top : MthV mX5_top 5 1 := ⟨gw_mem 730 (by decide +kernel) (by decide +kernel), gw_mem 20 (by decide +kernel) (by decide +kernel), gw_mem 76 (by decide +kernel) (by decide +kernel), gw_mem 731 (by decide +kernel) (by decide +kernel), ⟨by decide +kernel, by decide +kernel, by decide +kernel⟩, by decide, ⟨_, _, rfl⟩, by decide⟩
theorem mwX5_most : MthV mX5_most 5 1 := ⟨gw_mem 781 (by decide +kernel) (by decide +kernel), gw_mem 32 (by decide +kernel) (by decide +kernel), gw_mem 76 (by decide +kernel) (by decide +kernel), gw_mem 782 (by decide +kernel) (by decide +kernel), ⟨by decide +kernel, by decide +kernel, by decide +kernel⟩, by decide, ⟨_, _, rfl⟩, by decide⟩
theorem mwX5_setTop : MthV mX5_setTop 5 2 := ⟨gw_mem 777 (by decide +kernel) (by decide +kernel), gw_mem 31 (by decide +kernel) (by decide +kernel), gw_mem 76 (by decide +kernel) (by decide +kernel), gw_mem 778 (by decide +kernel) (by decide +kernel), ⟨by decide +kernel, by decide +kernel, by decide +kernel⟩, by decide, ⟨_, _, rfl⟩, by decide⟩
theorem mwX5_setMost : MthV mX5_setMost 5 2 := ⟨gw_mem 785 (by decide +kernel) (by decide +kernel), gw_mem 33 (by decide +kernel) (by decide +kernel), gw_mem 76 (by decide +kernel) (by decide +kernel), gw_mem 786 (by decide +kernel) (by decide +kernel), ⟨by decide +kernel, by decide +kernel, by decide +kernel⟩, by decide, ⟨_, _, rfl⟩, by decide⟩
theorem mwX5_of : MthV mX5_of 5 3 := ⟨gw_mem 734 (by decide +kernel) (by decide +kernel), gw_mem 21 (by decide +kernel) (by decide +kernel), gw_mem 76 (by decide +kernel) (by decide +kernel), gw_mem 735 (by decide +kernel) (by decide +kernel), ⟨by decide +kernel, by decide +kernel, by decide +kernel⟩, by decide, ⟨_, _, rfl⟩, by decide⟩
theorem mwX5_put : MthV mX5_put 5 4 := ⟨gw_mem 769 (by decide +kernel) (by decide +kernel), gw_mem 29 (by decide +kernel) (by decide +kernel), gw_mem 76 (by decide +kernel) (by decide +kernel), gw_mem 770 (by decide +kernel) (by decide +kernel), ⟨by decide +kernel, by decide +kernel, by decide +kernel⟩, by decide, ⟨_, _, rfl⟩, by decide⟩
theorem mwX5_size : MthV mX5_size 5 2 := ⟨gw_mem 746 (by decide +kernel) (by decide +kernel), gw_mem 24 (by decide +kernel) (by decide +kernel), gw_mem 76 (by decide +kernel) (by decide +kernel), gw_mem 747 (by decide +kernel) (by decide +kernel), ⟨by decide +kernel, by decide +kernel, by decide +kernel⟩, by decide, ⟨_, _, rfl⟩, by decide⟩
theorem mwX5_loads : MthV mX5_loads 5 2 := ⟨gw_mem 865 (by decide +kernel) (by decide +kernel), gw_mem 48 (by decide +kernel) (by decide +kernel), gw_mem 76 (by decide +kernel) (by decide +kernel), gw_mem 866 (by decide +kernel) (by decide +kernel), ⟨by decide +kernel, by decide +kernel, by decide +kernel⟩, by decide, ⟨_, _, rfl⟩, by decide⟩
theorem mwX5_count : MthV mX5_count 5 1 := ⟨gw_mem 742 (by decide +kernel) (by decide +kernel), gw_mem 23 (by decide +kernel) (by decide +kernel), gw_mem 76 (by decide +kernel) (by decide +kernel), gw_mem 743 (by decide +kernel) (by decide +kernel), ⟨by decide +kernel, by decide +kernel, by decide +kernel⟩, by decide, ⟨_, _, rfl⟩, by decide⟩
theorem mwX5_find : MthV mX5_find 5 2 := ⟨gw_mem 726 (by decide +kernel) (by decide +kernel), gw_mem 19 (by decide +kernel) (by decide +kernel), gw_mem 76 (by decide +kernel) (by decide +kernel), gw_mem 727 (by decide +kernel) (by decide +kernel), ⟨by decide +kernel, by decide +kernel, by decide +kernel⟩, by decide, ⟨_, _, rfl⟩, by decide⟩
theorem mwX5_above : MthV mX5_above 5 2 := ⟨gw_mem 793 (by decide +kernel) (by decide +kernel), gw_mem 35 (by decide +kernel) (by decide +kernel), gw_mem 76 (by decide +kernel) (by decide +kernel), gw_mem 794 (by decide +kernel) (by decide +kernel), ⟨by decide +kernel, by decide +kernel, by decide +kernel⟩, by decide, ⟨_, _, rfl⟩, by decide⟩
theorem mwX5_depth : MthV mX5_depth 5 2 := ⟨gw_mem 789 (by decide +kernel) (by decide +kernel), gw_mem 34 (by decide +kernel) (by decide +kernel), gw_mem 76 (by decide +kernel) (by decide +kernel), gw_mem 790 (by decide +kernel) (by decide +kernel), ⟨by decide +kernel, by decide +kernel, by decide +kernel⟩, by decide, ⟨_, _, rfl⟩, by decide⟩
theorem mwX5_leans : MthV mX5_leans 5 2 := ⟨gw_mem 801 (by decide +kernel) (by decide +kernel), gw_mem 37 (by decide +kernel) (by decide +kernel), gw_mem 76 (by decide +kernel) (by decide +kernel), gw_mem 802 (by decide +kernel) (by decide +kernel), ⟨by decide +kernel, by decide +kernel, by decide +kernel⟩, by decide, ⟨_, _, rfl⟩, by decide⟩
theorem mwX5_mayHave : MthV mX5_mayHave 5 1 := ⟨gw_mem 797 (by decide +kernel) (by decide +kernel), gw_mem 36 (by decide +kernel) (by decide +kernel), gw_mem 76 (by decide +kernel) (by decide +kernel), gw_mem 798 (by decide +kernel) (by decide +kernel), ⟨by decide +kernel, by decide +kernel, by decide +kernel⟩, by decide, ⟨_, _, rfl⟩, by decide⟩
theorem mwX5_listFrom : MthV mX5_listFrom 5 2 := ⟨gw_mem 809 (by decide +kernel) (by decide +kernel), gw_mem 39 (by decide +kernel) (by decide +kernel), gw_mem 76 (by decide +kernel) (by decide +kernel), gw_mem 810 (by decide +kernel) (by decide +kernel), ⟨by decide +kernel, by decide +kernel, by decide +kernel⟩, by decide, ⟨_, _, rfl⟩, by decide⟩
theorem mwX5_listAll : MthV mX5_listAll 5 1 := ⟨gw_mem 841 (by decide +kernel) (by decide +kernel), gw_mem 46 (by decide +kernel) (by decide +kernel), gw_mem 76 (by decide +kernel) (by decide +kernel), gw_mem 842 (by decide +kernel) (by decide +kernel), ⟨by decide +kernel, by decide +kernel, by decide +kernel⟩, by decide, ⟨_, _, rfl⟩, by decide⟩
theorem mwX5_make : MthV mX5_make 5 3 := ⟨gw_mem 813 (by decide +kernel) (by decide +kernel), gw_mem 40 (by decide +kernel) (by decide +kernel), gw_mem 76 (by decide +kernel) (by decide +kernel), gw_mem 814 (by decide +kernel) (by decide +kernel), ⟨by decide +kernel, by decide +kernel, by decide +kernel⟩, by decide, ⟨_, _, rfl⟩, by decide⟩
theorem mwX5_replace : MthV mX5_replace 5 4 := ⟨gw_mem 817 (by decide +kernel) (by decide +kernel), gw_mem 41 (by decide +kernel) (by decide +kernel), gw_mem 76 (by decide +kernel) (by decide +kernel), gw_mem 818 (by decide +kernel) (by decide +kernel), ⟨by decide +kernel, by decide +kernel, by decide +kernel⟩, by decide, ⟨_, _, rfl⟩, by decide⟩
theorem mwX5_buildPart : MthV mX5_buildPart 5 2 := ⟨gw_mem 805 (by decide +kernel) (by decide +kernel), gw_mem 38 (by decide +kernel) (by decide +kernel), gw_mem 76 (by decide +kernel) (by decide +kernel), gw_mem 806 (by decide +kernel) (by decide +kernel), ⟨by decide +kernel, by decide +kernel, by decide +kernel⟩, by decide, ⟨_, _, rfl⟩, by decide⟩
theorem mwX5_buildWhole : MthV mX5_buildWhole 5 1 := ⟨gw_mem 837 (by decide +kernel) (by decide +kernel), gw_mem 45 (by decide +kernel) (by decide +kernel), gw_mem 76 (by decide +kernel) (by decide +kernel), gw_mem 838 (by decide +kernel) (by decide +kernel), ⟨by decide +kernel, by decide +kernel, by decide +kernel⟩, by decide, ⟨_, _, rfl⟩, by decide⟩
theorem mwX5_emptyStall : MthV mX5_emptyStall 5 1 := ⟨gw_mem 765 (by decide +kernel) (by decide +kernel), gw_mem 28 (by decide +kernel) (by decide +kernel), gw_mem 76 (by decide +kernel) (by decide +kernel), gw_mem 766 (by decide +kernel) (by decide +kernel), ⟨by decide +kernel, by decide +kernel, by decide +kernel⟩, by decide, ⟨_, _, rfl⟩, by decide⟩
theorem mwX5_enter : MthV mX5_enter 5 3 := ⟨gw_mem 761 (by decide +kernel) (by decide +kernel), gw_mem 27 (by decide +kernel) (by decide +kernel), gw_mem 76 (by decide +kernel) (by decide +kernel), gw_mem 762 (by decide +kernel) (by decide +kernel), ⟨by decide +kernel, by decide +kernel, by decide +kernel⟩, by decide, ⟨_, _, rfl⟩, by decide⟩
theorem mwX5_hang : MthV mX5_hang 5 2 := ⟨gw_mem 773 (by decide +kernel) (by decide +kernel), gw_mem 30 (by decide +kernel) (by decide +kernel), gw_mem 76 (by decide +kernel) (by decide +kernel), gw_mem 774 (by decide +kernel) (by decide +kernel), ⟨by decide +kernel, by decide +kernel, by decide +kernel⟩, by decide, ⟨_, _, rfl⟩, by decide⟩
theorem mwX5_isWeight : MthS mX5_isWeight 1 := ⟨gw_mem 722 (by decide +kernel) (by decide +kernel), gw_mem 76 (by decide +kernel) (by decide +kernel), gw_mem 723 (by decide +kernel) (by decide +kernel), ⟨by decide +kernel, by decide +kernel, by decide +kernel⟩, by decide⟩
theorem mwX5_put_ : MthV mX5_put_ 5 3 := ⟨gw_mem 712 (by decide +kernel) (by decide +kernel), gw_mem 713 (by decide +kernel) (by decide +kernel), gw_mem 76 (by decide +kernel) (by decide +kernel), gw_mem 714 (by decide +kernel) (by decide +kernel), ⟨by decide +kernel, by decide +kernel, by decide +kernel⟩, by decide, ⟨_, _, rfl⟩, by decide⟩
theorem mwX5_unhang : MthV mX5_unhang 5 2 := ⟨gw_mem 829 (by decide +kernel) (by decide +kernel), gw_mem 43 (by decide +kernel) (by decide +kernel), gw_mem 76 (by decide +kernel) (by decide +kernel), gw_mem 830 (by decide +kernel) (by decide +kernel), ⟨by decide +kernel, by decide +kernel, by decide +kernel⟩, by decide, ⟨_, _, rfl⟩, by decide⟩
theorem mwX5_takeOut : MthV mX5_takeOut 5 2 := ⟨gw_mem 825 (by decide +kernel) (by decide +kernel), gw_mem 42 (by decide +kernel) (by decide +kernel), gw_mem 76 (by decide +kernel) (by decide +kernel), gw_mem 826 (by decide +kernel) (by decide +kernel), ⟨by decide +kernel, by decide +kernel, by decide +kernel⟩, by decide, ⟨_, _, rfl⟩, by decide⟩
theorem mwX5_clear : MthV mX5_clear 5 2 := ⟨gw_mem 833 (by decide +kernel) (by decide +kernel), gw_mem 44 (by decide +kernel) (by decide +kernel), gw_mem 76 (by decide +kernel) (by decide +kernel), gw_mem 834 (by decide +kernel) (by decide +kernel), ⟨by decide +kernel, by decide +kernel, by decide +kernel⟩, by decide, ⟨_, _, rfl⟩, by decide⟩
theorem mwX5_take : MthV mX5_take 5 2 := ⟨gw_mem 820 (by decide +kernel) (by decide +kernel), gw_mem 821 (by decide +kernel) (by decide +kernel), gw_mem 76 (by decide +kernel) (by decide +kernel), gw_mem 822 (by decide +kernel) (by decide +kernel), ⟨by decide +kernel, by decide +kernel, by decide +kernel⟩, by decide, ⟨_, _, rfl⟩, by decide⟩
theorem mwX5_build : MthV mX5_build 5 1 := ⟨gw_mem 844 (by decide +kernel) (by decide +kernel), gw_mem 845 (by decide +kernel) (by decide +kernel), gw_mem 76 (by decide +kernel) (by decide +kernel), gw_mem 846 (by decide +kernel) (by decide +kernel), ⟨by decide +kernel, by decide +kernel, by decide +kernel⟩, by decide, ⟨_, _, rfl⟩, by decide⟩
theorem mwX5_common : MthV mX5_common 5 2 := ⟨gw_mem 853 (by decide +kernel) (by decide +kernel), gw_mem 47 (by decide +kernel) (by decide +kernel), gw_mem 76 (by decide +kernel) (by decide +kernel), gw_mem 854 (by decide +kernel) (by decide +kernel), ⟨by decide +kernel, by decide +kernel, by decide +kernel⟩, by decide, ⟨_, _, rfl⟩, by decide⟩
theorem mwX5_pour : MthV mX5_pour 5 2 := ⟨gw_mem 848 (by decide +kernel) (by decide +kernel), gw_mem 849 (by decide +kernel) (by decide +kernel), gw_mem 76 (by decide +kernel) (by decide +kernel), gw_mem 850 (by decide +kernel) (by decide +kernel), ⟨by decide +kernel, by decide +kernel, by decide +kernel⟩, by decide, ⟨_, _, rfl⟩, by decide⟩
theorem mwX5_limit : MthV mX5_limit 5 1 := ⟨gw_mem 856 (by decide +kernel) (by decide +kernel), gw_mem 857 (by decide +kernel) (by decide +kernel), gw_mem 76 (by decide +kernel) (by decide +kernel), gw_mem 858 (by decide +kernel) (by decide +kernel), ⟨by decide +kernel, by decide +kernel, by decide +kernel⟩, by decide, ⟨_, _, rfl⟩, by decide⟩
theorem mwX5_weightOr : MthV mX5_weightOr 5 2 := ⟨gw_mem 869 (by decide +kernel) (by decide +kernel), gw_mem 49 (by decide +kernel) (by decide +kernel), gw_mem 76 (by decide +kernel) (by decide +kernel), gw_mem 870 (by decide +kernel) (by decide +kernel), ⟨by decide +kernel, by decide +kernel, by decide +kernel⟩, by decide, ⟨_, _, rfl⟩, by decide⟩
theorem mwX5_sheafOf : MthV mX5_sheafOf 5 3 := ⟨gw_mem 860 (by decide +kernel) (by decide +kernel), gw_mem 861 (by decide +kernel) (by decide +kernel), gw_mem 76 (by decide +kernel) (by decide +kernel), gw_mem 862 (by decide +kernel) (by decide +kernel), ⟨by decide +kernel, by decide +kernel, by decide +kernel⟩, by decide, ⟨_, _, rfl⟩, by decide⟩
theorem mwX5_greatestDepth : MthV mX5_greatestDepth 5 1 := ⟨gw_mem 877 (by decide +kernel) (by decide +kernel), gw_mem 50 (by decide +kernel) (by decide +kernel), gw_mem 76 (by decide +kernel) (by decide +kernel), gw_mem 878 (by decide +kernel) (by decide +kernel), ⟨by decide +kernel, by decide +kernel, by decide +kernel⟩, by decide, ⟨_, _, rfl⟩, by decide⟩
theorem mwX5_leaning : MthV mX5_leaning 5 1 := ⟨gw_mem 881 (by decide +kernel) (by decide +kernel), gw_mem 51 (by decide +kernel) (by decide +kernel), gw_mem 76 (by decide +kernel) (by decide +kernel), gw_mem 882 (by decide +kernel) (by decide +kernel), ⟨by decide +kernel, by decide +kernel, by decide +kernel⟩, by decide, ⟨_, _, rfl⟩, by decide⟩
theorem mwX5_allDepths : MthV mX5_allDepths 5 1 := ⟨gw_mem 885 (by decide +kernel) (by decide +kernel), gw_mem 52 (by decide +kernel) (by decide +kernel), gw_mem 76 (by decide +kernel) (by decide +kernel), gw_mem 886 (by decide +kernel) (by decide +kernel), ⟨by decide +kernel, by decide +kernel, by decide +kernel⟩, by decide, ⟨_, _, rfl⟩, by decide⟩
theorem mwX5_lowest : MthV mX5_lowest 5 1 := ⟨gw_mem 889 (by decide +kernel) (by decide +kernel), gw_mem 53 (by decide +kernel) (by decide +kernel), gw_mem 76 (by decide +kernel) (by decide +kernel), gw_mem 890 (by decide +kernel) (by decide +kernel), ⟨by decide +kernel, by decide +kernel, by decide +kernel⟩, by decide, ⟨_, _, rfl⟩, by decide⟩
theorem mwX5_rickOf : MthV mX5_rickOf 5 2 := ⟨gw_mem 872 (by decide +kernel) (by decide +kernel), gw_mem 873 (by decide +kernel) (by decide +kernel), gw_mem 76 (by decide +kernel) (by decide +kernel), gw_mem 874 (by decide +kernel) (by decide +kernel), ⟨by decide +kernel, by decide +kernel, by decide +kernel⟩, by decide, ⟨_, _, rfl⟩, by decide⟩
theorem mwX5_rank : MthV mX5_rank 5 2 := ⟨gw_mem 892 (by decide +kernel) (by decide +kernel), gw_mem 893 (by decide +kernel) (by decide +kernel), gw_mem 76 (by decide +kernel) (by decide +kernel), gw_mem 894 (by decide +kernel) (by decide +kernel), ⟨by decide +kernel, by decide +kernel, by decide +kernel⟩, by decide, ⟨_, _, rfl⟩, by decide⟩
theorem mwX5_rankAgain : MthV mX5_rankAgain 5 2 := ⟨gw_mem 896 (by decide +kernel) (by decide +kernel), gw_mem 897 (by decide +kernel) (by decide +kernel), gw_mem 76 (by decide +kernel) (by decide +kernel), gw_mem 898 (by decide +kernel) (by decide +kernel), ⟨by decide +kernel, by decide +kernel, by decide +kernel⟩, by decide, ⟨_, _, rfl⟩, by decide⟩
theorem mwX5_at : MthV mX5_at 5 2 := ⟨gw_mem 901 (by decide +kernel) (by decide +kernel), gw_mem 902 (by decide +kernel) (by decide +kernel), gw_mem 76 (by decide +kernel) (by decide +kernel), gw_mem 903 (by decide +kernel) (by decide +kernel), ⟨by decide +kernel, by decide +kernel, by decide +kernel⟩, by decide, ⟨_, _, rfl⟩, by decide⟩
theorem mwX5_between : MthV mX5_between 5 3 := ⟨gw_mem 905 (by decide +kernel) (by decide +kernel), gw_mem 906 (by decide +kernel) (by decide +kernel), gw_mem 76 (by decide +kernel) (by decide +kernel), gw_mem 907 (by decide +kernel) (by decide +kernel), ⟨by decide +kernel, by decide +kernel, by decide +kernel⟩, by decide, ⟨_, _, rfl⟩, by decide⟩
theorem mwX5_betweenAgain : MthV mX5_betweenAgain 5 3 := ⟨gw_mem 909 (by decide +kernel) (by decide +kernel), gw_mem 910 (by decide +kernel) (by decide +kernel), gw_mem 76 (by decide +kernel) (by decide +kernel), gw_mem 911 (by decide +kernel) (by decide +kernel), ⟨by decide +kernel, by decide +kernel, by decide +kernel⟩, by decide, ⟨_, _, rfl⟩, by decide⟩
theorem mwX5_isThere : MthV mX5_isThere 5 1 := ⟨gw_mem 919 (by decide +kernel) (by decide +kernel), gw_mem 54 (by decide +kernel) (by decide +kernel), gw_mem 76 (by decide +kernel) (by decide +kernel), gw_mem 920 (by decide +kernel) (by decide +kernel), ⟨by decide +kernel, by decide +kernel, by decide +kernel⟩, by decide, ⟨_, _, rfl⟩, by decide⟩
theorem mwX5_ofAll : MthV mX5_ofAll 5 2 := ⟨gw_mem 927 (by decide +kernel) (by decide +kernel), gw_mem 56 (by decide +kernel) (by decide +kernel), gw_mem 76 (by decide +kernel) (by decide +kernel), gw_mem 928 (by decide +kernel) (by decide +kernel), ⟨by decide +kernel, by decide +kernel, by decide +kernel⟩, by decide, ⟨_, _, rfl⟩, by decide⟩
theorem mwX5_isAhead : MthV mX5_isAhead 5 2 := ⟨gw_mem 923 (by decide +kernel) (by decide +kernel), gw_mem 55 (by decide +kernel) (by decide +kernel), gw_mem 76 (by decide +kernel) (by decide +kernel), gw_mem 924 (by decide +kernel) (by decide +kernel), ⟨by decide +kernel, by decide +kernel, by decide +kernel⟩, by decide, ⟨_, _, rfl⟩, by decide⟩
theorem mwX5_heaviest : MthV mX5_heaviest 5 1 := ⟨gw_mem 914 (by decide +kernel) (by decide +kernel), gw_mem 915 (by decide +kernel) (by decide +kernel), gw_mem 76 (by decide +kernel) (by decide +kernel), gw_mem 916 (by decide +kernel) (by decide +kernel), ⟨by decide +kernel, by decide +kernel, by decide +kernel⟩, by decide, ⟨_, _, rfl⟩, by decide⟩
theorem mwX5_load : MthV mX5_load 5 3 := ⟨gw_mem 938 (by decide +kernel) (by decide +kernel), gw_mem 57 (by decide +kernel) (by decide +kernel), gw_mem 76 (by decide +kernel) (by decide +kernel), gw_mem 939 (by decide +kernel) (by decide +kernel), ⟨by decide +kernel, by decide +kernel, by decide +kernel⟩, by decide, ⟨_, _, rfl⟩, by decide⟩
theorem mwX5_isBearing : MthS mX5_isBearing 1 := ⟨gw_mem 934 (by decide +kernel) (by decide +kernel), gw_mem 76 (by decide +kernel) (by decide +kernel), gw_mem 935 (by decide +kernel) (by decide +kernel), ⟨by decide +kernel, by decide +kernel, by decide +kernel⟩, by decide⟩
theorem mwX5_carts : MthV mX5_carts 5 2 := ⟨gw_mem 930 (by decide +kernel) (by decide +kernel), gw_mem 931 (by decide +kernel) (by decide +kernel), gw_mem 76 (by decide +kernel) (by decide +kernel), gw_mem 932 (by decide +kernel) (by decide +kernel), ⟨by decide +kernel, by decide +kernel, by decide +kernel⟩, by decide, ⟨_, _, rfl⟩, by decide⟩
theorem mwX5_cartOf : MthV mX5_cartOf 5 3 := ⟨gw_mem 941 (by decide +kernel) (by decide +kernel), gw_mem 942 (by decide +kernel) (by decide +kernel), gw_mem 76 (by decide +kernel) (by decide +kernel), gw_mem 943 (by decide +kernel) (by decide +kernel), ⟨by decide +kernel, by decide +kernel, by decide +kernel⟩, by decide, ⟨_, _, rfl⟩, by decide⟩
theorem mwX5_bits : MthV mX5_bits 5 3 := ⟨gw_mem 950 (by decide +kernel) (by decide +kernel), gw_mem 58 (by decide +kernel) (by decide +kernel), gw_mem 76 (by decide +kernel) (by decide +kernel), gw_mem 951 (by decide +kernel) (by decide +kernel), ⟨by decide +kernel, by decide +kernel, by decide +kernel⟩, by decide, ⟨_, _, rfl⟩, by decide⟩
theorem mwX5_shape : MthV mX5_shape 5 1 := ⟨gw_mem 945 (by decide +kernel) (by decide +kernel), gw_mem 946 (by decide +kernel) (by decide +kernel), gw_mem 76 (by decide +kernel) (by decide +kernel), gw_mem 947 (by decide +kernel) (by decide +kernel), ⟨by decide +kernel, by decide +kernel, by decide +kernel⟩, by decide, ⟨_, _, rfl⟩, by decide⟩
theorem mwX5_weights : MthV mX5_weights 5 2 := ⟨gw_mem 954 (by decide +kernel) (by decide +kernel), gw_mem 955 (by decide +kernel) (by decide +kernel), gw_mem 76 (by decide +kernel) (by decide +kernel), gw_mem 956 (by decide +kernel) (by decide +kernel), ⟨by decide +kernel, by decide +kernel, by decide +kernel⟩, by decide, ⟨_, _, rfl⟩, by decide⟩
theorem mwX5_leaningShare : MthV mX5_leaningShare 5 1 := ⟨gw_mem 958 (by decide +kernel) (by decide +kernel), gw_mem 959 (by decide +kernel) (by decide +kernel), gw_mem 76 (by decide +kernel) (by decide +kernel), gw_mem 960 (by decide +kernel) (by decide +kernel), ⟨by decide +kernel, by decide +kernel, by decide +kernel⟩, by decide, ⟨_, _, rfl⟩, by decide⟩
theorem mwX5_meanDepth : MthV mX5_meanDepth 5 1 := ⟨gw_mem 972 (by decide +kernel) (by decide +kernel), gw_mem 973 (by decide +kernel) (by decide +kernel), gw_mem 76 (by decide +kernel) (by decide +kernel), gw_mem 974 (by decide +kernel) (by decide +kernel), ⟨by decide +kernel, by decide +kernel, by decide +kernel⟩, by decide, ⟨_, _, rfl⟩, by decide⟩
theorem mwX5_append : MthV mX5_append 5 1 := ⟨gw_mem 987 (by decide +kernel) (by decide +kernel), gw_mem 988 (by decide +kernel) (by decide +kernel), gw_mem 76 (by decide +kernel) (by decide +kernel), gw_mem 989 (by decide +kernel) (by decide +kernel), ⟨by decide +kernel, by decide +kernel, by decide +kernel⟩, by decide, ⟨_, _, rfl⟩, by decide⟩
theorem mwX5_sees : MthV mX5_sees 5 2 := ⟨gw_mem 1095 (by decide +kernel) (by decide +kernel), gw_mem 63 (by decide +kernel) (by decide +kernel), gw_mem 76 (by decide +kernel) (by decide +kernel), gw_mem 1096 (by decide +kernel) (by decide +kernel), ⟨by decide +kernel, by decide +kernel, by decide +kernel⟩, by decide, ⟨_, _, rfl⟩, by decide⟩
theorem mwX5_must : MthV mX5_must 5 1 := ⟨gw_mem 1099 (by decide +kernel) (by decide +kernel), gw_mem 64 (by decide +kernel) (by decide +kernel), gw_mem 76 (by decide +kernel) (by decide +kernel), gw_mem 1100 (by decide +kernel) (by decide +kernel), ⟨by decide +kernel, by decide +kernel, by decide +kernel⟩, by decide, ⟨_, _, rfl⟩, by decide⟩
theorem mwX5_readNumber : MthV mX5_readNumber 5 1 := ⟨gw_mem 1091 (by decide +kernel) (by decide +kernel), gw_mem 62 (by decide +kernel) (by decide +kernel), gw_mem 76 (by decide +kernel) (by decide +kernel), gw_mem 1092 (by decide +kernel) (by decide +kernel), ⟨by decide +kernel, by decide +kernel, by decide +kernel⟩, by decide, ⟨_, _, rfl⟩, by decide⟩
theorem mwX5_readSheaf : MthV mX5_readSheaf 5 0 := ⟨gw_mem 1087 (by decide +kernel) (by decide +kernel), gw_mem 61 (by decide +kernel) (by decide +kernel), gw_mem 76 (by decide +kernel) (by decide +kernel), gw_mem 1088 (by decide +kernel) (by decide +kernel), ⟨by decide +kernel, by decide +kernel, by decide +kernel⟩, by decide, ⟨_, _, rfl⟩, by decide⟩
theorem mwX5_readOrder : MthV mX5_readOrder 5 0 := ⟨gw_mem 1000 (by decide +kernel) (by decide +kernel), gw_mem 60 (by decide +kernel) (by decide +kernel), gw_mem 76 (by decide +kernel) (by decide +kernel), gw_mem 1001 (by decide +kernel) (by decide +kernel), ⟨by decide +kernel, by decide +kernel, by decide +kernel⟩, by decide, ⟨_, _, rfl⟩, by decide⟩
theorem mwX5_countOrders : MthV mX5_countOrders 5 0 := ⟨gw_mem 996 (by decide +kernel) (by decide +kernel), gw_mem 59 (by decide +kernel) (by decide +kernel), gw_mem 76 (by decide +kernel) (by decide +kernel), gw_mem 997 (by decide +kernel) (by decide +kernel), ⟨by decide +kernel, by decide +kernel, by decide +kernel⟩, by decide, ⟨_, _, rfl⟩, by decide⟩
theorem mwX5_carryOut : MthV mX5_carryOut 5 0 := ⟨gw_mem 1103 (by decide +kernel) (by decide +kernel), gw_mem 65 (by decide +kernel) (by decide +kernel), gw_mem 76 (by decide +kernel) (by decide +kernel), gw_mem 1104 (by decide +kernel) (by decide +kernel), ⟨by decide +kernel, by decide +kernel, by decide +kernel⟩, by decide, ⟨_, _, rfl⟩, by decide⟩
theorem mwX5_run : MthV mX5_run 5 0 := ⟨gw_mem 991 (by decide +kernel) (by decide +kernel), gw_mem 992 (by decide +kernel) (by decide +kernel), gw_mem 76 (by decide +kernel) (by decide +kernel), gw_mem 993 (by decide +kernel) (by decide +kernel), ⟨by decide +kernel, by decide +kernel, by decide +kernel⟩, by decide, ⟨_, _, rfl⟩, by decide⟩
theorem mwX5_write : MthV mX5_write 5 1 := ⟨gw_mem 1121 (by decide +kernel) (by decide +kernel), gw_mem 67 (by decide +kernel) (by decide +kernel), gw_mem 76 (by decide +kernel) (by decide +kernel), gw_mem 1122 (by decide +kernel) (by decide +kernel), ⟨by decide +kernel, by decide +kernel, by decide +kernel⟩, by decide, ⟨_, _, rfl⟩, by decide⟩
theorem mwX5_writeNumber : MthV mX5_writeNumber 5 1 := ⟨gw_mem 1125 (by decide +kernel) (by decide +kernel), gw_mem 68 (by decide +kernel) (by decide +kernel), gw_mem 76 (by decide +kernel) (by decide +kernel), gw_mem 1126 (by decide +kernel) (by decide +kernel), ⟨by decide +kernel, by decide +kernel, by decide +kernel⟩, by decide, ⟨_, _, rfl⟩, by decide⟩
theorem mwX5_writeSheaf : MthV mX5_writeSheaf 5 2 := ⟨gw_mem 1117 (by decide +kernel) (by decide +kernel), gw_mem 66 (by decide +kernel) (by decide +kernel), gw_mem 76 (by decide +kernel) (by decide +kernel), gw_mem 1118 (by decide +kernel) (by decide +kernel), ⟨by decide +kernel, by decide +kernel, by decide +kernel⟩, by decide, ⟨_, _, rfl⟩, by decide⟩
theorem mwX5_tell : MthV mX5_tell 5 1 := ⟨gw_mem 1112 (by decide +kernel) (by decide +kernel), gw_mem 1113 (by decide +kernel) (by decide +kernel), gw_mem 76 (by decide +kernel) (by decide +kernel), gw_mem 1114 (by decide +kernel) (by decide +kernel), ⟨by decide +kernel, by decide +kernel, by decide +kernel⟩, by decide, ⟨_, _, rfl⟩, by decide⟩
theorem mwX5_character : MthV mX5_character 5 1 := ⟨gw_mem 1128 (by decide +kernel) (by decide +kernel), gw_mem 1129 (by decide +kernel) (by decide +kernel), gw_mem 76 (by decide +kernel) (by decide +kernel), gw_mem 1130 (by decide +kernel) (by decide +kernel), ⟨by decide +kernel, by decide +kernel, by decide +kernel⟩, by decide, ⟨_, _, rfl⟩, by decide⟩
theorem mwX5_reason : MthV mX5_reason 5 1 := ⟨gw_mem 1132 (by decide +kernel) (by decide +kernel), gw_mem 1133 (by decide +kernel) (by decide +kernel), gw_mem 76 (by decide +kernel) (by decide +kernel), gw_mem 1134 (by decide +kernel) (by decide +kernel), ⟨by decide +kernel, by decide +kernel, by decide +kernel⟩, by decide, ⟨_, _, rfl⟩, by decide⟩
theorem mwX5_allSheaves : MthV mX5_allSheaves 5 0 := ⟨gw_mem 1141 (by decide +kernel) (by decide +kernel), gw_mem 69 (by decide +kernel) (by decide +kernel), gw_mem 76 (by decide +kernel) (by decide +kernel), gw_mem 1142 (by decide +kernel) (by decide +kernel), ⟨by decide +kernel, by decide +kernel, by decide +kernel⟩, by decide, ⟨_, _, rfl⟩, by decide⟩
theorem mwX5_account : MthV mX5_account 5 1 := ⟨gw_mem 1136 (by decide +kernel) (by decide +kernel), gw_mem 1137 (by decide +kernel) (by decide +kernel), gw_mem 76 (by decide +kernel) (by decide +kernel), gw_mem 1138 (by decide +kernel) (by decide +kernel), ⟨by decide +kernel, by decide +kernel, by decide +kernel⟩, by decide, ⟨_, _, rfl⟩, by decide⟩
theorem mwX5_isBalanced : MthV mX5_isBalanced 5 0 := ⟨gw_mem 1144 (by decide +kernel) (by decide +kernel), gw_mem 1145 (by decide +kernel) (by decide +kernel), gw_mem 76 (by decide +kernel) (by decide +kernel), gw_mem 1146 (by decide +kernel) (by decide +kernel), ⟨by decide +kernel, by decide +kernel, by decide +kernel⟩, by decide, ⟨_, _, rfl⟩, by decide⟩
theorem mwX5_undo : MthV mX5_undo 5 0 := ⟨gw_mem 1148 (by decide +kernel) (by decide +kernel), gw_mem 1149 (by decide +kernel) (by decide +kernel), gw_mem 76 (by decide +kernel) (by decide +kernel), gw_mem 1150 (by decide +kernel) (by decide +kernel), ⟨by decide +kernel, by decide +kernel, by decide +kernel⟩, by decide, ⟨_, _, rfl⟩, by decide⟩
theorem mwX5_save : MthV mX5_save 5 0 := ⟨gw_mem 1152 (by decide +kernel) (by decide +kernel), gw_mem 1153 (by decide +kernel) (by decide +kernel), gw_mem 76 (by decide +kernel) (by decide +kernel), gw_mem 1154 (by decide +kernel) (by decide +kernel), ⟨by decide +kernel, by decide +kernel, by decide +kernel⟩, by decide, ⟨_, _, rfl⟩, by decide⟩
theorem mwX5_restore : MthV mX5_restore 5 0 := ⟨gw_mem 1156 (by decide +kernel) (by decide +kernel), gw_mem 1157 (by decide +kernel) (by decide +kernel), gw_mem 76 (by decide +kernel) (by decide +kernel), gw_mem 1158 (by decide +kernel) (by decide +kernel), ⟨by decide +kernel, by decide +kernel, by decide +kernel⟩, by decide, ⟨_, _, rfl⟩, by decide⟩
theorem mwJxe99ae_isNaN_b9ae7 : MthS mJxe99ae_isNaN_b9ae7 1 := ⟨gw_mem 980 (by decide +kernel) (by decide +kernel), gw_mem 80 (by decide +kernel) (by decide +kernel), gw_mem 981 (by decide +kernel) (by decide +kernel), ⟨by decide +kernel, by decide +kernel, by decide +kernel⟩, by decide⟩
theorem mwJxe99ae_doubleToLongBits_ccdee : MthS mJxe99ae_doubleToLongBits_ccdee 1 := ⟨gw_mem 977 (by decide +kernel) (by decide +kernel), gw_mem 80 (by decide +kernel) (by decide +kernel), gw_mem 978 (by decide +kernel) (by decide +kernel), ⟨by decide +kernel, by decide +kernel, by decide +kernel⟩, by decide⟩
theorem mwJxf58ca_isNaN_12338 : MthS mJxf58ca_isNaN_12338 1 := ⟨gw_mem 965 (by decide +kernel) (by decide +kernel), gw_mem 79 (by decide +kernel) (by decide +kernel), gw_mem 966 (by decide +kernel) (by decide +kernel), ⟨by decide +kernel, by decide +kernel, by decide +kernel⟩, by decide⟩
theorem mwJxf58ca_floatToIntBits_5c35a : MthS mJxf58ca_floatToIntBits_5c35a 1 := ⟨gw_mem 962 (by decide +kernel) (by decide +kernel), gw_mem 79 (by decide +kernel) (by decide +kernel), gw_mem 963 (by decide +kernel) (by decide +kernel), ⟨by decide +kernel, by decide +kernel, by decide +kernel⟩, by decide⟩
theorem mlX4_9 : Cond.methodLink RX4 9 yX3_init ∈ lw_good := gw_mem 96 (by decide +kernel) (by decide +kernel)
theorem mlX4_47 : Cond.methodLink RX4 47 yX4_hold ∈ lw_good := gw_mem 232 (by decide +kernel) (by decide +kernel)
theorem mlX4_50 : Cond.methodLink RX4 50 yX4_putNow ∈ lw_good := gw_mem 255 (by decide +kernel) (by decide +kernel)
theorem mlX4_54 : Cond.methodLink RX4 54 yX4_keep ∈ lw_good := gw_mem 331 (by decide +kernel) (by decide +kernel)
theorem mlX4_58 : Cond.methodLink RX4 58 yX4_takeNow ∈ lw_good := gw_mem 342 (by decide +kernel) (by decide +kernel)
theorem mlX4_62 : Cond.methodLink RX4 62 yX4_buildNow ∈ lw_good := gw_mem 367 (by decide +kernel) (by decide +kernel)
theorem mlX4_65 : Cond.methodLink RX4 65 yX4_pourNow ∈ lw_good := gw_mem 375 (by decide +kernel) (by decide +kernel)
theorem mlX4_68 : Cond.methodLink RX4 68 yX4_limitNow ∈ lw_good := gw_mem 384 (by decide +kernel) (by decide +kernel)
theorem mlX4_71 : Cond.methodLink RX4 71 yX3_rickAt ∈ lw_good := gw_mem 259 (by decide +kernel) (by decide +kernel)
theorem mlX4_75 : Cond.methodLink RX4 75 yX1_find ∈ lw_good := gw_mem 260 (by decide +kernel) (by decide +kernel)
theorem mlX4_80 : Cond.methodLink RX4 80 yX1_firstOf ∈ lw_good := gw_mem 392 (by decide +kernel) (by decide +kernel)
theorem mlX4_83 : Cond.methodLink RX4 83 yX1_lastOf ∈ lw_good := gw_mem 393 (by decide +kernel) (by decide +kernel)
theorem mlX4_86 : Cond.methodLink RX4 86 yX1_loadAt ∈ lw_good := gw_mem 346 (by decide +kernel) (by decide +kernel)
theorem mlX4_89 : Cond.methodLink RX4 89 yX1_depthAt ∈ lw_good := gw_mem 296 (by decide +kernel) (by decide +kernel)
theorem mlX4_92 : Cond.methodLink RX4 92 yX1_loadsFrom ∈ lw_good := gw_mem 394 (by decide +kernel) (by decide +kernel)
theorem mlX4_98 : Cond.methodLink RX4 98 yX1_leans ∈ lw_good := gw_mem 398 (by decide +kernel) (by decide +kernel)
theorem mlX4_102 : Cond.methodLink RX4 102 yX1_above ∈ lw_good := gw_mem 399 (by decide +kernel) (by decide +kernel)
theorem mlX4_105 : Cond.methodLink RX4 105 yX1_weightAt ∈ lw_good := gw_mem 379 (by decide +kernel) (by decide +kernel)
theorem mlX4_108 : Cond.methodLink RX4 108 yX1_topOf ∈ lw_good := gw_mem 400 (by decide +kernel) (by decide +kernel)
theorem mlX4_114 : Cond.methodLink RX4 114 yX1_greatestDepth ∈ lw_good := gw_mem 408 (by decide +kernel) (by decide +kernel)
theorem mlX4_118 : Cond.methodLink RX4 118 yX4_depthFor ∈ lw_good := gw_mem 297 (by decide +kernel) (by decide +kernel)
theorem mlX4_124 : Cond.methodLink RX4 124 yX1_leaning ∈ lw_good := gw_mem 412 (by decide +kernel) (by decide +kernel)
theorem mlX4_127 : Cond.methodLink RX4 127 yX1_depths ∈ lw_good := gw_mem 416 (by decide +kernel) (by decide +kernel)
theorem mlX4_130 : Cond.methodLink RX4 130 yX1_lowest ∈ lw_good := gw_mem 420 (by decide +kernel) (by decide +kernel)
theorem mlX4_133 : Cond.methodLink RX4 133 yX1_lighterByParts ∈ lw_good := gw_mem 428 (by decide +kernel) (by decide +kernel)
theorem mlX4_136 : Cond.methodLink RX4 136 yX1_lighterOneByOne ∈ lw_good := gw_mem 437 (by decide +kernel) (by decide +kernel)
theorem mlX4_139 : Cond.methodLink RX4 139 yX1_isPlace ∈ lw_good := gw_mem 442 (by decide +kernel) (by decide +kernel)
theorem mlX4_143 : Cond.methodLink RX4 143 yX1_loadsByParts ∈ lw_good := gw_mem 447 (by decide +kernel) (by decide +kernel)
theorem mlX4_146 : Cond.methodLink RX4 146 yX1_loadsOneByOne ∈ lw_good := gw_mem 460 (by decide +kernel) (by decide +kernel)
theorem mlX4_149 : Cond.methodLink RX4 149 yX3_sheaves ∈ lw_good := gw_mem 468 (by decide +kernel) (by decide +kernel)
theorem mlX4_152 : Cond.methodLink RX4 152 yX3_keyAfter ∈ lw_good := gw_mem 472 (by decide +kernel) (by decide +kernel)
theorem mlX4_155 : Cond.methodLink RX4 155 yX4_isBears ∈ lw_good := gw_mem 483 (by decide +kernel) (by decide +kernel)
theorem mlX4_158 : Cond.methodLink RX4 158 yX1_cartsUpTo ∈ lw_good := gw_mem 486 (by decide +kernel) (by decide +kernel)
theorem mlX4_163 : Cond.methodLink RX4 163 yX4_shapeOf ∈ lw_good := gw_mem 499 (by decide +kernel) (by decide +kernel)
theorem mlX4_167 : Cond.methodLink RX4 167 yX4_shareBits ∈ lw_good := gw_mem 510 (by decide +kernel) (by decide +kernel)
theorem mlX4_173 : Cond.methodLink RX4 173 yX4_meanBits ∈ lw_good := gw_mem 519 (by decide +kernel) (by decide +kernel)
theorem mlX4_177 : Cond.methodLink RX4 177 yX2_add ∈ lw_good := gw_mem 529 (by decide +kernel) (by decide +kernel)
theorem mlX4_183 : Cond.methodLink RX4 183 yX0_read ∈ lw_good := gw_mem 537 (by decide +kernel) (by decide +kernel)
theorem mlX4_187 : Cond.methodLink RX4 187 yX2_clear ∈ lw_good := gw_mem 560 (by decide +kernel) (by decide +kernel)
theorem mlX4_190 : Cond.methodLink RX4 190 yX4_carryOut ∈ lw_good := gw_mem 564 (by decide +kernel) (by decide +kernel)
theorem mlX4_193 : Cond.methodLink RX4 193 yX4_giveBack ∈ lw_good := gw_mem 576 (by decide +kernel) (by decide +kernel)
theorem mlX4_196 : Cond.methodLink RX4 196 yX4_refuse ∈ lw_good := gw_mem 268 (by decide +kernel) (by decide +kernel)
theorem mlX4_199 : Cond.methodLink RX4 199 yX4_write ∈ lw_good := gw_mem 584 (by decide +kernel) (by decide +kernel)
theorem mlX4_203 : Cond.methodLink RX4 203 yX2_codeAt ∈ lw_good := gw_mem 596 (by decide +kernel) (by decide +kernel)
theorem mlX4_206 : Cond.methodLink RX4 206 yX3_loads ∈ lw_good := gw_mem 605 (by decide +kernel) (by decide +kernel)
theorem mlX4_230 : Cond.methodLink RX4 230 yX4_isSound ∈ lw_good := gw_mem 614 (by decide +kernel) (by decide +kernel)
theorem mlX4_237 : Cond.methodLink RX4 237 yX3_copyFrom ∈ lw_good := gw_mem 240 (by decide +kernel) (by decide +kernel)
theorem mlX4_245 : Cond.methodLink RX4 245 yX1_lay ∈ lw_good := gw_mem 272 (by decide +kernel) (by decide +kernel)
theorem mlX4_248 : Cond.methodLink RX4 248 yJ9_max_7cf53 ∈ lw_good := gw_mem 295 (by decide +kernel) (by decide +kernel)
theorem mlX4_253 : Cond.methodLink RX4 253 yX1_buildPartAbove ∈ lw_good := gw_mem 300 (by decide +kernel) (by decide +kernel)
theorem mlX4_256 : Cond.methodLink RX4 256 yX1_lift ∈ lw_good := gw_mem 347 (by decide +kernel) (by decide +kernel)
theorem mlX4_260 : Cond.methodLink RX4 260 yX4_buildWhole ∈ lw_good := gw_mem 355 (by decide +kernel) (by decide +kernel)
theorem mlX4_264 : Cond.methodLink RX4 264 yX1_buildWhole ∈ lw_good := gw_mem 359 (by decide +kernel) (by decide +kernel)
theorem mlX4_266 : Cond.methodLink RX4 266 yX0_numberOf ∈ lw_good := gw_mem 568 (by decide +kernel) (by decide +kernel)
theorem mlX4_269 : Cond.methodLink RX4 269 yX0_signOf ∈ lw_good := gw_mem 572 (by decide +kernel) (by decide +kernel)
theorem mlX4_272 : Cond.methodLink RX4 272 yX4_beforeNow ∈ lw_good := gw_mem 236 (by decide +kernel) (by decide +kernel)
theorem mlX4_276 : Cond.methodLink RX4 276 yJ9_min_7cf53 ∈ lw_good := gw_mem 335 (by decide +kernel) (by decide +kernel)
theorem mlX4_279 : Cond.methodLink RX4 279 yX2_addNumber ∈ lw_good := gw_mem 587 (by decide +kernel) (by decide +kernel)
theorem mlX4_282 : Cond.methodLink RX4 282 yX1_isInOrder ∈ lw_good := gw_mem 617 (by decide +kernel) (by decide +kernel)
theorem mlX4_286 : Cond.methodLink RX4 286 yX4_isTree ∈ lw_good := gw_mem 621 (by decide +kernel) (by decide +kernel)
theorem mlX0_25 : Cond.methodLink RX0 25 yX0_isOrder ∈ lw_good := gw_mem 541 (by decide +kernel) (by decide +kernel)
theorem mlX0_34 : Cond.methodLink RX0 34 yX0_isCode ∈ lw_good := gw_mem 549 (by decide +kernel) (by decide +kernel)
theorem mlX0_38 : Cond.methodLink RX0 38 yX2_codeAt ∈ lw_good := gw_mem 545 (by decide +kernel) (by decide +kernel)
theorem mlX0_42 : Cond.methodLink RX0 42 yX0_isNumber ∈ lw_good := gw_mem 553 (by decide +kernel) (by decide +kernel)
theorem mlX0_46 : Cond.methodLink RX0 46 yX0_isDigit ∈ lw_good := gw_mem 557 (by decide +kernel) (by decide +kernel)
theorem mlX1_25 : Cond.methodLink RX1 25 yX1_weightAt ∈ lw_good := gw_mem 264 (by decide +kernel) (by decide +kernel)
theorem mlX1_29 : Cond.methodLink RX1 29 yX1_depthAt ∈ lw_good := gw_mem 280 (by decide +kernel) (by decide +kernel)
theorem mlX1_32 : Cond.methodLink RX1 32 yJ9_max_7cf53 ∈ lw_good := gw_mem 284 (by decide +kernel) (by decide +kernel)
theorem mlX1_38 : Cond.methodLink RX1 38 yX1_firstOf ∈ lw_good := gw_mem 308 (by decide +kernel) (by decide +kernel)
theorem mlX1_41 : Cond.methodLink RX1 41 yX1_lastOf ∈ lw_good := gw_mem 312 (by decide +kernel) (by decide +kernel)
theorem mlX1_44 : Cond.methodLink RX1 44 yX1_isPlace ∈ lw_good := gw_mem 316 (by decide +kernel) (by decide +kernel)
theorem mlX1_48 : Cond.methodLink RX1 48 yX1_loadAt ∈ lw_good := gw_mem 287 (by decide +kernel) (by decide +kernel)
theorem mlX1_51 : Cond.methodLink RX1 51 yX1_leans ∈ lw_good := gw_mem 320 (by decide +kernel) (by decide +kernel)
theorem mlX1_55 : Cond.methodLink RX1 55 yX1_topOf ∈ lw_good := gw_mem 432 (by decide +kernel) (by decide +kernel)
theorem mlX1_58 : Cond.methodLink RX1 58 yX1_loadsOfLighter ∈ lw_good := gw_mem 451 (by decide +kernel) (by decide +kernel)
theorem mlX1_62 : Cond.methodLink RX1 62 yX1_loadsFrom ∈ lw_good := gw_mem 455 (by decide +kernel) (by decide +kernel)
theorem mlX1_65 : Cond.methodLink RX1 65 yX1_lighterOneByOne ∈ lw_good := gw_mem 276 (by decide +kernel) (by decide +kernel)
theorem mlX1_68 : Cond.methodLink RX1 68 yX1_set ∈ lw_good := gw_mem 291 (by decide +kernel) (by decide +kernel)
theorem mlX1_72 : Cond.methodLink RX1 72 yX1_raise ∈ lw_good := gw_mem 351 (by decide +kernel) (by decide +kernel)
theorem mlX1_76 : Cond.methodLink RX1 76 yX1_setDepth ∈ lw_good := gw_mem 327 (by decide +kernel) (by decide +kernel)
theorem mlX1_79 : Cond.methodLink RX1 79 yX1_above ∈ lw_good := gw_mem 304 (by decide +kernel) (by decide +kernel)
theorem mlX1_82 : Cond.methodLink RX1 82 yX1_spread ∈ lw_good := gw_mem 324 (by decide +kernel) (by decide +kernel)
theorem mlX2_19 : Cond.methodLink RX2 19 yX2_add ∈ lw_good := gw_mem 591 (by decide +kernel) (by decide +kernel)
theorem mlX3_22 : Cond.methodLink RX3 22 yX3_rickAt ∈ lw_good := gw_mem 244 (by decide +kernel) (by decide +kernel)
theorem mlX3_29 : Cond.methodLink RX3 29 yX1_loadsFrom ∈ lw_good := gw_mem 609 (by decide +kernel) (by decide +kernel)
theorem mlX3_36 : Cond.methodLink RX3 36 yX1_loadAt ∈ lw_good := gw_mem 477 (by decide +kernel) (by decide +kernel)
theorem mlX3_40 : Cond.methodLink RX3 40 yX1_weightAt ∈ lw_good := gw_mem 478 (by decide +kernel) (by decide +kernel)
theorem mlX3_43 : Cond.methodLink RX3 43 yX1_copyFrom ∈ lw_good := gw_mem 248 (by decide +kernel) (by decide +kernel)
theorem mlL_9 : Cond.methodLink RL 9 yX4_init ∈ lw_good := gw_mem 88 (by decide +kernel) (by decide +kernel)
theorem mlL_12 : Cond.methodLink RL 12 yX5_init ∈ lw_good := gw_mem 638 (by decide +kernel) (by decide +kernel)
theorem mlL_13 : Cond.methodLink RL 13 yX4_put ∈ lw_good := gw_mem 228 (by decide +kernel) (by decide +kernel)
theorem mlL_17 : Cond.methodLink RL 17 yX5_put_ ∈ lw_good := gw_mem 711 (by decide +kernel) (by decide +kernel)
theorem mlL_18 : Cond.methodLink RL 18 yX4_take ∈ lw_good := gw_mem 338 (by decide +kernel) (by decide +kernel)
theorem mlL_22 : Cond.methodLink RL 22 yX5_take ∈ lw_good := gw_mem 819 (by decide +kernel) (by decide +kernel)
theorem mlL_23 : Cond.methodLink RL 23 yX4_build ∈ lw_good := gw_mem 363 (by decide +kernel) (by decide +kernel)
theorem mlL_27 : Cond.methodLink RL 27 yX5_build ∈ lw_good := gw_mem 843 (by decide +kernel) (by decide +kernel)
theorem mlL_28 : Cond.methodLink RL 28 yX4_pour ∈ lw_good := gw_mem 371 (by decide +kernel) (by decide +kernel)
theorem mlL_31 : Cond.methodLink RL 31 yX5_pour ∈ lw_good := gw_mem 847 (by decide +kernel) (by decide +kernel)
theorem mlL_32 : Cond.methodLink RL 32 yX4_limit ∈ lw_good := gw_mem 380 (by decide +kernel) (by decide +kernel)
theorem mlL_35 : Cond.methodLink RL 35 yX5_limit ∈ lw_good := gw_mem 855 (by decide +kernel) (by decide +kernel)
theorem mlL_36 : Cond.methodLink RL 36 yX4_sheafOf ∈ lw_good := gw_mem 388 (by decide +kernel) (by decide +kernel)
theorem mlL_39 : Cond.methodLink RL 39 yX5_sheafOf ∈ lw_good := gw_mem 859 (by decide +kernel) (by decide +kernel)
theorem mlL_40 : Cond.methodLink RL 40 yX4_rickOf ∈ lw_good := gw_mem 404 (by decide +kernel) (by decide +kernel)
theorem mlL_43 : Cond.methodLink RL 43 yX5_rickOf ∈ lw_good := gw_mem 871 (by decide +kernel) (by decide +kernel)
theorem mlL_44 : Cond.methodLink RL 44 yX4_rank ∈ lw_good := gw_mem 424 (by decide +kernel) (by decide +kernel)
theorem mlL_47 : Cond.methodLink RL 47 yX5_rank ∈ lw_good := gw_mem 891 (by decide +kernel) (by decide +kernel)
theorem mlL_48 : Cond.methodLink RL 48 yX4_rankAgain ∈ lw_good := gw_mem 433 (by decide +kernel) (by decide +kernel)
theorem mlL_51 : Cond.methodLink RL 51 yX5_rankAgain ∈ lw_good := gw_mem 895 (by decide +kernel) (by decide +kernel)
theorem mlL_52 : Cond.methodLink RL 52 yX4_at ∈ lw_good := gw_mem 438 (by decide +kernel) (by decide +kernel)
theorem mlL_55 : Cond.methodLink RL 55 yX5_at ∈ lw_good := gw_mem 900 (by decide +kernel) (by decide +kernel)
theorem mlL_56 : Cond.methodLink RL 56 yX4_between ∈ lw_good := gw_mem 443 (by decide +kernel) (by decide +kernel)
theorem mlL_59 : Cond.methodLink RL 59 yX5_between ∈ lw_good := gw_mem 904 (by decide +kernel) (by decide +kernel)
theorem mlL_60 : Cond.methodLink RL 60 yX4_betweenAgain ∈ lw_good := gw_mem 456 (by decide +kernel) (by decide +kernel)
theorem mlL_63 : Cond.methodLink RL 63 yX5_betweenAgain ∈ lw_good := gw_mem 908 (by decide +kernel) (by decide +kernel)
theorem mlL_64 : Cond.methodLink RL 64 yX4_heaviest ∈ lw_good := gw_mem 464 (by decide +kernel) (by decide +kernel)
theorem mlL_67 : Cond.methodLink RL 67 yX5_heaviest ∈ lw_good := gw_mem 913 (by decide +kernel) (by decide +kernel)
theorem mlL_68 : Cond.methodLink RL 68 yX4_carts ∈ lw_good := gw_mem 479 (by decide +kernel) (by decide +kernel)
theorem mlL_71 : Cond.methodLink RL 71 yX5_carts ∈ lw_good := gw_mem 929 (by decide +kernel) (by decide +kernel)
theorem mlL_72 : Cond.methodLink RL 72 yX4_cartOf ∈ lw_good := gw_mem 490 (by decide +kernel) (by decide +kernel)
theorem mlL_75 : Cond.methodLink RL 75 yX5_cartOf ∈ lw_good := gw_mem 940 (by decide +kernel) (by decide +kernel)
theorem mlL_76 : Cond.methodLink RL 76 yX4_shape ∈ lw_good := gw_mem 494 (by decide +kernel) (by decide +kernel)
theorem mlL_80 : Cond.methodLink RL 80 yX5_shape ∈ lw_good := gw_mem 944 (by decide +kernel) (by decide +kernel)
theorem mlL_81 : Cond.methodLink RL 81 yX4_weights ∈ lw_good := gw_mem 502 (by decide +kernel) (by decide +kernel)
theorem mlL_85 : Cond.methodLink RL 85 yX5_weights ∈ lw_good := gw_mem 953 (by decide +kernel) (by decide +kernel)
theorem mlL_86 : Cond.methodLink RL 86 yX4_leaningShare ∈ lw_good := gw_mem 506 (by decide +kernel) (by decide +kernel)
theorem mlL_89 : Cond.methodLink RL 89 yX5_leaningShare ∈ lw_good := gw_mem 957 (by decide +kernel) (by decide +kernel)
theorem mlL_90 : Cond.methodLink RL 90 yX4_meanDepth ∈ lw_good := gw_mem 514 (by decide +kernel) (by decide +kernel)
theorem mlL_93 : Cond.methodLink RL 93 yX5_meanDepth ∈ lw_good := gw_mem 971 (by decide +kernel) (by decide +kernel)
theorem mlL_94 : Cond.methodLink RL 94 yX4_append ∈ lw_good := gw_mem 525 (by decide +kernel) (by decide +kernel)
theorem mlL_97 : Cond.methodLink RL 97 yX5_append ∈ lw_good := gw_mem 986 (by decide +kernel) (by decide +kernel)
theorem mlL_98 : Cond.methodLink RL 98 yX4_run ∈ lw_good := gw_mem 533 (by decide +kernel) (by decide +kernel)
theorem mlL_102 : Cond.methodLink RL 102 yX5_run ∈ lw_good := gw_mem 990 (by decide +kernel) (by decide +kernel)
theorem mlL_103 : Cond.methodLink RL 103 yX4_tell ∈ lw_good := gw_mem 580 (by decide +kernel) (by decide +kernel)
theorem mlL_106 : Cond.methodLink RL 106 yX5_tell ∈ lw_good := gw_mem 1111 (by decide +kernel) (by decide +kernel)
theorem mlL_107 : Cond.methodLink RL 107 yX4_character ∈ lw_good := gw_mem 592 (by decide +kernel) (by decide +kernel)
theorem mlL_110 : Cond.methodLink RL 110 yX5_character ∈ lw_good := gw_mem 1127 (by decide +kernel) (by decide +kernel)
theorem mlL_111 : Cond.methodLink RL 111 yX4_reason ∈ lw_good := gw_mem 597 (by decide +kernel) (by decide +kernel)
theorem mlL_115 : Cond.methodLink RL 115 yX5_reason ∈ lw_good := gw_mem 1131 (by decide +kernel) (by decide +kernel)
theorem mlL_116 : Cond.methodLink RL 116 yX4_account ∈ lw_good := gw_mem 601 (by decide +kernel) (by decide +kernel)
theorem mlL_119 : Cond.methodLink RL 119 yX5_account ∈ lw_good := gw_mem 1135 (by decide +kernel) (by decide +kernel)
theorem mlL_120 : Cond.methodLink RL 120 yX4_isBalanced ∈ lw_good := gw_mem 610 (by decide +kernel) (by decide +kernel)
theorem mlL_123 : Cond.methodLink RL 123 yX5_isBalanced ∈ lw_good := gw_mem 1143 (by decide +kernel) (by decide +kernel)
theorem mlL_124 : Cond.methodLink RL 124 yX4_undo ∈ lw_good := gw_mem 624 (by decide +kernel) (by decide +kernel)
theorem mlL_127 : Cond.methodLink RL 127 yX5_undo ∈ lw_good := gw_mem 1147 (by decide +kernel) (by decide +kernel)
theorem mlL_128 : Cond.methodLink RL 128 yX4_save ∈ lw_good := gw_mem 628 (by decide +kernel) (by decide +kernel)
theorem mlL_131 : Cond.methodLink RL 131 yX5_save ∈ lw_good := gw_mem 1151 (by decide +kernel) (by decide +kernel)
theorem mlL_132 : Cond.methodLink RL 132 yX4_restore ∈ lw_good := gw_mem 632 (by decide +kernel) (by decide +kernel)
theorem mlL_135 : Cond.methodLink RL 135 yX5_restore ∈ lw_good := gw_mem 1155 (by decide +kernel) (by decide +kernel)
theorem mlX5_46 : Cond.methodLink RX5 46 yX5_copyRow ∈ lw_good := gw_mem 756 (by decide +kernel) (by decide +kernel)
theorem mlX5_54 : Cond.methodLink RX5 54 yX5_remember ∈ lw_good := gw_mem 752 (by decide +kernel) (by decide +kernel)
theorem mlX5_58 : Cond.methodLink RX5 58 yX5_isBetween ∈ lw_good := gw_mem 718 (by decide +kernel) (by decide +kernel)
theorem mlX5_62 : Cond.methodLink RX5 62 yX5_of ∈ lw_good := gw_mem 732 (by decide +kernel) (by decide +kernel)
theorem mlX5_66 : Cond.methodLink RX5 66 yX5_size ∈ lw_good := gw_mem 744 (by decide +kernel) (by decide +kernel)
theorem mlX5_70 : Cond.methodLink RX5 70 yX5_loads ∈ lw_good := gw_mem 863 (by decide +kernel) (by decide +kernel)
theorem mlX5_73 : Cond.methodLink RX5 73 yX5_top ∈ lw_good := gw_mem 728 (by decide +kernel) (by decide +kernel)
theorem mlX5_77 : Cond.methodLink RX5 77 yX5_above ∈ lw_good := gw_mem 791 (by decide +kernel) (by decide +kernel)
theorem mlX5_80 : Cond.methodLink RX5 80 yX5_listFrom ∈ lw_good := gw_mem 807 (by decide +kernel) (by decide +kernel)
theorem mlX5_87 : Cond.methodLink RX5 87 yX5_make ∈ lw_good := gw_mem 811 (by decide +kernel) (by decide +kernel)
theorem mlX5_90 : Cond.methodLink RX5 90 yX5_put ∈ lw_good := gw_mem 767 (by decide +kernel) (by decide +kernel)
theorem mlX5_94 : Cond.methodLink RX5 94 yX5_setTop ∈ lw_good := gw_mem 775 (by decide +kernel) (by decide +kernel)
theorem mlX5_97 : Cond.methodLink RX5 97 yX5_replace ∈ lw_good := gw_mem 815 (by decide +kernel) (by decide +kernel)
theorem mlX5_100 : Cond.methodLink RX5 100 yX5_listAll ∈ lw_good := gw_mem 839 (by decide +kernel) (by decide +kernel)
theorem mlX5_104 : Cond.methodLink RX5 104 yX5_setMost ∈ lw_good := gw_mem 783 (by decide +kernel) (by decide +kernel)
theorem mlX5_107 : Cond.methodLink RX5 107 yX5_emptyStall ∈ lw_good := gw_mem 763 (by decide +kernel) (by decide +kernel)
theorem mlX5_110 : Cond.methodLink RX5 110 yX5_isRick ∈ lw_good := gw_mem 715 (by decide +kernel) (by decide +kernel)
theorem mlX5_114 : Cond.methodLink RX5 114 yX5_isWeight ∈ lw_good := gw_mem 721 (by decide +kernel) (by decide +kernel)
theorem mlX5_117 : Cond.methodLink RX5 117 yX5_find ∈ lw_good := gw_mem 724 (by decide +kernel) (by decide +kernel)
theorem mlX5_120 : Cond.methodLink RX5 120 yX5_refuse ∈ lw_good := gw_mem 736 (by decide +kernel) (by decide +kernel)
theorem mlX5_124 : Cond.methodLink RX5 124 yX5_count ∈ lw_good := gw_mem 740 (by decide +kernel) (by decide +kernel)
theorem mlX5_127 : Cond.methodLink RX5 127 yX5_change ∈ lw_good := gw_mem 748 (by decide +kernel) (by decide +kernel)
theorem mlX5_130 : Cond.methodLink RX5 130 yX5_enter ∈ lw_good := gw_mem 759 (by decide +kernel) (by decide +kernel)
theorem mlX5_133 : Cond.methodLink RX5 133 yX5_hang ∈ lw_good := gw_mem 771 (by decide +kernel) (by decide +kernel)
theorem mlX5_136 : Cond.methodLink RX5 136 yX5_most ∈ lw_good := gw_mem 779 (by decide +kernel) (by decide +kernel)
theorem mlX5_139 : Cond.methodLink RX5 139 yX5_depth ∈ lw_good := gw_mem 787 (by decide +kernel) (by decide +kernel)
theorem mlX5_142 : Cond.methodLink RX5 142 yX5_mayHave ∈ lw_good := gw_mem 795 (by decide +kernel) (by decide +kernel)
theorem mlX5_145 : Cond.methodLink RX5 145 yX5_leans ∈ lw_good := gw_mem 799 (by decide +kernel) (by decide +kernel)
theorem mlX5_149 : Cond.methodLink RX5 149 yX5_buildPart ∈ lw_good := gw_mem 803 (by decide +kernel) (by decide +kernel)
theorem mlX5_152 : Cond.methodLink RX5 152 yX5_unhang ∈ lw_good := gw_mem 827 (by decide +kernel) (by decide +kernel)
theorem mlX5_155 : Cond.methodLink RX5 155 yX5_takeOut ∈ lw_good := gw_mem 823 (by decide +kernel) (by decide +kernel)
theorem mlX5_158 : Cond.methodLink RX5 158 yX5_clear ∈ lw_good := gw_mem 831 (by decide +kernel) (by decide +kernel)
theorem mlX5_161 : Cond.methodLink RX5 161 yX5_buildWhole ∈ lw_good := gw_mem 835 (by decide +kernel) (by decide +kernel)
theorem mlX5_164 : Cond.methodLink RX5 164 yX5_common ∈ lw_good := gw_mem 851 (by decide +kernel) (by decide +kernel)
theorem mlX5_167 : Cond.methodLink RX5 167 yX5_weightOr ∈ lw_good := gw_mem 867 (by decide +kernel) (by decide +kernel)
theorem mlX5_170 : Cond.methodLink RX5 170 yX5_greatestDepth ∈ lw_good := gw_mem 875 (by decide +kernel) (by decide +kernel)
theorem mlX5_173 : Cond.methodLink RX5 173 yX5_leaning ∈ lw_good := gw_mem 879 (by decide +kernel) (by decide +kernel)
theorem mlX5_176 : Cond.methodLink RX5 176 yX5_allDepths ∈ lw_good := gw_mem 883 (by decide +kernel) (by decide +kernel)
theorem mlX5_179 : Cond.methodLink RX5 179 yX5_lowest ∈ lw_good := gw_mem 887 (by decide +kernel) (by decide +kernel)
theorem mlX5_182 : Cond.methodLink RX5 182 yX5_rank ∈ lw_good := gw_mem 899 (by decide +kernel) (by decide +kernel)
theorem mlX5_185 : Cond.methodLink RX5 185 yX5_between ∈ lw_good := gw_mem 912 (by decide +kernel) (by decide +kernel)
theorem mlX5_188 : Cond.methodLink RX5 188 yX5_ofAll ∈ lw_good := gw_mem 925 (by decide +kernel) (by decide +kernel)
theorem mlX5_191 : Cond.methodLink RX5 191 yX5_isThere ∈ lw_good := gw_mem 917 (by decide +kernel) (by decide +kernel)
theorem mlX5_194 : Cond.methodLink RX5 194 yX5_isAhead ∈ lw_good := gw_mem 921 (by decide +kernel) (by decide +kernel)
theorem mlX5_197 : Cond.methodLink RX5 197 yX5_isBearing ∈ lw_good := gw_mem 933 (by decide +kernel) (by decide +kernel)
theorem mlX5_200 : Cond.methodLink RX5 200 yX5_load ∈ lw_good := gw_mem 936 (by decide +kernel) (by decide +kernel)
theorem mlX5_203 : Cond.methodLink RX5 203 yX5_bits ∈ lw_good := gw_mem 948 (by decide +kernel) (by decide +kernel)
theorem mlX5_209 : Cond.methodLink RX5 209 yJxf58ca_floatToIntBits_5c35a ∈ lw_good := gw_mem 961 (by decide +kernel) (by decide +kernel)
theorem mlX5_217 : Cond.methodLink RX5 217 yJxe99ae_doubleToLongBits_ccdee ∈ lw_good := gw_mem 976 (by decide +kernel) (by decide +kernel)
theorem mlX5_232 : Cond.methodLink RX5 232 yX5_sees ∈ lw_good := gw_mem 1093 (by decide +kernel) (by decide +kernel)
theorem mlX5_235 : Cond.methodLink RX5 235 yX5_readNumber ∈ lw_good := gw_mem 1089 (by decide +kernel) (by decide +kernel)
theorem mlX5_241 : Cond.methodLink RX5 241 yX5_must ∈ lw_good := gw_mem 1097 (by decide +kernel) (by decide +kernel)
theorem mlX5_252 : Cond.methodLink RX5 252 yJ0_indexOf_0f7a4 ∈ lw_good := gw_mem 1003 (by decide +kernel) (by decide +kernel)
theorem mlX5_257 : Cond.methodLink RX5 257 yX5_readSheaf ∈ lw_good := gw_mem 1085 (by decide +kernel) (by decide +kernel)
theorem mlX5_263 : Cond.methodLink RX5 263 yX5_readOrder ∈ lw_good := gw_mem 998 (by decide +kernel) (by decide +kernel)
theorem mlX5_266 : Cond.methodLink RX5 266 yX5_put_ ∈ lw_good := gw_mem 1105 (by decide +kernel) (by decide +kernel)
theorem mlX5_268 : Cond.methodLink RX5 268 yX5_take ∈ lw_good := gw_mem 1106 (by decide +kernel) (by decide +kernel)
theorem mlX5_271 : Cond.methodLink RX5 271 yX5_build ∈ lw_good := gw_mem 1107 (by decide +kernel) (by decide +kernel)
theorem mlX5_274 : Cond.methodLink RX5 274 yX5_pour ∈ lw_good := gw_mem 1108 (by decide +kernel) (by decide +kernel)
theorem mlX5_277 : Cond.methodLink RX5 277 yX5_limit ∈ lw_good := gw_mem 1109 (by decide +kernel) (by decide +kernel)
theorem mlX5_280 : Cond.methodLink RX5 280 yX5_countOrders ∈ lw_good := gw_mem 994 (by decide +kernel) (by decide +kernel)
theorem mlX5_284 : Cond.methodLink RX5 284 yX5_carryOut ∈ lw_good := gw_mem 1101 (by decide +kernel) (by decide +kernel)
theorem mlX5_290 : Cond.methodLink RX5 290 yX5_writeNumber ∈ lw_good := gw_mem 1123 (by decide +kernel) (by decide +kernel)
theorem mlX5_293 : Cond.methodLink RX5 293 yX5_write ∈ lw_good := gw_mem 1119 (by decide +kernel) (by decide +kernel)
theorem mlX5_296 : Cond.methodLink RX5 296 yX5_writeSheaf ∈ lw_good := gw_mem 1115 (by decide +kernel) (by decide +kernel)
theorem mlX5_299 : Cond.methodLink RX5 299 yX5_allSheaves ∈ lw_good := gw_mem 1139 (by decide +kernel) (by decide +kernel)
theorem mlJxe99ae_122 : Cond.methodLink RJxe99ae 122 yJxe99ae_isNaN_b9ae7 ∈ lw_good := gw_mem 979 (by decide +kernel) (by decide +kernel)
theorem mlJxf58ca_59 : Cond.methodLink RJxf58ca 59 yJxf58ca_isNaN_12338 ∈ lw_good := gw_mem 964 (by decide +kernel) (by decide +kernel)
theorem w_max_s : Cond.static Lib.Math.max.name ∈ lw_good := gw_mem 285 (by decide +kernel) (by decide +kernel)
theorem w_max_c : Cond.code Lib.Math.max.name Lib.Math.max.code 2 (some .int) ∈ lw_good := gw_mem 286 (by decide +kernel) (by decide +kernel)
theorem w_min_s : Cond.static Lib.Math.min.name ∈ lw_good := gw_mem 336 (by decide +kernel) (by decide +kernel)
theorem w_min_c : Cond.code Lib.Math.min.name Lib.Math.min.code 2 (some .int) ∈ lw_good := gw_mem 337 (by decide +kernel) (by decide +kernel)
theorem w_math_i : Cond.initialized "java/lang/Math" ∈ lw_good := gw_mem 78 (by decide +kernel) (by decide +kernel)
theorem gX0 : ∀ w ∈ u_ws RX0 TX0 (nfs 0), w ∈ lw_good := fun w h => List.mem_filter.mpr ⟨inX0 w h, (by decide +kernel : ∀ w ∈ u_ws RX0 TX0 4, goodWord w = true) w h⟩
theorem gX1 : ∀ w ∈ u_ws RX1 TX1 (nfs 1), w ∈ lw_good := fun w h => List.mem_filter.mpr ⟨inX1 w h, (by decide +kernel : ∀ w ∈ u_ws RX1 TX1 5, goodWord w = true) w h⟩
theorem gX2 : ∀ w ∈ u_ws RX2 TX2 (nfs 2), w ∈ lw_good := fun w h => List.mem_filter.mpr ⟨inX2 w h, (by decide +kernel : ∀ w ∈ u_ws RX2 TX2 2, goodWord w = true) w h⟩
theorem gX3 : ∀ w ∈ u_ws RX3 TX3 (nfs 3), w ∈ lw_good := fun w h => List.mem_filter.mpr ⟨inX3 w h, (by decide +kernel : ∀ w ∈ u_ws RX3 TX3 8, goodWord w = true) w h⟩
theorem gX4 : ∀ w ∈ u_ws RX4 TX4 (nfs 4), w ∈ lw_good := fun w h => List.mem_filter.mpr ⟨inX4 w h, (by decide +kernel : ∀ w ∈ u_ws RX4 TX4 11, goodWord w = true) w h⟩
theorem gX5 : ∀ w ∈ u_ws RX5 TX5 (nfs 5), w ∈ lw_good := fun w h => List.mem_filter.mpr ⟨inX5 w h, (by decide +kernel : ∀ w ∈ u_ws RX5 TX5 22, goodWord w = true) w h⟩
theorem foX4_10 : FldOK RX4 10 4 0 := ⟨TX4, RX4, rfl, by decide, by decide, gX4, rfl, Or.inl (gw_mem 194 (by decide +kernel) (by decide +kernel))⟩
theorem foX4_16 : FldOK RX4 16 4 1 := ⟨TX4, RX4, rfl, by decide, by decide, gX4, rfl, Or.inl (gw_mem 195 (by decide +kernel) (by decide +kernel))⟩
theorem foX4_19 : FldOK RX4 19 4 3 := ⟨TX4, RX4, rfl, by decide, by decide, gX4, rfl, Or.inl (gw_mem 197 (by decide +kernel) (by decide +kernel))⟩
theorem foX4_26 : FldOK RX4 26 4 6 := ⟨TX4, RX4, rfl, by decide, by decide, gX4, rfl, Or.inl (gw_mem 200 (by decide +kernel) (by decide +kernel))⟩
theorem foX4_30 : FldOK RX4 30 4 7 := ⟨TX4, RX4, rfl, by decide, by decide, gX4, rfl, Or.inl (gw_mem 201 (by decide +kernel) (by decide +kernel))⟩
theorem foX4_36 : FldOK RX4 36 4 8 := ⟨TX4, RX4, rfl, by decide, by decide, gX4, rfl, Or.inl (gw_mem 202 (by decide +kernel) (by decide +kernel))⟩
theorem foX4_40 : FldOK RX4 40 4 9 := ⟨TX4, RX4, rfl, by decide, by decide, gX4, rfl, Or.inl (gw_mem 203 (by decide +kernel) (by decide +kernel))⟩
theorem poX4_40 : PutOK RX4 40 4 9 .int := ⟨TX4, RX4, tyX4, rfl, by decide, by decide, gX4, rfl, Or.inl (gw_mem 203 (by decide +kernel) (by decide +kernel)), tyX4_ok, nmX4, rfl, by decide +kernel⟩
theorem foX4_44 : FldOK RX4 44 4 10 := ⟨TX4, RX4, rfl, by decide, by decide, gX4, rfl, Or.inl (gw_mem 204 (by decide +kernel) (by decide +kernel))⟩
theorem poX4_44 : PutOK RX4 44 4 10 .int := ⟨TX4, RX4, tyX4, rfl, by decide, by decide, gX4, rfl, Or.inl (gw_mem 204 (by decide +kernel) (by decide +kernel)), tyX4_ok, nmX4, rfl, by decide +kernel⟩
theorem foX4_95 : FldOK RX4 95 3 1 := ⟨TX3, RX3, rfl, by decide, by decide, gX3, rfl, Or.inr ⟨"LeaningRicks", nw_mem 129 (by decide +kernel) (by decide +kernel)⟩⟩
theorem poX4_95 : PutOK RX4 95 3 1 .int := ⟨TX3, RX3, tyX3, rfl, by decide, by decide, gX3, rfl, Or.inr ⟨"LeaningRicks", nw_mem 129 (by decide +kernel) (by decide +kernel)⟩, tyX3_ok, nmX3, rfl, by decide +kernel⟩
theorem foX4_111 : FldOK RX4 111 1 3 := ⟨TX1, RX1, rfl, by decide, by decide, gX1, rfl, Or.inr ⟨"LeaningRicks", nw_mem 112 (by decide +kernel) (by decide +kernel)⟩⟩
theorem poX4_111 : PutOK RX4 111 1 3 .int := ⟨TX1, RX1, tyX1, rfl, by decide, by decide, gX1, rfl, Or.inr ⟨"LeaningRicks", nw_mem 112 (by decide +kernel) (by decide +kernel)⟩, tyX1_ok, nmX1, rfl, by decide +kernel⟩
theorem foX4_121 : FldOK RX4 121 1 4 := ⟨TX1, RX1, rfl, by decide, by decide, gX1, rfl, Or.inr ⟨"LeaningRicks", nw_mem 113 (by decide +kernel) (by decide +kernel)⟩⟩
theorem poX4_121 : PutOK RX4 121 1 4 .int := ⟨TX1, RX1, tyX1, rfl, by decide, by decide, gX1, rfl, Or.inr ⟨"LeaningRicks", nw_mem 113 (by decide +kernel) (by decide +kernel)⟩, tyX1_ok, nmX1, rfl, by decide +kernel⟩
theorem foX4_180 : FldOK RX4 180 2 1 := ⟨TX2, RX2, rfl, by decide, by decide, gX2, rfl, Or.inr ⟨"LeaningRicks", nw_mem 169 (by decide +kernel) (by decide +kernel)⟩⟩
theorem poX4_180 : PutOK RX4 180 2 1 .int := ⟨TX2, RX2, tyX2, rfl, by decide, by decide, gX2, rfl, Or.inr ⟨"LeaningRicks", nw_mem 169 (by decide +kernel) (by decide +kernel)⟩, tyX2_ok, nmX2, rfl, by decide +kernel⟩
theorem foX4_209 : FldOK RX4 209 3 2 := ⟨TX3, RX3, rfl, by decide, by decide, gX3, rfl, Or.inr ⟨"LeaningRicks", nw_mem 131 (by decide +kernel) (by decide +kernel)⟩⟩
theorem poX4_209 : PutOK RX4 209 3 2 .int := ⟨TX3, RX3, tyX3, rfl, by decide, by decide, gX3, rfl, Or.inr ⟨"LeaningRicks", nw_mem 131 (by decide +kernel) (by decide +kernel)⟩, tyX3_ok, nmX3, rfl, by decide +kernel⟩
theorem foX4_212 : FldOK RX4 212 3 3 := ⟨TX3, RX3, rfl, by decide, by decide, gX3, rfl, Or.inr ⟨"LeaningRicks", nw_mem 133 (by decide +kernel) (by decide +kernel)⟩⟩
theorem poX4_212 : PutOK RX4 212 3 3 .int := ⟨TX3, RX3, tyX3, rfl, by decide, by decide, gX3, rfl, Or.inr ⟨"LeaningRicks", nw_mem 133 (by decide +kernel) (by decide +kernel)⟩, tyX3_ok, nmX3, rfl, by decide +kernel⟩
theorem foX4_215 : FldOK RX4 215 3 4 := ⟨TX3, RX3, rfl, by decide, by decide, gX3, rfl, Or.inr ⟨"LeaningRicks", nw_mem 135 (by decide +kernel) (by decide +kernel)⟩⟩
theorem poX4_215 : PutOK RX4 215 3 4 .int := ⟨TX3, RX3, tyX3, rfl, by decide, by decide, gX3, rfl, Or.inr ⟨"LeaningRicks", nw_mem 135 (by decide +kernel) (by decide +kernel)⟩, tyX3_ok, nmX3, rfl, by decide +kernel⟩
theorem foX4_218 : FldOK RX4 218 3 5 := ⟨TX3, RX3, rfl, by decide, by decide, gX3, rfl, Or.inr ⟨"LeaningRicks", nw_mem 137 (by decide +kernel) (by decide +kernel)⟩⟩
theorem poX4_218 : PutOK RX4 218 3 5 .int := ⟨TX3, RX3, tyX3, rfl, by decide, by decide, gX3, rfl, Or.inr ⟨"LeaningRicks", nw_mem 137 (by decide +kernel) (by decide +kernel)⟩, tyX3_ok, nmX3, rfl, by decide +kernel⟩
theorem foX4_221 : FldOK RX4 221 3 6 := ⟨TX3, RX3, rfl, by decide, by decide, gX3, rfl, Or.inr ⟨"LeaningRicks", nw_mem 139 (by decide +kernel) (by decide +kernel)⟩⟩
theorem poX4_221 : PutOK RX4 221 3 6 .int := ⟨TX3, RX3, tyX3, rfl, by decide, by decide, gX3, rfl, Or.inr ⟨"LeaningRicks", nw_mem 139 (by decide +kernel) (by decide +kernel)⟩, tyX3_ok, nmX3, rfl, by decide +kernel⟩
theorem foX4_224 : FldOK RX4 224 3 7 := ⟨TX3, RX3, rfl, by decide, by decide, gX3, rfl, Or.inr ⟨"LeaningRicks", nw_mem 141 (by decide +kernel) (by decide +kernel)⟩⟩
theorem poX4_224 : PutOK RX4 224 3 7 .int := ⟨TX3, RX3, tyX3, rfl, by decide, by decide, gX3, rfl, Or.inr ⟨"LeaningRicks", nw_mem 141 (by decide +kernel) (by decide +kernel)⟩, tyX3_ok, nmX3, rfl, by decide +kernel⟩
theorem foX4_227 : FldOK RX4 227 4 5 := ⟨TX4, RX4, rfl, by decide, by decide, gX4, rfl, Or.inl (gw_mem 199 (by decide +kernel) (by decide +kernel))⟩
theorem poX4_227 : PutOK RX4 227 4 5 .int := ⟨TX4, RX4, tyX4, rfl, by decide, by decide, gX4, rfl, Or.inl (gw_mem 199 (by decide +kernel) (by decide +kernel)), tyX4_ok, nmX4, rfl, by decide +kernel⟩
theorem foX4_234 : FldOK RX4 234 4 4 := ⟨TX4, RX4, rfl, by decide, by decide, gX4, rfl, Or.inl (gw_mem 198 (by decide +kernel) (by decide +kernel))⟩
theorem poX4_234 : PutOK RX4 234 4 4 .int := ⟨TX4, RX4, tyX4, rfl, by decide, by decide, gX4, rfl, Or.inl (gw_mem 198 (by decide +kernel) (by decide +kernel)), tyX4_ok, nmX4, rfl, by decide +kernel⟩
theorem foX4_241 : FldOK RX4 241 4 2 := ⟨TX4, RX4, rfl, by decide, by decide, gX4, rfl, Or.inl (gw_mem 196 (by decide +kernel) (by decide +kernel))⟩
theorem poX4_241 : PutOK RX4 241 4 2 .boolean := ⟨TX4, RX4, tyX4, rfl, by decide, by decide, gX4, rfl, Or.inl (gw_mem 196 (by decide +kernel) (by decide +kernel)), tyX4_ok, nmX4, rfl, by decide +kernel⟩
theorem foX0_9 : FldOK RX0 9 0 0 := ⟨TX0, RX0, rfl, by decide, by decide, gX0, rfl, Or.inl (gw_mem 181 (by decide +kernel) (by decide +kernel))⟩
theorem foX0_15 : FldOK RX0 15 0 1 := ⟨TX0, RX0, rfl, by decide, by decide, gX0, rfl, Or.inl (gw_mem 182 (by decide +kernel) (by decide +kernel))⟩
theorem foX0_18 : FldOK RX0 18 0 2 := ⟨TX0, RX0, rfl, by decide, by decide, gX0, rfl, Or.inl (gw_mem 183 (by decide +kernel) (by decide +kernel))⟩
theorem poX0_18 : PutOK RX0 18 0 2 .int := ⟨TX0, RX0, tyX0, rfl, by decide, by decide, gX0, rfl, Or.inl (gw_mem 183 (by decide +kernel) (by decide +kernel)), tyX0_ok, nmX0, rfl, by decide +kernel⟩
theorem foX0_22 : FldOK RX0 22 0 3 := ⟨TX0, RX0, rfl, by decide, by decide, gX0, rfl, Or.inl (gw_mem 184 (by decide +kernel) (by decide +kernel))⟩
theorem poX0_22 : PutOK RX0 22 0 3 .int := ⟨TX0, RX0, tyX0, rfl, by decide, by decide, gX0, rfl, Or.inl (gw_mem 184 (by decide +kernel) (by decide +kernel)), tyX0_ok, nmX0, rfl, by decide +kernel⟩
theorem foX0_29 : FldOK RX0 29 2 1 := ⟨TX2, RX2, rfl, by decide, by decide, gX2, rfl, Or.inr ⟨"LeaningRicks", nw_mem 168 (by decide +kernel) (by decide +kernel)⟩⟩
theorem poX0_29 : PutOK RX0 29 2 1 .int := ⟨TX2, RX2, tyX2, rfl, by decide, by decide, gX2, rfl, Or.inr ⟨"LeaningRicks", nw_mem 168 (by decide +kernel) (by decide +kernel)⟩, tyX2_ok, nmX2, rfl, by decide +kernel⟩
theorem foX1_9 : FldOK RX1 9 1 0 := ⟨TX1, RX1, rfl, by decide, by decide, gX1, rfl, Or.inl (gw_mem 107 (by decide +kernel) (by decide +kernel))⟩
theorem foX1_15 : FldOK RX1 15 1 1 := ⟨TX1, RX1, rfl, by decide, by decide, gX1, rfl, Or.inl (gw_mem 108 (by decide +kernel) (by decide +kernel))⟩
theorem foX1_18 : FldOK RX1 18 1 2 := ⟨TX1, RX1, rfl, by decide, by decide, gX1, rfl, Or.inl (gw_mem 109 (by decide +kernel) (by decide +kernel))⟩
theorem foX1_21 : FldOK RX1 21 1 3 := ⟨TX1, RX1, rfl, by decide, by decide, gX1, rfl, Or.inl (gw_mem 110 (by decide +kernel) (by decide +kernel))⟩
theorem poX1_21 : PutOK RX1 21 1 3 .int := ⟨TX1, RX1, tyX1, rfl, by decide, by decide, gX1, rfl, Or.inl (gw_mem 110 (by decide +kernel) (by decide +kernel)), tyX1_ok, nmX1, rfl, by decide +kernel⟩
theorem foX1_86 : FldOK RX1 86 1 4 := ⟨TX1, RX1, rfl, by decide, by decide, gX1, rfl, Or.inl (gw_mem 114 (by decide +kernel) (by decide +kernel))⟩
theorem poX1_86 : PutOK RX1 86 1 4 .int := ⟨TX1, RX1, tyX1, rfl, by decide, by decide, gX1, rfl, Or.inl (gw_mem 114 (by decide +kernel) (by decide +kernel)), tyX1_ok, nmX1, rfl, by decide +kernel⟩
theorem foX2_9 : FldOK RX2 9 2 0 := ⟨TX2, RX2, rfl, by decide, by decide, gX2, rfl, Or.inl (gw_mem 166 (by decide +kernel) (by decide +kernel))⟩
theorem foX2_15 : FldOK RX2 15 2 1 := ⟨TX2, RX2, rfl, by decide, by decide, gX2, rfl, Or.inl (gw_mem 167 (by decide +kernel) (by decide +kernel))⟩
theorem poX2_15 : PutOK RX2 15 2 1 .int := ⟨TX2, RX2, tyX2, rfl, by decide, by decide, gX2, rfl, Or.inl (gw_mem 167 (by decide +kernel) (by decide +kernel)), tyX2_ok, nmX2, rfl, by decide +kernel⟩
theorem foX3_11 : FldOK RX3 11 3 0 := ⟨TX3, RX3, rfl, by decide, by decide, gX3, rfl, Or.inl (gw_mem 127 (by decide +kernel) (by decide +kernel))⟩
theorem foX3_17 : FldOK RX3 17 3 1 := ⟨TX3, RX3, rfl, by decide, by decide, gX3, rfl, Or.inl (gw_mem 128 (by decide +kernel) (by decide +kernel))⟩
theorem poX3_17 : PutOK RX3 17 3 1 .int := ⟨TX3, RX3, tyX3, rfl, by decide, by decide, gX3, rfl, Or.inl (gw_mem 128 (by decide +kernel) (by decide +kernel)), tyX3_ok, nmX3, rfl, by decide +kernel⟩
theorem foX3_26 : FldOK RX3 26 1 3 := ⟨TX1, RX1, rfl, by decide, by decide, gX1, rfl, Or.inr ⟨"LeaningRicks", nw_mem 111 (by decide +kernel) (by decide +kernel)⟩⟩
theorem poX3_26 : PutOK RX3 26 1 3 .int := ⟨TX1, RX1, tyX1, rfl, by decide, by decide, gX1, rfl, Or.inr ⟨"LeaningRicks", nw_mem 111 (by decide +kernel) (by decide +kernel)⟩, tyX1_ok, nmX1, rfl, by decide +kernel⟩
theorem foX3_47 : FldOK RX3 47 3 2 := ⟨TX3, RX3, rfl, by decide, by decide, gX3, rfl, Or.inl (gw_mem 130 (by decide +kernel) (by decide +kernel))⟩
theorem poX3_47 : PutOK RX3 47 3 2 .int := ⟨TX3, RX3, tyX3, rfl, by decide, by decide, gX3, rfl, Or.inl (gw_mem 130 (by decide +kernel) (by decide +kernel)), tyX3_ok, nmX3, rfl, by decide +kernel⟩
theorem foX3_50 : FldOK RX3 50 3 3 := ⟨TX3, RX3, rfl, by decide, by decide, gX3, rfl, Or.inl (gw_mem 132 (by decide +kernel) (by decide +kernel))⟩
theorem poX3_50 : PutOK RX3 50 3 3 .int := ⟨TX3, RX3, tyX3, rfl, by decide, by decide, gX3, rfl, Or.inl (gw_mem 132 (by decide +kernel) (by decide +kernel)), tyX3_ok, nmX3, rfl, by decide +kernel⟩
theorem foX3_53 : FldOK RX3 53 3 4 := ⟨TX3, RX3, rfl, by decide, by decide, gX3, rfl, Or.inl (gw_mem 134 (by decide +kernel) (by decide +kernel))⟩
theorem poX3_53 : PutOK RX3 53 3 4 .int := ⟨TX3, RX3, tyX3, rfl, by decide, by decide, gX3, rfl, Or.inl (gw_mem 134 (by decide +kernel) (by decide +kernel)), tyX3_ok, nmX3, rfl, by decide +kernel⟩
theorem foX3_56 : FldOK RX3 56 3 5 := ⟨TX3, RX3, rfl, by decide, by decide, gX3, rfl, Or.inl (gw_mem 136 (by decide +kernel) (by decide +kernel))⟩
theorem poX3_56 : PutOK RX3 56 3 5 .int := ⟨TX3, RX3, tyX3, rfl, by decide, by decide, gX3, rfl, Or.inl (gw_mem 136 (by decide +kernel) (by decide +kernel)), tyX3_ok, nmX3, rfl, by decide +kernel⟩
theorem foX3_59 : FldOK RX3 59 3 6 := ⟨TX3, RX3, rfl, by decide, by decide, gX3, rfl, Or.inl (gw_mem 138 (by decide +kernel) (by decide +kernel))⟩
theorem poX3_59 : PutOK RX3 59 3 6 .int := ⟨TX3, RX3, tyX3, rfl, by decide, by decide, gX3, rfl, Or.inl (gw_mem 138 (by decide +kernel) (by decide +kernel)), tyX3_ok, nmX3, rfl, by decide +kernel⟩
theorem foX3_62 : FldOK RX3 62 3 7 := ⟨TX3, RX3, rfl, by decide, by decide, gX3, rfl, Or.inl (gw_mem 140 (by decide +kernel) (by decide +kernel))⟩
theorem poX3_62 : PutOK RX3 62 3 7 .int := ⟨TX3, RX3, tyX3, rfl, by decide, by decide, gX3, rfl, Or.inl (gw_mem 140 (by decide +kernel) (by decide +kernel)), tyX3_ok, nmX3, rfl, by decide +kernel⟩
theorem foX5_9 : FldOK RX5 9 5 0 := ⟨TX5, RX5, rfl, by decide, by decide, gX5, rfl, Or.inl (gw_mem 644 (by decide +kernel) (by decide +kernel))⟩
theorem foX5_13 : FldOK RX5 13 5 1 := ⟨TX5, RX5, rfl, by decide, by decide, gX5, rfl, Or.inl (gw_mem 645 (by decide +kernel) (by decide +kernel))⟩
theorem foX5_16 : FldOK RX5 16 5 2 := ⟨TX5, RX5, rfl, by decide, by decide, gX5, rfl, Or.inl (gw_mem 646 (by decide +kernel) (by decide +kernel))⟩
theorem foX5_21 : FldOK RX5 21 5 3 := ⟨TX5, RX5, rfl, by decide, by decide, gX5, rfl, Or.inl (gw_mem 647 (by decide +kernel) (by decide +kernel))⟩
theorem foX5_24 : FldOK RX5 24 5 9 := ⟨TX5, RX5, rfl, by decide, by decide, gX5, rfl, Or.inl (gw_mem 653 (by decide +kernel) (by decide +kernel))⟩
theorem foX5_27 : FldOK RX5 27 5 11 := ⟨TX5, RX5, rfl, by decide, by decide, gX5, rfl, Or.inl (gw_mem 655 (by decide +kernel) (by decide +kernel))⟩
theorem foX5_30 : FldOK RX5 30 5 12 := ⟨TX5, RX5, rfl, by decide, by decide, gX5, rfl, Or.inl (gw_mem 656 (by decide +kernel) (by decide +kernel))⟩
theorem foX5_33 : FldOK RX5 33 5 20 := ⟨TX5, RX5, rfl, by decide, by decide, gX5, rfl, Or.inl (gw_mem 664 (by decide +kernel) (by decide +kernel))⟩
theorem foX5_36 : FldOK RX5 36 5 5 := ⟨TX5, RX5, rfl, by decide, by decide, gX5, rfl, Or.inl (gw_mem 649 (by decide +kernel) (by decide +kernel))⟩
theorem poX5_36 : PutOK RX5 36 5 5 .int := ⟨TX5, RX5, tyX5, rfl, by decide, by decide, gX5, rfl, Or.inl (gw_mem 649 (by decide +kernel) (by decide +kernel)), tyX5_ok, nmX5, rfl, by decide +kernel⟩
theorem foX5_40 : FldOK RX5 40 5 6 := ⟨TX5, RX5, rfl, by decide, by decide, gX5, rfl, Or.inl (gw_mem 650 (by decide +kernel) (by decide +kernel))⟩
theorem poX5_40 : PutOK RX5 40 5 6 .int := ⟨TX5, RX5, tyX5, rfl, by decide, by decide, gX5, rfl, Or.inl (gw_mem 650 (by decide +kernel) (by decide +kernel)), tyX5_ok, nmX5, rfl, by decide +kernel⟩
theorem foX5_43 : FldOK RX5 43 5 4 := ⟨TX5, RX5, rfl, by decide, by decide, gX5, rfl, Or.inl (gw_mem 648 (by decide +kernel) (by decide +kernel))⟩
theorem poX5_43 : PutOK RX5 43 5 4 .int := ⟨TX5, RX5, tyX5, rfl, by decide, by decide, gX5, rfl, Or.inl (gw_mem 648 (by decide +kernel) (by decide +kernel)), tyX5_ok, nmX5, rfl, by decide +kernel⟩
theorem foX5_50 : FldOK RX5 50 5 8 := ⟨TX5, RX5, rfl, by decide, by decide, gX5, rfl, Or.inl (gw_mem 652 (by decide +kernel) (by decide +kernel))⟩
theorem poX5_50 : PutOK RX5 50 5 8 .boolean := ⟨TX5, RX5, tyX5, rfl, by decide, by decide, gX5, rfl, Or.inl (gw_mem 652 (by decide +kernel) (by decide +kernel)), tyX5_ok, nmX5, rfl, by decide +kernel⟩
theorem foX5_84 : FldOK RX5 84 5 10 := ⟨TX5, RX5, rfl, by decide, by decide, gX5, rfl, Or.inl (gw_mem 654 (by decide +kernel) (by decide +kernel))⟩
theorem poX5_84 : PutOK RX5 84 5 10 .int := ⟨TX5, RX5, tyX5, rfl, by decide, by decide, gX5, rfl, Or.inl (gw_mem 654 (by decide +kernel) (by decide +kernel)), tyX5_ok, nmX5, rfl, by decide +kernel⟩
theorem foX5_223 : FldOK RX5 223 5 13 := ⟨TX5, RX5, rfl, by decide, by decide, gX5, rfl, Or.inl (gw_mem 657 (by decide +kernel) (by decide +kernel))⟩
theorem poX5_223 : PutOK RX5 223 5 13 .int := ⟨TX5, RX5, tyX5, rfl, by decide, by decide, gX5, rfl, Or.inl (gw_mem 657 (by decide +kernel) (by decide +kernel)), tyX5_ok, nmX5, rfl, by decide +kernel⟩
theorem foX5_226 : FldOK RX5 226 5 19 := ⟨TX5, RX5, rfl, by decide, by decide, gX5, rfl, Or.inl (gw_mem 663 (by decide +kernel) (by decide +kernel))⟩
theorem poX5_226 : PutOK RX5 226 5 19 .boolean := ⟨TX5, RX5, tyX5, rfl, by decide, by decide, gX5, rfl, Or.inl (gw_mem 663 (by decide +kernel) (by decide +kernel)), tyX5_ok, nmX5, rfl, by decide +kernel⟩
theorem foX5_229 : FldOK RX5 229 5 14 := ⟨TX5, RX5, rfl, by decide, by decide, gX5, rfl, Or.inl (gw_mem 658 (by decide +kernel) (by decide +kernel))⟩
theorem poX5_229 : PutOK RX5 229 5 14 .int := ⟨TX5, RX5, tyX5, rfl, by decide, by decide, gX5, rfl, Or.inl (gw_mem 658 (by decide +kernel) (by decide +kernel)), tyX5_ok, nmX5, rfl, by decide +kernel⟩
theorem foX5_238 : FldOK RX5 238 5 16 := ⟨TX5, RX5, rfl, by decide, by decide, gX5, rfl, Or.inl (gw_mem 660 (by decide +kernel) (by decide +kernel))⟩
theorem poX5_238 : PutOK RX5 238 5 16 .int := ⟨TX5, RX5, tyX5, rfl, by decide, by decide, gX5, rfl, Or.inl (gw_mem 660 (by decide +kernel) (by decide +kernel)), tyX5_ok, nmX5, rfl, by decide +kernel⟩
theorem foX5_244 : FldOK RX5 244 5 17 := ⟨TX5, RX5, rfl, by decide, by decide, gX5, rfl, Or.inl (gw_mem 661 (by decide +kernel) (by decide +kernel))⟩
theorem poX5_244 : PutOK RX5 244 5 17 .int := ⟨TX5, RX5, tyX5, rfl, by decide, by decide, gX5, rfl, Or.inl (gw_mem 661 (by decide +kernel) (by decide +kernel)), tyX5_ok, nmX5, rfl, by decide +kernel⟩
theorem foX5_247 : FldOK RX5 247 5 15 := ⟨TX5, RX5, rfl, by decide, by decide, gX5, rfl, Or.inl (gw_mem 659 (by decide +kernel) (by decide +kernel))⟩
theorem poX5_247 : PutOK RX5 247 5 15 .int := ⟨TX5, RX5, tyX5, rfl, by decide, by decide, gX5, rfl, Or.inl (gw_mem 659 (by decide +kernel) (by decide +kernel)), tyX5_ok, nmX5, rfl, by decide +kernel⟩
theorem foX5_260 : FldOK RX5 260 5 18 := ⟨TX5, RX5, rfl, by decide, by decide, gX5, rfl, Or.inl (gw_mem 662 (by decide +kernel) (by decide +kernel))⟩
theorem poX5_260 : PutOK RX5 260 5 18 .int := ⟨TX5, RX5, tyX5, rfl, by decide, by decide, gX5, rfl, Or.inl (gw_mem 662 (by decide +kernel) (by decide +kernel)), tyX5_ok, nmX5, rfl, by decide +kernel⟩
theorem foX5_287 : FldOK RX5 287 5 21 := ⟨TX5, RX5, rfl, by decide, by decide, gX5, rfl, Or.inl (gw_mem 665 (by decide +kernel) (by decide +kernel))⟩
theorem poX5_287 : PutOK RX5 287 5 21 .int := ⟨TX5, RX5, tyX5, rfl, by decide, by decide, gX5, rfl, Or.inl (gw_mem 665 (by decide +kernel) (by decide +kernel)), tyX5_ok, nmX5, rfl, by decide +kernel⟩
theorem foX5_302 : FldOK RX5 302 5 7 := ⟨TX5, RX5, rfl, by decide, by decide, gX5, rfl, Or.inl (gw_mem 651 (by decide +kernel) (by decide +kernel))⟩
theorem poX5_302 : PutOK RX5 302 5 7 .boolean := ⟨TX5, RX5, tyX5, rfl, by decide, by decide, gX5, rfl, Or.inl (gw_mem 651 (by decide +kernel) (by decide +kernel)), tyX5_ok, nmX5, rfl, by decide +kernel⟩
theorem coX4_161 : Cond.constantLong RX4 161 (-11 : Int64) ∈ lw_good := gw_mem 498 (by decide +kernel) (by decide +kernel)
theorem coX4_171 : Cond.constantLong RX4 171 (-15 : Int64) ∈ lw_good := gw_mem 518 (by decide +kernel) (by decide +kernel)
theorem coX4_290 : Cond.constantFloat RX4 290 (1258291200 : UInt32) ∈ lw_good := gw_mem 513 (by decide +kernel) (by decide +kernel)
theorem coX4_291 : Cond.constantLong RX4 291 (1023 : Int64) ∈ lw_good := gw_mem 522 (by decide +kernel) (by decide +kernel)
theorem coX4_293 : Cond.constantDouble RX4 293 (4611686018427387904 : UInt64) ∈ lw_good := gw_mem 523 (by decide +kernel) (by decide +kernel)
theorem coX4_295 : Cond.constantDouble RX4 295 (4841369599423283200 : UInt64) ∈ lw_good := gw_mem 524 (by decide +kernel) (by decide +kernel)
theorem coX3_35 : Cond.constant RX3 35 (2147483647 : Int32) ∈ lw_good := gw_mem 476 (by decide +kernel) (by decide +kernel)
theorem coX5_207 : Cond.constantLong RX5 207 (-11 : Int64) ∈ lw_good := gw_mem 952 (by decide +kernel) (by decide +kernel)
theorem coX5_215 : Cond.constantLong RX5 215 (-15 : Int64) ∈ lw_good := gw_mem 975 (by decide +kernel) (by decide +kernel)
theorem coJxe99ae_137 : Cond.constantLong RJxe99ae 137 (9221120237041090560 : Int64) ∈ lw_good := gw_mem 985 (by decide +kernel) (by decide +kernel)
theorem coJxf58ca_77 : Cond.constant RJxf58ca 77 (2143289344 : Int32) ∈ lw_good := gw_mem 970 (by decide +kernel) (by decide +kernel)
theorem ic_m1 : Int32.ofInt (-1) = (-1) := by decide +kernel
theorem ic_0 : Int32.ofInt 0 = 0 := by decide +kernel
theorem ic_1 : Int32.ofInt 1 = 1 := by decide +kernel
theorem ic_2 : Int32.ofInt 2 = 2 := by decide +kernel
theorem ic_3 : Int32.ofInt 3 = 3 := by decide +kernel
theorem ic_4 : Int32.ofInt 4 = 4 := by decide +kernel
theorem ic_5 : Int32.ofInt 5 = 5 := by decide +kernel
theorem bi_m15 : (Int8.ofInt (-15)).toInt32 = (-15) := by decide +kernel
theorem bi_m14 : (Int8.ofInt (-14)).toInt32 = (-14) := by decide +kernel
theorem bi_m13 : (Int8.ofInt (-13)).toInt32 = (-13) := by decide +kernel
theorem bi_m12 : (Int8.ofInt (-12)).toInt32 = (-12) := by decide +kernel
theorem bi_m11 : (Int8.ofInt (-11)).toInt32 = (-11) := by decide +kernel
theorem bi_6 : (Int8.ofInt 6).toInt32 = 6 := by decide +kernel
theorem bi_7 : (Int8.ofInt 7).toInt32 = 7 := by decide +kernel
theorem bi_8 : (Int8.ofInt 8).toInt32 = 8 := by decide +kernel
theorem bi_9 : (Int8.ofInt 9).toInt32 = 9 := by decide +kernel
theorem bi_10 : (Int8.ofInt 10).toInt32 = 10 := by decide +kernel
theorem bi_20 : (Int8.ofInt 20).toInt32 = 20 := by decide +kernel
theorem bi_23 : (Int8.ofInt 23).toInt32 = 23 := by decide +kernel
theorem bi_30 : (Int8.ofInt 30).toInt32 = 30 := by decide +kernel
theorem bi_31 : (Int8.ofInt 31).toInt32 = 31 := by decide +kernel
theorem bi_32 : (Int8.ofInt 32).toInt32 = 32 := by decide +kernel
theorem bi_33 : (Int8.ofInt 33).toInt32 = 33 := by decide +kernel
theorem bi_40 : (Int8.ofInt 40).toInt32 = 40 := by decide +kernel
theorem bi_41 : (Int8.ofInt 41).toInt32 = 41 := by decide +kernel
theorem bi_42 : (Int8.ofInt 42).toInt32 = 42 := by decide +kernel
theorem bi_48 : (Int8.ofInt 48).toInt32 = 48 := by decide +kernel
theorem bi_52 : (Int8.ofInt 52).toInt32 = 52 := by decide +kernel
theorem bi_55 : (Int8.ofInt 55).toInt32 = 55 := by decide +kernel
theorem bi_57 : (Int8.ofInt 57).toInt32 = 57 := by decide +kernel
theorem bi_58 : (Int8.ofInt 58).toInt32 = 58 := by decide +kernel
theorem bi_59 : (Int8.ofInt 59).toInt32 = 59 := by decide +kernel
theorem bi_60 : (Int8.ofInt 60).toInt32 = 60 := by decide +kernel
theorem bi_64 : (Int8.ofInt 64).toInt32 = 64 := by decide +kernel
theorem bi_70 : (Int8.ofInt 70).toInt32 = 70 := by decide +kernel
theorem bi_90 : (Int8.ofInt 90).toInt32 = 90 := by decide +kernel
theorem bi_99 : (Int8.ofInt 99).toInt32 = 99 := by decide +kernel
theorem bi_100 : (Int8.ofInt 100).toInt32 = 100 := by decide +kernel
theorem bi_122 : (Int8.ofInt 122).toInt32 = 122 := by decide +kernel
theorem bi_126 : (Int8.ofInt 126).toInt32 = 126 := by decide +kernel
theorem bi_127 : (Int8.ofInt 127).toInt32 = 127 := by decide +kernel
theorem si_m1000 : (Int16.ofInt (-1000)).toInt32 = (-1000) := by decide +kernel
theorem si_373 : (Int16.ofInt 373).toInt32 = 373 := by decide +kernel
theorem si_936 : (Int16.ofInt 936).toInt32 = 936 := by decide +kernel
theorem si_999 : (Int16.ofInt 999).toInt32 = 999 := by decide +kernel
theorem si_1000 : (Int16.ofInt 1000).toInt32 = 1000 := by decide +kernel
end
