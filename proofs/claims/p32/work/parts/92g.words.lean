/-! ===== the tables' words that the start needs ===== -/
theorem tb_R : Cond.arrayOver (.object "LeaningRicks$Rick") ∈ lw_tbl := List.mem_of_getElem? (i := 49) (by decide +kernel)
theorem tb_Y : Cond.arrayOver (.object "LeaningRicks$Yard") ∈ lw_tbl := List.mem_of_getElem? (i := 107) (by decide +kernel)
theorem tb_LS : Cond.laysStatic "java/lang/String" "COMPACT_STRINGS" "Z" ∈ lw_tbl := List.mem_of_getElem? (i := 420) (by decide +kernel)
theorem tb_IS : Cond.initialized "java/lang/String" ∈ lw_tbl := List.mem_of_getElem? (i := 27) (by decide +kernel)
theorem tb_LT : Cond.laysStatic "LeaningRicksLaw" "TEXTS" "[Ljava/lang/String;" ∈ lw_tbl := List.mem_of_getElem? (i := 504) (by decide +kernel)
theorem tb_IL : Cond.initialized "LeaningRicksLaw" ∈ lw_tbl := List.mem_of_getElem? (i := 19) (by decide +kernel)
theorem tb_LP : Cond.laysStatic "jdk/internal/util/Preconditions" "SIOOBE_FORMATTER" "Ljava/util/function/BiFunction;" ∈ lw_tbl := List.mem_of_getElem? (i := 436) (by decide +kernel)
theorem tb_IP : Cond.initialized "jdk/internal/util/Preconditions" ∈ lw_tbl := List.mem_of_getElem? (i := 29) (by decide +kernel)
