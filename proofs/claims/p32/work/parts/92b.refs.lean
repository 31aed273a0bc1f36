/-! ===== the references of the finished world, cell by cell ===== -/
theorem sB9_R_10 : ∀ a, a < 6 → ∀ j, j < 30 → sB9.2.2 (60 + a) j = R0 (60 + a) j := by decide +kernel
theorem sB9_R_11 : ∀ a, a < 6 → ∀ j, j < 30 → sB9.2.2 (66 + a) j = R0 (66 + a) j := by decide +kernel
theorem sB9_R_12 : ∀ a, a < 6 → ∀ j, j < 30 → sB9.2.2 (72 + a) j = R0 (72 + a) j := by decide +kernel
theorem sB9_R_13 : ∀ a, a < 6 → ∀ j, j < 30 → sB9.2.2 (78 + a) j = R0 (78 + a) j := by decide +kernel
theorem sB9_R_14 : ∀ a, a < 6 → ∀ j, j < 30 → sB9.2.2 (84 + a) j = R0 (84 + a) j := by decide +kernel
theorem sB9_R_15 : ∀ a, a < 6 → ∀ j, j < 30 → sB9.2.2 (90 + a) j = R0 (90 + a) j := by decide +kernel
theorem sB9_R_16 : ∀ a, a < 6 → ∀ j, j < 30 → sB9.2.2 (96 + a) j = R0 (96 + a) j := by decide +kernel
theorem sB9_R_17 : ∀ a, a < 6 → ∀ j, j < 30 → sB9.2.2 (102 + a) j = R0 (102 + a) j := by decide +kernel
theorem sB9_R_18 : ∀ a, a < 6 → ∀ j, j < 30 → sB9.2.2 (108 + a) j = R0 (108 + a) j := by decide +kernel
theorem sB9_R_19 : ∀ a, a < 6 → ∀ j, j < 30 → sB9.2.2 (114 + a) j = R0 (114 + a) j := by decide +kernel
