/-! ===== the references of the finished world, cell by cell ===== -/
theorem sB9_R_20 : ∀ a, a < 6 → ∀ j, j < 30 → sB9.2.2 (120 + a) j = R0 (120 + a) j := by decide +kernel
theorem sB9_R_21 : ∀ a, a < 6 → ∀ j, j < 30 → sB9.2.2 (126 + a) j = R0 (126 + a) j := by decide +kernel
theorem sB9_R_22 : ∀ a, a < 6 → ∀ j, j < 30 → sB9.2.2 (132 + a) j = R0 (132 + a) j := by decide +kernel
theorem sB9_R_23 : ∀ a, a < 6 → ∀ j, j < 30 → sB9.2.2 (138 + a) j = R0 (138 + a) j := by decide +kernel
theorem sB9_R_24 : ∀ a, a < 6 → ∀ j, j < 30 → sB9.2.2 (144 + a) j = R0 (144 + a) j := by decide +kernel
theorem sB9_R_25 : ∀ a, a < 6 → ∀ j, j < 30 → sB9.2.2 (150 + a) j = R0 (150 + a) j := by decide +kernel
theorem sB9_R_26 : ∀ a, a < 6 → ∀ j, j < 30 → sB9.2.2 (156 + a) j = R0 (156 + a) j := by decide +kernel
theorem sB9_R_27 : ∀ a, a < 6 → ∀ j, j < 30 → sB9.2.2 (162 + a) j = R0 (162 + a) j := by decide +kernel
