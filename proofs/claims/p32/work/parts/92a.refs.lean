/-! ===== the references of the finished world, cell by cell ===== -/
theorem sB9_R_0 : ∀ a, a < 6 → ∀ j, j < 30 → sB9.2.2 (0 + a) j = R0 (0 + a) j := by decide +kernel
theorem sB9_R_1 : ∀ a, a < 6 → ∀ j, j < 30 → sB9.2.2 (6 + a) j = R0 (6 + a) j := by decide +kernel
theorem sB9_R_2 : ∀ a, a < 6 → ∀ j, j < 30 → sB9.2.2 (12 + a) j = R0 (12 + a) j := by decide +kernel
theorem sB9_R_3 : ∀ a, a < 6 → ∀ j, j < 30 → sB9.2.2 (18 + a) j = R0 (18 + a) j := by decide +kernel
theorem sB9_R_4 : ∀ a, a < 6 → ∀ j, j < 30 → sB9.2.2 (24 + a) j = R0 (24 + a) j := by decide +kernel
theorem sB9_R_5 : ∀ a, a < 6 → ∀ j, j < 30 → sB9.2.2 (30 + a) j = R0 (30 + a) j := by decide +kernel
theorem sB9_R_6 : ∀ a, a < 6 → ∀ j, j < 30 → sB9.2.2 (36 + a) j = R0 (36 + a) j := by decide +kernel
theorem sB9_R_7 : ∀ a, a < 6 → ∀ j, j < 30 → sB9.2.2 (42 + a) j = R0 (42 + a) j := by decide +kernel
theorem sB9_R_8 : ∀ a, a < 6 → ∀ j, j < 30 → sB9.2.2 (48 + a) j = R0 (48 + a) j := by decide +kernel
theorem sB9_R_9 : ∀ a, a < 6 → ∀ j, j < 30 → sB9.2.2 (54 + a) j = R0 (54 + a) j := by decide +kernel
