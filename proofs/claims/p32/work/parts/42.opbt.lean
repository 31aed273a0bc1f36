/-! ===== build and take ===== -/
section OB
variable {I : Mm} {f : Nat → Int32} {T : Nat → Tr} {mo : Nat → Nat} {ct : Nat → Int32}
theorem rc_1 {C : CY I 1 T mo ct} {i : Nat} (hi : i < 3) : RT I (3 + 4 * i) (T i) := by
  have R := (C.1 i hi).1
  rw [show 1 + 2 + 4 * i = 3 + 4 * i by omega] at R
  exact R
end OB
