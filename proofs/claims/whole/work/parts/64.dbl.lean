/-! ===== bits of double, number by number ===== -/
theorem me_29 : allB (fun a => meOK a 29) 60 = true := by decide +kernel
