/-! ===== bits of double, number by number (written by mkdbl.py) ===== -/
theorem me_21_0 : allB (fun a => meOK (a + 0) 21) 120 = true := by decide +kernel
theorem me_21_1 : allB (fun a => meOK (a + 120) 21) 91 = true := by decide +kernel
theorem me_21 (a : Nat) (h : a < 211) : meOK a 21 = true := by
  by_cases c0 : a < 120
  · have := allB_is me_21_0 (a - 0) (by omega)
    rw [show a - 0 + 0 = a by omega] at this
    exact this
  have := allB_is me_21_1 (a - 120) (by omega)
  rw [show a - 120 + 120 = a by omega] at this
  exact this
theorem me_22_0 : allB (fun a => meOK (a + 0) 22) 120 = true := by decide +kernel
theorem me_22_1 : allB (fun a => meOK (a + 120) 22) 112 = true := by decide +kernel
theorem me_22 (a : Nat) (h : a < 232) : meOK a 22 = true := by
  by_cases c0 : a < 120
  · have := allB_is me_22_0 (a - 0) (by omega)
    rw [show a - 0 + 0 = a by omega] at this
    exact this
  have := allB_is me_22_1 (a - 120) (by omega)
  rw [show a - 120 + 120 = a by omega] at this
  exact this
theorem me_23_0 : allB (fun a => meOK (a + 0) 23) 120 = true := by decide +kernel
theorem me_23_1 : allB (fun a => meOK (a + 120) 23) 120 = true := by decide +kernel
theorem me_23_2 : allB (fun a => meOK (a + 240) 23) 14 = true := by decide +kernel
theorem me_23 (a : Nat) (h : a < 254) : meOK a 23 = true := by
  by_cases c0 : a < 120
  · have := allB_is me_23_0 (a - 0) (by omega)
    rw [show a - 0 + 0 = a by omega] at this
    exact this
  by_cases c1 : a < 240
  · have := allB_is me_23_1 (a - 120) (by omega)
    rw [show a - 120 + 120 = a by omega] at this
    exact this
  have := allB_is me_23_2 (a - 240) (by omega)
  rw [show a - 240 + 240 = a by omega] at this
  exact this
