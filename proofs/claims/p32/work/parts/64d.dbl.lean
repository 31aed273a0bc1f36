/-! ===== bits of double, number by number (written by mkdbl.py) ===== -/
theorem me_24_0 : allB (fun a => meOK (a + 0) 24) 120 = true := by decide +kernel
theorem me_24_1 : allB (fun a => meOK (a + 120) 24) 120 = true := by decide +kernel
theorem me_24_2 : allB (fun a => meOK (a + 240) 24) 37 = true := by decide +kernel
theorem me_24 (a : Nat) (h : a < 277) : meOK a 24 = true := by
  by_cases c0 : a < 120
  · have := allB_is me_24_0 (a - 0) (by omega)
    rw [show a - 0 + 0 = a by omega] at this
    exact this
  by_cases c1 : a < 240
  · have := allB_is me_24_1 (a - 120) (by omega)
    rw [show a - 120 + 120 = a by omega] at this
    exact this
  have := allB_is me_24_2 (a - 240) (by omega)
  rw [show a - 240 + 240 = a by omega] at this
  exact this
theorem me_25_0 : allB (fun a => meOK (a + 0) 25) 120 = true := by decide +kernel
theorem me_25_1 : allB (fun a => meOK (a + 120) 25) 120 = true := by decide +kernel
theorem me_25_2 : allB (fun a => meOK (a + 240) 25) 61 = true := by decide +kernel
theorem me_25 (a : Nat) (h : a < 301) : meOK a 25 = true := by
  by_cases c0 : a < 120
  · have := allB_is me_25_0 (a - 0) (by omega)
    rw [show a - 0 + 0 = a by omega] at this
    exact this
  by_cases c1 : a < 240
  · have := allB_is me_25_1 (a - 120) (by omega)
    rw [show a - 120 + 120 = a by omega] at this
    exact this
  have := allB_is me_25_2 (a - 240) (by omega)
  rw [show a - 240 + 240 = a by omega] at this
  exact this
theorem me_26_0 : allB (fun a => meOK (a + 0) 26) 120 = true := by decide +kernel
theorem me_26_1 : allB (fun a => meOK (a + 120) 26) 120 = true := by decide +kernel
theorem me_26_2 : allB (fun a => meOK (a + 240) 26) 86 = true := by decide +kernel
theorem me_26 (a : Nat) (h : a < 326) : meOK a 26 = true := by
  by_cases c0 : a < 120
  · have := allB_is me_26_0 (a - 0) (by omega)
    rw [show a - 0 + 0 = a by omega] at this
    exact this
  by_cases c1 : a < 240
  · have := allB_is me_26_1 (a - 120) (by omega)
    rw [show a - 120 + 120 = a by omega] at this
    exact this
  have := allB_is me_26_2 (a - 240) (by omega)
  rw [show a - 240 + 240 = a by omega] at this
  exact this
