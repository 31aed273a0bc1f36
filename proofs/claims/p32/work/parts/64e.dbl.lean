/-! ===== bits of double, number by number (written by mkdbl.py) ===== -/
theorem me_27_0 : allB (fun a => meOK (a + 0) 27) 120 = true := by decide +kernel
theorem me_27_1 : allB (fun a => meOK (a + 120) 27) 120 = true := by decide +kernel
theorem me_27_2 : allB (fun a => meOK (a + 240) 27) 112 = true := by decide +kernel
theorem me_27 (a : Nat) (h : a < 352) : meOK a 27 = true := by
  by_cases c0 : a < 120
  · have := allB_is me_27_0 (a - 0) (by omega)
    rw [show a - 0 + 0 = a by omega] at this
    exact this
  by_cases c1 : a < 240
  · have := allB_is me_27_1 (a - 120) (by omega)
    rw [show a - 120 + 120 = a by omega] at this
    exact this
  have := allB_is me_27_2 (a - 240) (by omega)
  rw [show a - 240 + 240 = a by omega] at this
  exact this
theorem me_28_0 : allB (fun a => meOK (a + 0) 28) 120 = true := by decide +kernel
theorem me_28_1 : allB (fun a => meOK (a + 120) 28) 120 = true := by decide +kernel
theorem me_28_2 : allB (fun a => meOK (a + 240) 28) 120 = true := by decide +kernel
theorem me_28_3 : allB (fun a => meOK (a + 360) 28) 19 = true := by decide +kernel
theorem me_28 (a : Nat) (h : a < 379) : meOK a 28 = true := by
  by_cases c0 : a < 120
  · have := allB_is me_28_0 (a - 0) (by omega)
    rw [show a - 0 + 0 = a by omega] at this
    exact this
  by_cases c1 : a < 240
  · have := allB_is me_28_1 (a - 120) (by omega)
    rw [show a - 120 + 120 = a by omega] at this
    exact this
  by_cases c2 : a < 360
  · have := allB_is me_28_2 (a - 240) (by omega)
    rw [show a - 240 + 240 = a by omega] at this
    exact this
  have := allB_is me_28_3 (a - 360) (by omega)
  rw [show a - 360 + 360 = a by omega] at this
  exact this
