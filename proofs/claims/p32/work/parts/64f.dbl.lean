/-! ===== bits of double, number by number (written by mkdbl.py) ===== -/
theorem me_29_0 : allB (fun a => meOK (a + 0) 29) 120 = true := by decide +kernel
theorem me_29_1 : allB (fun a => meOK (a + 120) 29) 120 = true := by decide +kernel
theorem me_29_2 : allB (fun a => meOK (a + 240) 29) 120 = true := by decide +kernel
theorem me_29_3 : allB (fun a => meOK (a + 360) 29) 47 = true := by decide +kernel
theorem me_29 (a : Nat) (h : a < 407) : meOK a 29 = true := by
  by_cases c0 : a < 120
  · have := allB_is me_29_0 (a - 0) (by omega)
    rw [show a - 0 + 0 = a by omega] at this
    exact this
  by_cases c1 : a < 240
  · have := allB_is me_29_1 (a - 120) (by omega)
    rw [show a - 120 + 120 = a by omega] at this
    exact this
  by_cases c2 : a < 360
  · have := allB_is me_29_2 (a - 240) (by omega)
    rw [show a - 240 + 240 = a by omega] at this
    exact this
  have := allB_is me_29_3 (a - 360) (by omega)
  rw [show a - 360 + 360 = a by omega] at this
  exact this
theorem me_30_0 : allB (fun a => meOK (a + 0) 30) 120 = true := by decide +kernel
theorem me_30_1 : allB (fun a => meOK (a + 120) 30) 120 = true := by decide +kernel
theorem me_30_2 : allB (fun a => meOK (a + 240) 30) 120 = true := by decide +kernel
theorem me_30_3 : allB (fun a => meOK (a + 360) 30) 76 = true := by decide +kernel
theorem me_30 (a : Nat) (h : a < 436) : meOK a 30 = true := by
  by_cases c0 : a < 120
  · have := allB_is me_30_0 (a - 0) (by omega)
    rw [show a - 0 + 0 = a by omega] at this
    exact this
  by_cases c1 : a < 240
  · have := allB_is me_30_1 (a - 120) (by omega)
    rw [show a - 120 + 120 = a by omega] at this
    exact this
  by_cases c2 : a < 360
  · have := allB_is me_30_2 (a - 240) (by omega)
    rw [show a - 240 + 240 = a by omega] at this
    exact this
  have := allB_is me_30_3 (a - 360) (by omega)
  rw [show a - 360 + 360 = a by omega] at this
  exact this
