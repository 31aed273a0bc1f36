/-! ===== bits of double, number by number (written by mkdbl.py) ===== -/
theorem me_16_0 : allB (fun a => meOK (a + 0) 16) 120 = true := by decide +kernel
theorem me_16_1 : allB (fun a => meOK (a + 120) 16) 1 = true := by decide +kernel
theorem me_16 (a : Nat) (h : a < 121) : meOK a 16 = true := by
  by_cases c0 : a < 120
  · have := allB_is me_16_0 (a - 0) (by omega)
    rw [show a - 0 + 0 = a by omega] at this
    exact this
  have := allB_is me_16_1 (a - 120) (by omega)
  rw [show a - 120 + 120 = a by omega] at this
  exact this
theorem me_17_0 : allB (fun a => meOK (a + 0) 17) 120 = true := by decide +kernel
theorem me_17_1 : allB (fun a => meOK (a + 120) 17) 17 = true := by decide +kernel
theorem me_17 (a : Nat) (h : a < 137) : meOK a 17 = true := by
  by_cases c0 : a < 120
  · have := allB_is me_17_0 (a - 0) (by omega)
    rw [show a - 0 + 0 = a by omega] at this
    exact this
  have := allB_is me_17_1 (a - 120) (by omega)
  rw [show a - 120 + 120 = a by omega] at this
  exact this
theorem me_18_0 : allB (fun a => meOK (a + 0) 18) 120 = true := by decide +kernel
theorem me_18_1 : allB (fun a => meOK (a + 120) 18) 34 = true := by decide +kernel
theorem me_18 (a : Nat) (h : a < 154) : meOK a 18 = true := by
  by_cases c0 : a < 120
  · have := allB_is me_18_0 (a - 0) (by omega)
    rw [show a - 0 + 0 = a by omega] at this
    exact this
  have := allB_is me_18_1 (a - 120) (by omega)
  rw [show a - 120 + 120 = a by omega] at this
  exact this
theorem me_19_0 : allB (fun a => meOK (a + 0) 19) 120 = true := by decide +kernel
theorem me_19_1 : allB (fun a => meOK (a + 120) 19) 52 = true := by decide +kernel
theorem me_19 (a : Nat) (h : a < 172) : meOK a 19 = true := by
  by_cases c0 : a < 120
  · have := allB_is me_19_0 (a - 0) (by omega)
    rw [show a - 0 + 0 = a by omega] at this
    exact this
  have := allB_is me_19_1 (a - 120) (by omega)
  rw [show a - 120 + 120 = a by omega] at this
  exact this
theorem me_20_0 : allB (fun a => meOK (a + 0) 20) 120 = true := by decide +kernel
theorem me_20_1 : allB (fun a => meOK (a + 120) 20) 71 = true := by decide +kernel
theorem me_20 (a : Nat) (h : a < 191) : meOK a 20 = true := by
  by_cases c0 : a < 120
  · have := allB_is me_20_0 (a - 0) (by omega)
    rw [show a - 0 + 0 = a by omega] at this
    exact this
  have := allB_is me_20_1 (a - 120) (by omega)
  rw [show a - 120 + 120 = a by omega] at this
  exact this
