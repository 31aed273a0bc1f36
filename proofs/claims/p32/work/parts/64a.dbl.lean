/-! ===== bits of double, number by number (written by mkdbl.py) ===== -/
theorem me_1_0 : allB (fun a => meOK (a + 0) 1) 1 = true := by decide +kernel
theorem me_1 (a : Nat) (h : a < 1) : meOK a 1 = true := by
  have := allB_is me_1_0 (a - 0) (by omega)
  rw [show a - 0 + 0 = a by omega] at this
  exact this
theorem me_2_0 : allB (fun a => meOK (a + 0) 2) 2 = true := by decide +kernel
theorem me_2 (a : Nat) (h : a < 2) : meOK a 2 = true := by
  have := allB_is me_2_0 (a - 0) (by omega)
  rw [show a - 0 + 0 = a by omega] at this
  exact this
theorem me_3_0 : allB (fun a => meOK (a + 0) 3) 4 = true := by decide +kernel
theorem me_3 (a : Nat) (h : a < 4) : meOK a 3 = true := by
  have := allB_is me_3_0 (a - 0) (by omega)
  rw [show a - 0 + 0 = a by omega] at this
  exact this
theorem me_4_0 : allB (fun a => meOK (a + 0) 4) 7 = true := by decide +kernel
theorem me_4 (a : Nat) (h : a < 7) : meOK a 4 = true := by
  have := allB_is me_4_0 (a - 0) (by omega)
  rw [show a - 0 + 0 = a by omega] at this
  exact this
theorem me_5_0 : allB (fun a => meOK (a + 0) 5) 11 = true := by decide +kernel
theorem me_5 (a : Nat) (h : a < 11) : meOK a 5 = true := by
  have := allB_is me_5_0 (a - 0) (by omega)
  rw [show a - 0 + 0 = a by omega] at this
  exact this
theorem me_6_0 : allB (fun a => meOK (a + 0) 6) 16 = true := by decide +kernel
theorem me_6 (a : Nat) (h : a < 16) : meOK a 6 = true := by
  have := allB_is me_6_0 (a - 0) (by omega)
  rw [show a - 0 + 0 = a by omega] at this
  exact this
theorem me_7_0 : allB (fun a => meOK (a + 0) 7) 22 = true := by decide +kernel
theorem me_7 (a : Nat) (h : a < 22) : meOK a 7 = true := by
  have := allB_is me_7_0 (a - 0) (by omega)
  rw [show a - 0 + 0 = a by omega] at this
  exact this
theorem me_8_0 : allB (fun a => meOK (a + 0) 8) 29 = true := by decide +kernel
theorem me_8 (a : Nat) (h : a < 29) : meOK a 8 = true := by
  have := allB_is me_8_0 (a - 0) (by omega)
  rw [show a - 0 + 0 = a by omega] at this
  exact this
theorem me_9_0 : allB (fun a => meOK (a + 0) 9) 37 = true := by decide +kernel
theorem me_9 (a : Nat) (h : a < 37) : meOK a 9 = true := by
  have := allB_is me_9_0 (a - 0) (by omega)
  rw [show a - 0 + 0 = a by omega] at this
  exact this
theorem me_10_0 : allB (fun a => meOK (a + 0) 10) 46 = true := by decide +kernel
theorem me_10 (a : Nat) (h : a < 46) : meOK a 10 = true := by
  have := allB_is me_10_0 (a - 0) (by omega)
  rw [show a - 0 + 0 = a by omega] at this
  exact this
theorem me_11_0 : allB (fun a => meOK (a + 0) 11) 56 = true := by decide +kernel
theorem me_11 (a : Nat) (h : a < 56) : meOK a 11 = true := by
  have := allB_is me_11_0 (a - 0) (by omega)
  rw [show a - 0 + 0 = a by omega] at this
  exact this
theorem me_12_0 : allB (fun a => meOK (a + 0) 12) 67 = true := by decide +kernel
theorem me_12 (a : Nat) (h : a < 67) : meOK a 12 = true := by
  have := allB_is me_12_0 (a - 0) (by omega)
  rw [show a - 0 + 0 = a by omega] at this
  exact this
theorem me_13_0 : allB (fun a => meOK (a + 0) 13) 79 = true := by decide +kernel
theorem me_13 (a : Nat) (h : a < 79) : meOK a 13 = true := by
  have := allB_is me_13_0 (a - 0) (by omega)
  rw [show a - 0 + 0 = a by omega] at this
  exact this
theorem me_14_0 : allB (fun a => meOK (a + 0) 14) 92 = true := by decide +kernel
theorem me_14 (a : Nat) (h : a < 92) : meOK a 14 = true := by
  have := allB_is me_14_0 (a - 0) (by omega)
  rw [show a - 0 + 0 = a by omega] at this
  exact this
theorem me_15_0 : allB (fun a => meOK (a + 0) 15) 106 = true := by decide +kernel
theorem me_15 (a : Nat) (h : a < 106) : meOK a 15 = true := by
  have := allB_is me_15_0 (a - 0) (by omega)
  rw [show a - 0 + 0 = a by omega] at this
  exact this
