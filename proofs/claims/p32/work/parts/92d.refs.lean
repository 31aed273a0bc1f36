/-! ===== the references together ===== -/
theorem sB9_R (a : Nat) (h : a < 163) (j : Nat) (hj : j < 30) : sB9.2.2 a j = R0 a j := by
  by_cases c0 : a < 6
  · have := sB9_R_0 (a - 0) (by omega) j hj
    rw [show 0 + (a - 0) = a by omega] at this
    exact this
  by_cases c1 : a < 12
  · have := sB9_R_1 (a - 6) (by omega) j hj
    rw [show 6 + (a - 6) = a by omega] at this
    exact this
  by_cases c2 : a < 18
  · have := sB9_R_2 (a - 12) (by omega) j hj
    rw [show 12 + (a - 12) = a by omega] at this
    exact this
  by_cases c3 : a < 24
  · have := sB9_R_3 (a - 18) (by omega) j hj
    rw [show 18 + (a - 18) = a by omega] at this
    exact this
  by_cases c4 : a < 30
  · have := sB9_R_4 (a - 24) (by omega) j hj
    rw [show 24 + (a - 24) = a by omega] at this
    exact this
  by_cases c5 : a < 36
  · have := sB9_R_5 (a - 30) (by omega) j hj
    rw [show 30 + (a - 30) = a by omega] at this
    exact this
  by_cases c6 : a < 42
  · have := sB9_R_6 (a - 36) (by omega) j hj
    rw [show 36 + (a - 36) = a by omega] at this
    exact this
  by_cases c7 : a < 48
  · have := sB9_R_7 (a - 42) (by omega) j hj
    rw [show 42 + (a - 42) = a by omega] at this
    exact this
  by_cases c8 : a < 54
  · have := sB9_R_8 (a - 48) (by omega) j hj
    rw [show 48 + (a - 48) = a by omega] at this
    exact this
  by_cases c9 : a < 60
  · have := sB9_R_9 (a - 54) (by omega) j hj
    rw [show 54 + (a - 54) = a by omega] at this
    exact this
  by_cases c10 : a < 66
  · have := sB9_R_10 (a - 60) (by omega) j hj
    rw [show 60 + (a - 60) = a by omega] at this
    exact this
  by_cases c11 : a < 72
  · have := sB9_R_11 (a - 66) (by omega) j hj
    rw [show 66 + (a - 66) = a by omega] at this
    exact this
  by_cases c12 : a < 78
  · have := sB9_R_12 (a - 72) (by omega) j hj
    rw [show 72 + (a - 72) = a by omega] at this
    exact this
  by_cases c13 : a < 84
  · have := sB9_R_13 (a - 78) (by omega) j hj
    rw [show 78 + (a - 78) = a by omega] at this
    exact this
  by_cases c14 : a < 90
  · have := sB9_R_14 (a - 84) (by omega) j hj
    rw [show 84 + (a - 84) = a by omega] at this
    exact this
  by_cases c15 : a < 96
  · have := sB9_R_15 (a - 90) (by omega) j hj
    rw [show 90 + (a - 90) = a by omega] at this
    exact this
  by_cases c16 : a < 102
  · have := sB9_R_16 (a - 96) (by omega) j hj
    rw [show 96 + (a - 96) = a by omega] at this
    exact this
  by_cases c17 : a < 108
  · have := sB9_R_17 (a - 102) (by omega) j hj
    rw [show 102 + (a - 102) = a by omega] at this
    exact this
  by_cases c18 : a < 114
  · have := sB9_R_18 (a - 108) (by omega) j hj
    rw [show 108 + (a - 108) = a by omega] at this
    exact this
  by_cases c19 : a < 120
  · have := sB9_R_19 (a - 114) (by omega) j hj
    rw [show 114 + (a - 114) = a by omega] at this
    exact this
  by_cases c20 : a < 126
  · have := sB9_R_20 (a - 120) (by omega) j hj
    rw [show 120 + (a - 120) = a by omega] at this
    exact this
  by_cases c21 : a < 132
  · have := sB9_R_21 (a - 126) (by omega) j hj
    rw [show 126 + (a - 126) = a by omega] at this
    exact this
  by_cases c22 : a < 138
  · have := sB9_R_22 (a - 132) (by omega) j hj
    rw [show 132 + (a - 132) = a by omega] at this
    exact this
  by_cases c23 : a < 144
  · have := sB9_R_23 (a - 138) (by omega) j hj
    rw [show 138 + (a - 138) = a by omega] at this
    exact this
  by_cases c24 : a < 150
  · have := sB9_R_24 (a - 144) (by omega) j hj
    rw [show 144 + (a - 144) = a by omega] at this
    exact this
  by_cases c25 : a < 156
  · have := sB9_R_25 (a - 150) (by omega) j hj
    rw [show 150 + (a - 150) = a by omega] at this
    exact this
  by_cases c26 : a < 162
  · have := sB9_R_26 (a - 156) (by omega) j hj
    rw [show 156 + (a - 156) = a by omega] at this
    exact this
  have := sB9_R_27 (a - 162) (by omega) j hj
  rw [show 162 + (a - 162) = a by omega] at this
  exact this
theorem kd0_9 {a : Nat} (h : 163 ≤ a) : kd0 a = 9 := by
  unfold kd0; rw [List.getD_eq_getElem?_getD, List.getElem?_eq_none (by show 163 ≤ a; exact h)]; rfl
theorem R0_9 {a j : Nat} (h : 163 ≤ a) : R0 a j = none := by unfold R0; rw [kd0_9 h]; rfl
theorem R0_30 {a j : Nat} (h : 30 ≤ j) : R0 a j = none := by
  unfold R0
  generalize kd0 a = k
  unfold R0k
  split <;> first | rfl | rw [if_neg (by omega)] | (split <;> first | rfl | omega)
theorem sB9_is : sB9 = S0 := by
  refine Prod.ext (by decide +kernel) (Prod.ext (funext fun a => ?_) (funext fun a => funext fun j => ?_))
  · rcases Nat.lt_or_ge a 163 with h | h
    · exact sB9_kd a h
    · rw [nB9.1 a (Nat.le_trans (by decide +kernel) h)]
      exact (kd0_9 h).symm
  · rcases Nat.lt_or_ge a 163 with h | h
    · rcases Nat.lt_or_ge j 30 with h2 | h2
      · exact sB9_R a h j h2
      · rw [nB9.2 a j h2]
        exact (R0_30 h2).symm
    · rw [(fB9 a j (Nat.le_trans (by decide +kernel) h)).1]
      exact (R0_9 h).symm
