/-! ===== accounts, reasons, characters ===== -/
theorem c_codeAt {I : Mm} {a n : Nat} (e : I a 1 = iI n) (hn : n ≤ 60) {z : Int} (h1 : -2147483648 ≤ z) (h2 : z < 2147483648) : fX2_codeAt a (iI z) I = some (if 0 ≤ z ∧ z < n then I (a + 1) z.toNat else -11, I) := by
  unfold fX2_codeAt
  rw [e]
  simp (disch := omega) only [l_0, l_60, iI_lt, iI_le, iI_cl]
  by_cases c : z < 0
  · rw [if_pos c, if_neg (by omega)]
  · rw [if_neg c]
    by_cases d : (n : Int) ≤ z
    · rw [if_pos d, if_neg (by omega)]
    · rw [if_neg d, if_neg (by omega), if_neg (by omega), if_pos (by omega)]
theorem c_add {I : Mm} {a n : Nat} (e : I a 1 = iI n) (hn : n ≤ 60) (c : Int32) : fX2_add a c I = if n < 60 then some (1, wr (wr I (a + 1) n c) a 1 (iI ((n + 1 : Nat) : Int))) else some (0, I) := by
  unfold fX2_add
  rw [e]
  simp (disch := omega) only [l_0, l_60, iI_lt, iI_cl, if_neg]
  by_cases d : n < 60
  · rw [if_pos d, if_pos (by omega), tn_n, ltm_s]
    rw [show (wr I (a + 1) n c) a 1 = iI n by rw [wr_e, if_neg (by omega), e], l_1, iI_add, ltm_s]
    rfl
  · rw [if_neg d, if_neg (by omega)]
