/-! ===== both sides alike: the relation between the class's cells and the reference's ===== -/
section HOLD
variable {I : Mm}
theorem c_before {nx : Nat} (h : nx < 9) (e : I 0 4 = iI nx) : fX4_beforeNow I = some (some (37 + 14 * nx), I) := by
  rw [fX4_beforeNow, e, l_9]
  simp (disch := omega) only [l_0, iI_lt, iI_le, iI_cl, if_neg]
  rfl
theorem is_p {nx : Nat} (h : nx < 9) : isY (37 + 14 * nx) := Or.inr (Or.inr ⟨nx, h, rfl⟩)
theorem c_hold {nx : Nat} (h : nx < 9) (e : I 0 4 = iI nx) {T : Nat → Tr} {mo : Nat → Nat} {ct : Nat → Int32} (O : OKY T mo ct) (C : CY I 1 T mo ct) : ∃ J, fX4_hold I = some ((), J) ∧ CY J (37 + 14 * nx) T mo ct ∧ ∀ x j, (x < 37 + 14 * nx ∨ 37 + 14 * nx + 13 < x) → J x j = I x j := by
  obtain ⟨J, a, b, c⟩ := c_copyY (is_p h) (Or.inl rfl) (by omega) O C
  exact ⟨J, by rw [fX4_hold, c_before h e, bd_s, on_1, if_pos (kd_y (is_p h)), a, bd_s], b, c⟩
theorem c_give {nx : Nat} (h : nx < 9) (e : I 0 4 = iI nx) {T : Nat → Tr} {mo : Nat → Nat} {ct : Nat → Int32} (O : OKY T mo ct) (C : CY I (37 + 14 * nx) T mo ct) : ∃ J, fX4_giveBack I = some ((), J) ∧ CY J 1 T mo ct ∧ ∀ x j, (x < 1 ∨ 14 < x) → J x j = I x j := by
  obtain ⟨J, a, b, c⟩ := c_copyY (Or.inl rfl) (is_p h) (by omega) O C
  exact ⟨J, by rw [fX4_giveBack, c_before h e, bd_s, on_1, if_pos (kd_y (is_p h)), a, bd_s], b, c⟩
theorem c_keep0 {v : Int32} (h : v < 0) : fX4_keep v I = some (v, I) := by rw [fX4_keep, if_pos h]
theorem c_keep1 {v : Int32} (h : 0 ≤ v) {nx un : Nat} (h1 : nx < 9) (h2 : un ≤ 8) (e1 : I 0 4 = iI nx) (e2 : I 0 5 = iI un) : fX4_keep v I = some (v, wr (wr I 0 4 (iI (((nx + 1) % 9 : Nat) : Int))) 0 5 (iI (min (un + 1) 8 : Nat))) := by
  have nv : ¬ v < 0 := by rw [Int32.lt_iff_toInt_lt]; rw [Int32.le_iff_toInt_le] at h; omega
  rw [fX4_keep, if_neg nv, e1, ltm_s, ltm_s]
  have a : (iI nx + 1 - (iI nx + 1) / 9 * 9) = iI (((nx + 1) % 9 : Nat) : Int) := by
    rw [l_1, l_9, iI_add, iI_div (by omega) (by omega) (by omega) (by omega), iI_mul, iI_sub]; congr 1; omega
  have b : wr I 0 4 (iI (((nx + 1) % 9 : Nat) : Int)) 0 5 = iI un := by rw [wr_e, if_neg (by omega), e2]
  rw [a, b, l_1, l_8, iI_add, iI_min (by omega) (by omega) (by omega) (by omega)]
  congr 4; omega
end HOLD
