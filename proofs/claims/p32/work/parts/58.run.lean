/-! ===== orders carried out ===== -/
section RUN
variable {c : Nat → Int} {n : Nat}
theorem or_sg (g : GC c n) {p : Nat} (e : (orS c n p).1 = false) : p < n ∧ (c p = 37 ∨ c p = 43 ∨ c p = 45 ∨ c p = 61 ∨ c p = 62) := by
  by_cases h : p < n
  · refine ⟨h, ?_⟩
    by_cases d : c p = 37 ∨ c p = 43 ∨ c p = 45 ∨ c p = 61 ∨ c p = 62
    · exact d
    · rw [or_no g h (by omega) (by omega) (by omega) (by omega) (by omega)] at e
      exact absurd (show true = false from e) (by decide)
  · rw [ord_end h] at e
    exact absurd (show true = false from e) (by decide)
theorem c_nOf {A : Mm} {q w : Nat} (hq : q < 20) (hw : w < 3) : fX0_numberOf (iI q) (iI w) A = some (A 36 (3 * q + w), A) := by
  rw [fX0_numberOf, l_3, l_20, iI_mul, iI_add, ltm_s, if_neg (by rw [l_0, iI_lt (by omega) (by omega) (by omega) (by omega)]; omega), if_neg (by rw [iI_le (by omega) (by omega) (by omega) (by omega)]; omega), if_neg (by rw [l_0, iI_lt (by omega) (by omega) (by omega) (by omega)]; omega), if_neg (by rw [iI_le (by omega) (by omega) (by omega) (by omega)]; omega), iI_cl (by omega) (by omega), if_neg (by rw [l_0, iI_lt (by omega) (by omega) (by omega) (by omega)]; omega), show ((q : Int) * 3 + w).toNat = 3 * q + w by omega]
theorem c_sOf {A : Mm} {q : Nat} (hq : q < 20) : fX0_signOf (iI q) A = some (A 35 q, A) := by
  rw [fX0_signOf, l_20, if_neg (by rw [l_0, iI_lt (by omega) (by omega) (by omega) (by omega)]; omega), if_neg (by rw [iI_le (by omega) (by omega) (by omega) (by omega)]; omega), iI_cl (by omega) (by omega), if_neg (by rw [l_0, iI_lt (by omega) (by omega) (by omega) (by omega)]; omega), tn_n]
theorem vl_43 (p : Nat) : ∃ a b d, vlS c n (lsO 43) p 0 = some a ∧ vlS c n (lsO 43) p 1 = some b ∧ vlS c n (lsO 43) p 2 = some d := by
  rw [show lsO 43 = [(0, 43), (1, 1), (0, 58), (2, 3), (0, 42), (3, 2)] by decide]
  simp [vlS]
theorem vl_45 (p : Nat) : ∃ a b, vlS c n (lsO 45) p 0 = some a ∧ vlS c n (lsO 45) p 1 = some b := by
  rw [show lsO 45 = [(0, 45), (1, 1), (0, 58), (2, 3)] by decide]
  simp [vlS]
theorem vl_61 (p : Nat) : ∃ a, vlS c n (lsO 61) p 0 = some a := by
  rw [show lsO 61 = [(0, 61), (1, 1)] by decide]
  simp [vlS]
theorem vl_62 (p : Nat) : ∃ a b, vlS c n (lsO 62) p 0 = some a ∧ vlS c n (lsO 62) p 1 = some b := by
  rw [show lsO 62 = [(0, 62), (1, 1), (2, 1)] by decide]
  simp [vlS]
theorem vl_37 (p : Nat) : ∃ a, vlS c n (lsO 37) p 0 = some a := by
  rw [show lsO 37 = [(0, 37), (1, 2)] by decide]
  simp [vlS]
end RUN
