/-! ===== the reference's loops over its list ===== -/
section ML
variable {I : Mm} {i : Nat} {t : Tr}
/-- the depth that so many may have -/
def mhZ (lim : Int) : Nat → Int → Int
  | 0, _ => 0
  | n + 1, x => if x ≤ 0 then 0 else 1 + mhZ lim n (x * lim / 100)
theorem mh_step {lim x : Int} (hl : 55 ≤ lim ∧ lim ≤ 90) (h0 : 0 < x) : 0 ≤ x * lim / 100 ∧ x * lim / 100 < x := by
  have m0 : x * lim ≤ x * 90 := Int.mul_le_mul_of_nonneg_left hl.2 (by omega)
  have m1 : 0 ≤ x * lim := Int.mul_nonneg (by omega) (by omega)
  omega
theorem mh_rng {lim : Int} (hl : 55 ≤ lim ∧ lim ≤ 90) : ∀ (n : Nat) (x : Int), 0 ≤ mhZ lim n x ∧ mhZ lim n x ≤ n
  | 0, x => by rw [mhZ]; omega
  | n + 1, x => by
    have := mh_rng hl n (x * lim / 100)
    rw [mhZ]; split <;> omega
theorem mh_enough {lim : Int} (hl : 55 ≤ lim ∧ lim ≤ 90) : ∀ (n : Nat) (x : Int), x ≤ n → mhZ lim n x = mhZ lim (n + 1) x
  | 0, x, h => by rw [mhZ, mhZ, if_pos (by omega)]
  | n + 1, x, h => by
    rw [mhZ, mhZ]
    by_cases c : x ≤ 0
    · rw [if_pos c, if_pos c]
    · have := @mh_step lim x hl (by omega)
      rw [if_neg c, if_neg c, mh_enough hl n _ (by omega)]
theorem t_depthFor {lim : Int} (hl : 55 ≤ lim ∧ lim ≤ 90) {n : Nat} (hn : n ≤ 30) : fX4_depthFor (iI n) (iI lim) I = some (iI (mhZ lim 30 ((n : Int) * lim / 100)), I) := by
  have key : ∀ (k j m : Nat) (x a : Int), 0 ≤ x → x ≤ k → j + k = 30 → a + 1 = j → k < m → fX4_depthFor_p7 m (iI lim) (iI a) (iI x) (iI j) I = some (iI (max (a + mhZ lim k x) 0), I) := by
    intro k
    induction k with
    | zero =>
      intro j m x a h0 h1 h2 h3 hm
      obtain ⟨m, rfl⟩ : ∃ x, m = x + 1 := ⟨m - 1, by omega⟩
      rw [fX4_depthFor_p7]
      simp (disch := omega) only [l_0, l_30, iI_le, if_pos, mhZ, Int.add_zero, iI_max]
    | succ k ih =>
      intro j m x a h0 h1 h2 h3 hm
      obtain ⟨m, rfl⟩ : ∃ x, m = x + 1 := ⟨m - 1, by omega⟩
      rw [fX4_depthFor_p7, mhZ]
      by_cases c : x ≤ 0
      · simp (disch := omega) only [l_0, l_30, iI_le, if_neg, if_pos, Int.add_zero, iI_max]
      · have st := @mh_step lim x hl (by omega)
        have m0 : x * lim ≤ x * 90 := Int.mul_le_mul_of_nonneg_left hl.2 (by omega)
        have m1 : 0 ≤ x * lim := Int.mul_nonneg (by omega) (by omega)
        have ih' := ih (j + 1) m (x * lim / 100) (a + 1) (by omega) (by omega) (by omega) (by omega) (by omega)
        simp (disch := omega) only [l_0, l_1, l_100, l_30, iI_le, if_neg, iI_mul, iI_div, iI_add, ltm_s]
        rw [show (j : Int) + 1 = ((j + 1 : Nat) : Int) by omega, ih']; congr 3; omega
  have m0 : (n : Int) * lim ≤ n * 90 := Int.mul_le_mul_of_nonneg_left hl.2 (by omega)
  have m1 : 0 ≤ (n : Int) * lim := Int.mul_nonneg (by omega) (by omega)
  have e := key 30 0 1000 n (-1) (by omega) (by omega) (by omega) (by omega) (by omega)
  have r := mh_rng hl 30 ((n : Int) * lim / 100)
  rw [fX4_depthFor, l_m1, l_0]
  rw [show fX4_depthFor_p7 1000 (iI lim) (iI (-1)) (iI n) (iI 0) I = _ from e]
  congr 3
  by_cases c : n = 0
  · subst c
    rw [mhZ, if_pos (by omega), Int.ofNat_zero, Int.zero_mul, mhZ, if_pos (by omega)]; rfl
  · have st := @mh_step lim n hl (by omega)
    have en : mhZ lim 29 ((n : Int) * lim / 100) = mhZ lim 30 ((n : Int) * lim / 100) := mh_enough hl 29 ((n : Int) * lim / 100) (by omega)
    rw [mhZ, if_neg (by omega), en]; omega
end ML
