/-! ===== run on both sides ===== -/
theorem pa_le (c : Nat → Int) (n : Nat) : ∀ f k, poF c n k ≤ n → (paS_ c n f k).2.1 ≤ n
  | 0, k, h => Nat.zero_le _
  | f + 1, k, h => by
    have o := ord_le (c := c) (n := n) h
    rw [paS_]
    split
    · exact o.2
    · split
      · next b =>
        split
        · exact pa_le c n f (k + 1) (by rw [poF]; omega)
        · exact o.2
      · exact Nat.le_refl _
