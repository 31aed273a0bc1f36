/-! ===== the law's loop: every call of both alike ===== -/
theorem lg_self (v : Int64) : lg_cmp v v = 0 := by
  unfold lg_cmp
  simp
