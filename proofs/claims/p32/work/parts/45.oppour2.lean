/-! ===== pour, on both sides ===== -/
section OPo2
variable {I : Mm} {f : Nat → Int32} {T : Nat → Tr} {mo : Nat → Nat} {ct : Nat → Int32}
theorem sum_2 {i j : Nat} (hi : i < 3) (hj : j < 3) (hij : i ≠ j) (b : Tr) : cnt (up (up T i .leaf) j b 0) + cnt (up (up T i .leaf) j b 1) + cnt (up (up T i .leaf) j b 2) + (cnt (T i) + cnt (T j)) = cnt (T 0) + cnt (T 1) + cnt (T 2) + cnt b := by
  have a := up_sum (T := T) hi .leaf
  have c := up_sum (T := up T i .leaf) hj b
  rw [show up T i .leaf j = T j from up_n _ _ (fun e => hij e.symm)] at c
  rw [show cnt .leaf = 0 from rfl] at a
  omega
end OPo2
