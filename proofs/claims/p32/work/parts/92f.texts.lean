/-! ===== the texts are different objects ===== -/
theorem tx_ne_1 : ∀ i, i < 1 → nlC[71 + i]? = some (Cond.not (Cond.eq (tmS i) (tmS 1))) := by decide +kernel
theorem tx_ne_2 : ∀ i, i < 2 → nlC[91 + i]? = some (Cond.not (Cond.eq (tmS i) (tmS 2))) := by decide +kernel
theorem tx_ne_3 : ∀ i, i < 3 → nlC[101 + i]? = some (Cond.not (Cond.eq (tmS i) (tmS 3))) := by decide +kernel
theorem tx_ne_4 : ∀ i, i < 4 → nlC[121 + i]? = some (Cond.not (Cond.eq (tmS i) (tmS 4))) := by decide +kernel
theorem tx_ne_5 : ∀ i, i < 5 → nlC[131 + i]? = some (Cond.not (Cond.eq (tmS i) (tmS 5))) := by decide +kernel
theorem tx_ne_6 : ∀ i, i < 6 → nlC[145 + i]? = some (Cond.not (Cond.eq (tmS i) (tmS 6))) := by decide +kernel
theorem tx_ne_7 : ∀ i, i < 7 → nlC[158 + i]? = some (Cond.not (Cond.eq (tmS i) (tmS 7))) := by decide +kernel
theorem tx_ne_8 : ∀ i, i < 8 → nlC[176 + i]? = some (Cond.not (Cond.eq (tmS i) (tmS 8))) := by decide +kernel
theorem tx_ne_9 : ∀ i, i < 9 → nlC[191 + i]? = some (Cond.not (Cond.eq (tmS i) (tmS 9))) := by decide +kernel
theorem tx_ne_10 : ∀ i, i < 10 → nlC[211 + i]? = some (Cond.not (Cond.eq (tmS i) (tmS 10))) := by decide +kernel
theorem tx_ne_11 : ∀ i, i < 11 → nlC[228 + i]? = some (Cond.not (Cond.eq (tmS i) (tmS 11))) := by decide +kernel
theorem tx_ne_12 : ∀ i, i < 12 → nlC[249 + i]? = some (Cond.not (Cond.eq (tmS i) (tmS 12))) := by decide +kernel
theorem tx_ne_13 : ∀ i, i < 13 → nlC[271 + i]? = some (Cond.not (Cond.eq (tmS i) (tmS 13))) := by decide +kernel
theorem tx_ne_14 : ∀ i, i < 14 → nlC[301 + i]? = some (Cond.not (Cond.eq (tmS i) (tmS 14))) := by decide +kernel
theorem tx_ne_15 : ∀ i, i < 15 → nlC[325 + i]? = some (Cond.not (Cond.eq (tmS i) (tmS 15))) := by decide +kernel
theorem tx_ne_16 : ∀ i, i < 16 → nlC[347 + i]? = some (Cond.not (Cond.eq (tmS i) (tmS 16))) := by decide +kernel
theorem tx_ne_17 : ∀ i, i < 17 → nlC[370 + i]? = some (Cond.not (Cond.eq (tmS i) (tmS 17))) := by decide +kernel
theorem tx_ne_18 : ∀ i, i < 18 → nlC[394 + i]? = some (Cond.not (Cond.eq (tmS i) (tmS 18))) := by decide +kernel
theorem tx_ne_19 : ∀ i, i < 19 → nlC[424 + i]? = some (Cond.not (Cond.eq (tmS i) (tmS 19))) := by decide +kernel
theorem tx_ne (i : Nat) (hi : i < 20) (j : Nat) (hj : j < 20) (h : i < j) : Cond.not (Cond.eq (tmS i) (tmS j)) ∈ nlC := by
  match j, hj, h with
  | 0, _, h => exact absurd h (Nat.not_lt_zero _)
  | 1, _, h => exact List.mem_of_getElem? (tx_ne_1 i h)
  | 2, _, h => exact List.mem_of_getElem? (tx_ne_2 i h)
  | 3, _, h => exact List.mem_of_getElem? (tx_ne_3 i h)
  | 4, _, h => exact List.mem_of_getElem? (tx_ne_4 i h)
  | 5, _, h => exact List.mem_of_getElem? (tx_ne_5 i h)
  | 6, _, h => exact List.mem_of_getElem? (tx_ne_6 i h)
  | 7, _, h => exact List.mem_of_getElem? (tx_ne_7 i h)
  | 8, _, h => exact List.mem_of_getElem? (tx_ne_8 i h)
  | 9, _, h => exact List.mem_of_getElem? (tx_ne_9 i h)
  | 10, _, h => exact List.mem_of_getElem? (tx_ne_10 i h)
  | 11, _, h => exact List.mem_of_getElem? (tx_ne_11 i h)
  | 12, _, h => exact List.mem_of_getElem? (tx_ne_12 i h)
  | 13, _, h => exact List.mem_of_getElem? (tx_ne_13 i h)
  | 14, _, h => exact List.mem_of_getElem? (tx_ne_14 i h)
  | 15, _, h => exact List.mem_of_getElem? (tx_ne_15 i h)
  | 16, _, h => exact List.mem_of_getElem? (tx_ne_16 i h)
  | 17, _, h => exact List.mem_of_getElem? (tx_ne_17 i h)
  | 18, _, h => exact List.mem_of_getElem? (tx_ne_18 i h)
  | 19, _, h => exact List.mem_of_getElem? (tx_ne_19 i h)
  | k + 20, hj, _ => exact absurd hj (by omega)
