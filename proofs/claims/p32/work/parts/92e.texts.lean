/-! ===== what the start gives of the texts ===== -/
def nlC : List Cond := flatC (Jvm.Cond.and given_1 narrow_1)
def tmS (i : Nat) : Term := Term.string "LeaningRicksLaw" (186 + 2 * i)
def tmV (i : Nat) : Term := .field (tmS i) "java/lang/String" "value" "[B"
def tmT : Term := .static "LeaningRicksLaw" "TEXTS" "[Ljava/lang/String;"
def exP (i : Nat) : Nat := [40, 51, 72, 93, 104, 125, 136, 151, 165, 184, 200, 221, 239, 261, 284, 315, 340, 363, 387, 412].getD i 0
theorem tx_ex0 : ∀ i, i < 20 → nlC[exP i]? = some (Cond.exactly (tmS i) "java/lang/String") := by decide +kernel
theorem tx_co0 : ∀ i, i < 20 → nlC[exP i + 1]? = some (Cond.eq (.field (tmS i) "java/lang/String" "coder" "B") (.int 0)) := by decide +kernel
theorem tx_ar0 : ∀ i, i < 20 → nlC[exP i + 2]? = some (Cond.arrayOf (tmV i) .byte) := by decide +kernel
theorem tx_le0 : ∀ i, i < 20 → nlC[exP i + 3]? = some (Cond.eq (.length (tmV i)) (.int (Int32.ofNat (txL.getD i 0)))) := by decide +kernel
theorem tx_tt0 : ∀ i, i < 20 → nlC[12 + i]? = some (Cond.eq (.elem tmT (.int (Int32.ofNat i))) (tmS i)) := by decide +kernel
theorem tx_el0 : ∀ i, i < 5 → ∀ j, j < txL.getD i 0 → nlC[exP i + 4 + j]? = some (Cond.eq (.elem (tmV i) (.int (Int32.ofNat j))) (.int ((txB.getD i []).getD j 0))) := by decide +kernel
theorem tx_el1 : ∀ i, i < 5 → ∀ j, j < txL.getD (5 + i) 0 → nlC[exP (5 + i) + 4 + j]? = some (Cond.eq (.elem (tmV (5 + i)) (.int (Int32.ofNat j))) (.int ((txB.getD (5 + i) []).getD j 0))) := by decide +kernel
theorem tx_el2 : ∀ i, i < 5 → ∀ j, j < txL.getD (10 + i) 0 → nlC[exP (10 + i) + 4 + j]? = some (Cond.eq (.elem (tmV (10 + i)) (.int (Int32.ofNat j))) (.int ((txB.getD (10 + i) []).getD j 0))) := by decide +kernel
theorem tx_el3 : ∀ i, i < 5 → ∀ j, j < txL.getD (15 + i) 0 → nlC[exP (15 + i) + 4 + j]? = some (Cond.eq (.elem (tmV (15 + i)) (.int (Int32.ofNat j))) (.int ((txB.getD (15 + i) []).getD j 0))) := by decide +kernel
theorem tx_ex (i : Nat) (h : i < 20) : Cond.exactly (tmS i) "java/lang/String" ∈ nlC := List.mem_of_getElem? (tx_ex0 i h)
theorem tx_co (i : Nat) (h : i < 20) : Cond.eq (.field (tmS i) "java/lang/String" "coder" "B") (.int 0) ∈ nlC := List.mem_of_getElem? (tx_co0 i h)
theorem tx_ar (i : Nat) (h : i < 20) : Cond.arrayOf (tmV i) .byte ∈ nlC := List.mem_of_getElem? (tx_ar0 i h)
theorem tx_le (i : Nat) (h : i < 20) : Cond.eq (.length (tmV i)) (.int (Int32.ofNat (txL.getD i 0))) ∈ nlC := List.mem_of_getElem? (tx_le0 i h)
theorem tx_tt (i : Nat) (h : i < 20) : Cond.eq (.elem tmT (.int (Int32.ofNat i))) (tmS i) ∈ nlC := List.mem_of_getElem? (tx_tt0 i h)
theorem tx_el (i : Nat) (h : i < 20) (j : Nat) (hj : j < txL.getD i 0) : Cond.eq (.elem (tmV i) (.int (Int32.ofNat j))) (.int ((txB.getD i []).getD j 0)) ∈ nlC := by
  by_cases c0 : i < 5
  · exact List.mem_of_getElem? (tx_el0 i c0 j hj)
  by_cases c1 : i < 10
  · obtain ⟨k, rfl⟩ : ∃ k, i = 5 + k := ⟨i - 5, by omega⟩
    exact List.mem_of_getElem? (tx_el1 k (by omega) j hj)
  by_cases c2 : i < 15
  · obtain ⟨k, rfl⟩ : ∃ k, i = 10 + k := ⟨i - 10, by omega⟩
    exact List.mem_of_getElem? (tx_el2 k (by omega) j hj)
  · obtain ⟨k, rfl⟩ : ∃ k, i = 15 + k := ⟨i - 15, by omega⟩
    exact List.mem_of_getElem? (tx_el3 k (by omega) j hj)
theorem nl_cs : Cond.eq (.static "java/lang/String" "COMPACT_STRINGS" "Z") (.int 1) ∈ nlC := by decide +kernel
theorem nl_ta : Cond.arrayOf tmT (.object "java/lang/String") ∈ nlC := by decide +kernel
theorem nl_tl : Cond.eq (.length tmT) (.int 20) ∈ nlC := by decide +kernel
theorem nl_si : Cond.isRef (.static "jdk/internal/util/Preconditions" "SIOOBE_FORMATTER" "Ljava/util/function/BiFunction;") ∈ nlC := by decide +kernel
theorem tx_N : ∀ i, i < 20 → txL.getD i 0 < 2 ^ 31 := by decide +kernel
theorem eq_rf {args : Array Value} {s : State} {t t2 : Term} {a : Nat} (h : (Cond.eq t t2).before args s = true) (h2 : t2.eval args s none [] s = some (.ref a)) : t.eval args s none [] s = some (.ref a) := by
  cases hv : t.eval args s none [] s with
  | none => simp [Cond.before, Cond.holds, Cond.value, hv] at h
  | some w =>
    simp only [Cond.before, Cond.holds, Cond.value, hv, h2] at h
    cases w <;> simp_all
