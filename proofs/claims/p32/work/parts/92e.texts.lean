/-! ===== what the start gives of the texts ===== -/
def nlC : List Cond := flatC (Jvm.Cond.and given_1 narrow_1)
def tmS (i : Nat) : Term := Term.string "LeaningRicksLaw" (186 + 2 * i)
def tmV (i : Nat) : Term := .field (tmS i) "java/lang/String" "value" "[B"
def tmT : Term := .static "LeaningRicksLaw" "TEXTS" "[Ljava/lang/String;"
theorem tx_ex : ∀ i, i < 20 → Cond.exactly (tmS i) "java/lang/String" ∈ nlC := by decide +kernel
theorem tx_co : ∀ i, i < 20 → Cond.eq (.field (tmS i) "java/lang/String" "coder" "B") (.int 0) ∈ nlC := by decide +kernel
theorem tx_ar : ∀ i, i < 20 → Cond.arrayOf (tmV i) .byte ∈ nlC := by decide +kernel
theorem tx_le : ∀ i, i < 20 → Cond.eq (.length (tmV i)) (.int (Int32.ofNat (txL.getD i 0))) ∈ nlC := by decide +kernel
theorem tx_el : ∀ i, i < 20 → ∀ j, j < txL.getD i 0 → Cond.eq (.elem (tmV i) (.int (Int32.ofNat j))) (.int ((txB.getD i []).getD j 0)) ∈ nlC := by decide +kernel
theorem tx_tt : ∀ i, i < 20 → Cond.eq (.elem tmT (.int (Int32.ofNat i))) (tmS i) ∈ nlC := by decide +kernel
theorem tx_N : ∀ i, i < 20 → txL.getD i 0 < 2 ^ 31 := by decide +kernel
theorem eq_rf {args : Array Value} {s : State} {t t2 : Term} {a : Nat} (h : (Cond.eq t t2).before args s = true) (h2 : t2.eval args s none [] s = some (.ref a)) : t.eval args s none [] s = some (.ref a) := by
  cases hv : t.eval args s none [] s with
  | none => simp [Cond.before, Cond.holds, Cond.value, hv] at h
  | some w =>
    simp only [Cond.before, Cond.holds, Cond.value, hv, h2] at h
    cases w <;> simp_all
