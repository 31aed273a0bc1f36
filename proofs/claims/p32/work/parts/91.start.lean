/-! ===== the finished world is the one that the constructor leaves ===== -/
/-- beyond its cells a world holds nothing, and no reference lies beyond place 30 -/
def Nin (S : Sx) : Prop := (∀ a, S.1 ≤ a → S.2.1 a = 9) ∧ ∀ a j, 30 ≤ j → S.2.2 a j = none
theorem Nin.gr {S : Sx} {c : Nat} (h : Nin S) : Nin (gr S c) := ⟨fun a ha => by
  have h1 : S.1 + 1 ≤ a := ha
  show (if a = S.1 then c else S.2.1 a) = 9
  rw [if_neg (by omega)]
  exact h.1 a (by omega), h.2⟩
theorem Nin.sr {S : Sx} {a j v : Nat} (h : Nin S) (hj : j < 30) : Nin (sr S a j v) := ⟨h.1, fun b i hi => by
  show (if b = a ∧ i = j then some v else S.2.2 b i) = none
  rw [if_neg (by omega)]
  exact h.2 b i hi⟩
theorem Nin.rick {S : Sx} {r : Nat} (h : Nin S) : Nin (rickS S r) := (((((h.gr).sr (by decide)).gr).sr (by decide)).gr).sr (by decide)
theorem Nin.row {S : Sx} {r : Nat} (h : Nin S) : Nin (rowS S r) := (h.gr).sr (by decide)
theorem Nin.ord {S : Sx} {r : Nat} (h : Nin S) : Nin (ordS S r) := (((h.gr).sr (by decide)).gr).sr (by decide)
theorem Nin.step {S : Sx} {A i : Nat} (h : Nin S) (hi : i < 30) : Nin (stepY A i S) := ((h.gr).rick).sr hi
theorem Nin.yard {S : Sx} {r : Nat} (h : Nin S) : Nin (yardS S r) := ((((h.gr).sr (by decide)).step (by decide)).step (by decide)).step (by decide)
theorem nE0 : Nin E0 := ⟨fun _ _ => rfl, fun _ _ _ => rfl⟩
theorem nA2 : Nin sA2 := (((((nE0.gr).gr).yard.sr (by decide)).gr).yard).sr (by decide)
theorem nB0 : Nin sB0 := (((((((((nA2.gr).sr (by decide)).gr).row).sr (by decide)).gr).row).sr (by decide)).gr.ord).sr (by decide)
theorem nB1 : Nin sB1 := ((nB0.gr).yard).sr (by decide)
theorem nB2 : Nin sB2 := ((nB1.gr).yard).sr (by decide)
theorem nB3 : Nin sB3 := ((nB2.gr).yard).sr (by decide)
theorem nB4 : Nin sB4 := ((nB3.gr).yard).sr (by decide)
theorem nB5 : Nin sB5 := ((nB4.gr).yard).sr (by decide)
theorem nB6 : Nin sB6 := ((nB5.gr).yard).sr (by decide)
theorem nB7 : Nin sB7 := ((nB6.gr).yard).sr (by decide)
theorem nB8 : Nin sB8 := ((nB7.gr).yard).sr (by decide)
theorem nB9 : Nin sB9 := ((nB8.gr).yard).sr (by decide)
theorem sB9_kd : ∀ a, a < 163 → sB9.2.1 a = kd0 a := by decide +kernel
