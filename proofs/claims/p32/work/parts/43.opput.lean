/-! ===== put ===== -/
theorem up_up {α : Type} (f : Nat → α) (i : Nat) (a b : α) : up (up f i a) i b = up f i b := funext fun x => by
  unfold up
  by_cases c : x = i
  · rw [if_pos c, if_pos c]
  · rw [if_neg c, if_neg c, if_neg c]
section OPut
variable {I : Mm} {f : Nat → Int32} {T : Nat → Tr} {mo : Nat → Nat} {ct : Nat → Int32}
/-- the stall at a place, -1 for none -/
def saT (t : Tr) (a : Int) : Int := if a = -1 then -1 else gs t a.toNat
theorem in_at {k w ld : Nat} {t : Tr} (G : GT t) (H : ∀ q, q < cnt t → gw t q ≠ w) : rkQ w t < cnt (insT k w ld t) ∧ gs (insT k w ld t) (rkQ w t) = k := by
  have r := rk_le (w : Int) t
  have a := in_pos k w ld t (rkQ w t) G H r
  exact ⟨by rw [in_cnt]; omega, (a.2.1 rfl).2.2.1⟩
end OPut
