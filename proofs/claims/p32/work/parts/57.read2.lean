/-! ===== the reference's orders ===== -/
theorem bd_as {α β γ : Type} (o : Option (α × Mm)) (f : α → Mm → Option (β × Mm)) (g : β → Mm → Option γ) : bd (bd o f) g = bd o fun a I => bd (f a I) g := by
  cases o <;> rfl
theorem bs_s {α β : Type} (a : α) (I : Mm) (k : α → Mm → Option β) : bd (some (a, I)) k = k a I := rfl
section RM
variable {c : Nat → Int} {n : Nat}
end RM
