/-! ===== bits of float and double ===== -/
def Z9 : Mm := fun _ _ => 0
/-- what is told without the memory -/
def NoM {α : Type} (F : Mm → Option (α × Mm)) : Prop := ∀ I, F I = ((F Z9).map Prod.fst).map fun v => (v, I)
theorem nm_some {α : Type} (v : α) : NoM fun I => some (v, I) := fun _ => rfl
theorem nm_none {α : Type} : NoM (fun _ => none : Mm → Option (α × Mm)) := fun _ => rfl
theorem nm_ite {α : Type} {P : Prop} [Decidable P] {F H : Mm → Option (α × Mm)} (f : NoM F) (h : NoM H) : NoM fun I => if P then F I else H I := fun I => by
  by_cases c : P
  · simp only [if_pos c]; exact f I
  · simp only [if_neg c]; exact h I
theorem nm_share : ∀ (m : Nat) (a : UInt32) (b d : Int32), NoM (fX4_shareBits_p15 m a b d)
  | 0, a, b, d => nm_none
  | m + 1, a, b, d => nm_ite (nm_ite (nm_ite (nm_some _) nm_none) nm_none) (nm_ite (nm_ite (nm_ite (nm_some _) nm_none) nm_none) (nm_ite (nm_share m _ _ _) nm_none))
theorem nm_shareB (a : UInt32) : NoM (fX4_shareBits a) := nm_ite (nm_share 1000 a 127 0) (nm_some _)
theorem nm_m52 : ∀ (m : Nat) (a : UInt64) (b : Int64) (d : Int32), NoM (fX4_meanBits_p52 m a b d)
  | 0, a, b, d => nm_none
  | m + 1, a, b, d => nm_ite (nm_ite (nm_ite (nm_some _) nm_none) nm_none) (nm_ite (nm_ite (nm_ite (nm_some _) nm_none) nm_none) (nm_ite (nm_m52 m _ _ _) nm_none))
theorem nm_m18 : ∀ (m : Nat) (a : UInt64) (b : Int64) (d : Int32), NoM (fX4_meanBits_p18 m a b d)
  | 0, a, b, d => nm_none
  | m + 1, a, b, d => nm_ite (nm_m52 1000 _ _ _) (nm_ite (nm_m52 1000 _ _ _) (nm_ite (nm_m18 m _ _ _) nm_none))
theorem nm_meanB (a : UInt64) : NoM (fX4_meanBits a) := nm_ite (nm_m18 1000 a 1023 0) (nm_some _)
abbrev fq (a n : Nat) : UInt32 := FP.fdiv (FP.i2f (iI (a : Int))) (FP.i2f (iI (n : Int)))
abbrev dq (a n : Nat) : UInt64 := FP.ddiv (FP.i2d (iI (a : Int))) (FP.i2d (iI (n : Int)))
def shOK (a n : Nat) : Bool := decide ((fq a n) &&& 0x7fffffff ≤ (0x7f800000 : UInt32)) && decide ((fX4_shareBits (fq a n) Z9).map Prod.fst = some (fbI (fq a n)))
def meOK (a n : Nat) : Bool := decide ((dq a n) &&& 0x7fffffffffffffff ≤ (0x7ff0000000000000 : UInt64)) && decide ((fX4_meanBits (dq a n) Z9).map Prod.fst = (fJxe99ae_doubleToLongBits_ccdee (dq a n) Z9).map Prod.fst) && decide (Op.cmpValue (FP.dcmp (dq a n) (dq a n)) .l = 0)
def allB (P : Nat → Bool) : Nat → Bool
  | 0 => true
  | k + 1 => P k && allB P k
theorem allB_is {P : Nat → Bool} : ∀ {k : Nat}, allB P k = true → ∀ i, i < k → P i = true
  | 0, _, i, h => by omega
  | k + 1, e, i, h => by
    rw [allB, Bool.and_eq_true] at e
    by_cases c : i = k
    · rw [c]; exact e.1
    · exact allB_is e.2 i (by omega)
theorem sh_all : allB (fun n => allB (fun a => shOK a (n + 1)) (n + 2)) 30 = true := by decide +kernel
