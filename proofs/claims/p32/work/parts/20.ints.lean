/-! ===== ints by whole numbers ===== -/
def iI (z : Int) : Int32 := Int32.ofInt z
theorem iI_add (a b : Int) : iI a + iI b = iI (a + b) := (Int32.ofInt_add a b).symm
theorem iI_sub (a b : Int) : iI a - iI b = iI (a - b) := (Int32.ofInt_sub a b).symm
theorem iI_mul (a b : Int) : iI a * iI b = iI (a * b) := (Int32.ofInt_mul a b).symm
theorem iI_t {z : Int} (h1 : -2147483648 ≤ z) (h2 : z < 2147483648) : (iI z).toInt = z := by
  unfold iI
  rw [Int32.toInt_ofInt]
  show z.bmod 4294967296 = z
  exact Int.bmod_eq_of_le (by omega) (by omega)
theorem iI_of (x : Int32) : x = iI x.toInt := (Int32.ofInt_toInt x).symm
theorem iI_rng (x : Int32) : -2147483648 ≤ x.toInt ∧ x.toInt < 2147483648 := ⟨Int32.le_toInt x, Int32.toInt_lt x⟩
/-- any int as a whole number in range -/
theorem iI_ex (x : Int32) : ∃ z : Int, x = iI z ∧ -2147483648 ≤ z ∧ z < 2147483648 := ⟨x.toInt, iI_of x, (iI_rng x).1, (iI_rng x).2⟩
theorem iI_lt {a b : Int} (h1 : -2147483648 ≤ a) (h2 : a < 2147483648) (h3 : -2147483648 ≤ b) (h4 : b < 2147483648) : (iI a < iI b) = (a < b) := by
  rw [Int32.lt_iff_toInt_lt, iI_t h1 h2, iI_t h3 h4]
theorem iI_le {a b : Int} (h1 : -2147483648 ≤ a) (h2 : a < 2147483648) (h3 : -2147483648 ≤ b) (h4 : b < 2147483648) : (iI a ≤ iI b) = (a ≤ b) := by
  rw [Int32.le_iff_toInt_le, iI_t h1 h2, iI_t h3 h4]
theorem iI_eq {a b : Int} (h1 : -2147483648 ≤ a) (h2 : a < 2147483648) (h3 : -2147483648 ≤ b) (h4 : b < 2147483648) : (iI a = iI b) = (a = b) := by
  rw [← Int32.toInt_inj, iI_t h1 h2, iI_t h3 h4]
theorem iI_cl {z : Int} (h1 : -2147483648 ≤ z) (h2 : z < 2147483648) : (iI z).toNatClampNeg = z.toNat := by
  show (iI z).toInt.toNat = _
  rw [iI_t h1 h2]
theorem iI_div {a b : Int} (h0 : 0 ≤ a) (h2 : a < 2147483648) (h3 : 0 < b) (h4 : b < 2147483648) : iI a / iI b = iI (a / b) := by
  apply Int32.toInt_inj.mp
  have hq : a / b ≤ a := Int.ediv_le_self b h0
  have hq0 : 0 ≤ a / b := Int.ediv_nonneg h0 (by omega)
  rw [Int32.toInt_div, iI_t (by omega) h2, iI_t (by omega) h4, iI_t (by omega) (by omega), Int.tdiv_eq_ediv_of_nonneg h0]
  exact Int.bmod_eq_of_le (by omega) (by omega)
theorem l_0 : (0 : Int32) = iI 0 := rfl
theorem l_1 : (1 : Int32) = iI 1 := rfl
theorem l_2 : (2 : Int32) = iI 2 := rfl
theorem l_3 : (3 : Int32) = iI 3 := rfl
theorem l_4 : (4 : Int32) = iI 4 := rfl
theorem l_5 : (5 : Int32) = iI 5 := rfl
theorem l_6 : (6 : Int32) = iI 6 := rfl
theorem l_7 : (7 : Int32) = iI 7 := rfl
theorem l_8 : (8 : Int32) = iI 8 := rfl
theorem l_9 : (9 : Int32) = iI 9 := rfl
theorem l_10 : (10 : Int32) = iI 10 := rfl
theorem l_20 : (20 : Int32) = iI 20 := rfl
theorem l_30 : (30 : Int32) = iI 30 := rfl
theorem l_48 : (48 : Int32) = iI 48 := rfl
theorem l_55 : (55 : Int32) = iI 55 := rfl
theorem l_57 : (57 : Int32) = iI 57 := rfl
theorem l_60 : (60 : Int32) = iI 60 := rfl
theorem l_64 : (64 : Int32) = iI 64 := rfl
theorem l_70 : (70 : Int32) = iI 70 := rfl
theorem l_90 : (90 : Int32) = iI 90 := rfl
theorem l_99 : (99 : Int32) = iI 99 := rfl
theorem l_100 : (100 : Int32) = iI 100 := rfl
theorem l_122 : (122 : Int32) = iI 122 := rfl
theorem l_936 : (936 : Int32) = iI 936 := rfl
theorem l_999 : (999 : Int32) = iI 999 := rfl
theorem l_1000 : (1000 : Int32) = iI 1000 := rfl
theorem l_m1 : (-1 : Int32) = iI (-1) := rfl
theorem l_m11 : (-11 : Int32) = iI (-11) := rfl
theorem l_m12 : (-12 : Int32) = iI (-12) := rfl
theorem l_m13 : (-13 : Int32) = iI (-13) := rfl
theorem l_m14 : (-14 : Int32) = iI (-14) := rfl
theorem l_m15 : (-15 : Int32) = iI (-15) := rfl
theorem iI_max {a b : Int} (h1 : -2147483648 ≤ a) (h2 : a < 2147483648) (h3 : -2147483648 ≤ b) (h4 : b < 2147483648) : mxI (iI a) (iI b) = iI (max a b) := by
  unfold mxI
  by_cases h : a < b
  · rw [if_pos ((iI_lt h1 h2 h3 h4).mpr h), Int.max_eq_right (by omega)]
  · rw [if_neg (fun q => h ((iI_lt h1 h2 h3 h4).mp q)), Int.max_eq_left (by omega)]
theorem iI_min {a b : Int} (h1 : -2147483648 ≤ a) (h2 : a < 2147483648) (h3 : -2147483648 ≤ b) (h4 : b < 2147483648) : mnI (iI a) (iI b) = iI (min a b) := by
  unfold mnI
  by_cases h : b < a
  · rw [if_pos ((iI_lt h3 h4 h1 h2).mpr h), Int.min_eq_right (by omega)]
  · rw [if_neg (fun q => h ((iI_lt h3 h4 h1 h2).mp q)), Int.min_eq_left (by omega)]
theorem wr_s (I : Mm) (a j : Nat) (v : Int32) : wr I a j v a j = v := if_pos ⟨rfl, rfl⟩
theorem wr_n {I : Mm} {a j b k : Nat} {v : Int32} (h : ¬ (b = a ∧ k = j)) : wr I a j v b k = I b k := if_neg h
theorem bd_s {α β : Type} {a : α} {I : Mm} {k : α → Mm → Option β} : bd (some (a, I)) k = k a I := rfl
theorem ltm_s {α β : Type} {a : α} {k : α → β} : ltm a k = k a := rfl
theorem on_0 {β : Type} {A : β} {B : Nat → β} : onm none A B = A := rfl
theorem on_1 {β : Type} {a : Nat} {A : β} {B : Nat → β} : onm (some a) A B = B a := rfl
/-! ===== trees: stall, weight, load, what is to the left, to the right ===== -/
abbrev Tr : Type := Std.DTreeMap.Internal.Impl Nat (fun _ => Nat)
def cnt : Tr → Nat
  | .leaf => 0
  | .inner _ _ _ l r => cnt l + 1 + cnt r
/-- the sheaves in the order of the weights: weight, load, depth -/
def dl : Nat → Tr → List (Nat × Nat × Nat)
  | _, .leaf => []
  | d, .inner _ w ld l r => dl (d + 1) l ++ (w, ld, d) :: dl (d + 1) r
theorem dl_len : ∀ (t : Tr) (d : Nat), (dl d t).length = cnt t
  | .leaf, _ => rfl
  | .inner _ _ _ l r, d => by
    simp only [dl, cnt, List.length_append, List.length_cons, dl_len l, dl_len r]
    omega
