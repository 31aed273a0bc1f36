/-! ===== the class's rick: n sheaves in the order of their weights; what its reads answer ===== -/
/-- what a rick holds: n, and weight, load, depth by the place -/
def RK (I : Mm) (r n : Nat) (wv lv dv : Nat → Int) : Prop := I r 3 = iI n ∧ n ≤ 30 ∧ (∀ p, p < n → I (r + 1) p = iI (wv p) ∧ I (r + 2) p = iI (lv p) ∧ I (r + 3) p = iI (dv p)) ∧ ∀ p, p < n → 0 ≤ wv p ∧ wv p < 1000 ∧ 0 ≤ lv p ∧ lv p < 100 ∧ 0 ≤ dv p ∧ dv p < 31
/-- by a whole number as the place, and a value where there is none -/
def atZ (n : Nat) (f : Nat → Int) (z e : Int) : Int := if 0 ≤ z ∧ z < n then f z.toNat else e
theorem atZ_in {n : Nat} {f : Nat → Int} {z e : Int} (h : 0 ≤ z) (h2 : z < n) : atZ n f z e = f z.toNat := if_pos ⟨h, h2⟩
theorem atZ_out {n : Nat} {f : Nat → Int} {z e : Int} (h : ¬ (0 ≤ z ∧ z < n)) : atZ n f z e = e := if_neg h
theorem atZ_n {n : Nat} {f : Nat → Int} {p : Nat} {e : Int} (h : p < n) : atZ n f (p : Int) e = f p := by
  rw [atZ_in (by omega) (by omega)]
  rfl
section RKS
variable {I : Mm} {r n : Nat} {wv lv dv : Nat → Int}
theorem c_weightAt (R : RK I r n wv lv dv) {z : Int} (h1 : -2147483648 ≤ z) (h2 : z < 2147483648) : fX1_weightAt r (iI z) I = some (iI (atZ n wv z (-15)), I) := by
  obtain ⟨a1, a2, a3, a4⟩ := R
  unfold fX1_weightAt
  simp (disch := omega) only [a1, l_0, l_30, l_m15, iI_lt, iI_le, iI_cl]
  by_cases c1 : z < 0
  · rw [if_pos c1, atZ_out (by omega)]
  · rw [if_neg c1]
    by_cases c2 : (n : Int) ≤ z
    · rw [if_pos c2, atZ_out (by omega)]
    · rw [if_neg c2, if_neg (by omega), if_neg (by omega), atZ_in (by omega) (by omega), (a3 z.toNat (by omega)).1]
theorem c_loadAt (R : RK I r n wv lv dv) {z : Int} (h1 : -2147483648 ≤ z) (h2 : z < 2147483648) : fX1_loadAt r (iI z) I = some (iI (atZ n lv z 0), I) := by
  obtain ⟨a1, a2, a3, a4⟩ := R
  unfold fX1_loadAt
  simp (disch := omega) only [a1, l_0, l_30, iI_lt, iI_le, iI_cl]
  by_cases c1 : z < 0
  · rw [if_pos c1, atZ_out (by omega)]
  · rw [if_neg c1]
    by_cases c2 : (n : Int) ≤ z
    · rw [if_pos c2, atZ_out (by omega)]
    · rw [if_neg c2, if_neg (by omega), if_neg (by omega), atZ_in (by omega) (by omega), (a3 z.toNat (by omega)).2.1]
theorem c_depthAt (R : RK I r n wv lv dv) {z : Int} (h1 : -2147483648 ≤ z) (h2 : z < 2147483648) : fX1_depthAt r (iI z) I = some (iI (atZ n dv z (-1)), I) := by
  obtain ⟨a1, a2, a3, a4⟩ := R
  unfold fX1_depthAt
  simp (disch := omega) only [a1, l_0, l_30, l_m1, iI_lt, iI_le, iI_cl]
  by_cases c1 : z < 0
  · rw [if_pos c1, atZ_out (by omega)]
  · rw [if_neg c1]
    by_cases c2 : (n : Int) ≤ z
    · rw [if_pos c2, atZ_out (by omega)]
    · rw [if_neg c2, if_neg (by omega), if_neg (by omega), atZ_in (by omega) (by omega), (a3 z.toNat (by omega)).2.2]
theorem c_isPlace (R : RK I r n wv lv dv) {z : Int} (h1 : -2147483648 ≤ z) (h2 : z < 2147483648) : fX1_isPlace r (iI z) I = some (if 0 ≤ z ∧ z < n then 1 else 0, I) := by
  obtain ⟨a1, a2, a3, a4⟩ := R
  unfold fX1_isPlace
  by_cases c1 : z < 0
  · rw [if_pos (by rw [l_0, iI_lt h1 h2 (by omega) (by omega)]; exact c1), if_neg (by omega)]
  · rw [if_neg (by rw [l_0, iI_lt h1 h2 (by omega) (by omega)]; exact c1), a1]
    by_cases c2 : (n : Int) ≤ z
    · rw [if_pos ((iI_le (by omega) (by omega) h1 h2).mpr c2), if_neg (by omega)]
    · rw [if_neg (fun q => c2 ((iI_le (by omega) (by omega) h1 h2).mp q)), if_pos (by omega)]
theorem dv_rng (R : RK I r n wv lv dv) (z : Int) : -1 ≤ atZ n dv z (-1) ∧ atZ n dv z (-1) < 31 := by
  unfold atZ
  by_cases h : 0 ≤ z ∧ z < n
  · rw [if_pos h]
    have := R.2.2.2 z.toNat (by omega)
    omega
  · rw [if_neg h]; omega
theorem lv_rng (R : RK I r n wv lv dv) (z : Int) : 0 ≤ atZ n lv z 0 ∧ atZ n lv z 0 < 100 := by
  unfold atZ
  by_cases h : 0 ≤ z ∧ z < n
  · rw [if_pos h]
    have := R.2.2.2 z.toNat (by omega)
    omega
  · rw [if_neg h]; omega
theorem wv_rng (R : RK I r n wv lv dv) (z : Int) : -15 ≤ atZ n wv z (-15) ∧ atZ n wv z (-15) < 1000 := by
  unfold atZ
  by_cases h : 0 ≤ z ∧ z < n
  · rw [if_pos h]
    have := R.2.2.2 z.toNat (by omega)
    omega
  · rw [if_neg h]; omega
/-- the first place with this weight from i on -/
def fndZ (n : Nat) (wv : Nat → Int) (x : Int) : Nat → Nat → Int
  | 0, _ => -1
  | k + 1, i => if n ≤ i then -1 else if wv i = x then i else fndZ n wv x k (i + 1)
theorem c_find_p (R : RK I r n wv lv dv) {x : Int} (h1 : -2147483648 ≤ x) (h2 : x < 2147483648) : ∀ (k i m : Nat), i + k = 31 → k < m → fX1_find_p2 m r (iI x) (iI i) I = some (iI (fndZ n wv x k i), I) := by
  intro k
  induction k with
  | zero =>
    intro i m hi hm
    obtain ⟨m, rfl⟩ : ∃ q, m = q + 1 := ⟨m - 1, by omega⟩
    have hn := R.2.1
    rw [fX1_find_p2, R.1, if_pos ((iI_le (by omega) (by omega) (by omega) (by omega)).mpr (by omega))]
    rfl
  | succ k ih =>
    intro i m hi hm
    obtain ⟨m, rfl⟩ : ∃ q, m = q + 1 := ⟨m - 1, by omega⟩
    have hn := R.2.1
    rw [fX1_find_p2, R.1, fndZ]
    by_cases c : n ≤ i
    · rw [if_pos ((iI_le (by omega) (by omega) (by omega) (by omega)).mpr (by omega)), if_pos c]
      rfl
    · rw [if_neg (fun q => c (by have := (iI_le (by omega) (by omega) (by omega) (by omega)).mp q; omega)), if_neg c, c_weightAt R (by omega) (by omega), bd_s, atZ_n (by omega)]
      have hw := R.2.2.2 i (by omega)
      by_cases c2 : wv i = x
      · rw [if_pos (by rw [c2]), if_pos c2]
      · rw [if_neg (fun q => c2 ((iI_eq (by omega) (by omega) h1 h2).mp q)), if_neg c2, ltm_s, l_1, iI_add]
        exact ih (i + 1) m (by omega) (by omega)
theorem c_find (R : RK I r n wv lv dv) {x : Int} (h1 : -2147483648 ≤ x) (h2 : x < 2147483648) : fX1_find r (iI x) I = some (iI (fndZ n wv x 31 0), I) := by
  unfold fX1_find
  exact c_find_p R h1 h2 31 0 1000 rfl (by decide)
end RKS
