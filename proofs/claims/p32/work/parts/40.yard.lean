/-! ===== yards and rows ===== -/
def CY (I : Mm) (y : Nat) (T : Nat → Tr) (mo : Nat → Nat) (ct : Nat → Int32) : Prop := (∀ i, i < 3 → RT I (y + 2 + 4 * i) (T i) ∧ I (y + 2 + 4 * i) 4 = iI (mo i)) ∧ ∀ j, j < 7 → I y (j + 1) = ct j
def OKY (T : Nat → Tr) (mo : Nat → Nat) (ct : Nat → Int32) : Prop := (∀ i, i < 3 → GT (T i) ∧ mo i ≤ 30) ∧ (∃ lim : Int, ct 0 = iI lim ∧ 55 ≤ lim ∧ lim ≤ 90) ∧ ct 1 - ct 2 = iI ((cnt (T 0) + cnt (T 1) + cnt (T 2) : Nat) : Int)
theorem cy_of {I J : Mm} {y : Nat} {T : Nat → Tr} {mo : Nat → Nat} {ct : Nat → Int32} (C : CY I y T mo ct) (h : ∀ a j, y ≤ a → a ≤ y + 13 → J a j = I a j) : CY J y T mo ct :=
  ⟨fun i hi => ⟨rt_of (C.1 i hi).1 (fun a j h1 h2 => h a j (by omega) (by omega)), by rw [h _ _ (by omega) (by omega)]; exact (C.1 i hi).2⟩, fun j hj => by rw [h _ _ (by omega) (by omega)]; exact C.2 j hj⟩
theorem cpI_e (I : Mm) (s t n b k : Nat) : cpI I s t n b k = if b = t ∧ k < n then I s k else I b k := rfl
/-- a yard of the class's -/
def isY (y : Nat) : Prop := y = 1 ∨ y = 15 ∨ ∃ j, j < 9 ∧ y = 37 + 14 * j
theorem kd_r {y i : Nat} (h : isY y) (hi : i < 3) : kd0 (y + 2 + 4 * i) = 1 := by
  rcases h with rfl | rfl | ⟨j, hj, rfl⟩
  · match i, hi with
    | 0, _ => rfl
    | 1, _ => rfl
    | 2, _ => rfl
  · match i, hi with
    | 0, _ => rfl
    | 1, _ => rfl
    | 2, _ => rfl
  · match i, hi, j, hj with
    | 0, _, 0, _ => rfl
    | 0, _, 1, _ => rfl
    | 0, _, 2, _ => rfl
    | 0, _, 3, _ => rfl
    | 0, _, 4, _ => rfl
    | 0, _, 5, _ => rfl
    | 0, _, 6, _ => rfl
    | 0, _, 7, _ => rfl
    | 0, _, 8, _ => rfl
    | 1, _, 0, _ => rfl
    | 1, _, 1, _ => rfl
    | 1, _, 2, _ => rfl
    | 1, _, 3, _ => rfl
    | 1, _, 4, _ => rfl
    | 1, _, 5, _ => rfl
    | 1, _, 6, _ => rfl
    | 1, _, 7, _ => rfl
    | 1, _, 8, _ => rfl
    | 2, _, 0, _ => rfl
    | 2, _, 1, _ => rfl
    | 2, _, 2, _ => rfl
    | 2, _, 3, _ => rfl
    | 2, _, 4, _ => rfl
    | 2, _, 5, _ => rfl
    | 2, _, 6, _ => rfl
    | 2, _, 7, _ => rfl
    | 2, _, 8, _ => rfl
theorem kd_y {y : Nat} (h : isY y) : kd0 y = 3 := by
  rcases h with rfl | rfl | ⟨j, hj, rfl⟩
  · rfl
  · rfl
  · match j, hj with
    | 0, _ => rfl
    | 1, _ => rfl
    | 2, _ => rfl
    | 3, _ => rfl
    | 4, _ => rfl
    | 5, _ => rfl
    | 6, _ => rfl
    | 7, _ => rfl
    | 8, _ => rfl
section YD
variable {I : Mm}
theorem c_rickAt {y : Nat} {z : Int} (h1 : -2147483648 ≤ z) (h2 : z < 2147483648) : fX3_rickAt y (iI z) I = some (if 0 ≤ z ∧ z < 3 then some (y + 2 + 4 * z.toNat) else none, I) := by
  unfold fX3_rickAt
  simp (disch := omega) only [l_0, l_3, iI_lt, iI_le, iI_cl]
  by_cases c : z < 0
  · rw [if_pos c, if_neg (by omega)]
  · rw [if_neg c]
    by_cases d : 3 ≤ z
    · rw [if_pos d, if_neg (by omega)]
    · rw [if_neg d, if_neg (by omega), if_pos (by omega)]
theorem c_rick {y i : Nat} (hi : i < 3) : fX3_rickAt y (iI i) I = some (some (y + 2 + 4 * i), I) := by
  rw [c_rickAt (by omega) (by omega), if_pos (by omega)]; rfl
/-- a rick copied into another -/
theorem c_copyR {a b : Nat} (h : a + 3 < b ∨ b + 3 < a) : ∃ J, fX1_copyFrom a b I = some ((), J) ∧ (∀ x j, (x < a ∨ a + 3 < x) → J x j = I x j) ∧ J a 3 = I b 3 ∧ J a 4 = I b 4 ∧ ∀ j, j < 30 → J (a + 1) j = I (b + 1) j ∧ J (a + 2) j = I (b + 2) j ∧ J (a + 3) j = I (b + 3) j := by
  rw [fX1_copyFrom, ltm_s, ltm_s, ltm_s, ltm_s, ltm_s]
  refine ⟨_, rfl, fun x j hx => ?_, ?_, ?_, fun j hj => ⟨?_, ?_, ?_⟩⟩
  · simp (disch := omega) only [wr_e, cpI_e, if_neg]
  · simp (disch := omega) only [wr_e, cpI_e, if_neg, if_pos]
    rw [if_pos ⟨trivial, trivial⟩]
  · simp (disch := omega) only [wr_e, cpI_e, if_neg, if_pos]
    rw [if_pos ⟨trivial, trivial⟩]
  · simp (disch := omega) only [wr_e, cpI_e, if_neg, if_pos]
    rw [if_pos ⟨trivial, hj⟩]
  · simp (disch := omega) only [wr_e, cpI_e, if_neg, if_pos]
    rw [if_pos ⟨trivial, hj⟩]
  · simp (disch := omega) only [wr_e, cpI_e, if_neg, if_pos]
    rw [if_pos ⟨trivial, hj⟩]
/-- a yard copied into another -/
theorem c_copyY {a b : Nat} (ha : isY a) (hb : isY b) (h : a + 13 < b ∨ b + 13 < a) {T : Nat → Tr} {mo : Nat → Nat} {ct : Nat → Int32} (O : OKY T mo ct) (C : CY I b T mo ct) : ∃ J, fX3_copyFrom a b I = some ((), J) ∧ CY J a T mo ct ∧ ∀ x j, (x < a ∨ a + 13 < x) → J x j = I x j := by
  have key : ∀ (k i m : Nat) (J0 : Mm), i + k = 3 → k + 1 < m → (∀ q, q < i → RT J0 (a + 2 + 4 * q) (T q) ∧ J0 (a + 2 + 4 * q) 4 = iI (mo q)) → (∀ x j, (x < a ∨ a + 13 < x) → J0 x j = I x j) → ∃ J, fX3_copyFrom_p2 m a b (iI i) J0 = some ((), J) ∧ CY J a T mo ct ∧ ∀ x j, (x < a ∨ a + 13 < x) → J x j = I x j := by
    intro k
    induction k with
    | zero =>
      intro i m J0 hi hm h1 h2
      obtain ⟨m, rfl⟩ : ∃ x, m = x + 1 := ⟨m - 1, by omega⟩
      obtain rfl : i = 3 := by omega
      rw [fX3_copyFrom_p2, if_pos (by rw [l_3, iI_le (by omega) (by omega) (by omega) (by omega)]; omega), ltm_s, ltm_s, ltm_s, ltm_s, ltm_s, ltm_s, ltm_s]
      have c := fun j hj => C.2 j hj
      refine ⟨_, rfl, ⟨fun q hq => ⟨rt_of (h1 q hq).1 (fun x j a1 a2 => by simp (disch := omega) only [wr_e, if_neg]), by simp (disch := omega) only [wr_e, if_neg]; exact (h1 q hq).2⟩, fun j hj => ?_⟩, fun x j hx => by simp (disch := omega) only [wr_e, if_neg]; exact h2 x j hx⟩
      have e : ∀ j, J0 b j = I b j := fun j => h2 b j (by omega)
      have cj := C.2 j hj
      rw [← cj, ← e]
      match j, hj with
      | 0, _ => simp (disch := omega) [wr_e, if_neg]
      | 1, _ => simp (disch := omega) [wr_e, if_neg]
      | 2, _ => simp (disch := omega) [wr_e, if_neg]
      | 3, _ => simp (disch := omega) [wr_e, if_neg]
      | 4, _ => simp (disch := omega) [wr_e, if_neg]
      | 5, _ => simp (disch := omega) [wr_e, if_neg]
      | 6, _ => simp (disch := omega) [wr_e, if_neg]
    | succ k ih =>
      intro i m J0 hi hm h1 h2
      obtain ⟨m, rfl⟩ : ∃ x, m = x + 1 := ⟨m - 1, by omega⟩
      have g := (O.1 i (by omega)).1.1
      obtain ⟨J, e, f1, f2, f3, f4⟩ := @c_copyR J0 (a + 2 + 4 * i) (b + 2 + 4 * i) (by omega)
      have R := (C.1 i (by omega)).1
      have rb : ∀ x j, b ≤ x → x ≤ b + 13 → J0 x j = I x j := fun x j a1 a2 => h2 x j (by omega)
      obtain ⟨K, e2, k1, k2⟩ := ih (i + 1) m J (by omega) (by omega) (fun q hq => by
        by_cases c : q = i
        · subst c
          refine ⟨⟨by rw [f2, rb _ _ (by omega) (by omega)]; exact R.1, fun p hp => ?_⟩, by rw [f3, rb _ _ (by omega) (by omega)]; exact (C.1 q (by omega)).2⟩
          have f := f4 p (by omega)
          rw [f.1, f.2.1, f.2.2, rb _ _ (by omega) (by omega), rb _ _ (by omega) (by omega), rb _ _ (by omega) (by omega)]
          exact R.2 p hp
        · have hq' := h1 q (by omega)
          exact ⟨rt_of hq'.1 (fun x j a1 a2 => f1 x j (by omega)), by rw [f1 _ _ (by omega)]; exact hq'.2⟩) (fun x j hx => by rw [f1 x j (by omega)]; exact h2 x j hx)
      refine ⟨K, ?_, k1, k2⟩
      rw [fX3_copyFrom_p2, if_neg (by rw [l_3, iI_le (by omega) (by omega) (by omega) (by omega)]; omega), c_rick (by omega), bd_s, c_rick (by omega), bd_s, on_1, if_pos (kd_r ha (by omega)), on_1, if_pos (kd_r hb (by omega)), e, bd_s, ltm_s, l_1, iI_add]
      exact e2
  obtain ⟨J, e, h1, h2⟩ := key 3 0 1000 I (by omega) (by omega) (fun q hq => by omega) (fun _ _ _ => rfl)
  exact ⟨J, e, h1, h2⟩
theorem c_sheaves {y : Nat} (hy : isY y) {T : Nat → Tr} {mo : Nat → Nat} {ct : Nat → Int32} (C : CY I y T mo ct) : fX3_sheaves y I = some (iI ((cnt (T 0) + cnt (T 1) + cnt (T 2) : Nat) : Int), I) := by
  have all : ∀ m, fX3_sheaves_p4 (m + 4) y (iI 0) (iI ((0 : Nat) : Int)) I = some (iI ((cnt (T 0) + cnt (T 1) + cnt (T 2) : Nat) : Int), I) := by
    intro m
    have st : ∀ (i n : Nat) (a : Int), i < 3 → fX3_sheaves_p4 (n + 1) y (iI a) (iI i) I = fX3_sheaves_p4 n y (iI (a + cnt (T i))) (iI ((i + 1 : Nat) : Int)) I := fun i n a hi => by
      rw [fX3_sheaves_p4, if_neg (by rw [l_3, iI_le (by omega) (by omega) (by omega) (by omega)]; omega), c_rick hi, bd_s, on_1, if_pos (kd_r hy hi), (C.1 i hi).1.1, iI_add, ltm_s, ltm_s, l_1, iI_add]
      rfl
    rw [st 0 (m + 3) _ (by omega), st 1 (m + 2) _ (by omega), st 2 (m + 1) _ (by omega), fX3_sheaves_p4, if_pos (by rw [l_3, iI_le (by omega) (by omega) (by omega) (by omega)]; omega)]
    congr 3; omega
  rw [fX3_sheaves]
  exact all 996
theorem c_loads {y : Nat} (hy : isY y) {T : Nat → Tr} {mo : Nat → Nat} {ct : Nat → Int32} (O : OKY T mo ct) (C : CY I y T mo ct) : fX3_loads y I = some (iI (ldS (T 0) + ldS (T 1) + ldS (T 2)), I) := by
  have all : ∀ m, fX3_loads_p4 (m + 4) y (iI 0) (iI ((0 : Nat) : Int)) I = some (iI (ldS (T 0) + ldS (T 1) + ldS (T 2)), I) := by
    intro m
    have st : ∀ (i n : Nat) (a : Int), i < 3 → fX3_loads_p4 (n + 1) y (iI a) (iI i) I = fX3_loads_p4 n y (iI (a + ldS (T i))) (iI ((i + 1 : Nat) : Int)) I := fun i n a hi => by
      have G := (O.1 i hi).1
      have g := G.1
      have R := (C.1 i hi).1
      have e := t_loadsFrom G R (lo := 0) (hi := (cnt (T i) : Int) - 1) (by omega) (by omega) (by omega)
      rw [show ((cnt (T i) : Int) - 1 + 1).toNat = cnt (T i) by omega, show Int.toNat 0 = 0 from rfl, show sL (T i) 0 = 0 from rfl, Int.sub_zero, ← ld_is] at e
      rw [fX3_loads_p4, if_neg (by rw [l_3, iI_le (by omega) (by omega) (by omega) (by omega)]; omega), c_rick hi, bd_s, on_1, if_pos (kd_r hy hi), R.1, l_0, l_1, iI_sub, e, bd_s, iI_add, ltm_s, ltm_s, iI_add]
      rfl
    rw [st 0 (m + 3) _ (by omega), st 1 (m + 2) _ (by omega), st 2 (m + 1) _ (by omega), fX3_loads_p4, if_pos (by rw [l_3, iI_le (by omega) (by omega) (by omega) (by omega)]; omega)]
    congr 3; omega
  rw [fX3_loads]
  exact all 996
end YD
