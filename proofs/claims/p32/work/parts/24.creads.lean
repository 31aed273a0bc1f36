/-! ===== the class's rick that holds a tree ===== -/
def RT (I : Mm) (r : Nat) (t : Tr) : Prop := I r 3 = iI (cnt t) ∧ ∀ p, p < cnt t → I (r + 1) p = iI (gw t p) ∧ I (r + 2) p = iI (gl t p) ∧ I (r + 3) p = iI (gd t p)
def WZ (t : Tr) (z : Int) : Int := if 0 ≤ z ∧ z < cnt t then gw t z.toNat else -15
def LZ (t : Tr) (z : Int) : Int := if 0 ≤ z ∧ z < cnt t then gl t z.toNat else 0
def DZ (t : Tr) (z : Int) : Int := if 0 ≤ z ∧ z < cnt t then gd t z.toNat else -1
theorem tn_n (q : Nat) : ((q : Int)).toNat = q := rfl
theorem tn_s (q : Nat) : ((q : Int) - 1).toNat = q - 1 := by omega
theorem tn_a (q : Nat) : ((q : Int) + 1).toNat = q + 1 := by omega
theorem iI_neg (a : Int) : - iI a = iI (-a) := by
  have : iI 0 - iI a = iI (0 - a) := iI_sub 0 a
  rw [Int.zero_sub] at this
  rw [← this]
  show - iI a = 0 - iI a
  exact (Int32.zero_sub _).symm
theorem rk_of {I : Mm} {r : Nat} {t : Tr} (G : GT t) (R : RT I r t) : RK I r (cnt t) (fun p => (gw t p : Int)) (fun p => (gl t p : Int)) (fun p => (gd t p : Int)) := by
  refine ⟨R.1, G.1, R.2, fun p h => ?_⟩
  have a := G.2.1 p h
  have b := gd_lt t p h
  have c := G.1
  dsimp only
  omega
theorem dz_rng {t : Tr} (G : GT t) (z : Int) : -1 ≤ DZ t z ∧ DZ t z < 30 := by
  have c := G.1
  unfold DZ
  split
  · next h => have := gd_lt t z.toNat (by omega); omega
  · omega
theorem wz_rng {t : Tr} (G : GT t) (z : Int) : -15 ≤ WZ t z ∧ WZ t z < 1000 := by
  unfold WZ
  split
  · next h => have := G.2.1 z.toNat (by omega); omega
  · omega
theorem lz_rng {t : Tr} (G : GT t) (z : Int) : 0 ≤ LZ t z ∧ LZ t z < 100 := by
  unfold LZ
  split
  · next h => have := G.2.1 z.toNat (by omega); omega
  · omega
section CR
variable {I : Mm} {r : Nat} {t : Tr}
theorem t_weightAt (G : GT t) (R : RT I r t) {z : Int} (h1 : -2147483648 ≤ z) (h2 : z < 2147483648) : fX1_weightAt r (iI z) I = some (iI (WZ t z), I) := c_weightAt (rk_of G R) h1 h2
theorem t_loadAt (G : GT t) (R : RT I r t) {z : Int} (h1 : -2147483648 ≤ z) (h2 : z < 2147483648) : fX1_loadAt r (iI z) I = some (iI (LZ t z), I) := c_loadAt (rk_of G R) h1 h2
theorem t_depthAt (G : GT t) (R : RT I r t) {z : Int} (h1 : -2147483648 ≤ z) (h2 : z < 2147483648) : fX1_depthAt r (iI z) I = some (iI (DZ t z), I) := c_depthAt (rk_of G R) h1 h2
theorem t_isPlace (G : GT t) (R : RT I r t) {z : Int} (h1 : -2147483648 ≤ z) (h2 : z < 2147483648) : fX1_isPlace r (iI z) I = some (iI (if 0 ≤ z ∧ z < cnt t then 1 else 0), I) := by
  rw [c_isPlace (rk_of G R) h1 h2]
  split <;> rfl
theorem t_fo_p (G : GT t) (R : RT I r t) {p : Nat} (hp : p < cnt t) : ∀ k q m, q = foP t p + k → q ≤ p → k < m → fX1_firstOf_p2 m r (iI p) (iI q) I = some (iI (foP t p), I) := by
  have g := G.1
  have f := fo_le t p hp
  have dp := gd_lt t p hp
  intro k
  induction k with
  | zero =>
    intro q m hq h2 hm
    obtain ⟨m, rfl⟩ : ∃ x, m = x + 1 := ⟨m - 1, by omega⟩
    obtain rfl : q = foP t p := by omega
    rw [fX1_firstOf_p2]
    by_cases c : foP t p = 0
    · simp (disch := omega) only [l_0, iI_le, if_pos]
    · have a := part_l t p hp
      have b := gd_lt t (foP t p - 1) (by omega)
      simp (disch := omega) only [l_0, l_1, iI_le, iI_sub, if_neg, t_depthAt G R, bd_s, DZ, if_pos, tn_n, tn_s]
  | succ k ih =>
    intro q m hq h2 hm
    obtain ⟨m, rfl⟩ : ∃ x, m = x + 1 := ⟨m - 1, by omega⟩
    have a := part_deep t p (q - 1) hp (by omega) (by omega) (by omega)
    have b := gd_lt t (q - 1) (by omega)
    rw [fX1_firstOf_p2]
    simp (disch := omega) only [l_0, l_1, iI_le, iI_sub, if_neg, t_depthAt G R, bd_s, DZ, if_pos, tn_n, tn_s, iI_neg, iI_add, ltm_s]
    rw [show (q : Int) + -1 = ((q - 1 : Nat) : Int) by omega]
    exact ih (q - 1) m (by omega) (by omega) (by omega)
theorem t_firstOf (G : GT t) (R : RT I r t) {p : Nat} (hp : p < cnt t) : fX1_firstOf r (iI p) I = some (iI (foP t p), I) := by
  have g := G.1
  have f := fo_le t p hp
  exact t_fo_p G R hp (p - foP t p) p 1000 (by omega) (by omega) (by omega)
theorem t_lo_p (G : GT t) (R : RT I r t) {p : Nat} (hp : p < cnt t) : ∀ k q m, q + k = loP t p → p ≤ q → k < m → fX1_lastOf_p2 m r (iI p) (iI q) I = some (iI (loP t p), I) := by
  have g := G.1
  have f := fo_le t p hp
  have dp := gd_lt t p hp
  intro k
  induction k with
  | zero =>
    intro q m hq h2 hm
    obtain ⟨m, rfl⟩ : ∃ x, m = x + 1 := ⟨m - 1, by omega⟩
    obtain rfl : q = loP t p := by omega
    rw [fX1_lastOf_p2, R.1]
    by_cases c : loP t p + 1 = cnt t
    · simp (disch := omega) only [l_0, l_1, iI_sub, iI_le, if_pos]
    · have a := part_r t p hp
      have b := gd_lt t (loP t p + 1) (by omega)
      simp (disch := omega) only [l_0, l_1, iI_le, iI_sub, if_neg, t_depthAt G R, bd_s, DZ, if_pos, tn_n, tn_a, iI_add]
  | succ k ih =>
    intro q m hq h2 hm
    obtain ⟨m, rfl⟩ : ∃ x, m = x + 1 := ⟨m - 1, by omega⟩
    have a := part_deep t p (q + 1) hp (by omega) (by omega) (by omega)
    have b := gd_lt t (q + 1) (by omega)
    rw [fX1_lastOf_p2, R.1]
    simp (disch := omega) only [l_0, l_1, iI_le, iI_sub, if_neg, t_depthAt G R, bd_s, DZ, if_pos, tn_n, tn_a, iI_add, ltm_s]
    exact ih (q + 1) m (by omega) (by omega) (by omega)
theorem t_lastOf (G : GT t) (R : RT I r t) {p : Nat} (hp : p < cnt t) : fX1_lastOf r (iI p) I = some (iI (loP t p), I) := by
  have g := G.1
  have f := fo_le t p hp
  exact t_lo_p G R hp (loP t p - p) p 1000 (by omega) (by omega) (by omega)
theorem t_above (G : GT t) (R : RT I r t) {p : Nat} (hp : p < cnt t) : fX1_above r (iI p) I = some (iI (paP t p), I) := by
  have g := G.1
  have f := fo_le t p hp
  have d1 := dz_rng G (foP t p - 1)
  have d2 := dz_rng G (loP t p + 1)
  have pr := pa_rng t p hp
  rw [fX1_above]
  rcases pa_is t p hp with ⟨a1, a2, a3, a4⟩ | ⟨a1, a2, a3, a4⟩ | ⟨a1, a2, a3, a4⟩
  · simp (disch := omega) only [t_firstOf G R, t_lastOf G R, l_0, l_1, iI_le, iI_sub, iI_add, t_depthAt G R, bd_s, ltm_s, t_isPlace G R, DZ, if_neg, if_pos, Int.le_refl, iI_neg, iI_eq]
    rw [if_pos trivial, a1]
  · have b := gd_lt t (foP t p - 1) (by omega)
    have e : DZ t (foP t p - 1) = gd t (foP t p - 1) := by simp (disch := omega) only [DZ, if_pos, tn_s]
    have e2 : DZ t (loP t p + 1) < gd t (foP t p - 1) := by
      by_cases c : loP t p + 1 = cnt t
      · simp (disch := omega) only [DZ, if_neg]; omega
      · have := gd_lt t (loP t p + 1) (by omega)
        simp (disch := omega) only [DZ, if_pos, tn_a]; omega
    simp (disch := omega) only [t_firstOf G R, t_lastOf G R, l_0, l_1, iI_le, iI_sub, iI_add, t_depthAt G R, bd_s, ltm_s, t_isPlace G R, if_neg, if_pos, iI_eq]
    rw [a1]
  · have b := gd_lt t (loP t p + 1) (by omega)
    have e : DZ t (loP t p + 1) = gd t (loP t p + 1) := by simp (disch := omega) only [DZ, if_pos, tn_a]
    have e2 : DZ t (foP t p - 1) < gd t (loP t p + 1) := by
      by_cases c : foP t p = 0
      · simp (disch := omega) only [DZ, if_neg]; omega
      · have := gd_lt t (foP t p - 1) (by omega)
        simp (disch := omega) only [DZ, if_pos, tn_s]; omega
    simp (disch := omega) only [t_firstOf G R, t_lastOf G R, l_0, l_1, iI_le, iI_sub, iI_add, t_depthAt G R, bd_s, ltm_s, t_isPlace G R, if_neg, if_pos, iI_eq]
    rw [a1]
/-- whether a part leans -/
def lnB (lim : Int) : Tr → Bool
  | .leaf => false
  | .inner _ _ _ l r => decide (lim * (cnt l + 1 + cnt r : Nat) < 100 * (max (cnt l) (cnt r) : Nat))
theorem t_leans (G : GT t) (R : RT I r t) {p : Nat} (hp : p < cnt t) {lim : Int} (hl : 55 ≤ lim ∧ lim ≤ 90) : fX1_leans r (iI p) (iI lim) I = some (iI (if lnB lim (sbP t p) = true then 1 else 0), I) := by
  have g := G.1
  have f := fo_le t p hp
  obtain ⟨l, s, e1, e2, e3⟩ := sb_is t p hp
  rw [e1]
  simp only [lnB, decide_eq_true_eq]
  have m0 : lim * ((cnt l + 1 + cnt s : Nat) : Int) ≤ 90 * ((cnt l + 1 + cnt s : Nat) : Int) := Int.mul_le_mul_of_nonneg_right hl.2 (by omega)
  have m1 : 0 ≤ lim * ((cnt l + 1 + cnt s : Nat) : Int) := Int.mul_nonneg (by omega) (by omega)
  rw [fX1_leans]
  simp (disch := omega) only [t_firstOf G R, t_lastOf G R, l_1, l_100, iI_sub, iI_add, iI_mul, bd_s, ltm_s, iI_max]
  rw [show (loP t p : Int) - foP t p + 1 = ((cnt l + 1 + cnt s : Nat) : Int) by omega, show max ((p : Int) - foP t p) (loP t p - p) = ((max (cnt l) (cnt s) : Nat) : Int) by omega]
  simp (disch := omega) only [iI_le]
  by_cases c : lim * ((cnt l + 1 + cnt s : Nat) : Int) < 100 * ((max (cnt l) (cnt s) : Nat) : Int)
  · rw [if_neg (by omega), if_pos c]
  · rw [if_pos (by omega), if_neg c]; rfl
/-- the one of least depth in a stretch -/
theorem t_topOf (G : GT t) (R : RT I r t) {lo hi : Int} {m0 : Nat} (h1 : 0 ≤ lo) (h2 : lo ≤ m0) (h3 : m0 ≤ hi) (h4 : hi < cnt t) (h5 : ∀ q : Nat, lo ≤ q → q ≤ hi → q ≠ m0 → gd t m0 < gd t q) : fX1_topOf r (iI lo) (iI hi) I = some (iI m0, I) := by
  have g := G.1
  have gm := gd_lt t m0 (by omega)
  have key : ∀ (k : Nat) (c i : Int) m, i + k = hi + 1 → k < m → lo ≤ i → ((c = -1 ∧ i = lo) ∨ (lo ≤ c ∧ c < i ∧ i ≤ m0) ∨ (c = m0 ∧ (m0 : Int) < i)) → fX1_topOf_p9 m r (iI hi) (iI c) (iI i) I = some (iI m0, I) := by
    intro k
    induction k with
    | zero =>
      intro c i m hi hm hlo hc
      obtain ⟨m, rfl⟩ : ∃ x, m = x + 1 := ⟨m - 1, by omega⟩
      rw [fX1_topOf_p9]
      simp (disch := omega) only [iI_lt, if_pos]
      rw [show c = m0 by omega]
    | succ k ih =>
      intro c i m hi hm hlo hc
      obtain ⟨m, rfl⟩ : ∃ x, m = x + 1 := ⟨m - 1, by omega⟩
      rw [fX1_topOf_p9, R.1]
      simp (disch := omega) only [iI_lt, iI_le, if_neg, l_1, iI_neg, iI_eq, iI_add, ltm_s, t_depthAt G R, bd_s]
      have di := dz_rng G i
      have dc := dz_rng G c
      rcases hc with ⟨c1, c2⟩ | ⟨c1, c2, c3⟩ | ⟨c1, c2⟩
      · rw [if_pos c1]
        by_cases d : i = m0
        · exact ih i (i + 1) m (by omega) (by omega) (by omega) (by omega)
        · exact ih i (i + 1) m (by omega) (by omega) (by omega) (by omega)
      · rw [if_neg (by omega)]
        simp (disch := omega) only [iI_le]
        by_cases d : i = m0
        · have e := h5 c.toNat (by omega) (by omega) (by omega)
          have ec : DZ t c = gd t c.toNat := by simp (disch := omega) only [DZ, if_pos]
          have ei : DZ t i = gd t m0 := by rw [d]; simp (disch := omega) only [DZ, if_pos, tn_n]
          rw [if_neg (by omega)]
          exact ih i (i + 1) m (by omega) (by omega) (by omega) (by omega)
        · by_cases e : DZ t c ≤ DZ t i
          · rw [if_pos e]
            exact ih c (i + 1) m (by omega) (by omega) (by omega) (by omega)
          · rw [if_neg e]
            exact ih i (i + 1) m (by omega) (by omega) (by omega) (by omega)
      · rw [if_neg (by omega)]
        have e := h5 i.toNat (by omega) (by omega) (by omega)
        have ec : DZ t c = gd t m0 := by rw [c1]; simp (disch := omega) only [DZ, if_pos, tn_n]
        have ei : DZ t i = gd t i.toNat := by simp (disch := omega) only [DZ, if_pos]
        simp (disch := omega) only [iI_le, if_pos]
        exact ih c (i + 1) m (by omega) (by omega) (by omega) (by omega)
  rw [fX1_topOf]
  simp (disch := omega) only [l_0, l_1, iI_neg, iI_max, ltm_s]
  rw [show max lo 0 = lo by omega]
  exact key (hi + 1 - lo).toNat (-1) lo 1000 (by omega) (by omega) (by omega) (by omega)
theorem t_topNone (G : GT t) (R : RT I r t) {lo hi : Int} (h1 : 0 ≤ lo) (h2 : lo ≤ 100) (h3 : hi < lo) (h4 : -100 ≤ hi) : fX1_topOf r (iI lo) (iI hi) I = some (iI (-1), I) := by
  rw [fX1_topOf]
  simp (disch := omega) only [l_0, l_1, iI_neg, iI_max, ltm_s]
  rw [show max lo 0 = lo by omega]
  rw [fX1_topOf_p9]
  simp (disch := omega) only [iI_lt, if_pos]
/-- the top of a block -/
theorem t_topB (G : GT t) (R : RT I r t) {l s : Tr} {lo d k w ld : Nat} (B : BL t lo d (.inner k w ld l s)) {hi : Int} (hh : hi = (lo + cnt l + cnt s : Nat)) : fX1_topOf r (iI lo) (iI hi) I = some (iI ((lo + cnt l : Nat) : Int), I) := by
  have m := bl_m B
  refine t_topOf G R (by omega) (by omega) (by omega) (by omega) (fun q h1 h2 h3 => ?_)
  rw [m.2.2.2.2.1]
  exact m.2.2.2.2.2.2.2.2 q (by omega) (by omega) h3
end CR
