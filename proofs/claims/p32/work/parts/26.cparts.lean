/-! ===== the class's rick by its parts ===== -/
theorem i64_w {z : Int} (h1 : -2147483648 ≤ z) (h2 : z < 2147483648) : (iI z).toInt64.toInt = z := by
  rw [Int32.toInt_toInt64, iI_t h1 h2]
theorem i64_1 {z : Int} (h1 : -2147483648 ≤ z) (h2 : z < 2147483648) : ((iI z).toInt64 + 1).toInt = z + 1 := by
  rw [Int64.toInt_add, i64_w h1 h2, show (1 : Int64).toInt = 1 from rfl]
  exact Int.bmod_eq_of_le (by omega) (by omega)
/-- the sum over a range of weights -/
def btZ (t : Tr) (a b : Int) : Int := sm (fun i => if a ≤ gw t i ∧ (gw t i : Int) ≤ b then (gl t i : Int) else 0) (cnt t)
theorem rk_mono {x y : Int} {t : Tr} (G : GT t) (h : x ≤ y) : rkQ x t ≤ rkQ y t := by
  by_cases c : rkQ x t ≤ rkQ y t
  · exact c
  · have a := rk_le x t
    have b := rk_lt x t (rkQ y t) G (by omega)
    have d := rk_ge y t (rkQ y t) G (Nat.le_refl _) (by omega)
    omega
theorem bt_is {t : Tr} (G : GT t) {a b : Int} : btZ t a b = if a ≤ b then sL t (rkQ (b + 1) t) - sL t (rkQ a t) else 0 := by
  by_cases c : a ≤ b
  · rw [if_pos c]
    have m := @rk_mono a (b + 1) t G (by omega)
    have k1 := rk_le a t
    have k2 := rk_le (b + 1) t
    have key : ∀ n, n ≤ cnt t → sm (fun i => if a ≤ gw t i ∧ (gw t i : Int) ≤ b then (gl t i : Int) else 0) n = sL t (min n (rkQ (b + 1) t)) - sL t (min n (rkQ a t)) := by
      intro n
      induction n with
      | zero => intro _; simp only [Nat.zero_min]; rw [sm]; omega
      | succ n ih =>
        intro hn
        rw [sm, ih (by omega)]
        have q1 := @rk_iff t a G n (by omega)
        have q2 := @rk_iff t (b + 1) G n (by omega)
        have s1 : ∀ x, sL t (x + 1) = sL t x + gl t x := fun _ => rfl
        by_cases d1 : n < rkQ a t
        · rw [if_neg (by omega), show min (n + 1) (rkQ (b + 1) t) = n + 1 by omega, show min (n + 1) (rkQ a t) = n + 1 by omega, show min n (rkQ (b + 1) t) = n by omega, show min n (rkQ a t) = n by omega]
          omega
        · by_cases d2 : n < rkQ (b + 1) t
          · rw [if_pos (by omega), show min (n + 1) (rkQ (b + 1) t) = n + 1 by omega, show min (n + 1) (rkQ a t) = rkQ a t by omega, show min n (rkQ (b + 1) t) = n by omega, show min n (rkQ a t) = rkQ a t by omega, s1]
            omega
          · rw [if_neg (by omega), show min (n + 1) (rkQ (b + 1) t) = rkQ (b + 1) t by omega, show min (n + 1) (rkQ a t) = rkQ a t by omega, show min n (rkQ (b + 1) t) = rkQ (b + 1) t by omega, show min n (rkQ a t) = rkQ a t by omega]
            omega
    rw [btZ, key (cnt t) (Nat.le_refl _), show min (cnt t) (rkQ (b + 1) t) = rkQ (b + 1) t by omega, show min (cnt t) (rkQ a t) = rkQ a t by omega]
  · rw [if_neg c]
    have key : ∀ n, sm (fun i => if a ≤ gw t i ∧ (gw t i : Int) ≤ b then (gl t i : Int) else 0) n = 0 := by
      intro n
      induction n with
      | zero => rfl
      | succ n ih => rw [sm, ih, if_neg (by omega)]; rfl
    exact key _
/-- carts: as they are loaded up to a place: whole carts ahead, and what lies on the last -/
def crT (t : Tr) (b : Int) : Nat → Int × Int
  | 0 => (0, 0)
  | k + 1 => if (crT t b k).2 + gl t k > b then ((crT t b k).1 + 1, (gl t k : Int)) else ((crT t b k).1, (crT t b k).2 + gl t k)
theorem cr_rng {t : Tr} {b : Int} (G : GT t) (hb : 99 ≤ b ∧ b ≤ 999) : ∀ k, k ≤ cnt t → 0 ≤ (crT t b k).1 ∧ (crT t b k).1 ≤ k ∧ 0 ≤ (crT t b k).2 ∧ (crT t b k).2 ≤ b
  | 0, _ => by simp only [crT]; omega
  | k + 1, h => by
    have := cr_rng G hb k (by omega)
    have := G.2.1 k (by omega)
    rw [crT]
    by_cases c : (crT t b k).2 + gl t k > b
    · rw [if_pos c]; dsimp only; omega
    · rw [if_neg c]; dsimp only; omega
/-- the shape of a tree, behind bits -/
def shT : Tr → Int64 → Int64
  | .leaf, b => b <<< ((1 : Int32).toInt64 &&& 63)
  | .inner _ _ _ l r, b => shT r (shT l ((b <<< ((1 : Int32).toInt64 &&& 63)) ||| 1))
theorem b_hi (lo : Nat) (l s : Tr) : (lo : Int) + cnt l + 1 + cnt s - 1 = ((lo + cnt l + cnt s : Nat) : Int) := by omega
section CP
variable {I : Mm} {r : Nat} {t : Tr}
theorem t_lbp (G : GT t) (R : RT I r t) {x : Int} (h1 : -2147483648 ≤ x) (h2 : x < 2147483648) : ∀ (s : Tr) (lo d m : Nat) (acc : Int) (j : Nat), BL t lo d s → j + cnt s ≤ 30 → cnt s < m → fX1_lighterByParts_p15 m r (iI x) (iI acc) (iI lo) (iI ((lo : Int) + cnt s - 1)) (iI j) I = some (iI (acc + rkQ x s), I)
  | .leaf, lo, d, m, acc, j, B, hj, hm => by
    have g := G.1
    have b1 := B.1
    obtain ⟨m, rfl⟩ : ∃ x, m = x + 1 := ⟨m - 1, by omega⟩
    simp only [cnt] at hj b1 ⊢
    rw [fX1_lighterByParts_p15]
    simp (disch := omega) only [l_30, iI_le, iI_lt]
    rw [if_pos (show (lo : Int) + (0 : Nat) - 1 < lo by omega)]
    simp [rkQ]
  | .inner k w ld l s, lo, d, m, acc, j, B, hj, hm => by
    have g := G.1
    have bm := bl_m B
    have gg := G.2.1 (lo + cnt l) (by omega)
    rw [cnt_i] at hj hm ⊢
    obtain ⟨m, rfl⟩ : ∃ x, m = x + 1 := ⟨m - 1, by omega⟩
    have e1 := t_lbp G R h1 h2 l lo (d + 1) m acc (j + 1) (bl_l B) (by omega) (by omega)
    have e2 := t_lbp G R h1 h2 s (lo + cnt l + 1) (d + 1) m (acc + (cnt l + 1)) (j + 1) (bl_r B) (by omega) (by omega)
    have ww : WZ t ((lo + cnt l : Nat) : Int) = w := by simp (disch := omega) only [WZ, if_pos, tn_n]; omega
    rw [fX1_lighterByParts_p15]
    have tb := t_topB G R B (hi := (lo : Int) + (cnt l + 1 + cnt s : Nat) - 1) (by omega)
    rw [rkQ]
    simp (disch := omega) only [l_30, l_1, iI_le, iI_lt, if_neg, tb, bd_s, t_weightAt G R, ww, iI_add, iI_sub, ltm_s]
    by_cases c : (w : Int) < x
    · rw [if_neg (by omega), if_pos c]
      rw [show acc + (((lo + cnt l : Nat) : Int) - lo + 1) = acc + (cnt l + 1) by omega, show ((lo + cnt l : Nat) : Int) + 1 = ((lo + cnt l + 1 : Nat) : Int) by omega, show (lo : Int) + (cnt l + 1 + cnt s : Nat) - 1 = ((lo + cnt l + 1 : Nat) : Int) + cnt s - 1 by omega]
      rw [show ((j : Int) + 1) = ((j + 1 : Nat) : Int) by omega, e2, show acc + (cnt l + 1) + (rkQ x s : Int) = acc + (cnt l + 1 + rkQ x s : Nat) by omega]
    · rw [if_pos (by omega), if_neg c]
      rw [show ((lo + cnt l : Nat) : Int) - 1 = (lo : Int) + cnt l - 1 by omega, show ((j : Int) + 1) = ((j + 1 : Nat) : Int) by omega, e1]
theorem t_lighterByParts (G : GT t) (R : RT I r t) {x : Int} (h1 : -2147483648 ≤ x) (h2 : x < 2147483648) : fX1_lighterByParts r (iI x) I = some (iI (rkQ x t), I) := by
  have g := G.1
  have e := t_lbp G R h1 h2 t 0 0 1000 0 0 (bl_0 t) (by omega) (by omega)
  rw [fX1_lighterByParts, R.1, l_1, iI_sub, ltm_s]
  rw [Int.zero_add, show ((0 : Nat) : Int) + cnt t - 1 = cnt t - 1 by omega] at e
  exact e
theorem t_lol (G : GT t) (R : RT I r t) {x : Int64} : ∀ (s : Tr) (lo d m : Nat) (acc : Int) (j : Nat), BL t lo d s → j + cnt s ≤ 30 → cnt s < m → fX1_loadsOfLighter_p16 m r x (iI acc) (iI lo) (iI ((lo : Int) + cnt s - 1)) (iI j) I = some (iI (acc + sL t (lo + rkQ x.toInt s) - sL t lo), I)
  | .leaf, lo, d, m, acc, j, B, hj, hm => by
    have g := G.1
    have b1 := B.1
    obtain ⟨m, rfl⟩ : ∃ x, m = x + 1 := ⟨m - 1, by omega⟩
    simp only [cnt] at hj b1 ⊢
    rw [fX1_loadsOfLighter_p16]
    simp (disch := omega) only [l_30, iI_le, iI_lt]
    rw [if_pos (show (lo : Int) + (0 : Nat) - 1 < lo by omega)]
    simp only [rkQ, Nat.add_zero]
    rw [show acc + sL t lo - sL t lo = acc by omega]
    simp
  | .inner k w ld l s, lo, d, m, acc, j, B, hj, hm => by
    have g := G.1
    have bm := bl_m B
    have gg := G.2.1 (lo + cnt l) (by omega)
    rw [cnt_i] at hj hm ⊢
    obtain ⟨m, rfl⟩ : ∃ x, m = x + 1 := ⟨m - 1, by omega⟩
    have e1 := @t_lol G R x l lo (d + 1) m acc (j + 1) (bl_l B) (by omega) (by omega)
    have e2 := @t_lol G R x s (lo + cnt l + 1) (d + 1) m (acc + (sL t (lo + cnt l + 1) - sL t lo)) (j + 1) (bl_r B) (by omega) (by omega)
    have ww : WZ t ((lo + cnt l : Nat) : Int) = w := by simp (disch := omega) only [WZ, if_pos, tn_n]; omega
    rw [fX1_loadsOfLighter_p16]
    have tb := t_topB G R B (hi := (lo : Int) + (cnt l + 1 + cnt s : Nat) - 1) (by omega)
    have q : (0 ≤ lg_cmp ((iI (w : Int)).toInt64) x) ↔ x.toInt ≤ w := by
      rw [lg_cmp_ge, Int64.le_iff_toInt_le, i64_w (by omega) (by omega)]
    rw [rkQ]
    simp (disch := omega) only [l_30, l_1, iI_le, iI_lt, if_neg, tb, bd_s, t_weightAt G R, ww, iI_add, iI_sub, ltm_s, t_loadsFrom G R, tn_n, tn_a]
    by_cases c : (w : Int) < x.toInt
    · rw [if_neg (fun h => by have := q.mp h; omega), if_pos c]
      rw [show ((lo + cnt l : Nat) : Int) + 1 = ((lo + cnt l + 1 : Nat) : Int) by omega, show (lo : Int) + (cnt l + 1 + cnt s : Nat) - 1 = ((lo + cnt l + 1 : Nat) : Int) + cnt s - 1 by omega]
      rw [show ((j : Int) + 1) = ((j + 1 : Nat) : Int) by omega, e2, show lo + (cnt l + 1 + rkQ x.toInt s) = lo + cnt l + 1 + rkQ x.toInt s by omega]
      congr 3; omega
    · rw [if_pos (q.mpr (by omega)), if_neg c]
      rw [show ((lo + cnt l : Nat) : Int) - 1 = (lo : Int) + cnt l - 1 by omega, show ((j : Int) + 1) = ((j + 1 : Nat) : Int) by omega, e1]
theorem t_loadsOfLighter (G : GT t) (R : RT I r t) (x : Int64) : fX1_loadsOfLighter r x I = some (iI (sL t (rkQ x.toInt t)), I) := by
  have g := G.1
  have e := @t_lol I r t G R x t 0 0 1000 0 0 (bl_0 t) (by omega) (by omega)
  rw [fX1_loadsOfLighter, R.1, l_1, iI_sub, ltm_s]
  rw [show ((0 : Nat) : Int) + cnt t - 1 = cnt t - 1 by omega, Nat.zero_add, show 0 + sL t (rkQ x.toInt t) - sL t 0 = sL t (rkQ x.toInt t) by rw [show sL t 0 = 0 from rfl]; omega] at e
  exact e
theorem t_loadsByParts (G : GT t) (R : RT I r t) {a b : Int} (h1 : -2147483648 ≤ a) (h2 : a < 2147483648) (h3 : -2147483648 ≤ b) (h4 : b < 2147483648) : fX1_loadsByParts r (iI a) (iI b) I = some (iI (btZ t a b), I) := by
  rw [fX1_loadsByParts, bt_is G]
  simp (disch := omega) only [iI_le, t_loadsOfLighter G R, bd_s, i64_1, i64_w, iI_sub]
  by_cases c : a ≤ b
  · rw [if_pos c, if_pos c]
  · rw [if_neg c, if_neg c]; rfl
theorem t_loadsOneByOne (G : GT t) (R : RT I r t) {a b : Int} (h1 : -2147483648 ≤ a) (h2 : a < 2147483648) (h3 : -2147483648 ≤ b) (h4 : b < 2147483648) : fX1_loadsOneByOne r (iI a) (iI b) I = some (iI (btZ t a b), I) := by
  have g := G.1
  have key : ∀ k i m, i + k = cnt t → k < m → fX1_loadsOneByOne_p5 m r (iI a) (iI b) (iI (sm (fun i => if a ≤ gw t i ∧ (gw t i : Int) ≤ b then (gl t i : Int) else 0) i)) (iI i) I = some (iI (btZ t a b), I) := by
    intro k
    induction k with
    | zero =>
      intro i m hi hm
      obtain ⟨m, rfl⟩ : ∃ x, m = x + 1 := ⟨m - 1, by omega⟩
      obtain rfl : i = cnt t := by omega
      rw [fX1_loadsOneByOne_p5, R.1]
      simp (disch := omega) only [iI_le, if_pos]
      rfl
    | succ k ih =>
      intro i m hi hm
      obtain ⟨m, rfl⟩ : ∃ x, m = x + 1 := ⟨m - 1, by omega⟩
      have e := ih (i + 1) m (by omega) (by omega)
      have w := (G.2.1 i (by omega)).1
      rw [sm] at e
      rw [fX1_loadsOneByOne_p5, R.1]
      simp (disch := omega) only [iI_le, iI_lt, if_neg, t_weightAt G R, t_loadAt G R, bd_s, ltm_s, l_1, iI_add, WZ, LZ, if_pos, tn_n]
      by_cases c : (gw t i : Int) < a
      · rw [if_neg (by omega), Int.add_zero] at e
        rw [if_pos c]; exact e
      · rw [if_neg c]
        by_cases c2 : b < gw t i
        · rw [if_neg (by omega), Int.add_zero] at e
          rw [if_pos c2]; exact e
        · rw [if_pos (by omega)] at e
          rw [if_neg c2]; exact e
  exact key (cnt t) 0 1000 (by omega) (by omega)
theorem t_carts (G : GT t) (R : RT I r t) {z b : Int} (hb : 99 ≤ b ∧ b ≤ 999) (h1 : -1 ≤ z) (h2 : z < cnt t) : fX1_cartsUpTo r (iI z) (iI b) I = some (iI (if z = -1 then 0 else (crT t b (z + 1).toNat).1 + 1), I) := by
  have g := G.1
  have key : ∀ k i m, ((i + k : Nat) : Int) = z + 1 → 0 < i → k < m → fX1_cartsUpTo_p8 m r (iI z) (iI b) (iI ((crT t b i).1 + 1)) (iI (crT t b i).2) (iI i) I = some (iI ((crT t b (z + 1).toNat).1 + 1), I) := by
    intro k
    induction k with
    | zero =>
      intro i m hi h0 hm
      obtain ⟨m, rfl⟩ : ∃ x, m = x + 1 := ⟨m - 1, by omega⟩
      rw [fX1_cartsUpTo_p8, R.1]
      simp (disch := omega) only [iI_lt, if_pos]
      rw [show (z + 1).toNat = i by omega]
    | succ k ih =>
      intro i m hi h0 hm
      obtain ⟨m, rfl⟩ : ∃ x, m = x + 1 := ⟨m - 1, by omega⟩
      have e := ih (i + 1) m (by omega) (by omega) (by omega)
      have w := G.2.1 i (by omega)
      have cr := cr_rng G hb i (by omega)
      rw [crT] at e
      rw [fX1_cartsUpTo_p8, R.1]
      simp (disch := omega) only [iI_le, iI_lt, iI_eq, if_neg, t_loadAt G R, bd_s, ltm_s, l_0, l_1, iI_add, LZ, if_pos, tn_n, Int.zero_add]
      by_cases c : (crT t b i).2 + gl t i > b
      · rw [if_pos c] at e
        rw [if_neg (by omega)]; exact e
      · rw [if_neg c] at e
        rw [if_pos (by omega)]; exact e
  have all : ∀ m, 100 < m → fX1_cartsUpTo_p8 m r (iI z) (iI b) (iI 0) (iI 0) (iI 0) I = some (iI (if z = -1 then 0 else (crT t b (z + 1).toNat).1 + 1), I) := by
    intro m hm
    obtain ⟨m, rfl⟩ : ∃ x, m = x + 1 := ⟨m - 1, by omega⟩
    by_cases c : z = -1
    · rw [if_pos c]
      rw [fX1_cartsUpTo_p8]
      simp (disch := omega) only [iI_lt, if_pos]
    · rw [if_neg c]
      have w := G.2.1 0 (by omega)
      have e := key z.toNat 1 m (by omega) (by omega) (by omega)
      rw [crT, crT] at e
      simp (disch := omega) only [if_neg, Int.zero_add] at e
      rw [fX1_cartsUpTo_p8, R.1]
      simp (disch := omega) only [l_0, l_1, iI_lt, iI_le, iI_eq, if_neg, if_pos, ltm_s, iI_add, t_loadAt G R, bd_s, LZ, Int.zero_add]
      exact e
  exact all 1000 (by omega)
theorem t_isInOrder (G : GT t) (R : RT I r t) : fX1_isInOrder r I = some (iI 1, I) := by
  have g := G.1
  have key : ∀ k (i : Nat) m, ((i + k = cnt t ∧ 0 < i) ∨ (k = 0 ∧ cnt t ≤ i ∧ i < 40)) → k < m → fX1_isInOrder_p2 m r (iI i) I = some (iI 1, I) := by
    intro k
    induction k with
    | zero =>
      intro i m hi hm
      obtain ⟨m, rfl⟩ : ∃ x, m = x + 1 := ⟨m - 1, by omega⟩
      rw [fX1_isInOrder_p2, R.1]
      simp (disch := omega) only [iI_le, if_pos, l_1]
    | succ k ih =>
      intro i m hi hm
      obtain ⟨m, rfl⟩ : ∃ x, m = x + 1 := ⟨m - 1, by omega⟩
      have o := G.2.2.1 (i - 1) i (by omega) (by omega)
      have w := (G.2.1 i (by omega)).1
      rw [fX1_isInOrder_p2, R.1]
      simp (disch := omega) only [iI_le, iI_lt, if_neg, t_weightAt G R, bd_s, ltm_s, l_1, iI_add, iI_sub, WZ, if_pos, tn_n, tn_s]
      exact ih (i + 1) m (by omega) (by omega)
  rw [fX1_isInOrder]
  by_cases c : cnt t = 0
  · exact key 0 1 1000 (by omega) (by omega)
  · exact key (cnt t - 1) 1 1000 (by omega) (by omega)
theorem t_isTree (G : GT t) (R : RT I r t) : ∀ (s : Tr) (lo d m : Nat), BL t lo d s → cnt s < m → d ≤ 40 → fX4_isTree m r (iI lo) (iI ((lo : Int) + cnt s - 1)) (iI d) I = some (iI 1, I)
  | .leaf, lo, d, m, B, hm, hd => by
    have g := G.1
    have b1 := B.1
    obtain ⟨m, rfl⟩ : ∃ x, m = x + 1 := ⟨m - 1, by omega⟩
    simp only [cnt] at b1 ⊢
    rw [fX4_isTree]
    simp (disch := omega) only [iI_le, if_neg, l_1]
  | .inner k w ld l s, lo, d, m, B, hm, hd => by
    have g := G.1
    have bm := bl_m B
    have dd := gd_lt t (lo + cnt l) (by omega)
    rw [cnt_i] at hm ⊢
    obtain ⟨m, rfl⟩ : ∃ x, m = x + 1 := ⟨m - 1, by omega⟩
    have e1 := t_isTree G R l lo (d + 1) m (bl_l B) (by omega) (by omega)
    have e2 := t_isTree G R s (lo + cnt l + 1) (d + 1) m (bl_r B) (by omega) (by omega)
    have ww : DZ t ((lo + cnt l : Nat) : Int) = d := by simp (disch := omega) only [DZ, if_pos, tn_n]; omega
    have tb := t_topB G R B (hi := (lo : Int) + (cnt l + 1 + cnt s : Nat) - 1) (by omega)
    rw [fX4_isTree]
    simp (disch := omega) only [l_30, l_0, l_1, iI_le, iI_lt, iI_eq, if_neg, if_pos, tb, bd_s, t_depthAt G R, ww, iI_add, iI_sub]
    rw [if_pos trivial, show ((lo + cnt l : Nat) : Int) - 1 = (lo : Int) + cnt l - 1 by omega, show ((d : Int) + 1) = ((d + 1 : Nat) : Int) by omega, e1, bd_s]
    rw [show ((lo + cnt l : Nat) : Int) + 1 = ((lo + cnt l + 1 : Nat) : Int) by omega, show (lo : Int) + (cnt l + 1 + cnt s : Nat) - 1 = ((lo + cnt l + 1 : Nat) : Int) + cnt s - 1 by omega, e2]
    simp (disch := omega) only [bd_s, iI_eq, if_neg]
theorem t_isSound (G : GT t) (R : RT I r t) : fX4_isSound r I = some (iI 1, I) := by
  have g := G.1
  have key : ∀ k i m, i + k = cnt t → k < m → fX4_isSound_p26 m r (iI i) I = some (iI 1, I) := by
    intro k
    induction k with
    | zero =>
      intro i m hi hm
      obtain ⟨m, rfl⟩ : ∃ x, m = x + 1 := ⟨m - 1, by omega⟩
      rw [fX4_isSound_p26, R.1]
      simp (disch := omega) only [iI_le, if_pos, l_1]
    | succ k ih =>
      intro i m hi hm
      obtain ⟨m, rfl⟩ : ∃ x, m = x + 1 := ⟨m - 1, by omega⟩
      have w := (G.2.1 i (by omega)).1
      rw [fX4_isSound_p26, R.1]
      simp (disch := omega) only [iI_le, if_neg, t_weightAt G R, bd_s, ltm_s, l_0, l_1, iI_add, WZ, if_pos, tn_n, t_lighterByParts G R, t_lighterOneByOne G R, t_loadsByParts G R, t_loadsOneByOne G R]
      exact ih (i + 1) m (by omega) (by omega)
  have e := t_isTree G R t 0 0 40 (bl_0 t) (by omega) (by omega)
  rw [show ((0 : Nat) : Int) + cnt t - 1 = cnt t - 1 by omega] at e
  rw [fX4_isSound, t_isInOrder G R, bd_s, R.1]
  simp (disch := omega) only [l_0, l_1, iI_eq, iI_sub, if_neg]
  rw [show fX4_isTree 40 r (iI 0) (iI ((cnt t : Int) - 1)) (iI 0) I = some (iI 1, I) from e, bd_s]
  simp (disch := omega) only [iI_eq, if_neg]
  exact key (cnt t) 0 1000 (by omega) (by omega)
theorem t_shapeOf (G : GT t) (R : RT I r t) : ∀ (s : Tr) (lo d m : Nat) (b : Int64), BL t lo d s → cnt s < m → d ≤ 40 → fX4_shapeOf m r (iI lo) (iI ((lo : Int) + cnt s - 1)) b (iI d) I = some (shT s b, I)
  | .leaf, lo, d, m, b, B, hm, hd => by
    have g := G.1
    have b1 := B.1
    obtain ⟨m, rfl⟩ : ∃ x, m = x + 1 := ⟨m - 1, by omega⟩
    simp only [cnt] at b1 ⊢
    rw [fX4_shapeOf, t_topNone G R (by omega) (by omega) (by omega) (by omega), bd_s, shT]
    rfl
  | .inner k w ld l s, lo, d, m, b, B, hm, hd => by
    have g := G.1
    have bm := bl_m B
    have dd := gd_lt t (lo + cnt l) (by omega)
    rw [cnt_i] at hm ⊢
    obtain ⟨m, rfl⟩ : ∃ x, m = x + 1 := ⟨m - 1, by omega⟩
    have e1 := t_shapeOf G R l lo (d + 1) m ((b <<< ((1 : Int32).toInt64 &&& 63)) ||| 1) (bl_l B) (by omega) (by omega)
    have e2 := t_shapeOf G R s (lo + cnt l + 1) (d + 1) m (shT l ((b <<< ((1 : Int32).toInt64 &&& 63)) ||| 1)) (bl_r B) (by omega) (by omega)
    have tb := t_topB G R B (hi := (lo : Int) + (cnt l + 1 + cnt s : Nat) - 1) (by omega)
    rw [fX4_shapeOf, tb, bd_s, l_m1, l_30, show (iI ((lo + cnt l : Nat) : Int) - 1) = iI ((lo : Int) + cnt l - 1) by rw [l_1, iI_sub]; congr 1, show iI (d : Int) + 1 = iI ((d + 1 : Nat) : Int) by rw [l_1, iI_add]; rfl, e1, bd_s]
    rw [show iI ((lo + cnt l : Nat) : Int) + 1 = iI ((lo + cnt l + 1 : Nat) : Int) by rw [l_1, iI_add]; rfl, show (lo : Int) + (cnt l + 1 + cnt s : Nat) - 1 = ((lo + cnt l + 1 : Nat) : Int) + cnt s - 1 by omega, e2, bd_s]
    simp (disch := omega) only [iI_eq, iI_le, if_neg, if_pos, shT]
end CP
