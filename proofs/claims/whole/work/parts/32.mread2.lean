/-! ===== the reference's loops over its list ===== -/
section ML
variable {I : Mm} {i : Nat} {t : Tr}
theorem m_w (hi : i < 3) (G : GT t) (M : MR (I 164) i t) {p : Nat} (hp : p < cnt t) : fX5_of (iI i) (iI (gs t p)) (iI 0) I = some (iI (gw t p), I) := by
  rw [m_of0 hi (G.2.1 p hp).2.2.2, (tm_p _ i t p M.2.1 hp).1, sub1]
theorem m_l (hi : i < 3) (G : GT t) (M : MR (I 164) i t) {p : Nat} (hp : p < cnt t) : fX5_of (iI i) (iI (gs t p)) (iI 1) I = some (iI (gl t p), I) := by
  rw [m_of1 hi (G.2.1 p hp).2.2.2, (tm_p _ i t p M.2.1 hp).2.1]
theorem mf_mr {I J : Mm} {i : Nat} {t : Tr} (L : LF I J) (M : MR (I 164) i t) : MR (J 164) i t := by
  have e164 : J 164 = I 164 := funext fun j => L 164 j (by omega) (by omega)
  rw [e164]; exact M
theorem m_allDepths (hi : i < 3) (G : GT t) (M : MR (I 164) i t) : ∃ J, fX5_allDepths (iI i) I = some (iI (sm (fun p => gd t p) (cnt t)), J) ∧ LF I J := by
  have g := G.1
  obtain ⟨J, e, L, S⟩ := m_listAll hi G M
  have N := mf_mr L M
  have key : ∀ k q m, q + k = cnt t → k < m → fX5_allDepths_p9 m (iI i) (iI (sm (fun p => gd t p) q)) (iI q) J = some (iI (sm (fun p => gd t p) (cnt t)), J) := by
    intro k
    induction k with
    | zero =>
      intro q m hq hm
      obtain ⟨m, rfl⟩ : ∃ x, m = x + 1 := ⟨m - 1, by omega⟩
      obtain rfl : q = cnt t := by omega
      rw [fX5_allDepths_p9, S.1]
      simp (disch := omega) only [iI_le, if_pos]
    | succ k ih =>
      intro q m hq hm
      obtain ⟨m, rfl⟩ : ∃ x, m = x + 1 := ⟨m - 1, by omega⟩
      have ih' := ih (q + 1) m (by omega) (by omega)
      rw [fX5_allDepths_p9, S.1]
      simp (disch := omega) only [iI_le, l_0, l_1, iI_lt, iI_cl, tn_n, if_neg, S.2, m_depth hi G N, bd_s, ltm_s, iI_add]
      exact ih'
  refine ⟨J, ?_, L⟩
  rw [fX5_allDepths, e, bd_s]
  exact key (cnt t) 0 1000 (by omega) (by omega)
theorem m_greatestDepth (hi : i < 3) (G : GT t) (M : MR (I 164) i t) : ∃ J, fX5_greatestDepth (iI i) I = some (iI (mxF (fun p => gd t p) (cnt t)), J) ∧ LF I J := by
  have g := G.1
  obtain ⟨J, e, L, S⟩ := m_listAll hi G M
  have N := mf_mr L M
  have key : ∀ k q m, q + k = cnt t → k < m → fX5_greatestDepth_p9 m (iI i) (iI (mxF (fun p => gd t p) q)) (iI q) J = some (iI (mxF (fun p => gd t p) (cnt t)), J) := by
    intro k
    induction k with
    | zero =>
      intro q m hq hm
      obtain ⟨m, rfl⟩ : ∃ x, m = x + 1 := ⟨m - 1, by omega⟩
      obtain rfl : q = cnt t := by omega
      rw [fX5_greatestDepth_p9, S.1]
      simp (disch := omega) only [iI_le, if_pos]
    | succ k ih =>
      intro q m hq hm
      obtain ⟨m, rfl⟩ : ∃ x, m = x + 1 := ⟨m - 1, by omega⟩
      have ih' := ih (q + 1) m (by omega) (by omega)
      have d := gd_lt t q (by omega)
      have r := @mxF_rng (fun i => (gd t i : Int)) 31 q (by omega) (fun j hj => by have := gd_lt t j (by omega); omega)
      rw [mxF] at ih'
      rw [fX5_greatestDepth_p9, S.1]
      simp (disch := omega) only [iI_le, l_0, l_1, iI_lt, iI_cl, tn_n, if_neg, S.2, m_depth hi G N, bd_s, ltm_s, iI_add]
      by_cases c : (gd t q : Int) ≤ mxF (fun i => (gd t i : Int)) q
      · rw [if_pos c]
        rw [Int.max_eq_left (by omega)] at ih'
        exact ih'
      · rw [if_neg c]
        rw [Int.max_eq_right (by omega)] at ih'
        exact ih'
  refine ⟨J, ?_, L⟩
  rw [fX5_greatestDepth, e, bd_s]
  exact key (cnt t) 0 1000 (by omega) (by omega)
theorem m_leaning (hi : i < 3) (G : GT t) (M : MR (I 164) i t) {lim : Int} (hl : 55 ≤ lim ∧ lim ≤ 90) (hL : I 164 0 = iI lim) : ∃ J, fX5_leaning (iI i) I = some (iI (sm (fun p => if lnB lim (sbP t p) = true then 1 else 0) (cnt t)), J) ∧ LF I J := by
  have g := G.1
  obtain ⟨J, e, L, S⟩ := m_listAll hi G M
  have N := mf_mr L M
  have hL' : J 164 0 = iI lim := by rw [L 164 0 (by omega) (by omega)]; exact hL
  have key : ∀ k q m, q + k = cnt t → k < m → fX5_leaning_p9 m (iI i) (iI (sm (fun p => if lnB lim (sbP t p) = true then 1 else 0) q)) (iI q) J = some (iI (sm (fun p => if lnB lim (sbP t p) = true then 1 else 0) (cnt t)), J) := by
    intro k
    induction k with
    | zero =>
      intro q m hq hm
      obtain ⟨m, rfl⟩ : ∃ x, m = x + 1 := ⟨m - 1, by omega⟩
      obtain rfl : q = cnt t := by omega
      rw [fX5_leaning_p9, S.1]
      simp (disch := omega) only [iI_le, if_pos]
    | succ k ih =>
      intro q m hq hm
      obtain ⟨m, rfl⟩ : ∃ x, m = x + 1 := ⟨m - 1, by omega⟩
      have ih' := ih (q + 1) m (by omega) (by omega)
      rw [sm] at ih'
      rw [fX5_leaning_p9, S.1]
      simp (disch := omega) only [iI_le, l_0, l_1, iI_lt, iI_cl, tn_n, if_neg, S.2, m_leans hi G N (show q < cnt t by omega) hl hL', bd_s, ltm_s, iI_add]
      by_cases c : lnB lim (sbP t q) = true
      · rw [if_pos c] at ih'
        simp (disch := omega) only [if_pos c, iI_eq, if_neg]
        exact ih'
      · rw [if_neg c] at ih'
        simp (disch := omega) only [if_neg c, iI_eq, if_pos]
        exact ih'
  refine ⟨J, ?_, L⟩
  rw [fX5_leaning, e, bd_s]
  exact key (cnt t) 0 1000 (by omega) (by omega)
theorem m_lowest (hi : i < 3) (G : GT t) (M : MR (I 164) i t) : ∃ J, fX5_lowest (iI i) I = some (iI (sm (fun p => if cnt (sbP t p) = 1 then 1 else 0) (cnt t)), J) ∧ LF I J := by
  have g := G.1
  obtain ⟨J, e, L, S⟩ := m_listAll hi G M
  have N := mf_mr L M
  have key : ∀ k q m, q + k = cnt t → k < m → fX5_lowest_p9 m (iI i) (iI (sm (fun p => if cnt (sbP t p) = 1 then 1 else 0) q)) (iI q) J = some (iI (sm (fun p => if cnt (sbP t p) = 1 then 1 else 0) (cnt t)), J) := by
    intro k
    induction k with
    | zero =>
      intro q m hq hm
      obtain ⟨m, rfl⟩ : ∃ x, m = x + 1 := ⟨m - 1, by omega⟩
      obtain rfl : q = cnt t := by omega
      rw [fX5_lowest_p9, S.1]
      simp (disch := omega) only [iI_le, if_pos]
    | succ k ih =>
      intro q m hq hm
      obtain ⟨m, rfl⟩ : ∃ x, m = x + 1 := ⟨m - 1, by omega⟩
      have ih' := ih (q + 1) m (by omega) (by omega)
      have gp := gd_part t q (by omega)
      have sz := m_size hi (sbP t q) 40 (gt_p t q G (by omega)) (tm_sb t q N.2.1 (by omega)).1 (by omega)
      rw [(tm_sb t q N.2.1 (by omega)).2] at sz
      rw [sm] at ih'
      rw [fX5_lowest_p9, S.1]
      simp (disch := omega) only [iI_le, l_0, l_1, iI_lt, iI_cl, tn_n, if_neg, S.2, sz, bd_s, ltm_s, iI_add, iI_eq]
      by_cases c : cnt (sbP t q) = 1
      · rw [if_pos c] at ih'
        rw [if_pos (by omega)]
        exact ih'
      · rw [if_neg c] at ih'
        rw [if_neg (by omega)]
        exact ih'
  refine ⟨J, ?_, L⟩
  rw [fX5_lowest, e, bd_s]
  exact key (cnt t) 0 1000 (by omega) (by omega)
theorem m_isBetween {x a b : Int} (h1 : -2147483648 ≤ x) (h2 : x < 2147483648) (h3 : -2147483648 ≤ a) (h4 : a < 2147483648) (h5 : -2147483648 ≤ b) (h6 : b < 2147483648) : fX5_isBetween (iI x) (iI a) (iI b) I = some (iI (if a ≤ x ∧ x ≤ b then 1 else 0), I) := by
  unfold fX5_isBetween
  simp (disch := omega) only [iI_lt]
  by_cases c : x < a
  · rw [if_pos c, if_neg (by omega)]; rfl
  · rw [if_neg c]
    by_cases d : b < x
    · rw [if_pos d, if_neg (by omega)]; rfl
    · rw [if_neg d, if_pos (by omega)]; rfl
theorem m_bt (hi : i < 3) (G : GT t) (M : MR (I 164) i t) {a b : Int} (h1 : -2147483648 ≤ a) (h2 : a < 2147483648) (h3 : -2147483648 ≤ b) (h4 : b < 2147483648) : ∃ J, (bd (fX5_listAll (iI i) I) fun _ I2 => fX5_between_p21 1000 (iI i) (iI a) (iI b) (iI 0) (iI 0) I2) = some (iI (btZ t a b), J) ∧ LF I J := by
  have g := G.1
  obtain ⟨J, e, L, S⟩ := m_listAll hi G M
  have N := mf_mr L M
  have key : ∀ k q m, q + k = cnt t → k < m → fX5_between_p21 m (iI i) (iI a) (iI b) (iI (sm (fun i => if a ≤ gw t i ∧ (gw t i : Int) ≤ b then (gl t i : Int) else 0) q)) (iI q) J = some (iI (btZ t a b), J) := by
    intro k
    induction k with
    | zero =>
      intro q m hq hm
      obtain ⟨m, rfl⟩ : ∃ x, m = x + 1 := ⟨m - 1, by omega⟩
      obtain rfl : q = cnt t := by omega
      rw [fX5_between_p21, S.1]
      simp (disch := omega) only [iI_le, if_pos]
      rfl
    | succ k ih =>
      intro q m hq hm
      obtain ⟨m, rfl⟩ : ∃ x, m = x + 1 := ⟨m - 1, by omega⟩
      have ih' := ih (q + 1) m (by omega) (by omega)
      have w := (G.2.1 q (by omega)).1
      rw [sm] at ih'
      rw [fX5_between_p21, S.1]
      simp (disch := omega) only [iI_le, l_0, l_1, iI_lt, iI_cl, tn_n, if_neg, S.2, m_w hi G N, m_l hi G N, bd_s, ltm_s, iI_add, m_isBetween]
      by_cases c : a ≤ gw t q ∧ (gw t q : Int) ≤ b
      · rw [if_pos c] at ih'
        simp (disch := omega) only [if_pos c, iI_eq, if_neg]
        exact ih'
      · rw [if_neg c] at ih'
        simp (disch := omega) only [if_neg c, iI_eq, if_pos]
        exact ih'
  refine ⟨J, ?_, L⟩
  rw [e, bd_s]
  exact key (cnt t) 0 1000 (by omega) (by omega)
theorem m_rk (hi : i < 3) (G : GT t) (M : MR (I 164) i t) {x : Int} (h1 : -2147483648 ≤ x) (h2 : x < 2147483648) : ∃ J, (bd (fX5_listAll (iI i) I) fun _ I2 => fX5_rank_p17 1000 (iI i) (iI x) (iI 0) I2) = some (iI (rkQ x t), J) ∧ LF I J ∧ LsT J t := by
  have g := G.1
  have rl := rk_le x t
  obtain ⟨J, e, L, S⟩ := m_listAll hi G M
  have N := mf_mr L M
  have key : ∀ k q m, q + k = rkQ x t → k < m → fX5_rank_p17 m (iI i) (iI x) (iI q) J = some (iI (rkQ x t), J) := by
    intro k
    induction k with
    | zero =>
      intro q m hq hm
      obtain ⟨m, rfl⟩ : ∃ x, m = x + 1 := ⟨m - 1, by omega⟩
      obtain rfl : q = rkQ x t := by omega
      rw [fX5_rank_p17, S.1]
      by_cases c : cnt t ≤ rkQ x t
      · simp (disch := omega) only [iI_le, if_pos]
      · have w := (G.2.1 (rkQ x t) (by omega)).1
        have o := rk_ge x t (rkQ x t) G (Nat.le_refl _) (by omega)
        simp (disch := omega) only [iI_le, l_0, iI_lt, iI_cl, tn_n, if_neg, S.2, m_w hi G N, bd_s, if_pos]
    | succ k ih =>
      intro q m hq hm
      obtain ⟨m, rfl⟩ : ∃ x, m = x + 1 := ⟨m - 1, by omega⟩
      have w := (G.2.1 q (by omega)).1
      have o := rk_lt x t q G (by omega)
      rw [fX5_rank_p17, S.1]
      simp (disch := omega) only [iI_le, l_0, l_1, iI_lt, iI_cl, tn_n, if_neg, S.2, m_w hi G N, bd_s, ltm_s, iI_add]
      exact ih (q + 1) m (by omega) (by omega)
  refine ⟨J, ?_, L, S⟩
  rw [e, bd_s]
  exact key (rkQ x t) 0 1000 (by omega) (by omega)
theorem m_load (hi : i < 3) (G : GT t) (M : MR (I 164) i t) (S : LsT I t) {p : Nat} (hp : p < cnt t) {b : Int} (hb : 99 ≤ b ∧ b ≤ 999) : fX5_load (iI i) (iI p) (iI b) I = some (iI (crT t b (p + 1)).1, I) := by
  have g := G.1
  have key : ∀ k q m, q + k = p + 1 → k < m → fX5_load_p9 m (iI i) (iI p) (iI b) (iI (crT t b q).1) (iI (crT t b q).2) (iI q) I = some (iI (crT t b (p + 1)).1, I) := by
    intro k
    induction k with
    | zero =>
      intro q m hq hm
      obtain ⟨m, rfl⟩ : ∃ x, m = x + 1 := ⟨m - 1, by omega⟩
      obtain rfl : q = p + 1 := by omega
      rw [fX5_load_p9]
      simp (disch := omega) only [iI_lt, if_pos]
    | succ k ih =>
      intro q m hq hm
      obtain ⟨m, rfl⟩ : ∃ x, m = x + 1 := ⟨m - 1, by omega⟩
      have ih' := ih (q + 1) m (by omega) (by omega)
      have w := G.2.1 q (by omega)
      have cr := cr_rng G hb q (by omega)
      rw [crT] at ih'
      rw [fX5_load_p9]
      simp (disch := omega) only [iI_le, l_0, l_1, iI_lt, iI_cl, tn_n, if_neg, S.2, m_l hi G M, bd_s, ltm_s, iI_add]
      by_cases c : (crT t b q).2 + gl t q > b
      · rw [if_pos c] at ih'
        rw [if_neg (by omega)]; exact ih'
      · rw [if_neg c] at ih'
        rw [if_pos (by omega), if_pos (by omega), Int.add_zero]; exact ih'
  rw [fX5_load]
  exact key (p + 1) 0 1000 (by omega) (by omega)
theorem m_bits (hi : i < 3) : ∀ (s : Tr) (m : Nat) (b : Int64), GT s → TM (I 164) i s → cnt s < m → fX5_bits m (iI i) (iI (rtT s)) b I = some (shT s b, I)
  | .leaf, m, b, G, M, hm => by
    obtain ⟨m, rfl⟩ : ∃ x, m = x + 1 := ⟨m - 1, by omega⟩
    rw [fX5_bits, rtT, l_0, if_neg (by rw [iI_le (by omega) (by omega) (by omega) (by omega)]; omega)]
    rfl
  | .inner s w ld l r, m, b, G, M, hm => by
    have gm := gt_m G
    have r1 := rt_rng (gt_l G)
    have r2 := rt_rng (gt_r G)
    rw [cnt_i] at hm
    obtain ⟨m, rfl⟩ : ∃ x, m = x + 1 := ⟨m - 1, by omega⟩
    have e1 := fun b => m_bits hi l m b (gt_l G) M.2.2.2.2.1 (by omega)
    have e2 := fun b => m_bits hi r m b (gt_r G) M.2.2.2.2.2 (by omega)
    rw [fX5_bits, rtT, l_3, l_2, l_0, if_pos (by rw [iI_le (by omega) (by omega) (by omega) (by omega)]; omega), m_of3 hi gm.2.2.2.1, bd_s, m_of2 hi gm.2.2.2.1, bd_s, M.2.2.1, M.2.2.2.1, sub1, sub1, e1, bd_s, e2, bd_s]
    rfl
/-- the depth that so many may have -/
def mhZ (lim : Int) : Nat → Int → Int
  | 0, _ => 0
  | n + 1, x => if x ≤ 0 then 0 else 1 + mhZ lim n (x * lim / 100)
theorem mh_step {lim x : Int} (hl : 55 ≤ lim ∧ lim ≤ 90) (h0 : 0 < x) : 0 ≤ x * lim / 100 ∧ x * lim / 100 < x := by
  have m0 : x * lim ≤ x * 90 := Int.mul_le_mul_of_nonneg_left hl.2 (by omega)
  have m1 : 0 ≤ x * lim := Int.mul_nonneg (by omega) (by omega)
  omega
theorem mh_rng {lim : Int} (hl : 55 ≤ lim ∧ lim ≤ 90) : ∀ (n : Nat) (x : Int), 0 ≤ mhZ lim n x ∧ mhZ lim n x ≤ n
  | 0, x => by rw [mhZ]; omega
  | n + 1, x => by
    have := mh_rng hl n (x * lim / 100)
    rw [mhZ]; split <;> omega
theorem mh_enough {lim : Int} (hl : 55 ≤ lim ∧ lim ≤ 90) : ∀ (n : Nat) (x : Int), x ≤ n → mhZ lim n x = mhZ lim (n + 1) x
  | 0, x, h => by rw [mhZ, mhZ, if_pos (by omega)]
  | n + 1, x, h => by
    rw [mhZ, mhZ]
    by_cases c : x ≤ 0
    · rw [if_pos c, if_pos c]
    · have := @mh_step lim x hl (by omega)
      rw [if_neg c, if_neg c, mh_enough hl n _ (by omega)]
theorem m_mayHave {lim : Int} (hl : 55 ≤ lim ∧ lim ≤ 90) (hL : I 164 0 = iI lim) {n : Nat} (hn : n ≤ 30) : fX5_mayHave (iI n) I = some (iI (mhZ lim 30 ((n : Int) * lim / 100)), I) := by
  have key : ∀ (k m : Nat) (x a : Int), 0 ≤ x → x ≤ k → x ≤ 30 → k < m → fX5_mayHave_p14 m (iI a) (iI x) I = some (iI (a + mhZ lim k x), I) := by
    intro k
    induction k with
    | zero =>
      intro m x a h0 h1 h2 hm
      obtain ⟨m, rfl⟩ : ∃ x, m = x + 1 := ⟨m - 1, by omega⟩
      rw [fX5_mayHave_p14]
      simp (disch := omega) only [l_0, iI_le, if_pos, mhZ, Int.add_zero]
    | succ k ih =>
      intro m x a h0 h1 h2 hm
      obtain ⟨m, rfl⟩ : ∃ x, m = x + 1 := ⟨m - 1, by omega⟩
      rw [fX5_mayHave_p14, mhZ]
      by_cases c : x ≤ 0
      · simp (disch := omega) only [l_0, iI_le, if_pos, Int.add_zero]
      · have st := @mh_step lim x hl (by omega)
        have m0 : x * lim ≤ x * 90 := Int.mul_le_mul_of_nonneg_left hl.2 (by omega)
        have m1 : 0 ≤ x * lim := Int.mul_nonneg (by omega) (by omega)
        have ih' := ih m (x * lim / 100) (a + 1) (by omega) (by omega) (by omega) (by omega)
        simp (disch := omega) only [l_0, l_1, l_100, hL, iI_le, if_neg, iI_mul, iI_div, iI_add, ltm_s]
        rw [ih']; congr 3; omega
  have m0 : (n : Int) * lim ≤ n * 90 := Int.mul_le_mul_of_nonneg_left hl.2 (by omega)
  have m1 : 0 ≤ (n : Int) * lim := Int.mul_nonneg (by omega) (by omega)
  have e := key 30 1000 ((n : Int) * lim / 100) 0 (by omega) (by omega) (by omega) (by omega)
  rw [Int.zero_add] at e
  rw [fX5_mayHave, hL, l_100, iI_mul, iI_div (by omega) (by omega) (by omega) (by omega), ltm_s]
  exact e
theorem t_depthFor {lim : Int} (hl : 55 ≤ lim ∧ lim ≤ 90) {n : Nat} (hn : n ≤ 30) : fX4_depthFor (iI n) (iI lim) I = some (iI (mhZ lim 30 ((n : Int) * lim / 100)), I) := by
  have key : ∀ (k j m : Nat) (x a : Int), 0 ≤ x → x ≤ k → j + k = 30 → a + 1 = j → k < m → fX4_depthFor_p7 m (iI lim) (iI a) (iI x) (iI j) I = some (iI (max (a + mhZ lim k x) 0), I) := by
    intro k
    induction k with
    | zero =>
      intro j m x a h0 h1 h2 h3 hm
      obtain ⟨m, rfl⟩ : ∃ x, m = x + 1 := ⟨m - 1, by omega⟩
      rw [fX4_depthFor_p7]
      simp (disch := omega) only [l_0, l_30, iI_le, if_pos, mhZ, Int.add_zero, iI_max]
    | succ k ih =>
      intro j m x a h0 h1 h2 h3 hm
      obtain ⟨m, rfl⟩ : ∃ x, m = x + 1 := ⟨m - 1, by omega⟩
      rw [fX4_depthFor_p7, mhZ]
      by_cases c : x ≤ 0
      · simp (disch := omega) only [l_0, l_30, iI_le, if_neg, if_pos, Int.add_zero, iI_max]
      · have st := @mh_step lim x hl (by omega)
        have m0 : x * lim ≤ x * 90 := Int.mul_le_mul_of_nonneg_left hl.2 (by omega)
        have m1 : 0 ≤ x * lim := Int.mul_nonneg (by omega) (by omega)
        have ih' := ih (j + 1) m (x * lim / 100) (a + 1) (by omega) (by omega) (by omega) (by omega) (by omega)
        simp (disch := omega) only [l_0, l_1, l_100, l_30, iI_le, if_neg, iI_mul, iI_div, iI_add, ltm_s]
        rw [show (j : Int) + 1 = ((j + 1 : Nat) : Int) by omega, ih']; congr 3; omega
  have m0 : (n : Int) * lim ≤ n * 90 := Int.mul_le_mul_of_nonneg_left hl.2 (by omega)
  have m1 : 0 ≤ (n : Int) * lim := Int.mul_nonneg (by omega) (by omega)
  have e := key 30 0 1000 n (-1) (by omega) (by omega) (by omega) (by omega) (by omega)
  have r := mh_rng hl 30 ((n : Int) * lim / 100)
  rw [fX4_depthFor, l_m1, l_0]
  rw [show fX4_depthFor_p7 1000 (iI lim) (iI (-1)) (iI n) (iI 0) I = _ from e]
  congr 3
  by_cases c : n = 0
  · subst c
    rw [mhZ, if_pos (by omega), Int.ofNat_zero, Int.zero_mul, mhZ, if_pos (by omega)]; rfl
  · have st := @mh_step lim n hl (by omega)
    have en : mhZ lim 29 ((n : Int) * lim / 100) = mhZ lim 30 ((n : Int) * lim / 100) := mh_enough hl 29 ((n : Int) * lim / 100) (by omega)
    rw [mhZ, if_neg (by omega), en]; omega
end ML
