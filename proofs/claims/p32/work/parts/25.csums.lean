/-! ===== sums of the class's rick ===== -/
def sm (f : Nat → Int) : Nat → Int
  | 0 => 0
  | k + 1 => sm f k + f k
def mxF (f : Nat → Int) : Nat → Int
  | 0 => -1
  | k + 1 => max (mxF f k) (f k)
theorem sm_congr {f g : Nat → Int} : ∀ (n : Nat), (∀ i, i < n → f i = g i) → sm f n = sm g n
  | 0, _ => rfl
  | n + 1, h => by
    rw [sm, sm, sm_congr n (fun i hi => h i (by omega)), h n (by omega)]
theorem mxF_rng {f : Nat → Int} {b : Int} : ∀ (n : Nat), 0 ≤ b → (∀ i, i < n → -1 ≤ f i ∧ f i < b) → -1 ≤ mxF f n ∧ mxF f n < b
  | 0, hb, _ => by rw [mxF]; omega
  | n + 1, hb, h => by
    have := mxF_rng n hb (fun i hi => h i (by omega))
    have := h n (by omega)
    rw [mxF]; omega
/-- the loads up to a place -/
def sL (t : Tr) : Nat → Int := sm (fun i => gl t i)
section CS
variable {I : Mm} {r : Nat} {t : Tr}
theorem t_depths (G : GT t) (R : RT I r t) : fX1_depths r I = some (iI (sm (fun i => gd t i) (cnt t)), I) := by
  have g := G.1
  have key : ∀ k i m, i + k = cnt t → k < m → fX1_depths_p4 m r (iI (sm (fun i => gd t i) i)) (iI i) I = some (iI (sm (fun i => gd t i) (cnt t)), I) := by
    intro k
    induction k with
    | zero =>
      intro i m hi hm
      obtain ⟨m, rfl⟩ : ∃ x, m = x + 1 := ⟨m - 1, by omega⟩
      obtain rfl : i = cnt t := by omega
      rw [fX1_depths_p4, R.1]
      simp (disch := omega) only [iI_le, if_pos]
    | succ k ih =>
      intro i m hi hm
      obtain ⟨m, rfl⟩ : ∃ x, m = x + 1 := ⟨m - 1, by omega⟩
      rw [fX1_depths_p4, R.1]
      simp (disch := omega) only [iI_le, if_neg, t_depthAt G R, bd_s, ltm_s, l_1, iI_add, DZ, if_pos, tn_n]
      exact ih (i + 1) m (by omega) (by omega)
  exact key (cnt t) 0 1000 (by omega) (by omega)
theorem t_greatestDepth (G : GT t) (R : RT I r t) : fX1_greatestDepth r I = some (iI (mxF (fun i => gd t i) (cnt t)), I) := by
  have g := G.1
  have key : ∀ k i m, i + k = cnt t → k < m → fX1_greatestDepth_p4 m r (iI (mxF (fun i => gd t i) i)) (iI i) I = some (iI (mxF (fun i => gd t i) (cnt t)), I) := by
    intro k
    induction k with
    | zero =>
      intro i m hi hm
      obtain ⟨m, rfl⟩ : ∃ x, m = x + 1 := ⟨m - 1, by omega⟩
      obtain rfl : i = cnt t := by omega
      rw [fX1_greatestDepth_p4, R.1]
      simp (disch := omega) only [iI_le, if_pos]
    | succ k ih =>
      intro i m hi hm
      obtain ⟨m, rfl⟩ : ∃ x, m = x + 1 := ⟨m - 1, by omega⟩
      have d := gd_lt t i (by omega)
      have e := @mxF_rng (fun i => (gd t i : Int)) 31 i (by omega) (fun j hj => by have := gd_lt t j (by omega); omega)
      rw [fX1_greatestDepth_p4, R.1]
      simp (disch := omega) only [iI_le, if_neg, t_depthAt G R, bd_s, ltm_s, l_1, iI_add, DZ, if_pos, tn_n, iI_max]
      exact ih (i + 1) m (by omega) (by omega)
  exact key (cnt t) 0 1000 (by omega) (by omega)
theorem t_leaning (G : GT t) (R : RT I r t) {lim : Int} (hl : 55 ≤ lim ∧ lim ≤ 90) : fX1_leaning r (iI lim) I = some (iI (sm (fun i => if lnB lim (sbP t i) = true then 1 else 0) (cnt t)), I) := by
  have g := G.1
  have key : ∀ k i m, i + k = cnt t → k < m → fX1_leaning_p4 m r (iI lim) (iI (sm (fun i => if lnB lim (sbP t i) = true then 1 else 0) i)) (iI i) I = some (iI (sm (fun i => if lnB lim (sbP t i) = true then 1 else 0) (cnt t)), I) := by
    intro k
    induction k with
    | zero =>
      intro i m hi hm
      obtain ⟨m, rfl⟩ : ∃ x, m = x + 1 := ⟨m - 1, by omega⟩
      obtain rfl : i = cnt t := by omega
      rw [fX1_leaning_p4, R.1]
      simp (disch := omega) only [iI_le, if_pos]
    | succ k ih =>
      intro i m hi hm
      obtain ⟨m, rfl⟩ : ∃ x, m = x + 1 := ⟨m - 1, by omega⟩
      have e := ih (i + 1) m (by omega) (by omega)
      rw [sm] at e
      rw [fX1_leaning_p4, R.1]
      simp (disch := omega) only [iI_le, if_neg, t_leans G R (show i < cnt t by omega) hl, bd_s, ltm_s, l_0, l_1, iI_add]
      by_cases c : lnB lim (sbP t i) = true
      · rw [if_pos c] at e
        simp (disch := omega) only [if_pos c, iI_eq, if_neg]
        exact e
      · rw [if_neg c, Int.add_zero] at e
        simp (disch := omega) only [if_neg c, iI_eq, if_pos]
        exact e
  exact key (cnt t) 0 1000 (by omega) (by omega)
theorem t_lowest (G : GT t) (R : RT I r t) : fX1_lowest r I = some (iI (sm (fun i => if cnt (sbP t i) = 1 then 1 else 0) (cnt t)), I) := by
  have g := G.1
  have key : ∀ k i m, i + k = cnt t → k < m → fX1_lowest_p4 m r (iI (sm (fun i => if cnt (sbP t i) = 1 then 1 else 0) i)) (iI i) I = some (iI (sm (fun i => if cnt (sbP t i) = 1 then 1 else 0) (cnt t)), I) := by
    intro k
    induction k with
    | zero =>
      intro i m hi hm
      obtain ⟨m, rfl⟩ : ∃ x, m = x + 1 := ⟨m - 1, by omega⟩
      obtain rfl : i = cnt t := by omega
      rw [fX1_lowest_p4, R.1]
      simp (disch := omega) only [iI_le, if_pos]
    | succ k ih =>
      intro i m hi hm
      obtain ⟨m, rfl⟩ : ∃ x, m = x + 1 := ⟨m - 1, by omega⟩
      have e := ih (i + 1) m (by omega) (by omega)
      rw [sm] at e
      have f := fo_le t i (by omega)
      have di := gd_lt t i (by omega)
      have d1 := dz_rng G (i - 1)
      have d2 := dz_rng G (i + 1)
      have ei : DZ t i = gd t i := by simp (disch := omega) only [DZ, if_pos, tn_n]
      obtain ⟨a, b, b1, b2, b3⟩ := sb_is t i (by omega)
      rw [b1, cnt_i] at e
      rw [fX1_lowest_p4, R.1]
      by_cases c : foP t i < i
      · have x := part_deep t i (i - 1) (by omega) (by omega) (by omega) (by omega)
        have e1 : DZ t (i - 1) = gd t (i - 1) := by simp (disch := omega) only [DZ, if_pos, tn_s]
        rw [if_neg (by omega), Int.add_zero] at e
        simp (disch := omega) only [iI_le, iI_lt, if_neg, t_depthAt G R, bd_s, ltm_s, l_1, iI_add, iI_sub, if_pos]
        exact e
      · have e1 : DZ t (i - 1) ≤ gd t i := by
          have y := part_l t i (by omega)
          by_cases z : i = 0
          · simp (disch := omega) only [DZ, if_neg]; omega
          · rw [show foP t i = i by omega] at y
            simp (disch := omega) only [DZ, if_pos, tn_s]; omega
        by_cases c2 : i < loP t i
        · have x := part_deep t i (i + 1) (by omega) (by omega) (by omega) (by omega)
          have e2 : DZ t (i + 1) = gd t (i + 1) := by simp (disch := omega) only [DZ, if_pos, tn_a]
          rw [if_neg (by omega), Int.add_zero] at e
          simp (disch := omega) only [iI_le, iI_lt, if_neg, t_depthAt G R, bd_s, ltm_s, l_1, iI_add, iI_sub, if_pos]
          exact e
        · have e2 : DZ t (i + 1) ≤ gd t i := by
            have y := part_r t i (by omega)
            by_cases z : i + 1 = cnt t
            · simp (disch := omega) only [DZ, if_neg]; omega
            · rw [show loP t i = i by omega] at y
              simp (disch := omega) only [DZ, if_pos, tn_a]; omega
          rw [if_pos (by omega)] at e
          simp (disch := omega) only [iI_le, iI_lt, if_neg, t_depthAt G R, bd_s, ltm_s, l_1, iI_add, iI_sub]
          exact e
  exact key (cnt t) 0 1000 (by omega) (by omega)
theorem t_loadsFrom (G : GT t) (R : RT I r t) {lo hi : Int} (h1 : 0 ≤ lo) (h2 : lo ≤ hi + 1) (h3 : hi < cnt t) : fX1_loadsFrom r (iI lo) (iI hi) I = some (iI (sL t (hi + 1).toNat - sL t lo.toNat), I) := by
  have g := G.1
  have key : ∀ k i m a, ((i + k : Nat) : Int) = hi + 1 → k < m → fX1_loadsFrom_p9 m r (iI hi) (iI (sL t i - a)) (iI i) I = some (iI (sL t (hi + 1).toNat - a), I) := by
    intro k
    induction k with
    | zero =>
      intro i m a hi hm
      obtain ⟨m, rfl⟩ : ∃ x, m = x + 1 := ⟨m - 1, by omega⟩
      rw [fX1_loadsFrom_p9, R.1]
      simp (disch := omega) only [iI_lt, if_pos]
      rw [← hi]; rfl
    | succ k ih =>
      intro i m a hi hm
      obtain ⟨m, rfl⟩ : ∃ x, m = x + 1 := ⟨m - 1, by omega⟩
      have e := ih (i + 1) m a (by omega) (by omega)
      rw [fX1_loadsFrom_p9, R.1]
      simp (disch := omega) only [iI_le, iI_lt, if_neg, t_loadAt G R, bd_s, ltm_s, l_1, iI_add, LZ, if_pos, tn_n]
      rw [show sL t i - a + (gl t i : Int) = sL t (i + 1) - a by rw [show sL t (i + 1) = sL t i + gl t i from rfl]; omega]
      exact e
  rw [fX1_loadsFrom]
  simp (disch := omega) only [l_0, ltm_s, iI_max]
  rw [show max lo 0 = ((lo.toNat : Nat) : Int) by omega]
  have e := key (hi + 1 - lo).toNat lo.toNat 1000 (sL t lo.toNat) (by omega) (by omega)
  rw [Int.sub_self] at e
  exact e
theorem rk_iff {x : Int} (G : GT t) {p : Nat} (hp : p < cnt t) : (gw t p : Int) < x ↔ p < rkQ x t := by
  constructor
  · intro h
    by_cases c : p < rkQ x t
    · exact c
    · have := rk_ge x t p G (by omega) hp; omega
  · exact fun h => rk_lt x t p G h
theorem t_lighterOneByOne (G : GT t) (R : RT I r t) {x : Int} (h1 : -2147483648 ≤ x) (h2 : x < 2147483648) : fX1_lighterOneByOne r (iI x) I = some (iI (rkQ x t), I) := by
  have g := G.1
  have rl := rk_le x t
  have key : ∀ k i m, i + k = cnt t → k < m → fX1_lighterOneByOne_p4 m r (iI x) (iI (min i (rkQ x t) : Nat)) (iI i) I = some (iI (rkQ x t), I) := by
    intro k
    induction k with
    | zero =>
      intro i m hi hm
      obtain ⟨m, rfl⟩ : ∃ x, m = x + 1 := ⟨m - 1, by omega⟩
      rw [fX1_lighterOneByOne_p4, R.1]
      simp (disch := omega) only [iI_le, if_pos]
      rw [show min i (rkQ x t) = rkQ x t by omega]
    | succ k ih =>
      intro i m hi hm
      obtain ⟨m, rfl⟩ : ∃ x, m = x + 1 := ⟨m - 1, by omega⟩
      have e := ih (i + 1) m (by omega) (by omega)
      have q := @rk_iff t x G i (by omega)
      have w := (G.2.1 i (by omega)).1
      rw [fX1_lighterOneByOne_p4, R.1]
      simp (disch := omega) only [iI_le, if_neg, t_weightAt G R, bd_s, ltm_s, l_1, iI_add, WZ, if_pos, tn_n]
      by_cases c : i < rkQ x t
      · rw [if_neg (by omega), show ((min i (rkQ x t) : Nat) : Int) + 1 = (min (i + 1) (rkQ x t) : Nat) by omega]
        exact e
      · rw [if_pos (by omega), show (min i (rkQ x t) : Nat) = (min (i + 1) (rkQ x t) : Nat) by omega]
        exact e
  have e := key (cnt t) 0 1000 (by omega) (by omega)
  rw [show min 0 (rkQ x t) = 0 by omega] at e
  exact e
theorem t_find (G : GT t) (R : RT I r t) {x : Int} (h1 : -2147483648 ≤ x) (h2 : x < 2147483648) : fX1_find r (iI x) I = some (iI (fdP t x), I) := by
  rw [c_find (rk_of G R) h1 h2]
  have g := G.1
  have key : ∀ k i, i + k = 31 → (∀ p, p < i → p < cnt t → (gw t p : Int) ≠ x) → fndZ (cnt t) (fun p => (gw t p : Int)) x k i = fdP t x := by
    intro k
    induction k with
    | zero =>
      intro i hi h
      rw [fndZ]
      by_cases c : fdP t x = -1
      · exact c.symm
      · obtain ⟨p, h1, h2, h3, _⟩ := fd_yes c
        exact absurd h3 (h p (by omega) h1)
    | succ k ih =>
      intro i hi h
      rw [fndZ]
      by_cases c : cnt t ≤ i
      · rw [if_pos c]
        by_cases c : fdP t x = -1
        · exact c.symm
        · obtain ⟨p, h1, h2, h3, _⟩ := fd_yes c
          exact absurd h3 (h p (by omega) h1)
      · rw [if_neg c]
        by_cases d : (gw t i : Int) = x
        · rw [if_pos d, ← d, fd_at G (by omega)]
        · rw [if_neg d]
          refine ih (i + 1) (by omega) (fun p h1 h2 => ?_)
          by_cases e : p = i
          · rw [e]; exact d
          · exact h p (by omega) h2
  rw [key 31 0 (by omega) (fun p h => by omega)]
end CS
