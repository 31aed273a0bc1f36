/-! ===== the law's loop: every call of both alike ===== -/
theorem lg_self (v : Int64) : lg_cmp v v = 0 := by
  unfold lg_cmp
  simp
theorem law_step {L : Nat} {xs : Nat → Int32} {m : Nat} {x3 : Int32} {I : Mm} (R : RR I) (h : ¬ ((Int32.ofNat L) - 4) < x3) (hn0 : ¬ (x3 < 0 ∨ L ≤ x3.toNatClampNeg)) (hn1 : ¬ ((x3 + 1) < 0 ∨ L ≤ (x3 + 1).toNatClampNeg)) (hn2 : ¬ ((x3 + 2) < 0 ∨ L ≤ (x3 + 2).toNatClampNeg)) (hn3 : ¬ ((x3 + 3) < 0 ∨ L ≤ (x3 + 3).toNatClampNeg)) : ∃ I', RR I' ∧ fL_law L xs (m + 1) x3 I = fL_law L xs m (x3 + 4) I' := by
  rw [fL_law, if_neg h, if_neg hn0]
  by_cases c0 : (xs x3.toNatClampNeg) &&& 31 = 0
  · obtain ⟨v, J, K, e1, e2, R2⟩ := ak_put (xs ((x3 + 1).toNatClampNeg)) (xs ((x3 + 2).toNatClampNeg)) (xs ((x3 + 3).toNatClampNeg)) I R
    exact ⟨K, R2, by rw [if_pos c0, if_neg hn1, if_neg hn2, if_neg hn3, e1, bd_s, if_neg hn1, if_neg hn2, if_neg hn3, e2, bd_s, if_pos rfl, ltm_s]⟩
  rw [if_neg c0]
  by_cases c1 : (xs x3.toNatClampNeg) &&& 31 = 1
  · obtain ⟨v, J, K, e1, e2, R2⟩ := ak_take (xs ((x3 + 1).toNatClampNeg)) (xs ((x3 + 2).toNatClampNeg)) I R
    exact ⟨K, R2, by rw [if_pos c1, if_neg hn1, if_neg hn2, e1, bd_s, if_neg hn1, if_neg hn2, e2, bd_s, if_pos rfl, ltm_s]⟩
  rw [if_neg c1]
  by_cases c2 : (xs x3.toNatClampNeg) &&& 31 = 2
  · obtain ⟨v, J, K, e1, e2, R2⟩ := ak_build (xs ((x3 + 1).toNatClampNeg)) I R
    exact ⟨K, R2, by rw [if_pos c2, if_neg hn1, e1, bd_s, if_neg hn1, e2, bd_s, if_pos rfl, ltm_s]⟩
  rw [if_neg c2]
  by_cases c3 : (xs x3.toNatClampNeg) &&& 31 = 3
  · obtain ⟨v, J, K, e1, e2, R2⟩ := ak_pour (xs ((x3 + 1).toNatClampNeg)) (xs ((x3 + 2).toNatClampNeg)) I R
    exact ⟨K, R2, by rw [if_pos c3, if_neg hn1, if_neg hn2, e1, bd_s, if_neg hn1, if_neg hn2, e2, bd_s, if_pos rfl, ltm_s]⟩
  rw [if_neg c3]
  by_cases c4 : (xs x3.toNatClampNeg) &&& 31 = 4
  · obtain ⟨v, J, K, e1, e2, R2⟩ := ak_limit (xs ((x3 + 1).toNatClampNeg)) I R
    exact ⟨K, R2, by rw [if_pos c4, if_neg hn1, e1, bd_s, if_neg hn1, e2, bd_s, if_pos rfl, ltm_s]⟩
  rw [if_neg c4]
  by_cases c5 : (xs x3.toNatClampNeg) &&& 31 = 5
  · obtain ⟨v, J, K, e1, e2, R2⟩ := ak_sheafOf (xs ((x3 + 1).toNatClampNeg)) (xs ((x3 + 2).toNatClampNeg)) (xs ((x3 + 3).toNatClampNeg)) I R
    exact ⟨K, R2, by rw [if_pos c5, if_neg hn1, if_neg hn2, if_neg hn3, e1, bd_s, if_neg hn1, if_neg hn2, if_neg hn3, e2, bd_s, if_pos rfl, ltm_s]⟩
  rw [if_neg c5]
  by_cases c6 : (xs x3.toNatClampNeg) &&& 31 = 6
  · obtain ⟨v, J, K, e1, e2, R2⟩ := ak_rickOf (xs ((x3 + 1).toNatClampNeg)) (xs ((x3 + 2).toNatClampNeg)) I R
    exact ⟨K, R2, by rw [if_pos c6, if_neg hn1, if_neg hn2, e1, bd_s, if_neg hn1, if_neg hn2, e2, bd_s, if_pos rfl, ltm_s]⟩
  rw [if_neg c6]
  by_cases c7 : (xs x3.toNatClampNeg) &&& 31 = 7
  · obtain ⟨v, J, K, e1, e2, R2⟩ := ak_rank (xs ((x3 + 1).toNatClampNeg)) (xs ((x3 + 2).toNatClampNeg)) I R
    exact ⟨K, R2, by rw [if_pos c7, if_neg hn1, if_neg hn2, e1, bd_s, if_neg hn1, if_neg hn2, e2, bd_s, if_pos rfl, ltm_s]⟩
  rw [if_neg c7]
  by_cases c8 : (xs x3.toNatClampNeg) &&& 31 = 8
  · obtain ⟨v, J, K, e1, e2, R2⟩ := ak_rankAgain (xs ((x3 + 1).toNatClampNeg)) (xs ((x3 + 2).toNatClampNeg)) I R
    exact ⟨K, R2, by rw [if_pos c8, if_neg hn1, if_neg hn2, e1, bd_s, if_neg hn1, if_neg hn2, e2, bd_s, if_pos rfl, ltm_s]⟩
  rw [if_neg c8]
  by_cases c9 : (xs x3.toNatClampNeg) &&& 31 = 9
  · obtain ⟨v, J, K, e1, e2, R2⟩ := ak_at (xs ((x3 + 1).toNatClampNeg)) (xs ((x3 + 2).toNatClampNeg)) I R
    exact ⟨K, R2, by rw [if_pos c9, if_neg hn1, if_neg hn2, e1, bd_s, if_neg hn1, if_neg hn2, e2, bd_s, if_pos rfl, ltm_s]⟩
  rw [if_neg c9]
  by_cases c10 : (xs x3.toNatClampNeg) &&& 31 = 10
  · obtain ⟨v, J, K, e1, e2, R2⟩ := ak_between (xs ((x3 + 1).toNatClampNeg)) (xs ((x3 + 2).toNatClampNeg)) (xs ((x3 + 3).toNatClampNeg)) I R
    exact ⟨K, R2, by rw [if_pos c10, if_neg hn1, if_neg hn2, if_neg hn3, e1, bd_s, if_neg hn1, if_neg hn2, if_neg hn3, e2, bd_s, if_pos rfl, ltm_s]⟩
  rw [if_neg c10]
  by_cases c11 : (xs x3.toNatClampNeg) &&& 31 = 11
  · obtain ⟨v, J, K, e1, e2, R2⟩ := ak_betweenAgain (xs ((x3 + 1).toNatClampNeg)) (xs ((x3 + 2).toNatClampNeg)) (xs ((x3 + 3).toNatClampNeg)) I R
    exact ⟨K, R2, by rw [if_pos c11, if_neg hn1, if_neg hn2, if_neg hn3, e1, bd_s, if_neg hn1, if_neg hn2, if_neg hn3, e2, bd_s, if_pos rfl, ltm_s]⟩
  rw [if_neg c11]
  by_cases c12 : (xs x3.toNatClampNeg) &&& 31 = 12
  · obtain ⟨v, J, K, e1, e2, R2⟩ := ak_heaviest (xs ((x3 + 1).toNatClampNeg)) I R
    exact ⟨K, R2, by rw [if_pos c12, if_neg hn1, e1, bd_s, if_neg hn1, e2, bd_s, if_pos rfl, ltm_s]⟩
  rw [if_neg c12]
  by_cases c13 : (xs x3.toNatClampNeg) &&& 31 = 13
  · obtain ⟨v, J, K, e1, e2, R2⟩ := ak_carts (xs ((x3 + 1).toNatClampNeg)) (xs ((x3 + 2).toNatClampNeg)) I R
    exact ⟨K, R2, by rw [if_pos c13, if_neg hn1, if_neg hn2, e1, bd_s, if_neg hn1, if_neg hn2, e2, bd_s, if_pos rfl, ltm_s]⟩
  rw [if_neg c13]
  by_cases c14 : (xs x3.toNatClampNeg) &&& 31 = 14
  · obtain ⟨v, J, K, e1, e2, R2⟩ := ak_cartOf (xs ((x3 + 1).toNatClampNeg)) (xs ((x3 + 2).toNatClampNeg)) (xs ((x3 + 3).toNatClampNeg)) I R
    exact ⟨K, R2, by rw [if_pos c14, if_neg hn1, if_neg hn2, if_neg hn3, e1, bd_s, if_neg hn1, if_neg hn2, if_neg hn3, e2, bd_s, if_pos rfl, ltm_s]⟩
  rw [if_neg c14]
  by_cases c15 : (xs x3.toNatClampNeg) &&& 31 = 15
  · obtain ⟨v, J, K, e1, e2, R2⟩ := ak_shape (xs ((x3 + 1).toNatClampNeg)) I R
    exact ⟨K, R2, by rw [if_pos c15, if_neg hn1, e1, bd_s, if_neg hn1, e2, bd_s, if_pos (lg_self v), ltm_s]⟩
  rw [if_neg c15]
  by_cases c16 : (xs x3.toNatClampNeg) &&& 31 = 16
  · obtain ⟨v, J, K, e1, e2, R2⟩ := ak_weights (xs ((x3 + 1).toNatClampNeg)) (xs ((x3 + 2).toNatClampNeg)) I R
    exact ⟨K, R2, by rw [if_pos c16, if_neg hn1, if_neg hn2, e1, bd_s, if_neg hn1, if_neg hn2, e2, bd_s, if_pos (lg_self v), ltm_s]⟩
  rw [if_neg c16]
  by_cases c17 : (xs x3.toNatClampNeg) &&& 31 = 17
  · obtain ⟨v, J, K, e1, e2, R2⟩ := ak_leaningShare (xs ((x3 + 1).toNatClampNeg)) I R
    exact ⟨K, R2, by rw [if_pos c17, if_neg hn1, e1, bd_s, if_neg hn1, e2, bd_s, if_pos rfl, ltm_s]⟩
  rw [if_neg c17]
  by_cases c18 : (xs x3.toNatClampNeg) &&& 31 = 18
  · obtain ⟨v, J, K, e1, e2, R2⟩ := ak_meanDepth (xs ((x3 + 1).toNatClampNeg)) I R
    exact ⟨K, R2, by rw [if_pos c18, if_neg hn1, e1, bd_s, if_neg hn1, e2, bd_s, if_pos (lg_self v), ltm_s]⟩
  rw [if_neg c18]
  by_cases c19 : (xs x3.toNatClampNeg) &&& 31 = 19
  · obtain ⟨v, J, K, e1, e2, R2⟩ := ak_append (xs ((x3 + 1).toNatClampNeg)) I R
    exact ⟨K, R2, by rw [if_pos c19, if_neg hn1, e1, bd_s, if_neg hn1, e2, bd_s, if_pos rfl, ltm_s]⟩
  rw [if_neg c19]
  by_cases c20 : (xs x3.toNatClampNeg) &&& 31 = 20
  · obtain ⟨v, J, K, e1, e2, R2⟩ := ak_run I R
    exact ⟨K, R2, by rw [if_pos c20, e1, bd_s, e2, bd_s, if_pos rfl, ltm_s]⟩
  rw [if_neg c20]
  by_cases c21 : (xs x3.toNatClampNeg) &&& 31 = 21
  · obtain ⟨v, J, K, e1, e2, R2⟩ := ak_tell (xs ((x3 + 1).toNatClampNeg)) I R
    exact ⟨K, R2, by rw [if_pos c21, if_neg hn1, e1, bd_s, if_neg hn1, e2, bd_s, if_pos rfl, ltm_s]⟩
  rw [if_neg c21]
  by_cases c22 : (xs x3.toNatClampNeg) &&& 31 = 22
  · obtain ⟨v, J, K, e1, e2, R2⟩ := ak_character (xs ((x3 + 1).toNatClampNeg)) I R
    exact ⟨K, R2, by rw [if_pos c22, if_neg hn1, e1, bd_s, if_neg hn1, e2, bd_s, if_pos rfl, ltm_s]⟩
  rw [if_neg c22]
  by_cases c23 : (xs x3.toNatClampNeg) &&& 31 = 23
  · by_cases d : (xs ((x3 + 1).toNatClampNeg)) = 0
    · obtain ⟨v, J, K, e1, e2, R2⟩ := ak_reason 0 I R
      exact ⟨K, R2, by rw [if_pos c23, if_neg hn1, if_pos d, e1, bd_s, if_neg hn1, if_pos d, e2, bd_s, if_pos rfl, ltm_s]⟩
    · obtain ⟨v, J, K, e1, e2, R2⟩ := ak_reason 1 I R
      exact ⟨K, R2, by rw [if_pos c23, if_neg hn1, if_neg d, e1, bd_s, if_neg hn1, if_neg d, e2, bd_s, if_pos rfl, ltm_s]⟩
  rw [if_neg c23]
  by_cases c24 : (xs x3.toNatClampNeg) &&& 31 = 24
  · obtain ⟨v, J, K, e1, e2, R2⟩ := ak_account (xs ((x3 + 1).toNatClampNeg)) I R
    exact ⟨K, R2, by rw [if_pos c24, if_neg hn1, e1, bd_s, if_neg hn1, e2, bd_s, if_pos rfl, ltm_s]⟩
  rw [if_neg c24]
  by_cases c25 : (xs x3.toNatClampNeg) &&& 31 = 25
  · obtain ⟨v, J, K, e1, e2, R2⟩ := ak_isBalanced I R
    exact ⟨K, R2, by rw [if_pos c25, e1, bd_s, e2, bd_s, if_pos rfl, ltm_s]⟩
  rw [if_neg c25]
  by_cases c26 : (xs x3.toNatClampNeg) &&& 31 = 26
  · obtain ⟨v, J, K, e1, e2, R2⟩ := ak_undo I R
    exact ⟨K, R2, by rw [if_pos c26, e1, bd_s, e2, bd_s, if_pos rfl, ltm_s]⟩
  rw [if_neg c26]
  by_cases c27 : (xs x3.toNatClampNeg) &&& 31 = 27
  · obtain ⟨v, J, K, e1, e2, R2⟩ := ak_save I R
    exact ⟨K, R2, by rw [if_pos c27, e1, bd_s, e2, bd_s, if_pos rfl, ltm_s]⟩
  rw [if_neg c27]
  by_cases c28 : (xs x3.toNatClampNeg) &&& 31 = 28
  · obtain ⟨v, J, K, e1, e2, R2⟩ := ak_restore I R
    exact ⟨K, R2, by rw [if_pos c28, e1, bd_s, e2, bd_s, if_pos rfl, ltm_s]⟩
  rw [if_neg c28]
  exact ⟨I, R, ltm_s⟩
theorem law_loop {L : Nat} (hL : L ≤ 2048) {xs : Nat → Int32} : ∀ (k j m : Nat) (I : Mm), 4 * (j + k) ≤ L → L < 4 * (j + k) + 4 → k < m → RR I → ∃ I', fL_law L xs m (iI ((4 * j : Nat) : Int)) I = some (1, I')
  | 0, j, m, I, h1, h2, hm, R => by
    obtain ⟨m, rfl⟩ : ∃ y, m = y + 1 := ⟨m - 1, by omega⟩
    refine ⟨I, ?_⟩
    rw [fL_law, if_pos ?_]
    rw [show Int32.ofNat L = iI (L : Int) from rfl, l_4, iI_sub, iI_lt (by omega) (by omega) (by omega) (by omega)]; omega
  | k + 1, j, m, I, h1, h2, hm, R => by
    obtain ⟨m, rfl⟩ : ∃ y, m = y + 1 := ⟨m - 1, by omega⟩
    have ix : ∀ d : Nat, d ≤ 3 → ¬ ((iI ((4 * j : Nat) : Int) + iI (d : Int)) < 0 ∨ L ≤ (iI ((4 * j : Nat) : Int) + iI (d : Int)).toNatClampNeg) := fun d hd => by
      rw [iI_add, l_0, iI_lt (by omega) (by omega) (by omega) (by omega), iI_cl (by omega) (by omega)]; omega
    have ix0 : ¬ ((iI ((4 * j : Nat) : Int)) < 0 ∨ L ≤ (iI ((4 * j : Nat) : Int)).toNatClampNeg) := by
      rw [l_0, iI_lt (by omega) (by omega) (by omega) (by omega), iI_cl (by omega) (by omega)]; omega
    have go : ¬ ((Int32.ofNat L) - 4) < iI ((4 * j : Nat) : Int) := by
      rw [show Int32.ofNat L = iI (L : Int) from rfl, l_4, iI_sub, iI_lt (by omega) (by omega) (by omega) (by omega)]; omega
    obtain ⟨J, R2, e⟩ := law_step (xs := xs) (m := m) R go ix0 (ix 1 (by omega)) (ix 2 (by omega)) (ix 3 (by omega))
    obtain ⟨I', e2⟩ := law_loop hL k (j + 1) m J (by omega) (by omega) (by omega) R2
    refine ⟨I', ?_⟩
    rw [e, l_4, iI_add, show ((4 * j : Nat) : Int) + 4 = ((4 * (j + 1) : Nat) : Int) by omega]
    exact e2
