/-! ===== accounts, reasons, characters ===== -/
theorem ak_account (x : Int32) : Ak (fX4_account x) (fX5_account x) := ak_q fun I R => by
  obtain ⟨⟨T, mo, ct, O, C, M⟩, sv, ⟨nx, un, p1, p2, p3, p4, p5, p6⟩, rs, h8, ⟨n, t1, t2, t3, t4⟩, ln⟩ := R
  have cy : ∀ j, j < 7 → I 1 (j + 1) = ct j := C.2
  have my : ∀ j, j < 7 → I 164 j = ct j := M.2
  unfold fX4_account fX5_account
  by_cases c0 : x = 0
  · rw [if_pos c0, if_pos c0]
    exact ⟨_, I, by rw [c_sheaves (Or.inl rfl) C, bd_s], by rw [m_allSheaves O M, bd_s], lf_rfl I⟩
  rw [if_neg c0, if_neg c0]
  by_cases c1 : x = 1
  · rw [if_pos c1, if_pos c1]
    exact ⟨_, I, by rw [c_loads (Or.inl rfl) O C, bd_s], m_allLoads O M, lf_rfl I⟩
  rw [if_neg c1, if_neg c1]
  by_cases c2 : x = 2
  · rw [if_pos c2, if_pos c2, c2, if_neg (by decide)]
    exact ⟨_, I, by rw [cy 1 (by omega)], by rw [show ((2 : Int32) - 1).toNatClampNeg = 1 from rfl, my 1 (by omega)], lf_rfl I⟩
  rw [if_neg c2, if_neg c2]
  by_cases c3 : x = 3
  · rw [if_pos c3, if_pos c3, c3, if_neg (by decide)]
    exact ⟨_, I, by rw [cy 2 (by omega)], by rw [show ((3 : Int32) - 1).toNatClampNeg = 2 from rfl, my 2 (by omega)], lf_rfl I⟩
  rw [if_neg c3, if_neg c3]
  by_cases c4 : x = 4
  · rw [if_pos c4, if_pos c4, c4, if_neg (by decide)]
    exact ⟨_, I, by rw [cy 3 (by omega)], by rw [show ((4 : Int32) - 1).toNatClampNeg = 3 from rfl, my 3 (by omega)], lf_rfl I⟩
  rw [if_neg c4, if_neg c4]
  by_cases c5 : x = 5
  · rw [if_pos c5, if_pos c5, c5, if_neg (by decide)]
    exact ⟨_, I, by rw [cy 4 (by omega)], by rw [show ((5 : Int32) - 1).toNatClampNeg = 4 from rfl, my 4 (by omega)], lf_rfl I⟩
  rw [if_neg c5, if_neg c5]
  by_cases c6 : x = 6
  · rw [if_pos c6, if_pos c6, c6, if_neg (by decide)]
    exact ⟨_, I, by rw [cy 5 (by omega)], by rw [show ((6 : Int32) - 1).toNatClampNeg = 5 from rfl, my 5 (by omega)], lf_rfl I⟩
  rw [if_neg c6, if_neg c6]
  by_cases c7 : x = 7
  · rw [if_pos c7, if_pos c7, c7, if_neg (by decide)]
    exact ⟨_, I, by rw [cy 6 (by omega)], by rw [show ((7 : Int32) - 1).toNatClampNeg = 6 from rfl, my 6 (by omega)], lf_rfl I⟩
  rw [if_neg c7, if_neg c7]
  by_cases c8 : x = 8
  · rw [if_pos c8, if_pos c8]
    exact ⟨_, I, by rw [cy 0 (by omega)], by rw [my 0 (by omega)], lf_rfl I⟩
  rw [if_neg c8, if_neg c8]
  by_cases c9 : x = 9
  · rw [if_pos c9, if_pos c9]
    exact ⟨_, I, by rw [t2], by rw [t3], lf_rfl I⟩
  rw [if_neg c9, if_neg c9]
  by_cases c10 : x = 10
  · rw [if_pos c10, if_pos c10]
    exact ⟨_, I, by rw [p4], by rw [p5], lf_rfl I⟩
  rw [if_neg c10, if_neg c10]
  exact ⟨-12, I, rfl, rfl, lf_rfl I⟩
theorem ak_reason (x : Int32) : Ak (fX4_reason x) (fX5_reason x) := ak_q fun I R => by
  unfold fX4_reason fX5_reason
  rcases R.2.2.2.1 with ⟨a, b, c⟩ | ⟨a, b, c⟩
  · by_cases d : x = 0
    · exact ⟨-15, I, by rw [if_pos d, b], by rw [if_pos a], lf_rfl I⟩
    · exact ⟨-15, I, by rw [if_neg d, c], by rw [if_pos a], lf_rfl I⟩
  · by_cases d : x = 0
    · exact ⟨_, I, by rw [if_pos d, b], by rw [if_neg a, if_pos d], lf_rfl I⟩
    · exact ⟨_, I, by rw [if_neg d, c], by rw [if_neg a, if_neg d], lf_rfl I⟩
theorem c_codeAt {I : Mm} {a n : Nat} (e : I a 1 = iI n) (hn : n ≤ 60) {z : Int} (h1 : -2147483648 ≤ z) (h2 : z < 2147483648) : fX2_codeAt a (iI z) I = some (if 0 ≤ z ∧ z < n then I (a + 1) z.toNat else -11, I) := by
  unfold fX2_codeAt
  rw [e]
  simp (disch := omega) only [l_0, l_60, iI_lt, iI_le, iI_cl]
  by_cases c : z < 0
  · rw [if_pos c, if_neg (by omega)]
  · rw [if_neg c]
    by_cases d : (n : Int) ≤ z
    · rw [if_pos d, if_neg (by omega)]
    · rw [if_neg d, if_neg (by omega), if_neg (by omega), if_pos (by omega)]
theorem ak_character (x : Int32) : Ak (fX4_character x) (fX5_character x) := ak_q fun I R => by
  obtain ⟨n, t1, t2, t3, t4⟩ := R.2.2.2.2.2.2
  obtain ⟨z, rfl, h1, h2⟩ := iI_ex x
  unfold fX4_character fX5_character
  rw [c_codeAt t2 t1 h1 h2, bd_s, t3, l_0, l_1, iI_sub, m_isBetween h1 h2 (by omega) (by omega) (by omega) (by omega), bd_s]
  by_cases c : 0 ≤ z ∧ z < n
  · rw [if_pos c, if_pos (show 0 ≤ z ∧ z ≤ (n : Int) - 1 by omega), if_neg (show ¬ iI 1 = iI 0 from i10), iI_cl h1 h2, if_neg (by rw [iI_lt h1 h2 (by omega) (by omega)]; omega)]
    exact ⟨_, I, rfl, by rw [t4 z.toNat (by omega)], lf_rfl I⟩
  · rw [if_neg c, if_neg (show ¬ (0 ≤ z ∧ z ≤ (n : Int) - 1) by omega), if_pos (show iI 0 = iI 0 from rfl)]
    exact ⟨_, I, rfl, rfl, lf_rfl I⟩
theorem c_add {I : Mm} {a n : Nat} (e : I a 1 = iI n) (hn : n ≤ 60) (c : Int32) : fX2_add a c I = if n < 60 then some (1, wr (wr I (a + 1) n c) a 1 (iI ((n + 1 : Nat) : Int))) else some (0, I) := by
  unfold fX2_add
  rw [e]
  simp (disch := omega) only [l_0, l_60, iI_lt, iI_cl, if_neg]
  by_cases d : n < 60
  · rw [if_pos d, if_pos (by omega), tn_n, ltm_s]
    rw [show (wr I (a + 1) n c) a 1 = iI n by rw [wr_e, if_neg (by omega), e], l_1, iI_add, ltm_s]
    rfl
  · rw [if_neg d, if_neg (by omega)]
theorem ak_append (x : Int32) : Ak (fX4_append x) (fX5_append x) := by
  intro I R
  obtain ⟨nw, sv, ⟨nx, un, pa⟩, rs, h8, ⟨n, t1, t2, t3, t4⟩, ln⟩ := id R
  obtain ⟨z, rfl, h1, h2⟩ := iI_ex x
  have cd : fX4_append (iI z) I = if 32 ≤ z ∧ z ≤ 126 then (if n < 60 then some (iI ((n + 1 : Nat) : Int), wr (wr I 31 n (iI z)) 30 1 (iI ((n + 1 : Nat) : Int))) else some (-13, I)) else some (-12, I) := by
    unfold fX4_append
    rw [show (32 : Int32) = iI 32 from rfl, show (126 : Int32) = iI 126 from rfl, c_add t2 t1]
    simp (disch := omega) only [iI_lt, iI_le]
    by_cases c : 32 ≤ z ∧ z ≤ 126
    · rw [if_pos c, if_neg (by omega), if_pos (by omega)]
      by_cases d : n < 60
      · rw [if_pos d, if_pos d, bd_s, if_neg (by decide), wr_e, if_pos ⟨rfl, rfl⟩]
      · rw [if_neg d, if_neg d, bd_s, if_pos rfl]
    · rw [if_neg c]
      by_cases d : z < 32
      · rw [if_pos d]
      · rw [if_neg d, if_neg (by omega)]
  have md : ∀ J : Mm, J 163 13 = iI n → fX5_append (iI z) J = if 32 ≤ z ∧ z ≤ 126 then (if n < 60 then some (iI ((n + 1 : Nat) : Int), wr (wr J 178 n (iI z)) 163 13 (iI ((n + 1 : Nat) : Int))) else some (-13, J)) else some (-12, J) := fun J hJ => by
    unfold fX5_append
    rw [show (32 : Int32) = iI 32 from rfl, show (126 : Int32) = iI 126 from rfl, m_isBetween h1 h2 (by omega) (by omega) (by omega) (by omega), bd_s]
    by_cases c : 32 ≤ z ∧ z ≤ 126
    · rw [if_pos c, if_pos c, if_neg i10, hJ]
      by_cases d : n < 60
      · rw [if_pos d, if_neg (by rw [l_60, iI_eq (by omega) (by omega) (by omega) (by omega)]; omega)]
        simp (disch := omega) only [l_0, iI_lt, iI_cl, if_neg, tn_n]
        rw [ltm_s, show (wr J 178 n (iI z)) 163 13 = iI n by rw [wr_e, if_neg (by omega), hJ], l_1, iI_add, ltm_s, wr_e, if_pos ⟨rfl, rfl⟩]
        rfl
      · rw [if_neg d, if_pos (by rw [l_60, iI_eq (by omega) (by omega) (by omega) (by omega)]; omega)]
    · rw [if_neg c, if_neg c, if_pos i00]
  by_cases c : 32 ≤ z ∧ z ≤ 126
  · rw [if_pos c] at cd
    by_cases d : n < 60
    · rw [if_pos d] at cd
      have mm := md (wr (wr I 31 n (iI z)) 30 1 (iI ((n + 1 : Nat) : Int))) (by rw [wr_e, if_neg (by omega), wr_e, if_neg (by omega), t3])
      rw [if_pos c, if_pos d] at mm
      refine ⟨_, _, _, cd, mm, ?_⟩
      generalize hL : wr (wr (wr (wr I 31 n (iI z)) 30 1 (iI ((n + 1 : Nat) : Int))) 178 n (iI z)) 163 13 (iI ((n + 1 : Nat) : Int)) = L
      have o : ∀ a j, (a ≠ 30 ∧ a ≠ 31 ∧ a ≠ 178 ∧ (a = 163 → j ≠ 13)) → L a j = I a j := fun a j h => by
        rw [← hL, wr_e, if_neg (by omega), wr_e, if_neg (by omega), wr_e, if_neg (by omega), wr_e, if_neg (by omega)]
      have ox : ∀ j, L 31 j = if j = n then iI z else I 31 j := fun j => by
        rw [← hL, wr_e, if_neg (by omega), wr_e, if_neg (by omega), wr_e, if_neg (by omega), wr_e]
        by_cases q : j = n
        · rw [if_pos ⟨rfl, q⟩, if_pos q]
        · rw [if_neg (by omega), if_neg q]
      have oy : ∀ j, L 178 j = if j = n then iI z else I 178 j := fun j => by
        rw [← hL, wr_e, if_neg (by omega), wr_e]
        by_cases q : j = n
        · rw [if_pos ⟨rfl, q⟩, if_pos q]
        · rw [if_neg (by omega), if_neg q, wr_e, if_neg (by omega), wr_e, if_neg (by omega)]
      refine ⟨yy_of nw (fun a j _ _ => o a j (by omega)) (fun j _ => o 164 j (by omega)), sv_of sv (fun a j _ _ => o a j (by omega)) (o _ _ (by omega)) (o _ _ (by omega)) (fun j => o _ _ (by omega)), ⟨nx, un, pa_of pa (fun a j _ _ => o a j (by omega)) (o _ _ (by omega)) (o _ _ (by omega)) (o _ _ (by omega)) (fun a j _ _ => o a j (by omega))⟩, rs_of rs (o _ _ (by omega)) (o _ _ (by omega)) (o _ _ (by omega)) (o _ _ (by omega)), by rw [o _ _ (by omega), h8], ⟨n + 1, by omega, ?_, ?_, fun k hk => ?_⟩, ln_of ln (fun a j _ _ => o a j (by omega)) (o _ _ (by omega)) (fun j => o _ _ (by omega))⟩
      · rw [← hL, wr_e, if_neg (by omega), wr_e, if_neg (by omega), wr_e, if_pos ⟨rfl, rfl⟩]
      · rw [← hL, wr_e, if_pos ⟨rfl, rfl⟩]
      · rw [ox, oy]
        by_cases q : k = n
        · rw [if_pos q, if_pos q]; exact ⟨z, c.1, c.2, rfl, rfl⟩
        · rw [if_neg q, if_neg q]; exact t4 k (by omega)
    · rw [if_neg d] at cd
      have mm := md I t3
      rw [if_pos c, if_neg d] at mm
      exact ⟨_, _, _, cd, mm, R⟩
  · rw [if_neg c] at cd
    have mm := md I t3
    rw [if_neg c] at mm
    exact ⟨_, _, _, cd, mm, R⟩
theorem ak_isBalanced : Ak fX4_isBalanced fX5_isBalanced := ak_q fun I R => by
  obtain ⟨⟨T, mo, ct, O, C, M⟩, _⟩ := R
  refine ⟨1, I, ?_, rfl, lf_rfl I⟩
  have cy : ∀ j, j < 7 → I 1 (j + 1) = ct j := C.2
  have st : ∀ (i n : Nat), i < 3 → fX4_isBalanced_p29 (n + 1) (iI i) I = fX4_isBalanced_p29 n (iI ((i + 1 : Nat) : Int)) I := fun i n hi => by
    have Rt := rc_1 (C := C) hi
    have k := kd_r (y := 1) (Or.inl rfl) hi
    rw [show 1 + 2 + 4 * i = 3 + 4 * i by omega] at k
    rw [fX4_isBalanced_p29, if_neg (by rw [l_3, iI_le (by omega) (by omega) (by omega) (by omega)]; omega), c_rick hi, show 1 + 2 + 4 * i = 3 + 4 * i by omega, bd_s, on_1, if_pos k, t_isSound (O.1 i hi).1 Rt, bd_s, if_neg i10, ltm_s, l_1, iI_add]
    rfl
  rw [fX4_isBalanced, c_sheaves (Or.inl rfl) C, bd_s, cy 1 (by omega), cy 2 (by omega), O.2.2, if_pos rfl]
  have s0 := st 0 999 (by omega)
  have s1 := st 1 998 (by omega)
  have s2 := st 2 997 (by omega)
  refine (s0.trans (s1.trans s2)).trans ?_
  rw [fX4_isBalanced_p29, if_pos (by decide)]
