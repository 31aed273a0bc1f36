/-! ===== a change as a call ===== -/
theorem ak_op {cF mF : Mm → Option (Int32 × Mm)} (h : ∀ I f T mo ct, NwS I f T mo ct → OpNo I f cF mF T mo ct ∨ OpY I f cF mF) : Ak (fun I => bd (fX4_hold I) fun _ I1 => bd (cF I1) fun r2 I2 => bd (fX4_keep r2 I2) fun r3 I3 => some (r3, I3)) mF := by
  intro I R
  obtain ⟨⟨T, mo, ct, O, C, M⟩, sv, ⟨nx, un, pa⟩, rs, h8, tx, ln⟩ := R
  obtain ⟨p1, p2, p3, p4, p5, p6⟩ := pa
  obtain ⟨J1, e1, cp, f1⟩ := c_hold p1 p3 O C
  have N : NwS J1 (I 164) T mo ct := ⟨O, cy_of C (fun a j _ _ => f1 a j (by omega)), M⟩
  rcases h J1 (I 164) T mo ct N with ⟨v, rs', hv, hrs, ⟨J2, e2, q1, q2, q3, q4, q5⟩, hm⟩ | ⟨v, J2, hv, e2, q2, q3, hm⟩
  · have j164 : J2 164 = I 164 := funext fun j => by rw [q2 _ _ (by omega), f1 _ _ (by omega)]
    obtain ⟨L, m1, m2, m3, m4⟩ := hm J2 j164
    have lj : ∀ a j, a ≠ 176 → (a = 163 → j ≠ 10 ∧ j ≠ 5 ∧ j ≠ 6) → 15 ≤ a → (a < 37 + 14 * nx ∨ 37 + 14 * nx + 13 < a) → L a j = I a j := fun a j x y z w => by rw [m2 a j x y, q2 a j z, f1 a j w]
    have l0 : ∀ j, j ≠ 9 → j ≠ 10 → L 0 j = I 0 j := fun j x y => by rw [m2 0 j (by omega) (by omega), q3 j x y, f1 _ _ (by omega)]
    refine ⟨v, J2, L, ?_, m1, ?_, ?_, ⟨nx, un, p1, p2, ?_, ?_, ?_, fun k hk => ?_⟩, ?_, ?_, ?_, ?_⟩
    · show bd (fX4_hold I) _ = _
      rw [e1, bd_s, e2, bd_s, c_keep0 hv, bd_s]
    · exact ⟨T, mo, ct, O, cy_of q1 (fun a j _ _ => m2 a j (by omega) (by omega)), my_of O M (fun j _ => lj 164 j (by omega) (by omega) (by omega) (by omega))⟩
    · exact sv_of sv (fun a j _ _ => lj a j (by omega) (by omega) (by omega) (by omega)) (l0 _ (by omega) (by omega)) (lj _ _ (by omega) (by omega) (by omega) (by omega)) (fun j => lj _ _ (by omega) (by omega) (by omega) (by omega))
    · rw [l0 _ (by omega) (by omega), p3]
    · rw [l0 _ (by omega) (by omega), p4]
    · rw [lj _ _ (by omega) (by omega) (by omega) (by omega), p5]
    · exact yy_of (p6 k hk) (fun a j x y => lj a j (by omega) (by omega) (by omega) (by omega)) (fun j _ => lj _ _ (by omega) (by omega) (by omega) (by omega))
    · have c9 : L 0 9 = r1 rs' (I 0 9) := by rw [m2 0 9 (by omega) (by omega), q4, f1 _ _ (by omega)]
      have c10 : L 0 10 = r2 rs' (I 0 10) := by rw [m2 0 10 (by omega) (by omega), q5, f1 _ _ (by omega)]
      have k5 : L 163 5 = r1 rs' (I 163 5) := by rw [m3, q2 _ _ (by omega), f1 _ _ (by omega)]
      have k6 : L 163 6 = r2 rs' (I 163 6) := by rw [m4, q2 _ _ (by omega), f1 _ _ (by omega)]
      cases rs' with
      | none => exact rs_of rs k5 k6 c9 c10
      | some x => exact Or.inr ⟨by rw [k5]; exact hrs x rfl, by rw [c9, k5]; rfl, by rw [c10, k6]; rfl⟩
    · rw [lj _ _ (by omega) (by omega) (by omega) (by omega), h8]
    · exact tx_of tx (fun a j _ _ => lj a j (by omega) (by omega) (by omega) (by omega)) (lj _ _ (by omega) (by omega) (by omega) (by omega)) (fun j => lj _ _ (by omega) (by omega) (by omega) (by omega))
    · exact ln_of ln (fun a j _ _ => lj a j (by omega) (by omega) (by omega) (by omega)) (lj _ _ (by omega) (by omega) (by omega) (by omega)) (fun j => lj _ _ (by omega) (by omega) (by omega) (by omega))
  · have ek := @c_keep1 J2 v hv nx un p1 p2 (by rw [q3, f1 _ _ (by omega), p3]) (by rw [q3, f1 _ _ (by omega), p4])
    generalize hJ3 : wr (wr J2 0 4 (iI (((nx + 1) % 9 : Nat) : Int))) 0 5 (iI (min (un + 1) 8 : Nat)) = J3 at ek
    have w0 : ∀ a j, (a ≠ 0 ∨ (j ≠ 4 ∧ j ≠ 5)) → J3 a j = J2 a j := fun a j x => by rw [← hJ3, wr_e, if_neg (by omega), wr_e, if_neg (by omega)]
    have w4 : J3 0 4 = iI (((nx + 1) % 9 : Nat) : Int) := by rw [← hJ3, wr_e, if_neg (by omega), wr_e, if_pos ⟨rfl, rfl⟩]
    have w5 : J3 0 5 = iI (min (un + 1) 8 : Nat) := by rw [← hJ3, wr_e, if_pos ⟨rfl, rfl⟩]
    have j3 : ∀ a j, 15 ≤ a → (a < 37 + 14 * nx ∨ 37 + 14 * nx + 13 < a) → J3 a j = I a j := fun a j x y => by rw [w0 a j (by omega), q2 a j x, f1 a j y]
    have j164 : J3 164 = I 164 := funext fun j => j3 _ _ (by omega) (by omega)
    obtain ⟨L, T', mo', ct', m1, O', C', M', eq⟩ := hm J3 (chg un 164 J3) j164 (chg_ok p2 (by rw [j3 _ _ (by omega) (by omega), p5]) (by rw [j3 _ _ (by omega) (by omega), h8]))
    have lo : ∀ a j, a ≠ 164 → a ≠ 176 → a ≠ 177 → (a = 163 → j ≠ 10 ∧ j ≠ 4) → (a < 168 ∨ 176 ≤ a) → L a j = J3 a j := fun a j x1 x2 x3 x4 x5 => by
      rw [eq a j x1 x2 x3 (by omega)]; unfold chg; rw [if_neg (by omega), if_neg (by omega), if_neg (by omega)]
    have li : ∀ a j, 15 ≤ a → a ≠ 164 → a ≠ 176 → a ≠ 177 → (a = 163 → j ≠ 10 ∧ j ≠ 4) → (a < 168 ∨ 176 ≤ a) → (a < 37 + 14 * nx ∨ 37 + 14 * nx + 13 < a) → L a j = I a j := fun a j x0 x1 x2 x3 x4 x5 x6 => by rw [lo a j x1 x2 x3 x4 x5, j3 a j x0 x6]
    have l0 : ∀ j, j ≠ 4 → j ≠ 5 → L 0 j = I 0 j := fun j x y => by rw [lo 0 j (by omega) (by omega) (by omega) (by omega) (by omega), w0 _ _ (by omega), q3, f1 _ _ (by omega)]
    refine ⟨v, J3, L, ?_, m1, ?_, ?_, ⟨(nx + 1) % 9, min (un + 1) 8, by omega, by omega, ?_, ?_, ?_, fun k hk => ?_⟩, ?_, ?_, ?_, ?_⟩
    · show bd (fX4_hold I) _ = _
      rw [e1, bd_s, e2, bd_s, ek, bd_s]
    · exact ⟨T', mo', ct', O', cy_of C' (fun a j _ _ => by rw [lo a j (by omega) (by omega) (by omega) (by omega) (by omega), w0 a j (by omega)]), M'⟩
    · exact sv_of sv (fun a j _ _ => li a j (by omega) (by omega) (by omega) (by omega) (by omega) (by omega) (by omega)) (l0 _ (by omega) (by omega)) (li _ _ (by omega) (by omega) (by omega) (by omega) (by omega) (by omega) (by omega)) (fun j => li _ _ (by omega) (by omega) (by omega) (by omega) (by omega) (by omega) (by omega))
    · rw [lo _ _ (by omega) (by omega) (by omega) (by omega) (by omega), w4]
    · rw [lo _ _ (by omega) (by omega) (by omega) (by omega) (by omega), w5]
    · rw [eq _ _ (by omega) (by omega) (by omega) (by omega)]; unfold chg; rw [if_pos ⟨rfl, rfl⟩]
    · -- the rows that can be undone
      have yn : YY L (37 + 14 * nx) (I 164) := ⟨T, mo, ct, O, cy_of cp (fun a j x y => by rw [lo a j (by omega) (by omega) (by omega) (by omega) (by omega), w0 a j (by omega), q2 a j (by omega)]), M⟩
      have yo : ∀ q, q < un → YY L (37 + 14 * ((nx + 9 - un + q) % 9)) (I (168 + q)) := fun q hq => yy_of (p6 q hq) (fun a j x y => li a j (by omega) (by omega) (by omega) (by omega) (by omega) (by omega) (by omega)) (fun j _ => rfl)
      by_cases c : un = 8
      · by_cases d : k = 7
        · subst d
          rw [show ((nx + 1) % 9 + 9 - min (un + 1) 8 + 7) % 9 = nx by omega]
          exact yy_of yn (fun _ _ _ _ => rfl) (fun j hj => by
            rw [eq _ _ (by omega) (by omega) (by omega) (by omega)]; unfold chg; rw [if_neg (by omega), if_neg (by omega), if_pos (by omega), j164])
        · rw [show ((nx + 1) % 9 + 9 - min (un + 1) 8 + k) % 9 = (nx + 9 - un + (k + 1)) % 9 by omega]
          exact yy_of (yo (k + 1) (by omega)) (fun _ _ _ _ => rfl) (fun j hj => by
            rw [eq _ _ (by omega) (by omega) (by omega) (by omega)]; unfold chg; rw [if_neg (by omega), if_pos (by omega), j3 _ _ (by omega) (by omega)]; rfl)
      · by_cases d : k = un
        · subst d
          rw [show ((nx + 1) % 9 + 9 - min (k + 1) 8 + k) % 9 = nx by omega]
          exact yy_of yn (fun _ _ _ _ => rfl) (fun j hj => by
            rw [eq _ _ (by omega) (by omega) (by omega) (by omega)]; unfold chg; rw [if_neg (by omega), if_neg (by omega), if_pos (by omega), j164])
        · rw [show ((nx + 1) % 9 + 9 - min (un + 1) 8 + k) % 9 = (nx + 9 - un + k) % 9 by omega]
          exact yy_of (yo k (by omega)) (fun _ _ _ _ => rfl) (fun j hj => by
            rw [eq _ _ (by omega) (by omega) (by omega) (by omega)]; unfold chg; rw [if_neg (by omega), if_neg (by omega), if_neg (by omega), j3 _ _ (by omega) (by omega)])
    · exact rs_of rs (li _ _ (by omega) (by omega) (by omega) (by omega) (by omega) (by omega) (by omega)) (li _ _ (by omega) (by omega) (by omega) (by omega) (by omega) (by omega) (by omega)) (l0 _ (by omega) (by omega)) (l0 _ (by omega) (by omega))
    · rw [li _ _ (by omega) (by omega) (by omega) (by omega) (by omega) (by omega) (by omega), h8]
    · exact tx_of tx (fun a j _ _ => li a j (by omega) (by omega) (by omega) (by omega) (by omega) (by omega) (by omega)) (li _ _ (by omega) (by omega) (by omega) (by omega) (by omega) (by omega) (by omega)) (fun j => li _ _ (by omega) (by omega) (by omega) (by omega) (by omega) (by omega) (by omega))
    · exact ln_of ln (fun a j _ _ => li a j (by omega) (by omega) (by omega) (by omega) (by omega) (by omega) (by omega)) (li _ _ (by omega) (by omega) (by omega) (by omega) (by omega) (by omega) (by omega)) (fun j => li _ _ (by omega) (by omega) (by omega) (by omega) (by omega) (by omega) (by omega))
theorem ak_put (x y z : Int32) : Ak (fX4_put x y z) (fX5_put_ x y z) := ak_op (fun I f T mo ct N => op_e (op_put N x y z))
theorem ak_take (x y : Int32) : Ak (fX4_take x y) (fX5_take x y) := ak_op (fun I f T mo ct N => op_e (op_take N x y))
theorem ak_build (x : Int32) : Ak (fX4_build x) (fX5_build x) := ak_op (fun I f T mo ct N => op_e (op_build N x))
theorem ak_pour (x y : Int32) : Ak (fX4_pour x y) (fX5_pour x y) := ak_op (fun I f T mo ct N => op_pour N x y)
theorem ak_limit (x : Int32) : Ak (fX4_limit x) (fX5_limit x) := ak_op (fun I f T mo ct N => op_e (op_limit N x))
/-! undo, save, restore -/
theorem ak_undo : Ak fX4_undo fX5_undo := by
  intro I R
  obtain ⟨⟨T, mo, ct, O, C, M⟩, sv, ⟨nx, un, pa⟩, rs, h8, tx, ln⟩ := id R
  obtain ⟨p1, p2, p3, p4, p5, p6⟩ := pa
  by_cases c : un = 0
  · refine ⟨-15, I, I, ?_, ?_, R⟩
    · rw [fX4_undo, p4, c, if_neg (by decide)]
    · rw [fX5_undo, p5, c, if_pos (by decide)]
  · obtain ⟨T', mo', ct', O', C', M'⟩ := p6 (un - 1) (by omega)
    rw [show (nx + 9 - un + (un - 1)) % 9 = (nx + 8) % 9 by omega] at C'
    have a : (iI nx + 8 - (iI nx + 8) / 9 * 9) = iI (((nx + 8) % 9 : Nat) : Int) := by
      rw [l_8, l_9, iI_add, iI_div (by omega) (by omega) (by omega) (by omega), iI_mul, iI_sub]; congr 1; omega
    generalize hJ1 : wr (wr I 0 4 (iI (((nx + 8) % 9 : Nat) : Int))) 0 5 (iI ((un - 1 : Nat) : Int)) = J1
    have w0 : ∀ a j, (a ≠ 0 ∨ (j ≠ 4 ∧ j ≠ 5)) → J1 a j = I a j := fun a j x => by rw [← hJ1, wr_e, if_neg (by omega), wr_e, if_neg (by omega)]
    have w4 : J1 0 4 = iI (((nx + 8) % 9 : Nat) : Int) := by rw [← hJ1, wr_e, if_neg (by omega), wr_e, if_pos ⟨rfl, rfl⟩]
    have w5 : J1 0 5 = iI ((un - 1 : Nat) : Int) := by rw [← hJ1, wr_e, if_pos ⟨rfl, rfl⟩]
    obtain ⟨J, e1, cj, fj⟩ := @c_give J1 ((nx + 8) % 9) (by omega) w4 T' mo' ct' O' (cy_of C' (fun a j x y => w0 a j (by omega)))
    have ji : ∀ a j, (a ≠ 0 ∨ (j ≠ 4 ∧ j ≠ 5)) → (a < 1 ∨ 14 < a) → J a j = I a j := fun a j x y => by rw [fj a j y, w0 a j x]
    obtain ⟨L0, k1, k2, k3⟩ := @m_copyRow (wr J 163 4 (iI ((un - 1 : Nat) : Int))) (168 + (un - 1)) 164 (by unfold isW; omega) (by unfold isW; omega) (by omega)
    have lj : ∀ a j, a ≠ 164 → (a = 163 → j ≠ 4) → L0 a j = J a j := fun a j x y => by rw [k3 a j (by omega), wr_e, if_neg (by omega)]
    have li : ∀ a j, a ≠ 164 → (a = 163 → j ≠ 4) → (a ≠ 0 ∨ (j ≠ 4 ∧ j ≠ 5)) → (a < 1 ∨ 14 < a) → L0 a j = I a j := fun a j x y z w => by rw [lj a j x y, ji a j z w]
    have l4 : L0 163 4 = iI ((un - 1 : Nat) : Int) := by rw [k3 _ _ (by omega), wr_e, if_pos ⟨rfl, rfl⟩]
    have u1 : iI un - 1 = iI ((un - 1 : Nat) : Int) := by rw [l_1, iI_sub]; congr 1; omega
    refine ⟨iI ((un - 1 : Nat) : Int), J, L0, ?_, ?_, ?_, ?_, ⟨(nx + 8) % 9, un - 1, by omega, by omega, ?_, ?_, l4, fun k hk => ?_⟩, ?_, ?_, ?_, ?_⟩
    · rw [fX4_undo, p4, if_pos (by rw [l_0, iI_lt (by omega) (by omega) (by omega) (by omega)]; omega), p3, a, ltm_s]
      rw [show (wr I 0 4 (iI (((nx + 8) % 9 : Nat) : Int))) 0 5 = iI un by rw [wr_e, if_neg (by omega), p4], u1, ltm_s, hJ1, e1, bd_s, fj _ _ (by omega), w5]
    · rw [fX5_undo, ji _ _ (by omega) (by omega), p5, if_neg (by rw [l_0, iI_eq (by omega) (by omega) (by omega) (by omega)]; omega), u1, ltm_s]
      rw [show (wr J 163 4 (iI ((un - 1 : Nat) : Int))) 163 4 = iI ((un - 1 : Nat) : Int) by rw [wr_e, if_pos ⟨rfl, rfl⟩]]
      simp (disch := omega) only [l_0, iI_lt, iI_cl, if_neg]
      rw [show (((un - 1 : Nat) : Int)).toNat = un - 1 from rfl, k1, bd_s, l4]
    · refine ⟨T', mo', ct', O', cy_of cj (fun a j _ _ => lj a j (by omega) (by omega)), my_of O' M' (fun j hj => ?_)⟩
      rw [k2 j hj, wr_e, if_neg (by omega), ji _ _ (by omega) (by omega)]
    · exact sv_of sv (fun a j _ _ => li a j (by omega) (by omega) (by omega) (by omega)) (li _ _ (by omega) (by omega) (by omega) (by omega)) (li _ _ (by omega) (by omega) (by omega) (by omega)) (fun j => li _ _ (by omega) (by omega) (by omega) (by omega))
    · rw [lj _ _ (by omega) (by omega), fj _ _ (by omega), w4]
    · rw [lj _ _ (by omega) (by omega), fj _ _ (by omega), w5]
    · rw [show ((nx + 8) % 9 + 9 - (un - 1) + k) % 9 = (nx + 9 - un + k) % 9 by omega]
      exact yy_of (p6 k (by omega)) (fun a j x y => li a j (by omega) (by omega) (by omega) (by omega)) (fun j _ => li _ _ (by omega) (by omega) (by omega) (by omega))
    · exact rs_of rs (li _ _ (by omega) (by omega) (by omega) (by omega)) (li _ _ (by omega) (by omega) (by omega) (by omega)) (li _ _ (by omega) (by omega) (by omega) (by omega)) (li _ _ (by omega) (by omega) (by omega) (by omega))
    · rw [li _ _ (by omega) (by omega) (by omega) (by omega), h8]
    · exact tx_of tx (fun a j _ _ => li a j (by omega) (by omega) (by omega) (by omega)) (li _ _ (by omega) (by omega) (by omega) (by omega)) (fun j => li _ _ (by omega) (by omega) (by omega) (by omega))
    · exact ln_of ln (fun a j _ _ => li a j (by omega) (by omega) (by omega) (by omega)) (li _ _ (by omega) (by omega) (by omega) (by omega)) (fun j => li _ _ (by omega) (by omega) (by omega) (by omega))
theorem ak_save : Ak fX4_save fX5_save := by
  intro I R
  obtain ⟨⟨T, mo, ct, O, C, M⟩, sv, ⟨nx, un, pa⟩, rs, h8, tx, ln⟩ := R
  obtain ⟨J0, e1, cj, fj⟩ := @c_copyY I 15 1 (Or.inr (Or.inl rfl)) (Or.inl rfl) (by omega) T mo ct O C
  generalize hJ : wr J0 0 2 1 = J
  have wj : ∀ a j, (a ≠ 0 ∨ j ≠ 2) → J a j = J0 a j := fun a j x => by rw [← hJ, wr_e, if_neg (by omega)]
  have ji : ∀ a j, (a ≠ 0 ∨ j ≠ 2) → (a < 15 ∨ 28 < a) → J a j = I a j := fun a j x y => by rw [wj a j x, fj a j (by omega)]
  obtain ⟨L, k1, k2, k3⟩ := @m_copyRow (wr J 163 7 1) 164 165 (by unfold isW; omega) (by unfold isW; omega) (by omega)
  have lj : ∀ a j, a ≠ 165 → (a = 163 → j ≠ 7) → L a j = J a j := fun a j x y => by rw [k3 a j (by omega), wr_e, if_neg (by omega)]
  have li : ∀ a j, a ≠ 165 → (a = 163 → j ≠ 7) → (a ≠ 0 ∨ j ≠ 2) → (a < 15 ∨ 28 < a) → L a j = I a j := fun a j x y z w => by rw [lj a j x y, ji a j z w]
  have CJ : CY J 1 T mo ct := cy_of C (fun a j _ _ => ji a j (by omega) (by omega))
  have CL : CY L 1 T mo ct := cy_of CJ (fun a j _ _ => lj a j (by omega) (by omega))
  have ML : MY (L 164) T mo ct := my_of O M (fun j _ => li _ _ (by omega) (by omega) (by omega) (by omega))
  refine ⟨iI ((cnt (T 0) + cnt (T 1) + cnt (T 2) : Nat) : Int), J, L, ?_, ?_, ⟨T, mo, ct, O, CL, ML⟩, Or.inr ⟨?_, ?_, T, mo, ct, O, cy_of cj (fun a j _ _ => by rw [lj a j (by omega) (by omega), wj a j (by omega)]), my_of O M (fun j hj => ?_)⟩, ⟨nx, un, pa_of pa (fun a j _ _ => li a j (by omega) (by omega) (by omega) (by omega)) (li _ _ (by omega) (by omega) (by omega) (by omega)) (li _ _ (by omega) (by omega) (by omega) (by omega)) (li _ _ (by omega) (by omega) (by omega) (by omega)) (fun a j _ _ => li a j (by omega) (by omega) (by omega) (by omega))⟩, ?_, ?_, ?_, ?_⟩
  · rw [fX4_save, e1, bd_s, ltm_s, hJ, c_sheaves (Or.inl rfl) CJ, bd_s]
  · rw [fX5_save, ltm_s, k1, bd_s, m_allSheaves O ML, bd_s]
  · rw [lj _ _ (by omega) (by omega), ← hJ, wr_e, if_pos ⟨rfl, rfl⟩]
  · rw [k3 _ _ (by omega), wr_e, if_pos ⟨rfl, rfl⟩]
  · rw [k2 j hj, wr_e, if_neg (by omega), ji _ _ (by omega) (by omega)]
  · exact rs_of rs (li _ _ (by omega) (by omega) (by omega) (by omega)) (li _ _ (by omega) (by omega) (by omega) (by omega)) (li _ _ (by omega) (by omega) (by omega) (by omega)) (li _ _ (by omega) (by omega) (by omega) (by omega))
  · rw [li _ _ (by omega) (by omega) (by omega) (by omega), h8]
  · exact tx_of tx (fun a j _ _ => li a j (by omega) (by omega) (by omega) (by omega)) (li _ _ (by omega) (by omega) (by omega) (by omega)) (fun j => li _ _ (by omega) (by omega) (by omega) (by omega))
  · exact ln_of ln (fun a j _ _ => li a j (by omega) (by omega) (by omega) (by omega)) (li _ _ (by omega) (by omega) (by omega) (by omega)) (fun j => li _ _ (by omega) (by omega) (by omega) (by omega))
theorem ak_restore : Ak fX4_restore fX5_restore := by
  intro I R
  obtain ⟨nw, sv, ⟨nx, un, pa⟩, rs, h8, tx, ln⟩ := id R
  rcases sv with ⟨s1, s2⟩ | ⟨s1, s2, s3⟩
  · refine ⟨-15, I, I, ?_, ?_, R⟩
    · rw [fX4_restore, s1, if_pos rfl]
    · rw [fX5_restore, s2, if_pos rfl]
  · obtain ⟨T, mo, ct, O, C, M⟩ := s3
    obtain ⟨J0, e1, cj, fj⟩ := @c_copyY I 1 15 (Or.inl rfl) (Or.inr (Or.inl rfl)) (by omega) T mo ct O C
    generalize hJ : wr J0 0 5 0 = J
    have wj : ∀ a j, (a ≠ 0 ∨ j ≠ 5) → J a j = J0 a j := fun a j x => by rw [← hJ, wr_e, if_neg (by omega)]
    have ji : ∀ a j, (a ≠ 0 ∨ j ≠ 5) → (a < 1 ∨ 14 < a) → J a j = I a j := fun a j x y => by rw [wj a j x, fj a j (by omega)]
    obtain ⟨L0, k1, k2, k3⟩ := @m_copyRow J 165 164 (by unfold isW; omega) (by unfold isW; omega) (by omega)
    generalize hL : wr L0 163 4 0 = L
    have lj : ∀ a j, a ≠ 164 → (a = 163 → j ≠ 4) → L a j = J a j := fun a j x y => by rw [← hL, wr_e, if_neg (by omega), k3 a j (by omega)]
    have li : ∀ a j, a ≠ 164 → (a = 163 → j ≠ 4) → (a ≠ 0 ∨ j ≠ 5) → (a < 1 ∨ 14 < a) → L a j = I a j := fun a j x y z w => by rw [lj a j x y, ji a j z w]
    have CJ : CY J 1 T mo ct := cy_of cj (fun a j _ _ => wj a j (by omega))
    have CL : CY L 1 T mo ct := cy_of CJ (fun a j _ _ => lj a j (by omega) (by omega))
    have ML : MY (L 164) T mo ct := my_of O M (fun j hj => by rw [← hL, wr_e, if_neg (by omega), k2 j hj, ji _ _ (by omega) (by omega)])
    obtain ⟨p1, p2, p3, p4, p5, p6⟩ := pa
    refine ⟨iI ((cnt (T 0) + cnt (T 1) + cnt (T 2) : Nat) : Int), J, L, ?_, ?_, ⟨T, mo, ct, O, CL, ML⟩, Or.inr ⟨?_, ?_, T, mo, ct, O, cy_of C (fun a j _ _ => li a j (by omega) (by omega) (by omega) (by omega)), my_of O M (fun j hj => li _ _ (by omega) (by omega) (by omega) (by omega))⟩, ⟨nx, 0, p1, by omega, ?_, ?_, ?_, fun k hk => by omega⟩, ?_, ?_, ?_, ?_⟩
    · rw [fX4_restore, s1, if_neg (by decide), e1, bd_s, ltm_s, hJ, c_sheaves (Or.inl rfl) CJ, bd_s]
    · rw [fX5_restore, ji _ _ (by omega) (by omega), s2, if_neg (by decide), k1, bd_s, ltm_s, hL, m_allSheaves O ML, bd_s]
    · rw [li _ _ (by omega) (by omega) (by omega) (by omega), s1]
    · rw [li _ _ (by omega) (by omega) (by omega) (by omega), s2]
    · rw [li _ _ (by omega) (by omega) (by omega) (by omega), p3]
    · rw [lj _ _ (by omega) (by omega), ← hJ, wr_e, if_pos ⟨rfl, rfl⟩]; rfl
    · rw [← hL, wr_e, if_pos ⟨rfl, rfl⟩]; rfl
    · exact rs_of rs (li _ _ (by omega) (by omega) (by omega) (by omega)) (li _ _ (by omega) (by omega) (by omega) (by omega)) (li _ _ (by omega) (by omega) (by omega) (by omega)) (li _ _ (by omega) (by omega) (by omega) (by omega))
    · rw [li _ _ (by omega) (by omega) (by omega) (by omega), h8]
    · exact tx_of tx (fun a j _ _ => li a j (by omega) (by omega) (by omega) (by omega)) (li _ _ (by omega) (by omega) (by omega) (by omega)) (fun j => li _ _ (by omega) (by omega) (by omega) (by omega))
    · exact ln_of ln (fun a j _ _ => li a j (by omega) (by omega) (by omega) (by omega)) (li _ _ (by omega) (by omega) (by omega) (by omega)) (fun j => li _ _ (by omega) (by omega) (by omega) (by omega))
