/-! ===== shares and means ===== -/
theorem d_sum : ∀ t : Tr, 0 ≤ sm (fun p => (gd t p : Int)) (cnt t) ∧ 2 * sm (fun p => (gd t p : Int)) (cnt t) ≤ (cnt t : Int) * ((cnt t : Int) - 1)
  | .leaf => by rw [show cnt .leaf = 0 from rfl, sm]; omega
  | .inner s w ld l r => by
    have a := d_sum l
    have b := d_sum r
    have one : ∀ n : Nat, sm (fun _ => 1) n = n := fun n => by
      induction n with
      | zero => rfl
      | succ n ih => rw [sm, ih]; omega
    have e : sm (fun p => (gd (.inner s w ld l r) p : Int)) (cnt (.inner s w ld l r)) = sm (fun p => (gd l p : Int)) (cnt l) + cnt l + (sm (fun p => (gd r p : Int)) (cnt r) + cnt r) := by
      rw [cnt_i, sm_add, sm, gi_m.2.2.2.1]
      rw [sm_congr (f := fun p => (gd (.inner s w ld l r) p : Int)) (g := fun p => (gd l p : Int) + 1) (cnt l) (fun p hp => by rw [(gi_l hp).2.2.2.1]; rfl)]
      rw [sm_congr (f := fun j => (gd (.inner s w ld l r) (cnt l + 1 + j) : Int)) (g := fun p => (gd r p : Int) + 1) (cnt r) (fun p hp => by rw [gi_r.2.2.2.1]; rfl)]
      rw [sm_addf, sm_addf, one, one]; omega
    rw [e, cnt_i]
    generalize sm (fun p => (gd l p : Int)) (cnt l) = x at *
    generalize sm (fun p => (gd r p : Int)) (cnt r) = y at *
    have h := Int.mul_nonneg (show (0 : Int) ≤ cnt l by omega) (show (0 : Int) ≤ cnt r by omega)
    generalize hc : (cnt l : Int) = u at *
    generalize hd : (cnt r : Int) = v at *
    rw [show ((cnt l + 1 + cnt r : Nat) : Int) = u + 1 + v by omega]
    have c := Int.mul_comm v u
    simp only [Int.add_mul, Int.mul_add, Int.sub_mul, Int.mul_sub, Int.mul_one, Int.one_mul] at *
    omega
theorem me_is (n a : Nat) (h0 : 0 < n) (h1 : n ≤ 30) (h : 2 * a ≤ n * (n - 1)) (I : Mm) : (dq a n) &&& 0x7fffffffffffffff ≤ (0x7ff0000000000000 : UInt64) ∧ ∃ v, fX4_meanBits (dq a n) I = some (v, I) ∧ fJxe99ae_doubleToLongBits_ccdee (dq a n) I = some (v, I) := by
  have e := me_all n a h0 h1 h
  unfold meOK at e
  rw [Bool.and_eq_true, Bool.and_eq_true, decide_eq_true_eq, decide_eq_true_eq, decide_eq_true_eq] at e
  obtain ⟨⟨e1, e2⟩, e3⟩ := e
  refine ⟨e1, (dq a n).toInt64, ?_, ?_⟩
  · rw [nm_meanB (dq a n) I, e2, fJxe99ae_doubleToLongBits_ccdee, fJxe99ae_isNaN_b9ae7, if_pos e3, bd_s, if_pos rfl]; rfl
  · rw [fJxe99ae_doubleToLongBits_ccdee, fJxe99ae_isNaN_b9ae7, if_pos e3, bd_s, if_pos rfl]
theorem sh_is (n a : Nat) (h0 : 0 < n) (h1 : n ≤ 30) (h : a ≤ n) (I : Mm) : (fq a n) &&& 0x7fffffff ≤ (0x7f800000 : UInt32) ∧ fX4_shareBits (fq a n) I = some (fbI (fq a n), I) := by
  have e := allB_is (allB_is sh_all (n - 1) (by omega)) a (by omega)
  rw [show n - 1 + 1 = n by omega] at e
  unfold shOK at e
  rw [Bool.and_eq_true, decide_eq_true_eq, decide_eq_true_eq] at e
  refine ⟨e.1, ?_⟩
  rw [nm_shareB (fq a n) I, e.2]; rfl
theorem ak_leaningShare (x : Int32) : Ak (fX4_leaningShare x) (fX5_leaningShare x) := ak_q fun I R => by
  rcases rk_c R x with ⟨c, m⟩ | ⟨i, t, mm, lim, rfl, c, k, m, hi, G, Rt, M, D1, D2, hl, D3, D4, D5⟩
  · exact ⟨iI (-11), I, by rw [fX4_leaningShare, c, bd_s, on_0]; rfl, by rw [fX5_leaningShare, m, bd_s, if_pos i00]; rfl, lf_rfl I⟩
  · have g := G.1
    by_cases d : cnt t = 0
    · refine ⟨-15, I, ?_, ?_, lf_rfl I⟩
      · rw [fX4_leaningShare, c, bd_s, on_1, if_pos k, Rt.1, if_neg (by rw [l_0, iI_lt (by omega) (by omega) (by omega) (by omega)]; omega)]
      · rw [fX5_leaningShare, m, bd_s, if_neg i10, m_count hi G M, bd_s, if_pos (by rw [d]; rfl)]
    · obtain ⟨J, e, l⟩ := m_leaning hi G M hl D4
      have rg := sm_le1 (f := fun p => if lnB lim (sbP t p) = true then 1 else 0) (cnt t) (fun p _ => by split <;> omega)
      have ce := t_leaning G Rt hl
      obtain ⟨a, ha⟩ : ∃ a : Nat, sm (fun p => if lnB lim (sbP t p) = true then 1 else 0) (cnt t) = a := ⟨_, (Int.toNat_of_nonneg rg.1).symm⟩
      rw [ha] at e ce rg
      obtain ⟨s1, s2⟩ := sh_is (cnt t) a (by omega) g (by omega) I
      refine ⟨fbI (fq a (cnt t)), J, ?_, ?_, l⟩
      · rw [fX4_leaningShare, c, bd_s, on_1, if_pos k, Rt.1, if_pos (by rw [l_0, iI_lt (by omega) (by omega) (by omega) (by omega)]; omega), D3, ce, bd_s, Rt.1, if_pos s1, ltm_s, s2, bd_s]
      · rw [fX5_leaningShare, m, bd_s, if_neg i10, m_count hi G M, bd_s, if_neg (by rw [l_0, iI_eq (by omega) (by omega) (by omega) (by omega)]; omega), e, bd_s, m_count hi G (mf_mr l M), bd_s, if_pos s1, ltm_s]
theorem ak_meanDepth (x : Int32) : Ak (fX4_meanDepth x) (fX5_meanDepth x) := ak_q fun I R => by
  rcases rk_c R x with ⟨c, m⟩ | ⟨i, t, mm, lim, rfl, c, k, m, hi, G, Rt, M, D1, D2, hl, D3, D4, D5⟩
  · exact ⟨-11, I, by rw [fX4_meanDepth, c, bd_s, on_0], by rw [fX5_meanDepth, m, bd_s, if_pos i00], lf_rfl I⟩
  · have g := G.1
    by_cases d : cnt t = 0
    · refine ⟨-15, I, ?_, ?_, lf_rfl I⟩
      · rw [fX4_meanDepth, c, bd_s, on_1, if_pos k, Rt.1, if_neg (by rw [l_0, iI_lt (by omega) (by omega) (by omega) (by omega)]; omega)]
      · rw [fX5_meanDepth, m, bd_s, if_neg i10, m_count hi G M, bd_s, if_pos (by rw [d]; rfl)]
    · obtain ⟨J, e, l⟩ := m_allDepths hi G M
      have rg := d_sum t
      have ce := t_depths G Rt
      obtain ⟨a, ha⟩ : ∃ a : Nat, sm (fun p => (gd t p : Int)) (cnt t) = a := ⟨_, (Int.toNat_of_nonneg rg.1).symm⟩
      rw [ha] at e ce rg
      have h2 : 2 * a ≤ cnt t * (cnt t - 1) := by
        have := rg.2
        rw [show (cnt t : Int) - 1 = ((cnt t - 1 : Nat) : Int) by omega, ← Int.natCast_mul] at this
        omega
      obtain ⟨s1, v, s2, -⟩ := me_is (cnt t) a (by omega) g h2 I
      obtain ⟨-, v', s3, s4⟩ := me_is (cnt t) a (by omega) g h2 J
      have ev : v = v' := by
        have x1 := nm_meanB (dq a (cnt t)) I
        have x2 := nm_meanB (dq a (cnt t)) J
        rw [s2] at x1
        rw [s3] at x2
        cases hq : (fX4_meanBits (dq a (cnt t)) Z9).map Prod.fst with
        | none => rw [hq] at x1; cases x1
        | some u =>
          rw [hq] at x1 x2
          have y1 := (pr_e x1).1
          have y2 := (pr_e x2).1
          rw [y1, y2]
      refine ⟨v, J, ?_, ?_, l⟩
      · rw [fX4_meanDepth, c, bd_s, on_1, if_pos k, Rt.1, if_pos (by rw [l_0, iI_lt (by omega) (by omega) (by omega) (by omega)]; omega), ce, bd_s, Rt.1, if_pos s1, ltm_s, s2, bd_s]
      · rw [fX5_meanDepth, m, bd_s, if_neg i10, m_count hi G M, bd_s, if_neg (by rw [l_0, iI_eq (by omega) (by omega) (by omega) (by omega)]; omega), e, bd_s, m_count hi G (mf_mr l M), bd_s, if_pos s1, ltm_s, s4, bd_s, ev]
