/-! ===== shares and means ===== -/
theorem d_sum : ∀ t : Tr, 0 ≤ sm (fun p => (gd t p : Int)) (cnt t) ∧ 2 * sm (fun p => (gd t p : Int)) (cnt t) ≤ (cnt t : Int) * ((cnt t : Int) - 1)
  | .leaf => by rw [show cnt .leaf = 0 from rfl, sm]; omega
  | .inner s w ld l r => by
    have a := d_sum l
    have b := d_sum r
    have one : ∀ n : Nat, sm (fun _ => 1) n = n := fun n => by
      induction n with
      | zero => rfl
      | succ n ih => rw [sm, ih]; omega
    have e : sm (fun p => (gd (.inner s w ld l r) p : Int)) (cnt (.inner s w ld l r)) = sm (fun p => (gd l p : Int)) (cnt l) + cnt l + (sm (fun p => (gd r p : Int)) (cnt r) + cnt r) := by
      rw [cnt_i, sm_add, sm, gi_m.2.2.2.1]
      rw [sm_congr (f := fun p => (gd (.inner s w ld l r) p : Int)) (g := fun p => (gd l p : Int) + 1) (cnt l) (fun p hp => by rw [(gi_l hp).2.2.2.1]; rfl)]
      rw [sm_congr (f := fun j => (gd (.inner s w ld l r) (cnt l + 1 + j) : Int)) (g := fun p => (gd r p : Int) + 1) (cnt r) (fun p hp => by rw [gi_r.2.2.2.1]; rfl)]
      rw [sm_addf, sm_addf, one, one]; omega
    rw [e, cnt_i]
    generalize sm (fun p => (gd l p : Int)) (cnt l) = x at *
    generalize sm (fun p => (gd r p : Int)) (cnt r) = y at *
    have h := Int.mul_nonneg (show (0 : Int) ≤ cnt l by omega) (show (0 : Int) ≤ cnt r by omega)
    generalize hc : (cnt l : Int) = u at *
    generalize hd : (cnt r : Int) = v at *
    rw [show ((cnt l + 1 + cnt r : Nat) : Int) = u + 1 + v by omega]
    have c := Int.mul_comm v u
    simp only [Int.add_mul, Int.mul_add, Int.sub_mul, Int.mul_sub, Int.mul_one, Int.one_mul] at *
    omega
theorem me_is (n a : Nat) (h0 : 0 < n) (h1 : n ≤ 30) (h : 2 * a ≤ n * (n - 1)) (I : Mm) : (dq a n) &&& 0x7fffffffffffffff ≤ (0x7ff0000000000000 : UInt64) ∧ ∃ v, fX4_meanBits (dq a n) I = some (v, I) ∧ fJxe99ae_doubleToLongBits_ccdee (dq a n) I = some (v, I) := by
  have e := me_all n a h0 h1 h
  unfold meOK at e
  rw [Bool.and_eq_true, Bool.and_eq_true, decide_eq_true_eq, decide_eq_true_eq, decide_eq_true_eq] at e
  obtain ⟨⟨e1, e2⟩, e3⟩ := e
  refine ⟨e1, (dq a n).toInt64, ?_, ?_⟩
  · rw [nm_meanB (dq a n) I, e2, fJxe99ae_doubleToLongBits_ccdee, fJxe99ae_isNaN_b9ae7, if_pos e3, bd_s, if_pos rfl]; rfl
  · rw [fJxe99ae_doubleToLongBits_ccdee, fJxe99ae_isNaN_b9ae7, if_pos e3, bd_s, if_pos rfl]
theorem sh_is (n a : Nat) (h0 : 0 < n) (h1 : n ≤ 30) (h : a ≤ n) (I : Mm) : (fq a n) &&& 0x7fffffff ≤ (0x7f800000 : UInt32) ∧ fX4_shareBits (fq a n) I = some (fbI (fq a n), I) := by
  have e := allB_is (allB_is sh_all (n - 1) (by omega)) a (by omega)
  rw [show n - 1 + 1 = n by omega] at e
  unfold shOK at e
  rw [Bool.and_eq_true, decide_eq_true_eq, decide_eq_true_eq] at e
  refine ⟨e.1, ?_⟩
  rw [nm_shareB (fq a n) I, e.2]; rfl
