theorem wJxe99ae_isNaN_b9ae7 {E : Ev} {d : Nat} (hd : 1 ≤ d) {x0 : UInt64} {I I' : Mm} {r : Int32}  (h : fJxe99ae_isNaN_b9ae7 x0 I = some (r, I')) : SemM E d 0 0 mJxe99ae_isNaN_b9ae7 [.double x0] S0 I (some (.int r)) S0 I' := by
  unfold fJxe99ae_isNaN_b9ae7 at h
  refine SemM.ofX (E := E) (y := mJxe99ae_isNaN_b9ae7) (args := fun E => [.double x0]) (r := fun E => (some (.int r))) (fun E => [some (.double x0), none]) (by decide +kernel) (Nat.le_of_ble_eq_true rfl) rfl (fun X C M => ?_)
  refine s_dload_n C dJxe99ae_isNaN_b9ae7_0 rfl rfl ?_
  refine s_dload_n C dJxe99ae_isNaN_b9ae7_1 rfl rfl ?_
  refine s_dcmp C dJxe99ae_isNaN_b9ae7_2 ?_
  refine s_if_eq (tgt := 10) C dJxe99ae_isNaN_b9ae7_3 (by decide) (fun c => ?_) (fun c => ?_)
  · have h := it_t c h
    refine s_iconst C dJxe99ae_isNaN_b9ae7_10 ic_0 ?_
    obtain ⟨rfl, rfl⟩ := pr_e h
    exact s_iret C M dJxe99ae_isNaN_b9ae7_11 rfl (nz_b (by decide)) (Nat.le_refl 0) (Nat.le_refl 0)
  · have h := it_f c h
    refine s_iconst C dJxe99ae_isNaN_b9ae7_6 ic_1 ?_
    refine s_goto (tgt := 11) C dJxe99ae_isNaN_b9ae7_7 (by decide) ?_
    obtain ⟨rfl, rfl⟩ := pr_e h
    exact s_iret C M dJxe99ae_isNaN_b9ae7_11 rfl (nz_b (by decide)) (Nat.le_refl 0) (Nat.le_refl 0)
theorem wJxe99ae_doubleToLongBits_ccdee {E : Ev} {d : Nat} (hd : 2 ≤ d) {x0 : UInt64} {I I' : Mm} {r : Int64}  (h : fJxe99ae_doubleToLongBits_ccdee x0 I = some (r, I')) : SemM E d 0 0 mJxe99ae_doubleToLongBits_ccdee [.double x0] S0 I (some (.long r)) S0 I' := by
  unfold fJxe99ae_doubleToLongBits_ccdee at h
  refine SemM.ofX (E := E) (y := mJxe99ae_doubleToLongBits_ccdee) (args := fun E => [.double x0]) (r := fun E => (some (.long r))) (fun E => [some (.double x0), none]) (by decide +kernel) (Nat.le_of_ble_eq_true rfl) rfl (fun X C M => ?_)
  refine s_dload_n C dJxe99ae_doubleToLongBits_ccdee_0 rfl rfl ?_
  obtain ⟨r1, I1, hh, h⟩ := bd_e h
  refine s_cS0 (st := []) C M.rg (Nat.le_trans (by decide) hd) mwJxe99ae_isNaN_b9ae7 mlJxe99ae_122 dJxe99ae_doubleToLongBits_ccdee_1 (wJxe99ae_isNaN_b9ae7 (d := 1) (Nat.le_refl _)  hh) rfl rfl (Nat.le_of_ble_eq_true rfl) ?_
  refine s_if_ne (tgt := 12) C dJxe99ae_doubleToLongBits_ccdee_4 (by decide) (fun c => ?_) (fun c => ?_)
  · have h := it_f c h
    refine s_ldc2 C dJxe99ae_doubleToLongBits_ccdee_12 coJxe99ae_137 ?_
    obtain ⟨rfl, rfl⟩ := pr_e h
    exact s_lret C M dJxe99ae_doubleToLongBits_ccdee_15 rfl (Nat.le_refl 0) (Nat.le_refl 0)
  · have h := it_t c h
    refine s_dload_n C dJxe99ae_doubleToLongBits_ccdee_7 rfl rfl ?_
    refine s_d2raw C M.rg (Nat.le_trans (by decide) hd) mlJxe99ae_134 dJxe99ae_doubleToLongBits_ccdee_8 (Nat.le_of_ble_eq_true rfl) ?_
    obtain ⟨rfl, rfl⟩ := pr_e h
    exact s_lret C M dJxe99ae_doubleToLongBits_ccdee_11 rfl (Nat.le_refl 0) (Nat.le_refl 0)
theorem wX2_add {E : Ev} {d : Nat} (hd : 1 ≤ d) {x0 : Nat} {x1 : Int32} {I I' : Mm} {r : Int32} (hx0 : kd0 x0 = 2) (h : fX2_add x0 x1 I = some (r, I')) : SemM E d 0 0 mX2_add [rfE E x0, .int x1] S0 I (some (.int r)) S0 I' := by
  unfold fX2_add at h
  refine SemM.ofX (E := E) (y := mX2_add) (args := fun E => [rfE E x0, .int x1]) (r := fun E => (some (.int r))) (fun E => [some (rfE E x0), some (.int x1)]) (by decide +kernel) (Nat.le_of_ble_eq_true rfl) rfl (fun X C M => ?_)
  refine s_aload_n C dX2_add_0 rfl rfl ?_
  refine s_getI C dX2_add_1 hx0 foX2_15 rfl ?_
  refine s_if_lt (tgt := 16) C dX2_add_4 (by decide) (fun c => ?_) (fun c => ?_)
  · have h := it_t c h
    refine s_iconst C dX2_add_16 ic_0 ?_
    obtain ⟨rfl, rfl⟩ := pr_e h
    exact s_iret C M dX2_add_17 rfl (nz_b (by decide)) (Nat.le_refl 0) (Nat.le_refl 0)
  · have h := it_f c h
    refine s_aload_n C dX2_add_7 rfl rfl ?_
    refine s_getI C dX2_add_8 hx0 foX2_15 rfl ?_
    refine s_bipush C dX2_add_11 bi_60 ?_
    refine s_icmp_lt (tgt := 18) C dX2_add_13 (by decide) (fun c => ?_) (fun c => ?_)
    · have h := it_t c h
      refine s_aload_n C dX2_add_18 rfl rfl ?_
      refine s_getR (b := (x0 + 1)) C dX2_add_19 hx0 foX2_9 rfl (rr2 hx0) ?_
      refine s_aload_n C dX2_add_22 rfl rfl ?_
      refine s_getI C dX2_add_23 hx0 foX2_15 rfl ?_
      refine s_iload_n C dX2_add_26 rfl rfl ?_
      obtain ⟨hb, h⟩ := it_n h
      obtain ⟨I1, eI1, h⟩ := ltm_e h
      refine s_ast (q := (I x0 1).toNatClampNeg) C dX2_add_27 (kd2 hx0) (by decide) rfl hb eI1 ?_
      refine s_aload_n C dX2_add_28 rfl rfl ?_
      refine s_dup C dX2_add_29 rfl ?_
      refine s_getI C dX2_add_30 hx0 foX2_15 rfl ?_
      refine s_iconst C dX2_add_33 ic_1 ?_
      refine s_iadd C dX2_add_34 ?_
      obtain ⟨I2, eI2, h⟩ := ltm_e h
      refine s_putI C dX2_add_35 hx0 poX2_15 rfl eI2 ?_
      refine s_iconst C dX2_add_38 ic_1 ?_
      obtain ⟨rfl, rfl⟩ := pr_e h
      exact s_iret C M dX2_add_39 rfl (nz_b (by decide)) (Nat.le_refl 0) (Nat.le_refl 0)
    · have h := it_f c h
      refine s_iconst C dX2_add_16 ic_0 ?_
      obtain ⟨rfl, rfl⟩ := pr_e h
      exact s_iret C M dX2_add_17 rfl (nz_b (by decide)) (Nat.le_refl 0) (Nat.le_refl 0)
theorem wX4_append {E : Ev} {d : Nat} (hd : 2 ≤ d) {x1 : Int32} {I I' : Mm} {r : Int32}  (h : fX4_append x1 I = some (r, I')) : SemM E d 0 0 mX4_append [rfE E 0, .int x1] S0 I (some (.int r)) S0 I' := by
  unfold fX4_append at h
  refine SemM.ofX (E := E) (y := mX4_append) (args := fun E => [rfE E 0, .int x1]) (r := fun E => (some (.int r))) (fun E => [some (rfE E 0), some (.int x1)]) (by decide +kernel) (Nat.le_of_ble_eq_true rfl) rfl (fun X C M => ?_)
  refine s_iload_n C dX4_append_0 rfl rfl ?_
  refine s_bipush C dX4_append_1 bi_32 ?_
  refine s_icmp_lt (tgt := 12) C dX4_append_3 (by decide) (fun c => ?_) (fun c => ?_)
  · have h := it_t c h
    refine s_bipush C dX4_append_12 bi_m12 ?_
    obtain ⟨rfl, rfl⟩ := pr_e h
    exact s_iret C M dX4_append_14 rfl rfl (Nat.le_refl 0) (Nat.le_refl 0)
  · have h := it_f c h
    refine s_iload_n C dX4_append_6 rfl rfl ?_
    refine s_bipush C dX4_append_7 bi_126 ?_
    refine s_icmp_le (tgt := 15) C dX4_append_9 (by decide) (fun c => ?_) (fun c => ?_)
    · have h := it_t c h
      refine s_aload_n C dX4_append_15 rfl rfl ?_
      refine s_getR (b := 30) C dX4_append_16 kk_0 foX4_26 rfl rk_0_6 ?_
      refine s_iload_n C dX4_append_19 rfl rfl ?_
      obtain ⟨r1, I1, hh, h⟩ := bd_e h
      refine s_cV0 (st := []) C M.rg (Nat.le_trans (by decide) hd) mwX2_add mlX4_177 dX4_append_20 (wX2_add (d := 1) (Nat.le_refl _) kk_30 hh) kk_30 rfl rfl (Nat.le_of_ble_eq_true rfl) ?_
      refine s_if_eq (tgt := 36) C dX4_append_23 (by decide) (fun c => ?_) (fun c => ?_)
      · have h := it_t c h
        refine s_bipush C dX4_append_36 bi_m13 ?_
        obtain ⟨rfl, rfl⟩ := pr_e h
        exact s_iret C M dX4_append_38 rfl rfl (Nat.le_refl 0) (Nat.le_refl 0)
      · have h := it_f c h
        refine s_aload_n C dX4_append_26 rfl rfl ?_
        refine s_getR (b := 30) C dX4_append_27 kk_0 foX4_26 rfl rk_0_6 ?_
        refine s_getI C dX4_append_30 kk_30 foX4_180 rfl ?_
        refine s_goto (tgt := 38) C dX4_append_33 (by decide) ?_
        obtain ⟨rfl, rfl⟩ := pr_e h
        exact s_iret C M dX4_append_38 rfl rfl (Nat.le_refl 0) (Nat.le_refl 0)
    · have h := it_f c h
      refine s_bipush C dX4_append_12 bi_m12 ?_
      obtain ⟨rfl, rfl⟩ := pr_e h
      exact s_iret C M dX4_append_14 rfl rfl (Nat.le_refl 0) (Nat.le_refl 0)
theorem wL_write_p2 {X : Cx} {d : Nat} (hd : 9 ≤ d) (C : CtxOK X mL_write) : ∀ (n : Nat) {x1 : Nat} {x2 : Int32} {I I' : Mm} {r : Unit} (hx1 : x1 < 20) (_ : fL_write_p2 n x1 x2 I = some (r, I')) (_ : MX X (xE X) d 0 0 (some (rvE (xE X) (some 0))) S0 I'), WM X mL_write 2 [some (rfX X 0), some (.ref (adS (xE X) x1)), some (.int x2)] [] S0 I 0 0 := by
  intro n
  induction n with
  | zero => intro x1 x2 I I' r hx1 h M; exact absurd h (by simp [fL_write_p2])
  | succ n ih =>
    intro x1 x2 I I' r hx1 h M
    rw [fL_write_p2] at h
    refine s_iload_n C dL_write_2 rfl rfl ?_
    refine s_aload_n C dL_write_3 rfl rfl ?_
    refine s_tlen C M.rg (Nat.le_trans (by decide) hd) hx1 mlL_10 dL_write_4 (Nat.le_of_ble_eq_true rfl) ?_
    refine s_icmp_ge (tgt := 26) C dL_write_7 (by decide) (fun c => ?_) (fun c => ?_)
    · have h := it_t c h
      refine s_aload_n C dL_write_26 rfl rfl ?_
      obtain ⟨rfl, rfl⟩ := pr_e h
      exact s_aret (o := some 0) C M dL_write_27 rfl (Or.inl ⟨_, rfl⟩) (Nat.le_refl 0) (Nat.le_refl 0)
    · have h := it_f c h
      refine s_aload_n C dL_write_10 rfl rfl ?_
      refine s_aload_n C dL_write_11 rfl rfl ?_
      refine s_iload_n C dL_write_12 rfl rfl ?_
      obtain ⟨hb, h⟩ := it_n h
      refine s_tchr C M.rg (Nat.le_trans (by decide) hd) hx1 hb mlL_16 dL_write_13 (Nat.le_of_ble_eq_true rfl) ?_
      obtain ⟨r1, I1, hh, h⟩ := bd_e h
      refine s_cV0 (st := []) C M.rg (Nat.le_trans (by decide) hd) mwX4_append mlL_20 dL_write_16 (wX4_append (d := 2) (Nat.le_refl _)  hh) kk_0 rfl rfl (Nat.le_of_ble_eq_true rfl) ?_
      refine s_pop C dL_write_19 rfl ?_
      obtain ⟨v1, ev1, h⟩ := ltm_e h
      refine s_iinc (v := v1) (ls' := [some (rfX X 0), some (.ref (adS (xE X) x1)), some (.int v1)]) C dL_write_20 rfl (by decide) (Nat.le_of_ble_eq_true rfl) (by rw [ev1, ic_1]) rfl rfl ?_
      refine s_goto (tgt := 2) C dL_write_23 (by decide) ?_
      exact ih hx1 h M
theorem wL_write {E : Ev} {d : Nat} (hd : 9 ≤ d) {x1 : Nat} {I I' : Mm} {r : Unit} (hx1 : x1 < 20) (h : fL_write x1 I = some (r, I')) : SemM E d 0 0 mL_write [rfE E 0, .ref (adS E x1)] S0 I (some (rvE E (some 0))) S0 I' := by
  unfold fL_write at h
  refine SemM.ofX (E := E) (y := mL_write) (args := fun E => [rfE E 0, .ref (adS E x1)]) (r := fun E => (some (rvE E (some 0)))) (fun E => [some (rfE E 0), some (.ref (adS E x1)), none]) (by decide +kernel) (Nat.le_of_ble_eq_true rfl) rfl (fun X C M => ?_)
  refine s_iconst C dL_write_0 ic_0 ?_
  refine s_istore_n (ls' := [some (rfX X 0), some (.ref (adS (xE X) x1)), some (.int 0)]) C dL_write_1 rfl (by decide) (Nat.le_of_ble_eq_true rfl) rfl rfl ?_
  exact wL_write_p2 hd C _ hx1 h M
theorem wX1_isPlace {E : Ev} {d : Nat} (hd : 1 ≤ d) {x0 : Nat} {x1 : Int32} {I I' : Mm} {r : Int32} (hx0 : kd0 x0 = 1) (h : fX1_isPlace x0 x1 I = some (r, I')) : SemM E d 0 0 mX1_isPlace [rfE E x0, .int x1] S0 I (some (.int r)) S0 I' := by
  unfold fX1_isPlace at h
  refine SemM.ofX (E := E) (y := mX1_isPlace) (args := fun E => [rfE E x0, .int x1]) (r := fun E => (some (.int r))) (fun E => [some (rfE E x0), some (.int x1)]) (by decide +kernel) (Nat.le_of_ble_eq_true rfl) rfl (fun X C M => ?_)
  refine s_iload_n C dX1_isPlace_0 rfl rfl ?_
  refine s_if_lt (tgt := 16) C dX1_isPlace_1 (by decide) (fun c => ?_) (fun c => ?_)
  · have h := it_t c h
    refine s_iconst C dX1_isPlace_16 ic_0 ?_
    obtain ⟨rfl, rfl⟩ := pr_e h
    exact s_iret C M dX1_isPlace_17 rfl (nz_b (by decide)) (Nat.le_refl 0) (Nat.le_refl 0)
  · have h := it_f c h
    refine s_iload_n C dX1_isPlace_4 rfl rfl ?_
    refine s_aload_n C dX1_isPlace_5 rfl rfl ?_
    refine s_getI C dX1_isPlace_6 hx0 foX1_21 rfl ?_
    refine s_icmp_ge (tgt := 16) C dX1_isPlace_9 (by decide) (fun c => ?_) (fun c => ?_)
    · have h := it_t c h
      refine s_iconst C dX1_isPlace_16 ic_0 ?_
      obtain ⟨rfl, rfl⟩ := pr_e h
      exact s_iret C M dX1_isPlace_17 rfl (nz_b (by decide)) (Nat.le_refl 0) (Nat.le_refl 0)
    · have h := it_f c h
      refine s_iconst C dX1_isPlace_12 ic_1 ?_
      refine s_goto (tgt := 17) C dX1_isPlace_13 (by decide) ?_
      obtain ⟨rfl, rfl⟩ := pr_e h
      exact s_iret C M dX1_isPlace_17 rfl (nz_b (by decide)) (Nat.le_refl 0) (Nat.le_refl 0)
theorem wX1_weightAt {E : Ev} {d : Nat} (hd : 1 ≤ d) {x0 : Nat} {x1 : Int32} {I I' : Mm} {r : Int32} (hx0 : kd0 x0 = 1) (h : fX1_weightAt x0 x1 I = some (r, I')) : SemM E d 0 0 mX1_weightAt [rfE E x0, .int x1] S0 I (some (.int r)) S0 I' := by
  unfold fX1_weightAt at h
  refine SemM.ofX (E := E) (y := mX1_weightAt) (args := fun E => [rfE E x0, .int x1]) (r := fun E => (some (.int r))) (fun E => [some (rfE E x0), some (.int x1)]) (by decide +kernel) (Nat.le_of_ble_eq_true rfl) rfl (fun X C M => ?_)
  refine s_iload_n C dX1_weightAt_0 rfl rfl ?_
  refine s_if_lt (tgt := 27) C dX1_weightAt_1 (by decide) (fun c => ?_) (fun c => ?_)
  · have h := it_t c h
    refine s_bipush C dX1_weightAt_27 bi_m15 ?_
    obtain ⟨rfl, rfl⟩ := pr_e h
    exact s_iret C M dX1_weightAt_29 rfl rfl (Nat.le_refl 0) (Nat.le_refl 0)
  · have h := it_f c h
    refine s_iload_n C dX1_weightAt_4 rfl rfl ?_
    refine s_aload_n C dX1_weightAt_5 rfl rfl ?_
    refine s_getI C dX1_weightAt_6 hx0 foX1_21 rfl ?_
    refine s_icmp_ge (tgt := 27) C dX1_weightAt_9 (by decide) (fun c => ?_) (fun c => ?_)
    · have h := it_t c h
      refine s_bipush C dX1_weightAt_27 bi_m15 ?_
      obtain ⟨rfl, rfl⟩ := pr_e h
      exact s_iret C M dX1_weightAt_29 rfl rfl (Nat.le_refl 0) (Nat.le_refl 0)
    · have h := it_f c h
      refine s_iload_n C dX1_weightAt_12 rfl rfl ?_
      refine s_bipush C dX1_weightAt_13 bi_30 ?_
      refine s_icmp_ge (tgt := 27) C dX1_weightAt_15 (by decide) (fun c => ?_) (fun c => ?_)
      · have h := it_t c h
        refine s_bipush C dX1_weightAt_27 bi_m15 ?_
        obtain ⟨rfl, rfl⟩ := pr_e h
        exact s_iret C M dX1_weightAt_29 rfl rfl (Nat.le_refl 0) (Nat.le_refl 0)
      · have h := it_f c h
        refine s_aload_n C dX1_weightAt_18 rfl rfl ?_
        refine s_getR (b := (x0 + 1)) C dX1_weightAt_19 hx0 foX1_9 rfl (rr1 hx0).1 ?_
        refine s_iload_n C dX1_weightAt_22 rfl rfl ?_
        obtain ⟨hb, h⟩ := it_n h
        refine s_ald (q := x1.toNatClampNeg) C dX1_weightAt_23 (kd1 hx0).1 (by decide) rfl hb ?_
        refine s_goto (tgt := 29) C dX1_weightAt_24 (by decide) ?_
        obtain ⟨rfl, rfl⟩ := pr_e h
        exact s_iret C M dX1_weightAt_29 rfl rfl (Nat.le_refl 0) (Nat.le_refl 0)
theorem wX3_rickAt {E : Ev} {d : Nat} (hd : 1 ≤ d) {x0 : Nat} {x1 : Int32} {I I' : Mm} {r : Option Nat} (hx0 : kd0 x0 = 3) (h : fX3_rickAt x0 x1 I = some (r, I')) : SemM E d 0 0 mX3_rickAt [rfE E x0, .int x1] S0 I (some (rvE E r)) S0 I' := by
  unfold fX3_rickAt at h
  refine SemM.ofX (E := E) (y := mX3_rickAt) (args := fun E => [rfE E x0, .int x1]) (r := fun E => (some (rvE E r))) (fun E => [some (rfE E x0), some (.int x1)]) (by decide +kernel) (Nat.le_of_ble_eq_true rfl) rfl (fun X C M => ?_)
  refine s_iload_n C dX3_rickAt_0 rfl rfl ?_
  refine s_if_lt (tgt := 22) C dX3_rickAt_1 (by decide) (fun c => ?_) (fun c => ?_)
  · have h := it_t c h
    refine s_null C dX3_rickAt_22 ?_
    obtain ⟨rfl, rfl⟩ := pr_e h
    exact s_aret (o := none) C M dX3_rickAt_23 rfl (Or.inl ⟨_, rfl⟩) (Nat.le_refl 0) (Nat.le_refl 0)
  · have h := it_f c h
    refine s_iload_n C dX3_rickAt_4 rfl rfl ?_
    refine s_aload_n C dX3_rickAt_5 rfl rfl ?_
    refine s_getR (b := (x0 + 1)) C dX3_rickAt_6 hx0 foX3_11 rfl (rr3 hx0) ?_
    refine s_alenR (v := 3) C dX3_rickAt_9 (kd3 hx0) (by decide) (by decide +kernel) ?_
    refine s_icmp_ge (tgt := 22) C dX3_rickAt_10 (by decide) (fun c => ?_) (fun c => ?_)
    · have h := it_t c h
      refine s_null C dX3_rickAt_22 ?_
      obtain ⟨rfl, rfl⟩ := pr_e h
      exact s_aret (o := none) C M dX3_rickAt_23 rfl (Or.inl ⟨_, rfl⟩) (Nat.le_refl 0) (Nat.le_refl 0)
    · have h := it_f c h
      refine s_aload_n C dX3_rickAt_13 rfl rfl ?_
      refine s_getR (b := (x0 + 1)) C dX3_rickAt_14 hx0 foX3_11 rfl (rr3 hx0) ?_
      refine s_iload_n C dX3_rickAt_17 rfl rfl ?_
      obtain ⟨hb, h⟩ := it_n h
      have kq1 := (kd6 (kd3 hx0) (ck_lt hb))
      refine s_aald C dX3_rickAt_18 (kd3 hx0) (by decide) hb (rr6 (kd3 hx0) (ck_lt hb)) ?_
      refine s_goto (tgt := 23) C dX3_rickAt_19 (by decide) ?_
      obtain ⟨rfl, rfl⟩ := pr_e h
      exact s_aret (o := some ((x0 + 1) + 1 + 4 * x1.toNatClampNeg)) C M dX3_rickAt_23 rfl (Or.inl ⟨_, rfl⟩) (Nat.le_refl 0) (Nat.le_refl 0)
theorem wX4_at {E : Ev} {d : Nat} (hd : 2 ≤ d) {x1 : Int32} {x2 : Int32} {I I' : Mm} {r : Int32}  (h : fX4_at x1 x2 I = some (r, I')) : SemM E d 0 0 mX4_at [rfE E 0, .int x1, .int x2] S0 I (some (.int r)) S0 I' := by
  unfold fX4_at at h
  refine SemM.ofX (E := E) (y := mX4_at) (args := fun E => [rfE E 0, .int x1, .int x2]) (r := fun E => (some (.int r))) (fun E => [some (rfE E 0), some (.int x1), some (.int x2), none]) (by decide +kernel) (Nat.le_of_ble_eq_true rfl) rfl (fun X C M => ?_)
  refine s_aload_n C dX4_at_0 rfl rfl ?_
  refine s_getR (b := 1) C dX4_at_1 kk_0 foX4_10 rfl rk_0_0 ?_
  refine s_iload_n C dX4_at_4 rfl rfl ?_
  obtain ⟨r1, I1, hh, h⟩ := bd_e h
  refine s_cV0 (st := []) C M.rg (Nat.le_trans (by decide) hd) mwX3_rickAt mlX4_71 dX4_at_5 (wX3_rickAt (d := 1) (Nat.le_refl _) kk_1 hh) kk_1 rfl rfl (Nat.le_of_ble_eq_true rfl) ?_
  refine s_astore_no (ls' := [some (rfX X 0), some (.int x1), some (.int x2), some (rvE (xE X) r1)]) C dX4_at_8 rfl (by decide) (Nat.le_of_ble_eq_true rfl) rfl rfl ?_
  refine s_aload_no C dX4_at_9 rfl rfl ?_
  cases r1 with
  | none =>
    have h := on_n h
    refine s_ifnullN (tgt := 21) C dX4_at_10 (by decide) ?_
    refine s_bipush C dX4_at_21 bi_m11 ?_
    refine s_goto (tgt := 31) C dX4_at_23 (by decide) ?_
    obtain ⟨rfl, rfl⟩ := pr_e h
    exact s_iret C M dX4_at_31 rfl rfl (Nat.le_refl 0) (Nat.le_refl 0)
  | some q1 =>
    obtain ⟨hq1, h⟩ := it_s (on_s h)
    refine s_ifnull C dX4_at_10 ?_
    refine s_aload_n C dX4_at_13 rfl rfl ?_
    refine s_iload_n C dX4_at_14 rfl rfl ?_
    obtain ⟨r2, I2, hh, h⟩ := bd_e h
    refine s_cV0 (st := []) C M.rg (Nat.le_trans (by decide) hd) mwX1_isPlace mlX4_139 dX4_at_15 (wX1_isPlace (d := 1) (Nat.le_refl _) hq1 hh) hq1 rfl rfl (Nat.le_of_ble_eq_true rfl) ?_
    refine s_if_ne (tgt := 26) C dX4_at_18 (by decide) (fun c => ?_) (fun c => ?_)
    · have h := it_f c h
      refine s_aload_n C dX4_at_26 rfl rfl ?_
      refine s_iload_n C dX4_at_27 rfl rfl ?_
      obtain ⟨r3, I3, hh, h⟩ := bd_e h
      refine s_cV0 (st := []) C M.rg (Nat.le_trans (by decide) hd) mwX1_weightAt mlX4_105 dX4_at_28 (wX1_weightAt (d := 1) (Nat.le_refl _) hq1 hh) hq1 rfl rfl (Nat.le_of_ble_eq_true rfl) ?_
      obtain ⟨rfl, rfl⟩ := pr_e h
      exact s_iret C M dX4_at_31 rfl rfl (Nat.le_refl 0) (Nat.le_refl 0)
    · have h := it_t c h
      refine s_bipush C dX4_at_21 bi_m11 ?_
      refine s_goto (tgt := 31) C dX4_at_23 (by decide) ?_
      obtain ⟨rfl, rfl⟩ := pr_e h
      exact s_iret C M dX4_at_31 rfl rfl (Nat.le_refl 0) (Nat.le_refl 0)
theorem wX1_depthAt {E : Ev} {d : Nat} (hd : 1 ≤ d) {x0 : Nat} {x1 : Int32} {I I' : Mm} {r : Int32} (hx0 : kd0 x0 = 1) (h : fX1_depthAt x0 x1 I = some (r, I')) : SemM E d 0 0 mX1_depthAt [rfE E x0, .int x1] S0 I (some (.int r)) S0 I' := by
  unfold fX1_depthAt at h
  refine SemM.ofX (E := E) (y := mX1_depthAt) (args := fun E => [rfE E x0, .int x1]) (r := fun E => (some (.int r))) (fun E => [some (rfE E x0), some (.int x1)]) (by decide +kernel) (Nat.le_of_ble_eq_true rfl) rfl (fun X C M => ?_)
  refine s_iload_n C dX1_depthAt_0 rfl rfl ?_
  refine s_if_lt (tgt := 27) C dX1_depthAt_1 (by decide) (fun c => ?_) (fun c => ?_)
  · have h := it_t c h
    refine s_iconst C dX1_depthAt_27 ic_m1 ?_
    obtain ⟨rfl, rfl⟩ := pr_e h
    exact s_iret C M dX1_depthAt_28 rfl rfl (Nat.le_refl 0) (Nat.le_refl 0)
  · have h := it_f c h
    refine s_iload_n C dX1_depthAt_4 rfl rfl ?_
    refine s_aload_n C dX1_depthAt_5 rfl rfl ?_
    refine s_getI C dX1_depthAt_6 hx0 foX1_21 rfl ?_
    refine s_icmp_ge (tgt := 27) C dX1_depthAt_9 (by decide) (fun c => ?_) (fun c => ?_)
    · have h := it_t c h
      refine s_iconst C dX1_depthAt_27 ic_m1 ?_
      obtain ⟨rfl, rfl⟩ := pr_e h
      exact s_iret C M dX1_depthAt_28 rfl rfl (Nat.le_refl 0) (Nat.le_refl 0)
    · have h := it_f c h
      refine s_iload_n C dX1_depthAt_12 rfl rfl ?_
      refine s_bipush C dX1_depthAt_13 bi_30 ?_
      refine s_icmp_ge (tgt := 27) C dX1_depthAt_15 (by decide) (fun c => ?_) (fun c => ?_)
      · have h := it_t c h
        refine s_iconst C dX1_depthAt_27 ic_m1 ?_
        obtain ⟨rfl, rfl⟩ := pr_e h
        exact s_iret C M dX1_depthAt_28 rfl rfl (Nat.le_refl 0) (Nat.le_refl 0)
      · have h := it_f c h
        refine s_aload_n C dX1_depthAt_18 rfl rfl ?_
        refine s_getR (b := (x0 + 3)) C dX1_depthAt_19 hx0 foX1_18 rfl (rr1 hx0).2.2 ?_
        refine s_iload_n C dX1_depthAt_22 rfl rfl ?_
        obtain ⟨hb, h⟩ := it_n h
        refine s_ald (q := x1.toNatClampNeg) C dX1_depthAt_23 (kd1 hx0).2.2 (by decide) rfl hb ?_
        refine s_goto (tgt := 28) C dX1_depthAt_24 (by decide) ?_
        obtain ⟨rfl, rfl⟩ := pr_e h
        exact s_iret C M dX1_depthAt_28 rfl rfl (Nat.le_refl 0) (Nat.le_refl 0)
theorem wX1_setDepth {E : Ev} {d : Nat} (hd : 1 ≤ d) {x0 : Nat} {x1 : Int32} {x2 : Int32} {I I' : Mm} {r : Unit} (hx0 : kd0 x0 = 1) (h : fX1_setDepth x0 x1 x2 I = some (r, I')) : SemM E d 0 0 mX1_setDepth [rfE E x0, .int x1, .int x2] S0 I none S0 I' := by
  unfold fX1_setDepth at h
  refine SemM.ofX (E := E) (y := mX1_setDepth) (args := fun E => [rfE E x0, .int x1, .int x2]) (r := fun E => none) (fun E => [some (rfE E x0), some (.int x1), some (.int x2)]) (by decide +kernel) (Nat.le_of_ble_eq_true rfl) rfl (fun X C M => ?_)
  refine s_iload_n C dX1_setDepth_0 rfl rfl ?_
  refine s_if_lt (tgt := 17) C dX1_setDepth_1 (by decide) (fun c => ?_) (fun c => ?_)
  · have h := it_t c h
    obtain ⟨rfl, rfl⟩ := pr_e h
    exact s_vret C M dX1_setDepth_17 rfl (Nat.le_refl 0) (Nat.le_refl 0)
  · have h := it_f c h
    refine s_iload_n C dX1_setDepth_4 rfl rfl ?_
    refine s_bipush C dX1_setDepth_5 bi_30 ?_
    refine s_icmp_ge (tgt := 17) C dX1_setDepth_7 (by decide) (fun c => ?_) (fun c => ?_)
    · have h := it_t c h
      obtain ⟨rfl, rfl⟩ := pr_e h
      exact s_vret C M dX1_setDepth_17 rfl (Nat.le_refl 0) (Nat.le_refl 0)
    · have h := it_f c h
      refine s_aload_n C dX1_setDepth_10 rfl rfl ?_
      refine s_getR (b := (x0 + 3)) C dX1_setDepth_11 hx0 foX1_18 rfl (rr1 hx0).2.2 ?_
      refine s_iload_n C dX1_setDepth_14 rfl rfl ?_
      refine s_iload_n C dX1_setDepth_15 rfl rfl ?_
      obtain ⟨hb, h⟩ := it_n h
      obtain ⟨I1, eI1, h⟩ := ltm_e h
      refine s_ast (q := x1.toNatClampNeg) C dX1_setDepth_16 (kd1 hx0).2.2 (by decide) rfl hb eI1 ?_
      obtain ⟨rfl, rfl⟩ := pr_e h
      exact s_vret C M dX1_setDepth_17 rfl (Nat.le_refl 0) (Nat.le_refl 0)
theorem wX1_spread : ∀ (n : Nat) {E : Ev} {d : Nat} (_ : 2 + n ≤ d) {x0 : Nat} {x1 : Int32} {x2 : Int32} {x3 : Int32} {I I' : Mm} {r : Int32} (hx0 : kd0 x0 = 1) (_ : fX1_spread n x0 x1 x2 x3 I = some (r, I')), SemM E d 0 0 mX1_spread [rfE E x0, .int x1, .int x2, .int x3] S0 I (some (.int r)) S0 I' := by
  intro n
  induction n with
  | zero => intro E d hd x0 x1 x2 x3 I I' r hx0 h; exact absurd h (by simp [fX1_spread])
  | succ n ih =>
    intro E d hd x0 x1 x2 x3 I I' r hx0 h
    rw [fX1_spread] at h
    refine SemM.ofX (E := E) (y := mX1_spread) (args := fun E => [rfE E x0, .int x1, .int x2, .int x3]) (r := fun E => (some (.int r))) (fun E => [some (rfE E x0), some (.int x1), some (.int x2), some (.int x3), none, none]) (by decide +kernel) (Nat.le_of_ble_eq_true rfl) rfl (fun X C M => ?_)
    refine s_iload_n C dX1_spread_0 rfl rfl ?_
    refine s_iload_n C dX1_spread_1 rfl rfl ?_
    refine s_icmp_gt (tgt := 11) C dX1_spread_2 (by decide) (fun c => ?_) (fun c => ?_)
    · have h := it_t c h
      refine s_iconst C dX1_spread_11 ic_0 ?_
      obtain ⟨rfl, rfl⟩ := pr_e h
      exact s_iret C M dX1_spread_12 rfl rfl (Nat.le_refl 0) (Nat.le_refl 0)
    · have h := it_f c h
      refine s_iload_n C dX1_spread_5 rfl rfl ?_
      refine s_bipush C dX1_spread_6 bi_30 ?_
      refine s_icmp_le (tgt := 13) C dX1_spread_8 (by decide) (fun c => ?_) (fun c => ?_)
      · have h := it_t c h
        refine s_iload_n C dX1_spread_13 rfl rfl ?_
        refine s_iload_n C dX1_spread_14 rfl rfl ?_
        refine s_iadd C dX1_spread_15 ?_
        refine s_iconst C dX1_spread_16 ic_2 ?_
        refine s_idiv C dX1_spread_17 (by decide) ?_
        obtain ⟨v1, ev1, h⟩ := ltm_e h
        refine s_top_i ev1 ?_
        refine s_istore (ls' := [some (rfX X x0), some (.int x1), some (.int x2), some (.int x3), some (.int v1), none]) C dX1_spread_18 (by decide) (Nat.le_of_ble_eq_true rfl) rfl rfl ?_
        refine s_aload_n C dX1_spread_20 rfl rfl ?_
        refine s_iload C dX1_spread_21 rfl ?_
        obtain ⟨r1, I1, hh, h⟩ := bd_e h
        refine s_cV0 (st := []) C M.rg (Nat.le_trans (by omega) hd) mwX1_depthAt mlX1_29 dX1_spread_23 (wX1_depthAt (d := 1) (Nat.le_refl _) hx0 hh) hx0 rfl rfl (Nat.le_of_ble_eq_true rfl) ?_
        refine s_iload_n C dX1_spread_26 rfl rfl ?_
        refine s_icmp_ne (tgt := 34) C dX1_spread_27 (by decide) (fun c => ?_) (fun c => ?_)
        · have h := it_f c h
          refine s_iconst C dX1_spread_34 ic_1 ?_
          refine s_istore (ls' := [some (rfX X x0), some (.int x1), some (.int x2), some (.int x3), some (.int v1), some (.int 1)]) C dX1_spread_35 (by decide) (Nat.le_of_ble_eq_true rfl) rfl rfl ?_
          refine s_aload_n C dX1_spread_37 rfl rfl ?_
          refine s_iload C dX1_spread_38 rfl ?_
          refine s_iload_n C dX1_spread_40 rfl rfl ?_
          obtain ⟨r2, I2, hh, h⟩ := bd_e h
          refine s_cV0 (st := []) C M.rg (Nat.le_trans (by omega) hd) mwX1_setDepth mlX1_76 dX1_spread_41 (wX1_setDepth (d := 1) (Nat.le_refl _) hx0 hh) hx0 rfl rfl (Nat.le_of_ble_eq_true rfl) ?_
          refine s_iload C dX1_spread_44 rfl ?_
          refine s_aload_n C dX1_spread_46 rfl rfl ?_
          refine s_iload_n C dX1_spread_47 rfl rfl ?_
          refine s_iload C dX1_spread_48 rfl ?_
          refine s_iconst C dX1_spread_50 ic_1 ?_
          refine s_isub C dX1_spread_51 ?_
          refine s_iload_n C dX1_spread_52 rfl rfl ?_
          refine s_iconst C dX1_spread_53 ic_1 ?_
          refine s_iadd C dX1_spread_54 ?_
          obtain ⟨r3, I3, hh, h⟩ := bd_e h
          refine s_cS0 (st := [.int 1]) C M.rg (Nat.le_trans (by omega) hd) mwX1_spread mlX1_82 dX1_spread_55 (ih (d := 2 + n) (Nat.le_refl _) hx0 hh) rfl rfl (Nat.le_of_ble_eq_true rfl) ?_
          refine s_iadd C dX1_spread_58 ?_
          refine s_aload_n C dX1_spread_59 rfl rfl ?_
          refine s_iload C dX1_spread_60 rfl ?_
          refine s_iconst C dX1_spread_62 ic_1 ?_
          refine s_iadd C dX1_spread_63 ?_
          refine s_iload_n C dX1_spread_64 rfl rfl ?_
          refine s_iload_n C dX1_spread_65 rfl rfl ?_
          refine s_iconst C dX1_spread_66 ic_1 ?_
          refine s_iadd C dX1_spread_67 ?_
          obtain ⟨r4, I4, hh, h⟩ := bd_e h
          refine s_cS0 (st := [.int (1 + r3)]) C M.rg (Nat.le_trans (by omega) hd) mwX1_spread mlX1_82 dX1_spread_68 (ih (d := 2 + n) (Nat.le_refl _) hx0 hh) rfl rfl (Nat.le_of_ble_eq_true rfl) ?_
          refine s_iadd C dX1_spread_71 ?_
          obtain ⟨rfl, rfl⟩ := pr_e h
          exact s_iret C M dX1_spread_72 rfl rfl (Nat.le_refl 0) (Nat.le_refl 0)
        · have h := it_t c h
          refine s_iconst C dX1_spread_30 ic_0 ?_
          refine s_goto (tgt := 35) C dX1_spread_31 (by decide) ?_
          refine s_istore (ls' := [some (rfX X x0), some (.int x1), some (.int x2), some (.int x3), some (.int v1), some (.int 0)]) C dX1_spread_35 (by decide) (Nat.le_of_ble_eq_true rfl) rfl rfl ?_
          refine s_aload_n C dX1_spread_37 rfl rfl ?_
          refine s_iload C dX1_spread_38 rfl ?_
          refine s_iload_n C dX1_spread_40 rfl rfl ?_
          obtain ⟨r2, I2, hh, h⟩ := bd_e h
          refine s_cV0 (st := []) C M.rg (Nat.le_trans (by omega) hd) mwX1_setDepth mlX1_76 dX1_spread_41 (wX1_setDepth (d := 1) (Nat.le_refl _) hx0 hh) hx0 rfl rfl (Nat.le_of_ble_eq_true rfl) ?_
          refine s_iload C dX1_spread_44 rfl ?_
          refine s_aload_n C dX1_spread_46 rfl rfl ?_
          refine s_iload_n C dX1_spread_47 rfl rfl ?_
          refine s_iload C dX1_spread_48 rfl ?_
          refine s_iconst C dX1_spread_50 ic_1 ?_
          refine s_isub C dX1_spread_51 ?_
          refine s_iload_n C dX1_spread_52 rfl rfl ?_
          refine s_iconst C dX1_spread_53 ic_1 ?_
          refine s_iadd C dX1_spread_54 ?_
          obtain ⟨r3, I3, hh, h⟩ := bd_e h
          refine s_cS0 (st := [.int 0]) C M.rg (Nat.le_trans (by omega) hd) mwX1_spread mlX1_82 dX1_spread_55 (ih (d := 2 + n) (Nat.le_refl _) hx0 hh) rfl rfl (Nat.le_of_ble_eq_true rfl) ?_
          refine s_iadd C dX1_spread_58 ?_
          refine s_aload_n C dX1_spread_59 rfl rfl ?_
          refine s_iload C dX1_spread_60 rfl ?_
          refine s_iconst C dX1_spread_62 ic_1 ?_
          refine s_iadd C dX1_spread_63 ?_
          refine s_iload_n C dX1_spread_64 rfl rfl ?_
          refine s_iload_n C dX1_spread_65 rfl rfl ?_
          refine s_iconst C dX1_spread_66 ic_1 ?_
          refine s_iadd C dX1_spread_67 ?_
          obtain ⟨r4, I4, hh, h⟩ := bd_e h
          refine s_cS0 (st := [.int (0 + r3)]) C M.rg (Nat.le_trans (by omega) hd) mwX1_spread mlX1_82 dX1_spread_68 (ih (d := 2 + n) (Nat.le_refl _) hx0 hh) rfl rfl (Nat.le_of_ble_eq_true rfl) ?_
          refine s_iadd C dX1_spread_71 ?_
          obtain ⟨rfl, rfl⟩ := pr_e h
          exact s_iret C M dX1_spread_72 rfl rfl (Nat.le_refl 0) (Nat.le_refl 0)
      · have h := it_f c h
        refine s_iconst C dX1_spread_11 ic_0 ?_
        obtain ⟨rfl, rfl⟩ := pr_e h
        exact s_iret C M dX1_spread_12 rfl rfl (Nat.le_refl 0) (Nat.le_refl 0)
theorem wX1_buildWhole {E : Ev} {d : Nat} (hd : 43 ≤ d) {x0 : Nat} {I I' : Mm} {r : Int32} (hx0 : kd0 x0 = 1) (h : fX1_buildWhole x0 I = some (r, I')) : SemM E d 0 0 mX1_buildWhole [rfE E x0] S0 I (some (.int r)) S0 I' := by
  unfold fX1_buildWhole at h
  refine SemM.ofX (E := E) (y := mX1_buildWhole) (args := fun E => [rfE E x0]) (r := fun E => (some (.int r))) (fun E => [some (rfE E x0)]) (by decide +kernel) (Nat.le_of_ble_eq_true rfl) rfl (fun X C M => ?_)
  refine s_aload_n C dX1_buildWhole_0 rfl rfl ?_
  refine s_aload_n C dX1_buildWhole_1 rfl rfl ?_
  refine s_getI C dX1_buildWhole_2 hx0 foX1_21 rfl ?_
  obtain ⟨I1, eI1, h⟩ := ltm_e h
  refine s_putI C dX1_buildWhole_5 hx0 poX1_86 rfl eI1 ?_
  refine s_aload_n C dX1_buildWhole_8 rfl rfl ?_
  refine s_iconst C dX1_buildWhole_9 ic_0 ?_
  refine s_aload_n C dX1_buildWhole_10 rfl rfl ?_
  refine s_getI C dX1_buildWhole_11 hx0 foX1_21 rfl ?_
  refine s_iconst C dX1_buildWhole_14 ic_1 ?_
  refine s_isub C dX1_buildWhole_15 ?_
  refine s_iconst C dX1_buildWhole_16 ic_0 ?_
  obtain ⟨r1, I2, hh, h⟩ := bd_e h
  refine s_cS0 (st := []) C M.rg (Nat.le_trans (by decide) hd) mwX1_spread mlX1_82 dX1_buildWhole_17 (wX1_spread _ (d := 42) (Nat.le_refl _) hx0 hh) rfl rfl (Nat.le_of_ble_eq_true rfl) ?_
  obtain ⟨rfl, rfl⟩ := pr_e h
  exact s_iret C M dX1_buildWhole_20 rfl rfl (Nat.le_refl 0) (Nat.le_refl 0)
theorem wX4_buildWhole {E : Ev} {d : Nat} (hd : 44 ≤ d) {x1 : Nat} {I I' : Mm} {r : Int32} (hx1 : kd0 x1 = 1) (h : fX4_buildWhole x1 I = some (r, I')) : SemM E d 0 0 mX4_buildWhole [rfE E 0, rfE E x1] S0 I (some (.int r)) S0 I' := by
  unfold fX4_buildWhole at h
  refine SemM.ofX (E := E) (y := mX4_buildWhole) (args := fun E => [rfE E 0, rfE E x1]) (r := fun E => (some (.int r))) (fun E => [some (rfE E 0), some (rfE E x1), none]) (by decide +kernel) (Nat.le_of_ble_eq_true rfl) rfl (fun X C M => ?_)
  refine s_aload_n C dX4_buildWhole_0 rfl rfl ?_
  obtain ⟨r1, I1, hh, h⟩ := bd_e h
  refine s_cV0 (st := []) C M.rg (Nat.le_trans (by decide) hd) mwX1_buildWhole mlX4_264 dX4_buildWhole_1 (wX1_buildWhole (d := 43) (Nat.le_refl _) hx1 hh) hx1 rfl rfl (Nat.le_of_ble_eq_true rfl) ?_
  refine s_istore_n (ls' := [some (rfX X 0), some (rfX X x1), some (.int r1)]) C dX4_buildWhole_4 rfl (by decide) (Nat.le_of_ble_eq_true rfl) rfl rfl ?_
  refine s_aload_n C dX4_buildWhole_5 rfl rfl ?_
  refine s_getR (b := 1) C dX4_buildWhole_6 kk_0 foX4_10 rfl rk_0_0 ?_
  refine s_dup C dX4_buildWhole_9 rfl ?_
  refine s_getI C dX4_buildWhole_10 kk_1 foX4_218 rfl ?_
  refine s_iconst C dX4_buildWhole_13 ic_1 ?_
  refine s_iadd C dX4_buildWhole_14 ?_
  obtain ⟨I2, eI2, h⟩ := ltm_e h
  refine s_putI C dX4_buildWhole_15 kk_1 poX4_218 rfl eI2 ?_
  refine s_aload_n C dX4_buildWhole_18 rfl rfl ?_
  refine s_getR (b := 1) C dX4_buildWhole_19 kk_0 foX4_10 rfl rk_0_0 ?_
  refine s_dup C dX4_buildWhole_22 rfl ?_
  refine s_getI C dX4_buildWhole_23 kk_1 foX4_221 rfl ?_
  refine s_aload_n C dX4_buildWhole_26 rfl rfl ?_
  refine s_getI C dX4_buildWhole_27 hx1 foX4_111 rfl ?_
  refine s_iadd C dX4_buildWhole_30 ?_
  obtain ⟨I3, eI3, h⟩ := ltm_e h
  refine s_putI C dX4_buildWhole_31 kk_1 poX4_221 rfl eI3 ?_
  refine s_iload_n C dX4_buildWhole_34 rfl rfl ?_
  obtain ⟨rfl, rfl⟩ := pr_e h
  exact s_iret C M dX4_buildWhole_35 rfl rfl (Nat.le_refl 0) (Nat.le_refl 0)
theorem wX4_refuse {E : Ev} {d : Nat} (hd : 1 ≤ d) {x1 : Int32} {x2 : Int32} {I I' : Mm} {r : Int32}  (h : fX4_refuse x1 x2 I = some (r, I')) : SemM E d 0 0 mX4_refuse [rfE E 0, .int x1, .int x2] S0 I (some (.int r)) S0 I' := by
  unfold fX4_refuse at h
  refine SemM.ofX (E := E) (y := mX4_refuse) (args := fun E => [rfE E 0, .int x1, .int x2]) (r := fun E => (some (.int r))) (fun E => [some (rfE E 0), some (.int x1), some (.int x2)]) (by decide +kernel) (Nat.le_of_ble_eq_true rfl) rfl (fun X C M => ?_)
  refine s_aload_n C dX4_refuse_0 rfl rfl ?_
  refine s_iload_n C dX4_refuse_1 rfl rfl ?_
  obtain ⟨I1, eI1, h⟩ := ltm_e h
  refine s_putI C dX4_refuse_2 kk_0 poX4_40 rfl eI1 ?_
  refine s_aload_n C dX4_refuse_5 rfl rfl ?_
  refine s_iload_n C dX4_refuse_6 rfl rfl ?_
  obtain ⟨I2, eI2, h⟩ := ltm_e h
  refine s_putI C dX4_refuse_7 kk_0 poX4_44 rfl eI2 ?_
  refine s_bipush C dX4_refuse_10 bi_m14 ?_
  obtain ⟨rfl, rfl⟩ := pr_e h
  exact s_iret C M dX4_refuse_12 rfl rfl (Nat.le_refl 0) (Nat.le_refl 0)
theorem wX4_buildNow {E : Ev} {d : Nat} (hd : 45 ≤ d) {x1 : Int32} {I I' : Mm} {r : Int32}  (h : fX4_buildNow x1 I = some (r, I')) : SemM E d 0 0 mX4_buildNow [rfE E 0, .int x1] S0 I (some (.int r)) S0 I' := by
  unfold fX4_buildNow at h
  refine SemM.ofX (E := E) (y := mX4_buildNow) (args := fun E => [rfE E 0, .int x1]) (r := fun E => (some (.int r))) (fun E => [some (rfE E 0), some (.int x1), none]) (by decide +kernel) (Nat.le_of_ble_eq_true rfl) rfl (fun X C M => ?_)
  refine s_aload_n C dX4_buildNow_0 rfl rfl ?_
  refine s_getR (b := 1) C dX4_buildNow_1 kk_0 foX4_10 rfl rk_0_0 ?_
  refine s_iload_n C dX4_buildNow_4 rfl rfl ?_
  obtain ⟨r1, I1, hh, h⟩ := bd_e h
  refine s_cV0 (st := []) C M.rg (Nat.le_trans (by decide) hd) mwX3_rickAt mlX4_71 dX4_buildNow_5 (wX3_rickAt (d := 1) (Nat.le_refl _) kk_1 hh) kk_1 rfl rfl (Nat.le_of_ble_eq_true rfl) ?_
  refine s_astore_no (ls' := [some (rfX X 0), some (.int x1), some (rvE (xE X) r1)]) C dX4_buildNow_8 rfl (by decide) (Nat.le_of_ble_eq_true rfl) rfl rfl ?_
  refine s_aload_no C dX4_buildNow_9 rfl rfl ?_
  cases r1 with
  | none =>
    have h := on_n h
    refine s_ifnonnullN C dX4_buildNow_10 ?_
    refine s_bipush C dX4_buildNow_13 bi_m11 ?_
    obtain ⟨rfl, rfl⟩ := pr_e h
    exact s_iret C M dX4_buildNow_15 rfl rfl (Nat.le_refl 0) (Nat.le_refl 0)
  | some q1 =>
    obtain ⟨hq1, h⟩ := it_s (on_s h)
    refine s_ifnonnull (tgt := 16) C dX4_buildNow_10 (by decide) ?_
    refine s_aload_n C dX4_buildNow_16 rfl rfl ?_
    refine s_getI C dX4_buildNow_17 hq1 foX4_111 rfl ?_
    refine s_if_gt (tgt := 30) C dX4_buildNow_20 (by decide) (fun c => ?_) (fun c => ?_)
    · have h := it_t c h
      refine s_aload_n C dX4_buildNow_30 rfl rfl ?_
      refine s_aload_n C dX4_buildNow_31 rfl rfl ?_
      obtain ⟨r2, I2, hh, h⟩ := bd_e h
      refine s_cV0 (st := []) C M.rg (Nat.le_trans (by decide) hd) mwX4_buildWhole mlX4_260 dX4_buildNow_32 (wX4_buildWhole (d := 44) (Nat.le_refl _) hq1 hh) kk_0 rfl rfl (Nat.le_of_ble_eq_true rfl) ?_
      obtain ⟨rfl, rfl⟩ := pr_e h
      exact s_iret C M dX4_buildNow_35 rfl rfl (Nat.le_refl 0) (Nat.le_refl 0)
    · have h := it_f c h
      refine s_aload_n C dX4_buildNow_23 rfl rfl ?_
      refine s_iconst C dX4_buildNow_24 ic_5 ?_
      refine s_iload_n C dX4_buildNow_25 rfl rfl ?_
      obtain ⟨r2, I2, hh, h⟩ := bd_e h
      refine s_cV0 (st := []) C M.rg (Nat.le_trans (by decide) hd) mwX4_refuse mlX4_196 dX4_buildNow_26 (wX4_refuse (d := 1) (Nat.le_refl _)  hh) kk_0 rfl rfl (Nat.le_of_ble_eq_true rfl) ?_
      obtain ⟨rfl, rfl⟩ := pr_e h
      exact s_iret C M dX4_buildNow_29 rfl rfl (Nat.le_refl 0) (Nat.le_refl 0)
theorem wX1_copyFrom {E : Ev} {d : Nat} (hd : 1 ≤ d) {x0 : Nat} {x1 : Nat} {I I' : Mm} {r : Unit} (hx0 : kd0 x0 = 1) (hx1 : kd0 x1 = 1) (h : fX1_copyFrom x0 x1 I = some (r, I')) : SemM E d 0 0 mX1_copyFrom [rfE E x0, rfE E x1] S0 I none S0 I' := by
  unfold fX1_copyFrom at h
  refine SemM.ofX (E := E) (y := mX1_copyFrom) (args := fun E => [rfE E x0, rfE E x1]) (r := fun E => none) (fun E => [some (rfE E x0), some (rfE E x1)]) (by decide +kernel) (Nat.le_of_ble_eq_true rfl) rfl (fun X C M => ?_)
  refine s_aload_n C dX1_copyFrom_0 rfl rfl ?_
  refine s_getR (b := (x1 + 1)) C dX1_copyFrom_1 hx1 foX1_9 rfl (rr1 hx1).1 ?_
  refine s_iconst C dX1_copyFrom_4 ic_0 ?_
  refine s_aload_n C dX1_copyFrom_5 rfl rfl ?_
  refine s_getR (b := (x0 + 1)) C dX1_copyFrom_6 hx0 foX1_9 rfl (rr1 hx0).1 ?_
  refine s_iconst C dX1_copyFrom_9 ic_0 ?_
  refine s_bipush C dX1_copyFrom_10 bi_30 ?_
  obtain ⟨I1, eI1, h⟩ := ltm_e h
  refine s_copy C M.rg (Nat.le_trans (by decide) hd) mlX1_89 dX1_copyFrom_12 (kd1 hx1).1 (kd1 hx0).1 eI1 (Nat.le_of_ble_eq_true rfl) ?_
  refine s_aload_n C dX1_copyFrom_15 rfl rfl ?_
  refine s_getR (b := (x1 + 2)) C dX1_copyFrom_16 hx1 foX1_15 rfl (rr1 hx1).2.1 ?_
  refine s_iconst C dX1_copyFrom_19 ic_0 ?_
  refine s_aload_n C dX1_copyFrom_20 rfl rfl ?_
  refine s_getR (b := (x0 + 2)) C dX1_copyFrom_21 hx0 foX1_15 rfl (rr1 hx0).2.1 ?_
  refine s_iconst C dX1_copyFrom_24 ic_0 ?_
  refine s_bipush C dX1_copyFrom_25 bi_30 ?_
  obtain ⟨I2, eI2, h⟩ := ltm_e h
  refine s_copy C M.rg (Nat.le_trans (by decide) hd) mlX1_89 dX1_copyFrom_27 (kd1 hx1).2.1 (kd1 hx0).2.1 eI2 (Nat.le_of_ble_eq_true rfl) ?_
  refine s_aload_n C dX1_copyFrom_30 rfl rfl ?_
  refine s_getR (b := (x1 + 3)) C dX1_copyFrom_31 hx1 foX1_18 rfl (rr1 hx1).2.2 ?_
  refine s_iconst C dX1_copyFrom_34 ic_0 ?_
  refine s_aload_n C dX1_copyFrom_35 rfl rfl ?_
  refine s_getR (b := (x0 + 3)) C dX1_copyFrom_36 hx0 foX1_18 rfl (rr1 hx0).2.2 ?_
  refine s_iconst C dX1_copyFrom_39 ic_0 ?_
  refine s_bipush C dX1_copyFrom_40 bi_30 ?_
  obtain ⟨I3, eI3, h⟩ := ltm_e h
  refine s_copy C M.rg (Nat.le_trans (by decide) hd) mlX1_89 dX1_copyFrom_42 (kd1 hx1).2.2 (kd1 hx0).2.2 eI3 (Nat.le_of_ble_eq_true rfl) ?_
  refine s_aload_n C dX1_copyFrom_45 rfl rfl ?_
  refine s_aload_n C dX1_copyFrom_46 rfl rfl ?_
  refine s_getI C dX1_copyFrom_47 hx1 foX1_21 rfl ?_
  obtain ⟨I4, eI4, h⟩ := ltm_e h
  refine s_putI C dX1_copyFrom_50 hx0 poX1_21 rfl eI4 ?_
  refine s_aload_n C dX1_copyFrom_53 rfl rfl ?_
  refine s_aload_n C dX1_copyFrom_54 rfl rfl ?_
  refine s_getI C dX1_copyFrom_55 hx1 foX1_86 rfl ?_
  obtain ⟨I5, eI5, h⟩ := ltm_e h
  refine s_putI C dX1_copyFrom_58 hx0 poX1_86 rfl eI5 ?_
  obtain ⟨rfl, rfl⟩ := pr_e h
  exact s_vret C M dX1_copyFrom_61 rfl (Nat.le_refl 0) (Nat.le_refl 0)
theorem wX3_copyFrom_p2 {X : Cx} {d : Nat} (hd : 2 ≤ d) (C : CtxOK X mX3_copyFrom) : ∀ (n : Nat) {x0 : Nat} {x1 : Nat} {x2 : Int32} {I I' : Mm} {r : Unit} (hx0 : kd0 x0 = 3) (hx1 : kd0 x1 = 3) (_ : fX3_copyFrom_p2 n x0 x1 x2 I = some (r, I')) (_ : MX X (xE X) d 0 0 none S0 I'), WM X mX3_copyFrom 2 [some (rfX X x0), some (rfX X x1), some (.int x2), none, none] [] S0 I 0 0 := by
  intro n
  induction n with
  | zero => intro x0 x1 x2 I I' r hx0 hx1 h M; exact absurd h (by simp [fX3_copyFrom_p2])
  | succ n ih =>
    intro x0 x1 x2 I I' r hx0 hx1 h M
    rw [fX3_copyFrom_p2] at h
    refine s_iload_n C dX3_copyFrom_2 rfl rfl ?_
    refine s_iconst C dX3_copyFrom_3 ic_3 ?_
    refine s_icmp_ge (tgt := 41) C dX3_copyFrom_4 (by decide) (fun c => ?_) (fun c => ?_)
    · have h := it_t c h
      refine s_aload_n C dX3_copyFrom_41 rfl rfl ?_
      refine s_aload_n C dX3_copyFrom_42 rfl rfl ?_
      refine s_getI C dX3_copyFrom_43 hx1 foX3_17 rfl ?_
      obtain ⟨I1, eI1, h⟩ := ltm_e h
      refine s_putI C dX3_copyFrom_46 hx0 poX3_17 rfl eI1 ?_
      refine s_aload_n C dX3_copyFrom_49 rfl rfl ?_
      refine s_aload_n C dX3_copyFrom_50 rfl rfl ?_
      refine s_getI C dX3_copyFrom_51 hx1 foX3_47 rfl ?_
      obtain ⟨I2, eI2, h⟩ := ltm_e h
      refine s_putI C dX3_copyFrom_54 hx0 poX3_47 rfl eI2 ?_
      refine s_aload_n C dX3_copyFrom_57 rfl rfl ?_
      refine s_aload_n C dX3_copyFrom_58 rfl rfl ?_
      refine s_getI C dX3_copyFrom_59 hx1 foX3_50 rfl ?_
      obtain ⟨I3, eI3, h⟩ := ltm_e h
      refine s_putI C dX3_copyFrom_62 hx0 poX3_50 rfl eI3 ?_
      refine s_aload_n C dX3_copyFrom_65 rfl rfl ?_
      refine s_aload_n C dX3_copyFrom_66 rfl rfl ?_
      refine s_getI C dX3_copyFrom_67 hx1 foX3_53 rfl ?_
      obtain ⟨I4, eI4, h⟩ := ltm_e h
      refine s_putI C dX3_copyFrom_70 hx0 poX3_53 rfl eI4 ?_
      refine s_aload_n C dX3_copyFrom_73 rfl rfl ?_
      refine s_aload_n C dX3_copyFrom_74 rfl rfl ?_
      refine s_getI C dX3_copyFrom_75 hx1 foX3_56 rfl ?_
      obtain ⟨I5, eI5, h⟩ := ltm_e h
      refine s_putI C dX3_copyFrom_78 hx0 poX3_56 rfl eI5 ?_
      refine s_aload_n C dX3_copyFrom_81 rfl rfl ?_
      refine s_aload_n C dX3_copyFrom_82 rfl rfl ?_
      refine s_getI C dX3_copyFrom_83 hx1 foX3_59 rfl ?_
      obtain ⟨I6, eI6, h⟩ := ltm_e h
      refine s_putI C dX3_copyFrom_86 hx0 poX3_59 rfl eI6 ?_
      refine s_aload_n C dX3_copyFrom_89 rfl rfl ?_
      refine s_aload_n C dX3_copyFrom_90 rfl rfl ?_
      refine s_getI C dX3_copyFrom_91 hx1 foX3_62 rfl ?_
      obtain ⟨I7, eI7, h⟩ := ltm_e h
      refine s_putI C dX3_copyFrom_94 hx0 poX3_62 rfl eI7 ?_
      obtain ⟨rfl, rfl⟩ := pr_e h
      exact s_vret C M dX3_copyFrom_97 rfl (Nat.le_refl 0) (Nat.le_refl 0)
    · have h := it_f c h
      refine s_aload_n C dX3_copyFrom_7 rfl rfl ?_
      refine s_iload_n C dX3_copyFrom_8 rfl rfl ?_
      obtain ⟨r1, I1, hh, h⟩ := bd_e h
      refine s_cV0 (st := []) C M.rg (Nat.le_trans (by decide) hd) mwX3_rickAt mlX3_22 dX3_copyFrom_9 (wX3_rickAt (d := 1) (Nat.le_refl _) hx0 hh) hx0 rfl rfl (Nat.le_of_ble_eq_true rfl) ?_
      refine s_astore_no (ls' := [some (rfX X x0), some (rfX X x1), some (.int x2), some (rvE (xE X) r1), none]) C dX3_copyFrom_12 rfl (by decide) (Nat.le_of_ble_eq_true rfl) rfl rfl ?_
      refine s_aload_n C dX3_copyFrom_13 rfl rfl ?_
      refine s_iload_n C dX3_copyFrom_14 rfl rfl ?_
      obtain ⟨r2, I2, hh, h⟩ := bd_e h
      refine s_cV0 (st := []) C M.rg (Nat.le_trans (by decide) hd) mwX3_rickAt mlX3_22 dX3_copyFrom_15 (wX3_rickAt (d := 1) (Nat.le_refl _) hx1 hh) hx1 rfl rfl (Nat.le_of_ble_eq_true rfl) ?_
      refine s_astore_o (ls' := [some (rfX X x0), some (rfX X x1), some (.int x2), some (rvE (xE X) r1), some (rvE (xE X) r2)]) C dX3_copyFrom_18 (by decide) (Nat.le_of_ble_eq_true rfl) (ok_o rfl rfl) rfl ?_
      refine s_aload_no C dX3_copyFrom_20 rfl rfl ?_
      cases r1 with
      | none =>
        have h := on_n h
        refine s_ifnullN (tgt := 35) C dX3_copyFrom_21 (by decide) ?_
        obtain ⟨v1, ev1, h⟩ := ltm_e h
        refine s_iinc (v := v1) (ls' := [some (rfX X x0), some (rfX X x1), some (.int v1), some (.null), some (rvE (xE X) r2)]) C dX3_copyFrom_35 rfl (by decide) (Nat.le_of_ble_eq_true rfl) (by rw [ev1, ic_1]) rfl rfl ?_
        refine s_goto (tgt := 2) C dX3_copyFrom_38 (by decide) ?_
        refine s_weak (ls' := [some (rfX X x0), some (rfX X x1), some (.int v1), none, none]) [true, true, true, false, false] rfl ?_
        exact ih hx0 hx1 h M
      | some q1 =>
        obtain ⟨hq1, h⟩ := it_s (on_s h)
        refine s_ifnull C dX3_copyFrom_21 ?_
        refine s_aload_o C dX3_copyFrom_24 rfl ?_
        cases r2 with
        | none =>
          have h := on_n h
          refine s_ifnullN (tgt := 35) C dX3_copyFrom_26 (by decide) ?_
          obtain ⟨v1, ev1, h⟩ := ltm_e h
          refine s_iinc (v := v1) (ls' := [some (rfX X x0), some (rfX X x1), some (.int v1), some (rfX X q1), some (.null)]) C dX3_copyFrom_35 rfl (by decide) (Nat.le_of_ble_eq_true rfl) (by rw [ev1, ic_1]) rfl rfl ?_
          refine s_goto (tgt := 2) C dX3_copyFrom_38 (by decide) ?_
          refine s_weak (ls' := [some (rfX X x0), some (rfX X x1), some (.int v1), none, none]) [true, true, true, false, false] rfl ?_
          exact ih hx0 hx1 h M
        | some q2 =>
          obtain ⟨hq2, h⟩ := it_s (on_s h)
          refine s_ifnull C dX3_copyFrom_26 ?_
          refine s_aload_n C dX3_copyFrom_29 rfl rfl ?_
          refine s_aload C dX3_copyFrom_30 rfl ?_
          obtain ⟨r3, I3, hh, h⟩ := bd_e h
          refine s_cV0 (st := []) C M.rg (Nat.le_trans (by decide) hd) mwX1_copyFrom mlX3_43 dX3_copyFrom_32 (wX1_copyFrom (d := 1) (Nat.le_refl _) hq1 hq2 hh) hq1 rfl rfl (Nat.le_of_ble_eq_true rfl) ?_
          obtain ⟨v1, ev1, h⟩ := ltm_e h
          refine s_iinc (v := v1) (ls' := [some (rfX X x0), some (rfX X x1), some (.int v1), some (rfX X q1), some (rfX X q2)]) C dX3_copyFrom_35 rfl (by decide) (Nat.le_of_ble_eq_true rfl) (by rw [ev1, ic_1]) rfl rfl ?_
          refine s_goto (tgt := 2) C dX3_copyFrom_38 (by decide) ?_
          refine s_weak (ls' := [some (rfX X x0), some (rfX X x1), some (.int v1), none, none]) [true, true, true, false, false] rfl ?_
          exact ih hx0 hx1 h M
theorem wX3_copyFrom {E : Ev} {d : Nat} (hd : 2 ≤ d) {x0 : Nat} {x1 : Nat} {I I' : Mm} {r : Unit} (hx0 : kd0 x0 = 3) (hx1 : kd0 x1 = 3) (h : fX3_copyFrom x0 x1 I = some (r, I')) : SemM E d 0 0 mX3_copyFrom [rfE E x0, rfE E x1] S0 I none S0 I' := by
  unfold fX3_copyFrom at h
  refine SemM.ofX (E := E) (y := mX3_copyFrom) (args := fun E => [rfE E x0, rfE E x1]) (r := fun E => none) (fun E => [some (rfE E x0), some (rfE E x1), none, none, none]) (by decide +kernel) (Nat.le_of_ble_eq_true rfl) rfl (fun X C M => ?_)
  refine s_iconst C dX3_copyFrom_0 ic_0 ?_
  refine s_istore_n (ls' := [some (rfX X x0), some (rfX X x1), some (.int 0), none, none]) C dX3_copyFrom_1 rfl (by decide) (Nat.le_of_ble_eq_true rfl) rfl rfl ?_
  exact wX3_copyFrom_p2 hd C _ hx0 hx1 h M
theorem wX4_beforeNow {E : Ev} {d : Nat} (hd : 1 ≤ d)  {I I' : Mm} {r : Option Nat}  (h : fX4_beforeNow  I = some (r, I')) : SemM E d 0 0 mX4_beforeNow [rfE E 0] S0 I (some (rvE E r)) S0 I' := by
  unfold fX4_beforeNow at h
  refine SemM.ofX (E := E) (y := mX4_beforeNow) (args := fun E => [rfE E 0]) (r := fun E => (some (rvE E r))) (fun E => [some (rfE E 0)]) (by decide +kernel) (Nat.le_of_ble_eq_true rfl) rfl (fun X C M => ?_)
  refine s_aload_n C dX4_beforeNow_0 rfl rfl ?_
  refine s_getI C dX4_beforeNow_1 kk_0 foX4_234 rfl ?_
  refine s_if_lt (tgt := 31) C dX4_beforeNow_4 (by decide) (fun c => ?_) (fun c => ?_)
  · have h := it_t c h
    refine s_null C dX4_beforeNow_31 ?_
    obtain ⟨rfl, rfl⟩ := pr_e h
    exact s_aret (o := none) C M dX4_beforeNow_32 rfl (Or.inl ⟨_, rfl⟩) (Nat.le_refl 0) (Nat.le_refl 0)
  · have h := it_f c h
    refine s_aload_n C dX4_beforeNow_7 rfl rfl ?_
    refine s_getI C dX4_beforeNow_8 kk_0 foX4_234 rfl ?_
    refine s_aload_n C dX4_beforeNow_11 rfl rfl ?_
    refine s_getR (b := 29) C dX4_beforeNow_12 kk_0 foX4_19 rfl rk_0_3 ?_
    refine s_alenR (v := 9) C dX4_beforeNow_15 kk_29 (by decide) (by decide +kernel) ?_
    refine s_icmp_ge (tgt := 31) C dX4_beforeNow_16 (by decide) (fun c => ?_) (fun c => ?_)
    · have h := it_t c h
      refine s_null C dX4_beforeNow_31 ?_
      obtain ⟨rfl, rfl⟩ := pr_e h
      exact s_aret (o := none) C M dX4_beforeNow_32 rfl (Or.inl ⟨_, rfl⟩) (Nat.le_refl 0) (Nat.le_refl 0)
    · have h := it_f c h
      refine s_aload_n C dX4_beforeNow_19 rfl rfl ?_
      refine s_getR (b := 29) C dX4_beforeNow_20 kk_0 foX4_19 rfl rk_0_3 ?_
      refine s_aload_n C dX4_beforeNow_23 rfl rfl ?_
      refine s_getI C dX4_beforeNow_24 kk_0 foX4_234 rfl ?_
      obtain ⟨hb, h⟩ := it_n h
      have kq1 := (kd7 (ck_lt hb))
      refine s_aald C dX4_beforeNow_27 kk_29 (by decide) hb (rr7 kk_29 (ck_lt hb)) ?_
      refine s_goto (tgt := 32) C dX4_beforeNow_28 (by decide) ?_
      obtain ⟨rfl, rfl⟩ := pr_e h
      exact s_aret (o := some (37 + 14 * (I 0 4).toNatClampNeg)) C M dX4_beforeNow_32 rfl (Or.inl ⟨_, rfl⟩) (Nat.le_refl 0) (Nat.le_refl 0)
theorem wX4_hold {E : Ev} {d : Nat} (hd : 3 ≤ d)  {I I' : Mm} {r : Unit}  (h : fX4_hold  I = some (r, I')) : SemM E d 0 0 mX4_hold [rfE E 0] S0 I none S0 I' := by
  unfold fX4_hold at h
  refine SemM.ofX (E := E) (y := mX4_hold) (args := fun E => [rfE E 0]) (r := fun E => none) (fun E => [some (rfE E 0), none]) (by decide +kernel) (Nat.le_of_ble_eq_true rfl) rfl (fun X C M => ?_)
  refine s_aload_n C dX4_hold_0 rfl rfl ?_
  obtain ⟨r1, I1, hh, h⟩ := bd_e h
  refine s_cV0 (st := []) C M.rg (Nat.le_trans (by decide) hd) mwX4_beforeNow mlX4_272 dX4_hold_1 (wX4_beforeNow (d := 1) (Nat.le_refl _)  hh) kk_0 rfl rfl (Nat.le_of_ble_eq_true rfl) ?_
  refine s_astore_no (ls' := [some (rfX X 0), some (rvE (xE X) r1)]) C dX4_hold_4 rfl (by decide) (Nat.le_of_ble_eq_true rfl) rfl rfl ?_
  refine s_aload_no C dX4_hold_5 rfl rfl ?_
  cases r1 with
  | none =>
    have h := on_n h
    refine s_ifnullN (tgt := 17) C dX4_hold_6 (by decide) ?_
    obtain ⟨rfl, rfl⟩ := pr_e h
    exact s_vret C M dX4_hold_17 rfl (Nat.le_refl 0) (Nat.le_refl 0)
  | some q1 =>
    obtain ⟨hq1, h⟩ := it_s (on_s h)
    refine s_ifnull C dX4_hold_6 ?_
    refine s_aload_n C dX4_hold_9 rfl rfl ?_
    refine s_aload_n C dX4_hold_10 rfl rfl ?_
    refine s_getR (b := 1) C dX4_hold_11 kk_0 foX4_10 rfl rk_0_0 ?_
    obtain ⟨r2, I2, hh, h⟩ := bd_e h
    refine s_cV0 (st := []) C M.rg (Nat.le_trans (by decide) hd) mwX3_copyFrom mlX4_237 dX4_hold_14 (wX3_copyFrom (d := 2) (Nat.le_refl _) hq1 kk_1 hh) hq1 rfl rfl (Nat.le_of_ble_eq_true rfl) ?_
    obtain ⟨rfl, rfl⟩ := pr_e h
    exact s_vret C M dX4_hold_17 rfl (Nat.le_refl 0) (Nat.le_refl 0)
theorem wX4_keep {E : Ev} {d : Nat} (hd : 1 ≤ d) {x1 : Int32} {I I' : Mm} {r : Int32}  (h : fX4_keep x1 I = some (r, I')) : SemM E d 0 0 mX4_keep [rfE E 0, .int x1] S0 I (some (.int r)) S0 I' := by
  unfold fX4_keep at h
  refine SemM.ofX (E := E) (y := mX4_keep) (args := fun E => [rfE E 0, .int x1]) (r := fun E => (some (.int r))) (fun E => [some (rfE E 0), some (.int x1)]) (by decide +kernel) (Nat.le_of_ble_eq_true rfl) rfl (fun X C M => ?_)
  refine s_iload_n C dX4_keep_0 rfl rfl ?_
  refine s_if_lt (tgt := 32) C dX4_keep_1 (by decide) (fun c => ?_) (fun c => ?_)
  · have h := it_t c h
    refine s_iload_n C dX4_keep_32 rfl rfl ?_
    obtain ⟨rfl, rfl⟩ := pr_e h
    exact s_iret C M dX4_keep_33 rfl rfl (Nat.le_refl 0) (Nat.le_refl 0)
  · have h := it_f c h
    refine s_aload_n C dX4_keep_4 rfl rfl ?_
    refine s_aload_n C dX4_keep_5 rfl rfl ?_
    refine s_getI C dX4_keep_6 kk_0 foX4_234 rfl ?_
    refine s_iconst C dX4_keep_9 ic_1 ?_
    refine s_iadd C dX4_keep_10 ?_
    refine s_bipush C dX4_keep_11 bi_9 ?_
    refine s_irem C dX4_keep_13 (by decide) ?_
    obtain ⟨I1, eI1, h⟩ := ltm_e h
    refine s_putI C dX4_keep_14 kk_0 poX4_234 rfl eI1 ?_
    refine s_aload_n C dX4_keep_17 rfl rfl ?_
    refine s_aload_n C dX4_keep_18 rfl rfl ?_
    refine s_getI C dX4_keep_19 kk_0 foX4_227 rfl ?_
    refine s_iconst C dX4_keep_22 ic_1 ?_
    refine s_iadd C dX4_keep_23 ?_
    refine s_bipush C dX4_keep_24 bi_8 ?_
    refine s_min C M.rg (Nat.le_trans (by decide) hd) mlX4_276 dX4_keep_26 w_min_s w_math_i w_min_c (Nat.le_of_ble_eq_true rfl) (Nat.le_refl 0) (Nat.le_refl 0) ?_
    obtain ⟨I2, eI2, h⟩ := ltm_e h
    refine s_putI C dX4_keep_29 kk_0 poX4_227 rfl eI2 ?_
    refine s_iload_n C dX4_keep_32 rfl rfl ?_
    obtain ⟨rfl, rfl⟩ := pr_e h
    exact s_iret C M dX4_keep_33 rfl rfl (Nat.le_refl 0) (Nat.le_refl 0)
theorem wX4_build {E : Ev} {d : Nat} (hd : 46 ≤ d) {x1 : Int32} {I I' : Mm} {r : Int32}  (h : fX4_build x1 I = some (r, I')) : SemM E d 0 0 mX4_build [rfE E 0, .int x1] S0 I (some (.int r)) S0 I' := by
  unfold fX4_build at h
  refine SemM.ofX (E := E) (y := mX4_build) (args := fun E => [rfE E 0, .int x1]) (r := fun E => (some (.int r))) (fun E => [some (rfE E 0), some (.int x1)]) (by decide +kernel) (Nat.le_of_ble_eq_true rfl) rfl (fun X C M => ?_)
  refine s_aload_n C dX4_build_0 rfl rfl ?_
  obtain ⟨r1, I1, hh, h⟩ := bd_e h
  refine s_cV0 (st := []) C M.rg (Nat.le_trans (by decide) hd) mwX4_hold mlX4_47 dX4_build_1 (wX4_hold (d := 3) (Nat.le_refl _)  hh) kk_0 rfl rfl (Nat.le_of_ble_eq_true rfl) ?_
  refine s_aload_n C dX4_build_4 rfl rfl ?_
  refine s_aload_n C dX4_build_5 rfl rfl ?_
  refine s_iload_n C dX4_build_6 rfl rfl ?_
  obtain ⟨r2, I2, hh, h⟩ := bd_e h
  refine s_cV0 (st := [rfX X 0]) C M.rg (Nat.le_trans (by decide) hd) mwX4_buildNow mlX4_62 dX4_build_7 (wX4_buildNow (d := 45) (Nat.le_refl _)  hh) kk_0 rfl rfl (Nat.le_of_ble_eq_true rfl) ?_
  obtain ⟨r3, I3, hh, h⟩ := bd_e h
  refine s_cV0 (st := []) C M.rg (Nat.le_trans (by decide) hd) mwX4_keep mlX4_54 dX4_build_10 (wX4_keep (d := 1) (Nat.le_refl _)  hh) kk_0 rfl rfl (Nat.le_of_ble_eq_true rfl) ?_
  obtain ⟨rfl, rfl⟩ := pr_e h
  exact s_iret C M dX4_build_13 rfl rfl (Nat.le_refl 0) (Nat.le_refl 0)
theorem wX4_limitNow {E : Ev} {d : Nat} (hd : 2 ≤ d) {x1 : Int32} {I I' : Mm} {r : Int32}  (h : fX4_limitNow x1 I = some (r, I')) : SemM E d 0 0 mX4_limitNow [rfE E 0, .int x1] S0 I (some (.int r)) S0 I' := by
  unfold fX4_limitNow at h
  refine SemM.ofX (E := E) (y := mX4_limitNow) (args := fun E => [rfE E 0, .int x1]) (r := fun E => (some (.int r))) (fun E => [some (rfE E 0), some (.int x1), none]) (by decide +kernel) (Nat.le_of_ble_eq_true rfl) rfl (fun X C M => ?_)
  refine s_iload_n C dX4_limitNow_0 rfl rfl ?_
  refine s_bipush C dX4_limitNow_1 bi_55 ?_
  refine s_icmp_lt (tgt := 12) C dX4_limitNow_3 (by decide) (fun c => ?_) (fun c => ?_)
  · have h := it_t c h
    refine s_bipush C dX4_limitNow_12 bi_m12 ?_
    obtain ⟨rfl, rfl⟩ := pr_e h
    exact s_iret C M dX4_limitNow_14 rfl rfl (Nat.le_refl 0) (Nat.le_refl 0)
  · have h := it_f c h
    refine s_iload_n C dX4_limitNow_6 rfl rfl ?_
    refine s_bipush C dX4_limitNow_7 bi_90 ?_
    refine s_icmp_le (tgt := 15) C dX4_limitNow_9 (by decide) (fun c => ?_) (fun c => ?_)
    · have h := it_t c h
      refine s_iload_n C dX4_limitNow_15 rfl rfl ?_
      refine s_aload_n C dX4_limitNow_16 rfl rfl ?_
      refine s_getR (b := 1) C dX4_limitNow_17 kk_0 foX4_10 rfl rk_0_0 ?_
      refine s_getI C dX4_limitNow_20 kk_1 foX4_95 rfl ?_
      refine s_icmp_ne (tgt := 33) C dX4_limitNow_23 (by decide) (fun c => ?_) (fun c => ?_)
      · have h := it_f c h
        refine s_aload_n C dX4_limitNow_33 rfl rfl ?_
        refine s_getR (b := 1) C dX4_limitNow_34 kk_0 foX4_10 rfl rk_0_0 ?_
        refine s_getI C dX4_limitNow_37 kk_1 foX4_95 rfl ?_
        obtain ⟨v1, ev1, h⟩ := ltm_e h
        refine s_top_i ev1 ?_
        refine s_istore_n (ls' := [some (rfX X 0), some (.int x1), some (.int v1)]) C dX4_limitNow_40 rfl (by decide) (Nat.le_of_ble_eq_true rfl) rfl rfl ?_
        refine s_aload_n C dX4_limitNow_41 rfl rfl ?_
        refine s_getR (b := 1) C dX4_limitNow_42 kk_0 foX4_10 rfl rk_0_0 ?_
        refine s_iload_n C dX4_limitNow_45 rfl rfl ?_
        obtain ⟨I1, eI1, h⟩ := ltm_e h
        refine s_putI C dX4_limitNow_46 kk_1 poX4_95 rfl eI1 ?_
        refine s_iload_n C dX4_limitNow_49 rfl rfl ?_
        obtain ⟨rfl, rfl⟩ := pr_e h
        exact s_iret C M dX4_limitNow_50 rfl rfl (Nat.le_refl 0) (Nat.le_refl 0)
      · have h := it_t c h
        refine s_aload_n C dX4_limitNow_26 rfl rfl ?_
        refine s_iconst C dX4_limitNow_27 ic_4 ?_
        refine s_iload_n C dX4_limitNow_28 rfl rfl ?_
        obtain ⟨r1, I1, hh, h⟩ := bd_e h
        refine s_cV0 (st := []) C M.rg (Nat.le_trans (by decide) hd) mwX4_refuse mlX4_196 dX4_limitNow_29 (wX4_refuse (d := 1) (Nat.le_refl _)  hh) kk_0 rfl rfl (Nat.le_of_ble_eq_true rfl) ?_
        obtain ⟨rfl, rfl⟩ := pr_e h
        exact s_iret C M dX4_limitNow_32 rfl rfl (Nat.le_refl 0) (Nat.le_refl 0)
    · have h := it_f c h
      refine s_bipush C dX4_limitNow_12 bi_m12 ?_
      obtain ⟨rfl, rfl⟩ := pr_e h
      exact s_iret C M dX4_limitNow_14 rfl rfl (Nat.le_refl 0) (Nat.le_refl 0)
theorem wX4_limit {E : Ev} {d : Nat} (hd : 4 ≤ d) {x1 : Int32} {I I' : Mm} {r : Int32}  (h : fX4_limit x1 I = some (r, I')) : SemM E d 0 0 mX4_limit [rfE E 0, .int x1] S0 I (some (.int r)) S0 I' := by
  unfold fX4_limit at h
  refine SemM.ofX (E := E) (y := mX4_limit) (args := fun E => [rfE E 0, .int x1]) (r := fun E => (some (.int r))) (fun E => [some (rfE E 0), some (.int x1)]) (by decide +kernel) (Nat.le_of_ble_eq_true rfl) rfl (fun X C M => ?_)
  refine s_aload_n C dX4_limit_0 rfl rfl ?_
  obtain ⟨r1, I1, hh, h⟩ := bd_e h
  refine s_cV0 (st := []) C M.rg (Nat.le_trans (by decide) hd) mwX4_hold mlX4_47 dX4_limit_1 (wX4_hold (d := 3) (Nat.le_refl _)  hh) kk_0 rfl rfl (Nat.le_of_ble_eq_true rfl) ?_
  refine s_aload_n C dX4_limit_4 rfl rfl ?_
  refine s_aload_n C dX4_limit_5 rfl rfl ?_
  refine s_iload_n C dX4_limit_6 rfl rfl ?_
  obtain ⟨r2, I2, hh, h⟩ := bd_e h
  refine s_cV0 (st := [rfX X 0]) C M.rg (Nat.le_trans (by decide) hd) mwX4_limitNow mlX4_68 dX4_limit_7 (wX4_limitNow (d := 2) (Nat.le_refl _)  hh) kk_0 rfl rfl (Nat.le_of_ble_eq_true rfl) ?_
  obtain ⟨r3, I3, hh, h⟩ := bd_e h
  refine s_cV0 (st := []) C M.rg (Nat.le_trans (by decide) hd) mwX4_keep mlX4_54 dX4_limit_10 (wX4_keep (d := 1) (Nat.le_refl _)  hh) kk_0 rfl rfl (Nat.le_of_ble_eq_true rfl) ?_
  obtain ⟨rfl, rfl⟩ := pr_e h
  exact s_iret C M dX4_limit_13 rfl rfl (Nat.le_refl 0) (Nat.le_refl 0)
theorem wX1_find_p2 {X : Cx} {d : Nat} (hd : 2 ≤ d) (C : CtxOK X mX1_find) : ∀ (n : Nat) {x0 : Nat} {x1 : Int32} {x2 : Int32} {I I' : Mm} {r : Int32} (hx0 : kd0 x0 = 1) (_ : fX1_find_p2 n x0 x1 x2 I = some (r, I')) (_ : MX X (xE X) d 0 0 (some (.int r)) S0 I'), WM X mX1_find 2 [some (rfX X x0), some (.int x1), some (.int x2)] [] S0 I 0 0 := by
  intro n
  induction n with
  | zero => intro x0 x1 x2 I I' r hx0 h M; exact absurd h (by simp [fX1_find_p2])
  | succ n ih =>
    intro x0 x1 x2 I I' r hx0 h M
    rw [fX1_find_p2] at h
    refine s_iload_n C dX1_find_2 rfl rfl ?_
    refine s_aload_n C dX1_find_3 rfl rfl ?_
    refine s_getI C dX1_find_4 hx0 foX1_21 rfl ?_
    refine s_icmp_ge (tgt := 27) C dX1_find_7 (by decide) (fun c => ?_) (fun c => ?_)
    · have h := it_t c h
      refine s_iconst C dX1_find_27 ic_m1 ?_
      obtain ⟨rfl, rfl⟩ := pr_e h
      exact s_iret C M dX1_find_28 rfl rfl (Nat.le_refl 0) (Nat.le_refl 0)
    · have h := it_f c h
      refine s_aload_n C dX1_find_10 rfl rfl ?_
      refine s_iload_n C dX1_find_11 rfl rfl ?_
      obtain ⟨r1, I1, hh, h⟩ := bd_e h
      refine s_cV0 (st := []) C M.rg (Nat.le_trans (by decide) hd) mwX1_weightAt mlX1_25 dX1_find_12 (wX1_weightAt (d := 1) (Nat.le_refl _) hx0 hh) hx0 rfl rfl (Nat.le_of_ble_eq_true rfl) ?_
      refine s_iload_n C dX1_find_15 rfl rfl ?_
      refine s_icmp_ne (tgt := 21) C dX1_find_16 (by decide) (fun c => ?_) (fun c => ?_)
      · have h := it_f c h
        obtain ⟨v1, ev1, h⟩ := ltm_e h
        refine s_iinc (v := v1) (ls' := [some (rfX X x0), some (.int x1), some (.int v1)]) C dX1_find_21 rfl (by decide) (Nat.le_of_ble_eq_true rfl) (by rw [ev1, ic_1]) rfl rfl ?_
        refine s_goto (tgt := 2) C dX1_find_24 (by decide) ?_
        exact ih hx0 h M
      · have h := it_t c h
        refine s_iload_n C dX1_find_19 rfl rfl ?_
        obtain ⟨rfl, rfl⟩ := pr_e h
        exact s_iret C M dX1_find_20 rfl rfl (Nat.le_refl 0) (Nat.le_refl 0)
theorem wX1_find {E : Ev} {d : Nat} (hd : 2 ≤ d) {x0 : Nat} {x1 : Int32} {I I' : Mm} {r : Int32} (hx0 : kd0 x0 = 1) (h : fX1_find x0 x1 I = some (r, I')) : SemM E d 0 0 mX1_find [rfE E x0, .int x1] S0 I (some (.int r)) S0 I' := by
  unfold fX1_find at h
  refine SemM.ofX (E := E) (y := mX1_find) (args := fun E => [rfE E x0, .int x1]) (r := fun E => (some (.int r))) (fun E => [some (rfE E x0), some (.int x1), none]) (by decide +kernel) (Nat.le_of_ble_eq_true rfl) rfl (fun X C M => ?_)
  refine s_iconst C dX1_find_0 ic_0 ?_
  refine s_istore_n (ls' := [some (rfX X x0), some (.int x1), some (.int 0)]) C dX1_find_1 rfl (by decide) (Nat.le_of_ble_eq_true rfl) rfl rfl ?_
  exact wX1_find_p2 hd C _ hx0 h M
theorem wX1_lighterOneByOne_p4 {X : Cx} {d : Nat} (hd : 2 ≤ d) (C : CtxOK X mX1_lighterOneByOne) : ∀ (n : Nat) {x0 : Nat} {x1 : Int32} {x2 : Int32} {x3 : Int32} {I I' : Mm} {r : Int32} (hx0 : kd0 x0 = 1) (_ : fX1_lighterOneByOne_p4 n x0 x1 x2 x3 I = some (r, I')) (_ : MX X (xE X) d 0 0 (some (.int r)) S0 I'), WM X mX1_lighterOneByOne 4 [some (rfX X x0), some (.int x1), some (.int x2), some (.int x3)] [] S0 I 0 0 := by
  intro n
  induction n with
  | zero => intro x0 x1 x2 x3 I I' r hx0 h M; exact absurd h (by simp [fX1_lighterOneByOne_p4])
  | succ n ih =>
    intro x0 x1 x2 x3 I I' r hx0 h M
    rw [fX1_lighterOneByOne_p4] at h
    refine s_iload_n C dX1_lighterOneByOne_4 rfl rfl ?_
    refine s_aload_n C dX1_lighterOneByOne_5 rfl rfl ?_
    refine s_getI C dX1_lighterOneByOne_6 hx0 foX1_21 rfl ?_
    refine s_icmp_ge (tgt := 30) C dX1_lighterOneByOne_9 (by decide) (fun c => ?_) (fun c => ?_)
    · have h := it_t c h
      refine s_iload_n C dX1_lighterOneByOne_30 rfl rfl ?_
      obtain ⟨rfl, rfl⟩ := pr_e h
      exact s_iret C M dX1_lighterOneByOne_31 rfl rfl (Nat.le_refl 0) (Nat.le_refl 0)
    · have h := it_f c h
      refine s_aload_n C dX1_lighterOneByOne_12 rfl rfl ?_
      refine s_iload_n C dX1_lighterOneByOne_13 rfl rfl ?_
      obtain ⟨r1, I1, hh, h⟩ := bd_e h
      refine s_cV0 (st := []) C M.rg (Nat.le_trans (by decide) hd) mwX1_weightAt mlX1_25 dX1_lighterOneByOne_14 (wX1_weightAt (d := 1) (Nat.le_refl _) hx0 hh) hx0 rfl rfl (Nat.le_of_ble_eq_true rfl) ?_
      refine s_iload_n C dX1_lighterOneByOne_17 rfl rfl ?_
      refine s_icmp_ge (tgt := 24) C dX1_lighterOneByOne_18 (by decide) (fun c => ?_) (fun c => ?_)
      · have h := it_t c h
        obtain ⟨v1, ev1, h⟩ := ltm_e h
        refine s_iinc (v := v1) (ls' := [some (rfX X x0), some (.int x1), some (.int x2), some (.int v1)]) C dX1_lighterOneByOne_24 rfl (by decide) (Nat.le_of_ble_eq_true rfl) (by rw [ev1, ic_1]) rfl rfl ?_
        refine s_goto (tgt := 4) C dX1_lighterOneByOne_27 (by decide) ?_
        exact ih hx0 h M
      · have h := it_f c h
        obtain ⟨v1, ev1, h⟩ := ltm_e h
        refine s_iinc (v := v1) (ls' := [some (rfX X x0), some (.int x1), some (.int v1), some (.int x3)]) C dX1_lighterOneByOne_21 rfl (by decide) (Nat.le_of_ble_eq_true rfl) (by rw [ev1, ic_1]) rfl rfl ?_
        obtain ⟨v2, ev2, h⟩ := ltm_e h
        refine s_iinc (v := v2) (ls' := [some (rfX X x0), some (.int x1), some (.int v1), some (.int v2)]) C dX1_lighterOneByOne_24 rfl (by decide) (Nat.le_of_ble_eq_true rfl) (by rw [ev2, ic_1]) rfl rfl ?_
        refine s_goto (tgt := 4) C dX1_lighterOneByOne_27 (by decide) ?_
        exact ih hx0 h M
