theorem wJxe99ae_isNaN_b9ae7 {E : Ev} {d : Nat} (hd : 1 ≤ d) {x0 : UInt64} {I I' : Mm} {r : Int32}  (h : fJxe99ae_isNaN_b9ae7 x0 I = some (r, I')) : SemM E d 0 0 mJxe99ae_isNaN_b9ae7 [.double x0] S0 I (some (.int r)) S0 I' := by
  unfold fJxe99ae_isNaN_b9ae7 at h
  refine SemM.ofX (E := E) (y := mJxe99ae_isNaN_b9ae7) (args := fun E => [.double x0]) (r := fun E => (some (.int r))) (fun E => [some (.double x0), none]) (by decide +kernel) (Nat.le_of_ble_eq_true rfl) rfl (fun X C M => ?_)
  refine s_dload_n C dJxe99ae_isNaN_b9ae7_0 rfl rfl ?_
  refine s_dload_n C dJxe99ae_isNaN_b9ae7_1 rfl rfl ?_
  refine s_dcmp C dJxe99ae_isNaN_b9ae7_2 ?_
  refine s_if_eq (tgt := 10) C dJxe99ae_isNaN_b9ae7_3 (by decide) (fun c => ?_) (fun c => ?_)
  · have h := it_t c h
    refine s_iconst C dJxe99ae_isNaN_b9ae7_10 ic_0 ?_
    obtain ⟨rfl, rfl⟩ := pr_e h
    exact s_iret C M dJxe99ae_isNaN_b9ae7_11 rfl (nz_b (by decide)) (Nat.le_refl 0) (Nat.le_refl 0)
  · have h := it_f c h
    refine s_iconst C dJxe99ae_isNaN_b9ae7_6 ic_1 ?_
    refine s_goto (tgt := 11) C dJxe99ae_isNaN_b9ae7_7 (by decide) ?_
    obtain ⟨rfl, rfl⟩ := pr_e h
    exact s_iret C M dJxe99ae_isNaN_b9ae7_11 rfl (nz_b (by decide)) (Nat.le_refl 0) (Nat.le_refl 0)
theorem wJxe99ae_doubleToLongBits_ccdee {E : Ev} {d : Nat} (hd : 2 ≤ d) {x0 : UInt64} {I I' : Mm} {r : Int64}  (h : fJxe99ae_doubleToLongBits_ccdee x0 I = some (r, I')) : SemM E d 0 0 mJxe99ae_doubleToLongBits_ccdee [.double x0] S0 I (some (.long r)) S0 I' := by
  unfold fJxe99ae_doubleToLongBits_ccdee at h
  refine SemM.ofX (E := E) (y := mJxe99ae_doubleToLongBits_ccdee) (args := fun E => [.double x0]) (r := fun E => (some (.long r))) (fun E => [some (.double x0), none]) (by decide +kernel) (Nat.le_of_ble_eq_true rfl) rfl (fun X C M => ?_)
  refine s_dload_n C dJxe99ae_doubleToLongBits_ccdee_0 rfl rfl ?_
  obtain ⟨r1, I1, hh, h⟩ := bd_e h
  refine s_cS0 (st := []) C M.rg (Nat.le_trans (by decide) hd) mwJxe99ae_isNaN_b9ae7 mlJxe99ae_122 dJxe99ae_doubleToLongBits_ccdee_1 (wJxe99ae_isNaN_b9ae7 (d := 1) (Nat.le_refl _)  hh) rfl rfl (Nat.le_of_ble_eq_true rfl) ?_
  refine s_if_ne (tgt := 12) C dJxe99ae_doubleToLongBits_ccdee_4 (by decide) (fun c => ?_) (fun c => ?_)
  · have h := it_f c h
    refine s_ldc2 C dJxe99ae_doubleToLongBits_ccdee_12 coJxe99ae_137 ?_
    obtain ⟨rfl, rfl⟩ := pr_e h
    exact s_lret C M dJxe99ae_doubleToLongBits_ccdee_15 rfl (Nat.le_refl 0) (Nat.le_refl 0)
  · have h := it_t c h
    refine s_dload_n C dJxe99ae_doubleToLongBits_ccdee_7 rfl rfl ?_
    refine s_d2raw C M.rg (Nat.le_trans (by decide) hd) mlJxe99ae_134 dJxe99ae_doubleToLongBits_ccdee_8 (Nat.le_of_ble_eq_true rfl) ?_
    obtain ⟨rfl, rfl⟩ := pr_e h
    exact s_lret C M dJxe99ae_doubleToLongBits_ccdee_11 rfl (Nat.le_refl 0) (Nat.le_refl 0)
theorem wX2_codeAt {E : Ev} {d : Nat} (hd : 1 ≤ d) {x0 : Nat} {x1 : Int32} {I I' : Mm} {r : Int32} (hx0 : kd0 x0 = 2) (h : fX2_codeAt x0 x1 I = some (r, I')) : SemM E d 0 0 mX2_codeAt [rfE E x0, .int x1] S0 I (some (.int r)) S0 I' := by
  unfold fX2_codeAt at h
  refine SemM.ofX (E := E) (y := mX2_codeAt) (args := fun E => [rfE E x0, .int x1]) (r := fun E => (some (.int r))) (fun E => [some (rfE E x0), some (.int x1)]) (by decide +kernel) (Nat.le_of_ble_eq_true rfl) rfl (fun X C M => ?_)
  refine s_iload_n C dX2_codeAt_0 rfl rfl ?_
  refine s_if_lt (tgt := 27) C dX2_codeAt_1 (by decide) (fun c => ?_) (fun c => ?_)
  · have h := it_t c h
    refine s_bipush C dX2_codeAt_27 bi_m11 ?_
    obtain ⟨rfl, rfl⟩ := pr_e h
    exact s_iret C M dX2_codeAt_29 rfl rfl (Nat.le_refl 0) (Nat.le_refl 0)
  · have h := it_f c h
    refine s_iload_n C dX2_codeAt_4 rfl rfl ?_
    refine s_aload_n C dX2_codeAt_5 rfl rfl ?_
    refine s_getI C dX2_codeAt_6 hx0 foX2_15 rfl ?_
    refine s_icmp_ge (tgt := 27) C dX2_codeAt_9 (by decide) (fun c => ?_) (fun c => ?_)
    · have h := it_t c h
      refine s_bipush C dX2_codeAt_27 bi_m11 ?_
      obtain ⟨rfl, rfl⟩ := pr_e h
      exact s_iret C M dX2_codeAt_29 rfl rfl (Nat.le_refl 0) (Nat.le_refl 0)
    · have h := it_f c h
      refine s_iload_n C dX2_codeAt_12 rfl rfl ?_
      refine s_bipush C dX2_codeAt_13 bi_60 ?_
      refine s_icmp_ge (tgt := 27) C dX2_codeAt_15 (by decide) (fun c => ?_) (fun c => ?_)
      · have h := it_t c h
        refine s_bipush C dX2_codeAt_27 bi_m11 ?_
        obtain ⟨rfl, rfl⟩ := pr_e h
        exact s_iret C M dX2_codeAt_29 rfl rfl (Nat.le_refl 0) (Nat.le_refl 0)
      · have h := it_f c h
        refine s_aload_n C dX2_codeAt_18 rfl rfl ?_
        refine s_getR (b := (x0 + 1)) C dX2_codeAt_19 hx0 foX2_9 rfl (rr2 hx0) ?_
        refine s_iload_n C dX2_codeAt_22 rfl rfl ?_
        obtain ⟨hb, h⟩ := it_n h
        refine s_ald (q := x1.toNatClampNeg) C dX2_codeAt_23 (kd2 hx0) (by decide) rfl hb ?_
        refine s_goto (tgt := 29) C dX2_codeAt_24 (by decide) ?_
        obtain ⟨rfl, rfl⟩ := pr_e h
        exact s_iret C M dX2_codeAt_29 rfl rfl (Nat.le_refl 0) (Nat.le_refl 0)
theorem wX0_isCode {E : Ev} {d : Nat} (hd : 2 ≤ d) {x1 : Nat} {x2 : Int32} {I I' : Mm} {r : Int32} (hx1 : kd0 x1 = 2) (h : fX0_isCode x1 x2 I = some (r, I')) : SemM E d 0 0 mX0_isCode [rfE E 34, rfE E x1, .int x2] S0 I (some (.int r)) S0 I' := by
  unfold fX0_isCode at h
  refine SemM.ofX (E := E) (y := mX0_isCode) (args := fun E => [rfE E 34, rfE E x1, .int x2]) (r := fun E => (some (.int r))) (fun E => [some (rfE E 34), some (rfE E x1), some (.int x2)]) (by decide +kernel) (Nat.le_of_ble_eq_true rfl) rfl (fun X C M => ?_)
  refine s_aload_n C dX0_isCode_0 rfl rfl ?_
  refine s_aload_n C dX0_isCode_1 rfl rfl ?_
  refine s_getI C dX0_isCode_2 kk_34 foX0_22 rfl ?_
  obtain ⟨r1, I1, hh, h⟩ := bd_e h
  refine s_cV0 (st := []) C M.rg (Nat.le_trans (by decide) hd) mwX2_codeAt mlX0_38 dX0_isCode_5 (wX2_codeAt (d := 1) (Nat.le_refl _) hx1 hh) hx1 rfl rfl (Nat.le_of_ble_eq_true rfl) ?_
  refine s_iload_n C dX0_isCode_8 rfl rfl ?_
  refine s_icmp_eq (tgt := 14) C dX0_isCode_9 (by decide) (fun c => ?_) (fun c => ?_)
  · have h := it_t c h
    refine s_aload_n C dX0_isCode_14 rfl rfl ?_
    refine s_dup C dX0_isCode_15 rfl ?_
    refine s_getI C dX0_isCode_16 kk_34 foX0_22 rfl ?_
    refine s_iconst C dX0_isCode_19 ic_1 ?_
    refine s_iadd C dX0_isCode_20 ?_
    obtain ⟨I2, eI2, h⟩ := ltm_e h
    refine s_putI C dX0_isCode_21 kk_34 poX0_22 rfl eI2 ?_
    refine s_iconst C dX0_isCode_24 ic_1 ?_
    obtain ⟨rfl, rfl⟩ := pr_e h
    exact s_iret C M dX0_isCode_25 rfl (nz_b (by decide)) (Nat.le_refl 0) (Nat.le_refl 0)
  · have h := it_f c h
    refine s_iconst C dX0_isCode_12 ic_0 ?_
    obtain ⟨rfl, rfl⟩ := pr_e h
    exact s_iret C M dX0_isCode_13 rfl (nz_b (by decide)) (Nat.le_refl 0) (Nat.le_refl 0)
theorem wX0_isDigit {E : Ev} {d : Nat} (hd : 1 ≤ d) {x0 : Int32} {I I' : Mm} {r : Int32}  (h : fX0_isDigit x0 I = some (r, I')) : SemM E d 0 0 mX0_isDigit [.int x0] S0 I (some (.int r)) S0 I' := by
  unfold fX0_isDigit at h
  refine SemM.ofX (E := E) (y := mX0_isDigit) (args := fun E => [.int x0]) (r := fun E => (some (.int r))) (fun E => [some (.int x0)]) (by decide +kernel) (Nat.le_of_ble_eq_true rfl) rfl (fun X C M => ?_)
  refine s_iload_n C dX0_isDigit_0 rfl rfl ?_
  refine s_bipush C dX0_isDigit_1 bi_48 ?_
  refine s_icmp_lt (tgt := 16) C dX0_isDigit_3 (by decide) (fun c => ?_) (fun c => ?_)
  · have h := it_t c h
    refine s_iconst C dX0_isDigit_16 ic_0 ?_
    obtain ⟨rfl, rfl⟩ := pr_e h
    exact s_iret C M dX0_isDigit_17 rfl (nz_b (by decide)) (Nat.le_refl 0) (Nat.le_refl 0)
  · have h := it_f c h
    refine s_iload_n C dX0_isDigit_6 rfl rfl ?_
    refine s_bipush C dX0_isDigit_7 bi_57 ?_
    refine s_icmp_gt (tgt := 16) C dX0_isDigit_9 (by decide) (fun c => ?_) (fun c => ?_)
    · have h := it_t c h
      refine s_iconst C dX0_isDigit_16 ic_0 ?_
      obtain ⟨rfl, rfl⟩ := pr_e h
      exact s_iret C M dX0_isDigit_17 rfl (nz_b (by decide)) (Nat.le_refl 0) (Nat.le_refl 0)
    · have h := it_f c h
      refine s_iconst C dX0_isDigit_12 ic_1 ?_
      refine s_goto (tgt := 17) C dX0_isDigit_13 (by decide) ?_
      obtain ⟨rfl, rfl⟩ := pr_e h
      exact s_iret C M dX0_isDigit_17 rfl (nz_b (by decide)) (Nat.le_refl 0) (Nat.le_refl 0)
theorem wX0_isNumber_p61 {X : Cx} {d : Nat} (hd : 2 ≤ d) (C : CtxOK X mX0_isNumber) {x2 : Int32} {x4 : Int32} {x5 : Int32} {I I' : Mm} {r : Int32}  (h : fX0_isNumber_p61 x2 x4 x5 I = some (r, I')) (M : MX X (xE X) d 0 0 (some (.int r)) S0 I') : WM X mX0_isNumber 61 [some (rfX X 34), none, some (.int x2), none, some (.int x4), some (.int x5)] [] S0 I 0 0 := by
  unfold fX0_isNumber_p61 at h
  refine s_iload C dX0_isNumber_61 rfl ?_
  refine s_if_le (tgt := 106) C dX0_isNumber_63 (by decide) (fun c => ?_) (fun c => ?_)
  · have h := it_t c h
    refine s_iload C dX0_isNumber_106 rfl ?_
    refine s_if_le (tgt := 115) C dX0_isNumber_108 (by decide) (fun c => ?_) (fun c => ?_)
    · have h := it_t c h
      refine s_iconst C dX0_isNumber_115 ic_0 ?_
      obtain ⟨rfl, rfl⟩ := pr_e h
      exact s_iret C M dX0_isNumber_116 rfl (nz_b (by decide)) (Nat.le_refl 0) (Nat.le_refl 0)
    · have h := it_f c h
      refine s_iconst C dX0_isNumber_111 ic_1 ?_
      refine s_goto (tgt := 116) C dX0_isNumber_112 (by decide) ?_
      obtain ⟨rfl, rfl⟩ := pr_e h
      exact s_iret C M dX0_isNumber_116 rfl (nz_b (by decide)) (Nat.le_refl 0) (Nat.le_refl 0)
  · have h := it_f c h
    refine s_aload_n C dX0_isNumber_66 rfl rfl ?_
    refine s_getI C dX0_isNumber_67 kk_34 foX0_18 rfl ?_
    refine s_if_lt (tgt := 106) C dX0_isNumber_70 (by decide) (fun c => ?_) (fun c => ?_)
    · have h := it_t c h
      refine s_iload C dX0_isNumber_106 rfl ?_
      refine s_if_le (tgt := 115) C dX0_isNumber_108 (by decide) (fun c => ?_) (fun c => ?_)
      · have h := it_t c h
        refine s_iconst C dX0_isNumber_115 ic_0 ?_
        obtain ⟨rfl, rfl⟩ := pr_e h
        exact s_iret C M dX0_isNumber_116 rfl (nz_b (by decide)) (Nat.le_refl 0) (Nat.le_refl 0)
      · have h := it_f c h
        refine s_iconst C dX0_isNumber_111 ic_1 ?_
        refine s_goto (tgt := 116) C dX0_isNumber_112 (by decide) ?_
        obtain ⟨rfl, rfl⟩ := pr_e h
        exact s_iret C M dX0_isNumber_116 rfl (nz_b (by decide)) (Nat.le_refl 0) (Nat.le_refl 0)
    · have h := it_f c h
      refine s_aload_n C dX0_isNumber_73 rfl rfl ?_
      refine s_getI C dX0_isNumber_74 kk_34 foX0_18 rfl ?_
      refine s_bipush C dX0_isNumber_77 bi_20 ?_
      refine s_icmp_ge (tgt := 106) C dX0_isNumber_79 (by decide) (fun c => ?_) (fun c => ?_)
      · have h := it_t c h
        refine s_iload C dX0_isNumber_106 rfl ?_
        refine s_if_le (tgt := 115) C dX0_isNumber_108 (by decide) (fun c => ?_) (fun c => ?_)
        · have h := it_t c h
          refine s_iconst C dX0_isNumber_115 ic_0 ?_
          obtain ⟨rfl, rfl⟩ := pr_e h
          exact s_iret C M dX0_isNumber_116 rfl (nz_b (by decide)) (Nat.le_refl 0) (Nat.le_refl 0)
        · have h := it_f c h
          refine s_iconst C dX0_isNumber_111 ic_1 ?_
          refine s_goto (tgt := 116) C dX0_isNumber_112 (by decide) ?_
          obtain ⟨rfl, rfl⟩ := pr_e h
          exact s_iret C M dX0_isNumber_116 rfl (nz_b (by decide)) (Nat.le_refl 0) (Nat.le_refl 0)
      · have h := it_f c h
        refine s_iload_n C dX0_isNumber_82 rfl rfl ?_
        refine s_if_lt (tgt := 106) C dX0_isNumber_83 (by decide) (fun c => ?_) (fun c => ?_)
        · have h := it_t c h
          refine s_iload C dX0_isNumber_106 rfl ?_
          refine s_if_le (tgt := 115) C dX0_isNumber_108 (by decide) (fun c => ?_) (fun c => ?_)
          · have h := it_t c h
            refine s_iconst C dX0_isNumber_115 ic_0 ?_
            obtain ⟨rfl, rfl⟩ := pr_e h
            exact s_iret C M dX0_isNumber_116 rfl (nz_b (by decide)) (Nat.le_refl 0) (Nat.le_refl 0)
          · have h := it_f c h
            refine s_iconst C dX0_isNumber_111 ic_1 ?_
            refine s_goto (tgt := 116) C dX0_isNumber_112 (by decide) ?_
            obtain ⟨rfl, rfl⟩ := pr_e h
            exact s_iret C M dX0_isNumber_116 rfl (nz_b (by decide)) (Nat.le_refl 0) (Nat.le_refl 0)
        · have h := it_f c h
          refine s_iload_n C dX0_isNumber_86 rfl rfl ?_
          refine s_iconst C dX0_isNumber_87 ic_3 ?_
          refine s_icmp_ge (tgt := 106) C dX0_isNumber_88 (by decide) (fun c => ?_) (fun c => ?_)
          · have h := it_t c h
            refine s_iload C dX0_isNumber_106 rfl ?_
            refine s_if_le (tgt := 115) C dX0_isNumber_108 (by decide) (fun c => ?_) (fun c => ?_)
            · have h := it_t c h
              refine s_iconst C dX0_isNumber_115 ic_0 ?_
              obtain ⟨rfl, rfl⟩ := pr_e h
              exact s_iret C M dX0_isNumber_116 rfl (nz_b (by decide)) (Nat.le_refl 0) (Nat.le_refl 0)
            · have h := it_f c h
              refine s_iconst C dX0_isNumber_111 ic_1 ?_
              refine s_goto (tgt := 116) C dX0_isNumber_112 (by decide) ?_
              obtain ⟨rfl, rfl⟩ := pr_e h
              exact s_iret C M dX0_isNumber_116 rfl (nz_b (by decide)) (Nat.le_refl 0) (Nat.le_refl 0)
          · have h := it_f c h
            refine s_aload_n C dX0_isNumber_91 rfl rfl ?_
            refine s_getR (b := 36) C dX0_isNumber_92 kk_34 foX0_15 rfl rk_34_1 ?_
            refine s_aload_n C dX0_isNumber_95 rfl rfl ?_
            refine s_getI C dX0_isNumber_96 kk_34 foX0_18 rfl ?_
            refine s_iconst C dX0_isNumber_99 ic_3 ?_
            refine s_imul C dX0_isNumber_100 ?_
            refine s_iload_n C dX0_isNumber_101 rfl rfl ?_
            refine s_iadd C dX0_isNumber_102 ?_
            refine s_iload C dX0_isNumber_103 rfl ?_
            obtain ⟨hb, h⟩ := it_n h
            obtain ⟨I1, eI1, h⟩ := ltm_e h
            refine s_ast (q := (((I 34 2) * 3) + x2).toNatClampNeg) C dX0_isNumber_105 kk_36 (by decide) rfl hb eI1 ?_
            refine s_iload C dX0_isNumber_106 rfl ?_
            refine s_if_le (tgt := 115) C dX0_isNumber_108 (by decide) (fun c => ?_) (fun c => ?_)
            · have h := it_t c h
              refine s_iconst C dX0_isNumber_115 ic_0 ?_
              obtain ⟨rfl, rfl⟩ := pr_e h
              exact s_iret C M dX0_isNumber_116 rfl (nz_b (by decide)) (Nat.le_refl 0) (Nat.le_refl 0)
            · have h := it_f c h
              refine s_iconst C dX0_isNumber_111 ic_1 ?_
              refine s_goto (tgt := 116) C dX0_isNumber_112 (by decide) ?_
              obtain ⟨rfl, rfl⟩ := pr_e h
              exact s_iret C M dX0_isNumber_116 rfl (nz_b (by decide)) (Nat.le_refl 0) (Nat.le_refl 0)
theorem wX0_isNumber_p6 {X : Cx} {d : Nat} (hd : 2 ≤ d) (C : CtxOK X mX0_isNumber) : ∀ (n : Nat) {x1 : Nat} {x2 : Int32} {x3 : Int32} {x4 : Int32} {x5 : Int32} {I I' : Mm} {r : Int32} (hx1 : kd0 x1 = 2) (_ : fX0_isNumber_p6 n x1 x2 x3 x4 x5 I = some (r, I')) (_ : MX X (xE X) d 0 0 (some (.int r)) S0 I'), WM X mX0_isNumber 6 [some (rfX X 34), some (rfX X x1), some (.int x2), some (.int x3), some (.int x4), some (.int x5)] [] S0 I 0 0 := by
  intro n
  induction n with
  | zero => intro x1 x2 x3 x4 x5 I I' r hx1 h M; exact absurd h (by simp [fX0_isNumber_p6])
  | succ n ih =>
    intro x1 x2 x3 x4 x5 I I' r hx1 h M
    rw [fX0_isNumber_p6] at h
    refine s_iload C dX0_isNumber_6 rfl ?_
    refine s_iload_n C dX0_isNumber_8 rfl rfl ?_
    refine s_icmp_ge (tgt := 61) C dX0_isNumber_9 (by decide) (fun c => ?_) (fun c => ?_)
    · have h := it_t c h
      refine s_weak (ls' := [some (rfX X 34), none, some (.int x2), none, some (.int x4), some (.int x5)]) [true, false, true, false, true, true] rfl ?_
      exact wX0_isNumber_p61 hd C  h M
    · have h := it_f c h
      refine s_aload_n C dX0_isNumber_12 rfl rfl ?_
      refine s_aload_n C dX0_isNumber_13 rfl rfl ?_
      refine s_getI C dX0_isNumber_14 kk_34 foX0_22 rfl ?_
      obtain ⟨r1, I1, hh, h⟩ := bd_e h
      refine s_cV0 (st := []) C M.rg (Nat.le_trans (by decide) hd) mwX2_codeAt mlX0_38 dX0_isNumber_17 (wX2_codeAt (d := 1) (Nat.le_refl _) hx1 hh) hx1 rfl rfl (Nat.le_of_ble_eq_true rfl) ?_
      obtain ⟨r2, I2, hh, h⟩ := bd_e h
      refine s_cS0 (st := []) C M.rg (Nat.le_trans (by decide) hd) mwX0_isDigit mlX0_46 dX0_isNumber_20 (wX0_isDigit (d := 1) (Nat.le_refl _)  hh) rfl rfl (Nat.le_of_ble_eq_true rfl) ?_
      refine s_if_eq (tgt := 61) C dX0_isNumber_23 (by decide) (fun c => ?_) (fun c => ?_)
      · have h := it_t c h
        refine s_weak (ls' := [some (rfX X 34), none, some (.int x2), none, some (.int x4), some (.int x5)]) [true, false, true, false, true, true] rfl ?_
        exact wX0_isNumber_p61 hd C  h M
      · have h := it_f c h
        refine s_iload C dX0_isNumber_26 rfl ?_
        refine s_bipush C dX0_isNumber_28 bi_10 ?_
        refine s_imul C dX0_isNumber_30 ?_
        refine s_aload_n C dX0_isNumber_31 rfl rfl ?_
        refine s_aload_n C dX0_isNumber_32 rfl rfl ?_
        refine s_getI C dX0_isNumber_33 kk_34 foX0_22 rfl ?_
        obtain ⟨r3, I3, hh, h⟩ := bd_e h
        refine s_cV0 (st := [.int (x4 * 10)]) C M.rg (Nat.le_trans (by decide) hd) mwX2_codeAt mlX0_38 dX0_isNumber_36 (wX2_codeAt (d := 1) (Nat.le_refl _) hx1 hh) hx1 rfl rfl (Nat.le_of_ble_eq_true rfl) ?_
        refine s_iadd C dX0_isNumber_39 ?_
        refine s_bipush C dX0_isNumber_40 bi_48 ?_
        refine s_isub C dX0_isNumber_42 ?_
        obtain ⟨v1, ev1, h⟩ := ltm_e h
        refine s_top_i ev1 ?_
        refine s_istore (ls' := [some (rfX X 34), some (rfX X x1), some (.int x2), some (.int x3), some (.int v1), some (.int x5)]) C dX0_isNumber_43 (by decide) (Nat.le_of_ble_eq_true rfl) rfl rfl ?_
        refine s_aload_n C dX0_isNumber_45 rfl rfl ?_
        refine s_dup C dX0_isNumber_46 rfl ?_
        refine s_getI C dX0_isNumber_47 kk_34 foX0_22 rfl ?_
        refine s_iconst C dX0_isNumber_50 ic_1 ?_
        refine s_iadd C dX0_isNumber_51 ?_
        obtain ⟨I4, eI4, h⟩ := ltm_e h
        refine s_putI C dX0_isNumber_52 kk_34 poX0_22 rfl eI4 ?_
        obtain ⟨v2, ev2, h⟩ := ltm_e h
        refine s_iinc (v := v2) (ls' := [some (rfX X 34), some (rfX X x1), some (.int x2), some (.int x3), some (.int v1), some (.int v2)]) C dX0_isNumber_55 rfl (by decide) (Nat.le_of_ble_eq_true rfl) (by rw [ev2, ic_1]) rfl rfl ?_
        refine s_goto (tgt := 6) C dX0_isNumber_58 (by decide) ?_
        exact ih hx1 h M
theorem wX0_isNumber {E : Ev} {d : Nat} (hd : 2 ≤ d) {x1 : Nat} {x2 : Int32} {x3 : Int32} {I I' : Mm} {r : Int32} (hx1 : kd0 x1 = 2) (h : fX0_isNumber x1 x2 x3 I = some (r, I')) : SemM E d 0 0 mX0_isNumber [rfE E 34, rfE E x1, .int x2, .int x3] S0 I (some (.int r)) S0 I' := by
  unfold fX0_isNumber at h
  refine SemM.ofX (E := E) (y := mX0_isNumber) (args := fun E => [rfE E 34, rfE E x1, .int x2, .int x3]) (r := fun E => (some (.int r))) (fun E => [some (rfE E 34), some (rfE E x1), some (.int x2), some (.int x3), none, none]) (by decide +kernel) (Nat.le_of_ble_eq_true rfl) rfl (fun X C M => ?_)
  refine s_iconst C dX0_isNumber_0 ic_0 ?_
  refine s_istore (ls' := [some (rfX X 34), some (rfX X x1), some (.int x2), some (.int x3), some (.int 0), none]) C dX0_isNumber_1 (by decide) (Nat.le_of_ble_eq_true rfl) rfl rfl ?_
  refine s_iconst C dX0_isNumber_3 ic_0 ?_
  refine s_istore (ls' := [some (rfX X 34), some (rfX X x1), some (.int x2), some (.int x3), some (.int 0), some (.int 0)]) C dX0_isNumber_4 (by decide) (Nat.le_of_ble_eq_true rfl) rfl rfl ?_
  exact wX0_isNumber_p6 hd C _ hx1 h M
theorem wX0_isOrder_p35 {X : Cx} {d : Nat} (hd : 3 ≤ d) (C : CtxOK X mX0_isOrder) {x1 : Nat} {x2 : Int32} {I I' : Mm} {r : Int32} (hx1 : kd0 x1 = 2) (h : fX0_isOrder_p35 x1 x2 I = some (r, I')) (M : MX X (xE X) d 0 0 (some (.int r)) S0 I') : WM X mX0_isOrder 35 [some (rfX X 34), some (rfX X x1), some (.int x2)] [] S0 I 0 0 := by
  unfold fX0_isOrder_p35 at h
  refine s_iload_n C dX0_isOrder_35 rfl rfl ?_
  by_cases c1 : x2 = 37
  · have h := it_t c1 h
    refine s_lookup (off := 222) (tgt := 258) C dX0_isOrder_36 (by decide) (by rw [c1]; decide +kernel) (by decide) ?_
    refine s_aload_n C dX0_isOrder_258 rfl rfl ?_
    refine s_aload_n C dX0_isOrder_259 rfl rfl ?_
    refine s_iload_n C dX0_isOrder_260 rfl rfl ?_
    obtain ⟨r1, I1, hh, h⟩ := bd_e h
    refine s_cV0 (st := []) C M.rg (Nat.le_trans (by decide) hd) mwX0_isCode mlX0_34 dX0_isOrder_261 (wX0_isCode (d := 2) (Nat.le_refl _) hx1 hh) kk_34 rfl rfl (Nat.le_of_ble_eq_true rfl) ?_
    refine s_if_eq (tgt := 281) C dX0_isOrder_264 (by decide) (fun c => ?_) (fun c => ?_)
    · have h := it_t c h
      refine s_iconst C dX0_isOrder_281 ic_0 ?_
      obtain ⟨rfl, rfl⟩ := pr_e h
      exact s_iret C M dX0_isOrder_282 rfl (nz_b (by decide)) (Nat.le_refl 0) (Nat.le_refl 0)
    · have h := it_f c h
      refine s_aload_n C dX0_isOrder_267 rfl rfl ?_
      refine s_aload_n C dX0_isOrder_268 rfl rfl ?_
      refine s_iconst C dX0_isOrder_269 ic_0 ?_
      refine s_iconst C dX0_isOrder_270 ic_2 ?_
      obtain ⟨r2, I2, hh, h⟩ := bd_e h
      refine s_cV0 (st := []) C M.rg (Nat.le_trans (by decide) hd) mwX0_isNumber mlX0_42 dX0_isOrder_271 (wX0_isNumber (d := 2) (Nat.le_refl _) hx1 hh) kk_34 rfl rfl (Nat.le_of_ble_eq_true rfl) ?_
      refine s_if_eq (tgt := 281) C dX0_isOrder_274 (by decide) (fun c => ?_) (fun c => ?_)
      · have h := it_t c h
        refine s_iconst C dX0_isOrder_281 ic_0 ?_
        obtain ⟨rfl, rfl⟩ := pr_e h
        exact s_iret C M dX0_isOrder_282 rfl (nz_b (by decide)) (Nat.le_refl 0) (Nat.le_refl 0)
      · have h := it_f c h
        refine s_iconst C dX0_isOrder_277 ic_1 ?_
        refine s_goto (tgt := 282) C dX0_isOrder_278 (by decide) ?_
        obtain ⟨rfl, rfl⟩ := pr_e h
        exact s_iret C M dX0_isOrder_282 rfl (nz_b (by decide)) (Nat.le_refl 0) (Nat.le_refl 0)
  have h := it_f c1 h
  by_cases c2 : x2 = 43
  · have h := it_t c2 h
    refine s_lookup (off := 52) (tgt := 88) C dX0_isOrder_36 (by decide) (by rw [c2]; decide +kernel) (by decide) ?_
    refine s_aload_n C dX0_isOrder_88 rfl rfl ?_
    refine s_aload_n C dX0_isOrder_89 rfl rfl ?_
    refine s_iload_n C dX0_isOrder_90 rfl rfl ?_
    obtain ⟨r1, I1, hh, h⟩ := bd_e h
    refine s_cV0 (st := []) C M.rg (Nat.le_trans (by decide) hd) mwX0_isCode mlX0_34 dX0_isOrder_91 (wX0_isCode (d := 2) (Nat.le_refl _) hx1 hh) kk_34 rfl rfl (Nat.le_of_ble_eq_true rfl) ?_
    refine s_if_eq (tgt := 151) C dX0_isOrder_94 (by decide) (fun c => ?_) (fun c => ?_)
    · have h := it_t c h
      refine s_iconst C dX0_isOrder_151 ic_0 ?_
      obtain ⟨rfl, rfl⟩ := pr_e h
      exact s_iret C M dX0_isOrder_152 rfl (nz_b (by decide)) (Nat.le_refl 0) (Nat.le_refl 0)
    · have h := it_f c h
      refine s_aload_n C dX0_isOrder_97 rfl rfl ?_
      refine s_aload_n C dX0_isOrder_98 rfl rfl ?_
      refine s_iconst C dX0_isOrder_99 ic_0 ?_
      refine s_iconst C dX0_isOrder_100 ic_1 ?_
      obtain ⟨r2, I2, hh, h⟩ := bd_e h
      refine s_cV0 (st := []) C M.rg (Nat.le_trans (by decide) hd) mwX0_isNumber mlX0_42 dX0_isOrder_101 (wX0_isNumber (d := 2) (Nat.le_refl _) hx1 hh) kk_34 rfl rfl (Nat.le_of_ble_eq_true rfl) ?_
      refine s_if_eq (tgt := 151) C dX0_isOrder_104 (by decide) (fun c => ?_) (fun c => ?_)
      · have h := it_t c h
        refine s_iconst C dX0_isOrder_151 ic_0 ?_
        obtain ⟨rfl, rfl⟩ := pr_e h
        exact s_iret C M dX0_isOrder_152 rfl (nz_b (by decide)) (Nat.le_refl 0) (Nat.le_refl 0)
      · have h := it_f c h
        refine s_aload_n C dX0_isOrder_107 rfl rfl ?_
        refine s_aload_n C dX0_isOrder_108 rfl rfl ?_
        refine s_bipush C dX0_isOrder_109 bi_58 ?_
        obtain ⟨r3, I3, hh, h⟩ := bd_e h
        refine s_cV0 (st := []) C M.rg (Nat.le_trans (by decide) hd) mwX0_isCode mlX0_34 dX0_isOrder_111 (wX0_isCode (d := 2) (Nat.le_refl _) hx1 hh) kk_34 rfl rfl (Nat.le_of_ble_eq_true rfl) ?_
        refine s_if_eq (tgt := 151) C dX0_isOrder_114 (by decide) (fun c => ?_) (fun c => ?_)
        · have h := it_t c h
          refine s_iconst C dX0_isOrder_151 ic_0 ?_
          obtain ⟨rfl, rfl⟩ := pr_e h
          exact s_iret C M dX0_isOrder_152 rfl (nz_b (by decide)) (Nat.le_refl 0) (Nat.le_refl 0)
        · have h := it_f c h
          refine s_aload_n C dX0_isOrder_117 rfl rfl ?_
          refine s_aload_n C dX0_isOrder_118 rfl rfl ?_
          refine s_iconst C dX0_isOrder_119 ic_1 ?_
          refine s_iconst C dX0_isOrder_120 ic_3 ?_
          obtain ⟨r4, I4, hh, h⟩ := bd_e h
          refine s_cV0 (st := []) C M.rg (Nat.le_trans (by decide) hd) mwX0_isNumber mlX0_42 dX0_isOrder_121 (wX0_isNumber (d := 2) (Nat.le_refl _) hx1 hh) kk_34 rfl rfl (Nat.le_of_ble_eq_true rfl) ?_
          refine s_if_eq (tgt := 151) C dX0_isOrder_124 (by decide) (fun c => ?_) (fun c => ?_)
          · have h := it_t c h
            refine s_iconst C dX0_isOrder_151 ic_0 ?_
            obtain ⟨rfl, rfl⟩ := pr_e h
            exact s_iret C M dX0_isOrder_152 rfl (nz_b (by decide)) (Nat.le_refl 0) (Nat.le_refl 0)
          · have h := it_f c h
            refine s_aload_n C dX0_isOrder_127 rfl rfl ?_
            refine s_aload_n C dX0_isOrder_128 rfl rfl ?_
            refine s_bipush C dX0_isOrder_129 bi_42 ?_
            obtain ⟨r5, I5, hh, h⟩ := bd_e h
            refine s_cV0 (st := []) C M.rg (Nat.le_trans (by decide) hd) mwX0_isCode mlX0_34 dX0_isOrder_131 (wX0_isCode (d := 2) (Nat.le_refl _) hx1 hh) kk_34 rfl rfl (Nat.le_of_ble_eq_true rfl) ?_
            refine s_if_eq (tgt := 151) C dX0_isOrder_134 (by decide) (fun c => ?_) (fun c => ?_)
            · have h := it_t c h
              refine s_iconst C dX0_isOrder_151 ic_0 ?_
              obtain ⟨rfl, rfl⟩ := pr_e h
              exact s_iret C M dX0_isOrder_152 rfl (nz_b (by decide)) (Nat.le_refl 0) (Nat.le_refl 0)
            · have h := it_f c h
              refine s_aload_n C dX0_isOrder_137 rfl rfl ?_
              refine s_aload_n C dX0_isOrder_138 rfl rfl ?_
              refine s_iconst C dX0_isOrder_139 ic_2 ?_
              refine s_iconst C dX0_isOrder_140 ic_2 ?_
              obtain ⟨r6, I6, hh, h⟩ := bd_e h
              refine s_cV0 (st := []) C M.rg (Nat.le_trans (by decide) hd) mwX0_isNumber mlX0_42 dX0_isOrder_141 (wX0_isNumber (d := 2) (Nat.le_refl _) hx1 hh) kk_34 rfl rfl (Nat.le_of_ble_eq_true rfl) ?_
              refine s_if_eq (tgt := 151) C dX0_isOrder_144 (by decide) (fun c => ?_) (fun c => ?_)
              · have h := it_t c h
                refine s_iconst C dX0_isOrder_151 ic_0 ?_
                obtain ⟨rfl, rfl⟩ := pr_e h
                exact s_iret C M dX0_isOrder_152 rfl (nz_b (by decide)) (Nat.le_refl 0) (Nat.le_refl 0)
              · have h := it_f c h
                refine s_iconst C dX0_isOrder_147 ic_1 ?_
                refine s_goto (tgt := 152) C dX0_isOrder_148 (by decide) ?_
                obtain ⟨rfl, rfl⟩ := pr_e h
                exact s_iret C M dX0_isOrder_152 rfl (nz_b (by decide)) (Nat.le_refl 0) (Nat.le_refl 0)
  have h := it_f c2 h
  by_cases c3 : x2 = 45
  · have h := it_t c3 h
    refine s_lookup (off := 117) (tgt := 153) C dX0_isOrder_36 (by decide) (by rw [c3]; decide +kernel) (by decide) ?_
    refine s_aload_n C dX0_isOrder_153 rfl rfl ?_
    refine s_aload_n C dX0_isOrder_154 rfl rfl ?_
    refine s_iload_n C dX0_isOrder_155 rfl rfl ?_
    obtain ⟨r1, I1, hh, h⟩ := bd_e h
    refine s_cV0 (st := []) C M.rg (Nat.le_trans (by decide) hd) mwX0_isCode mlX0_34 dX0_isOrder_156 (wX0_isCode (d := 2) (Nat.le_refl _) hx1 hh) kk_34 rfl rfl (Nat.le_of_ble_eq_true rfl) ?_
    refine s_if_eq (tgt := 196) C dX0_isOrder_159 (by decide) (fun c => ?_) (fun c => ?_)
    · have h := it_t c h
      refine s_iconst C dX0_isOrder_196 ic_0 ?_
      obtain ⟨rfl, rfl⟩ := pr_e h
      exact s_iret C M dX0_isOrder_197 rfl (nz_b (by decide)) (Nat.le_refl 0) (Nat.le_refl 0)
    · have h := it_f c h
      refine s_aload_n C dX0_isOrder_162 rfl rfl ?_
      refine s_aload_n C dX0_isOrder_163 rfl rfl ?_
      refine s_iconst C dX0_isOrder_164 ic_0 ?_
      refine s_iconst C dX0_isOrder_165 ic_1 ?_
      obtain ⟨r2, I2, hh, h⟩ := bd_e h
      refine s_cV0 (st := []) C M.rg (Nat.le_trans (by decide) hd) mwX0_isNumber mlX0_42 dX0_isOrder_166 (wX0_isNumber (d := 2) (Nat.le_refl _) hx1 hh) kk_34 rfl rfl (Nat.le_of_ble_eq_true rfl) ?_
      refine s_if_eq (tgt := 196) C dX0_isOrder_169 (by decide) (fun c => ?_) (fun c => ?_)
      · have h := it_t c h
        refine s_iconst C dX0_isOrder_196 ic_0 ?_
        obtain ⟨rfl, rfl⟩ := pr_e h
        exact s_iret C M dX0_isOrder_197 rfl (nz_b (by decide)) (Nat.le_refl 0) (Nat.le_refl 0)
      · have h := it_f c h
        refine s_aload_n C dX0_isOrder_172 rfl rfl ?_
        refine s_aload_n C dX0_isOrder_173 rfl rfl ?_
        refine s_bipush C dX0_isOrder_174 bi_58 ?_
        obtain ⟨r3, I3, hh, h⟩ := bd_e h
        refine s_cV0 (st := []) C M.rg (Nat.le_trans (by decide) hd) mwX0_isCode mlX0_34 dX0_isOrder_176 (wX0_isCode (d := 2) (Nat.le_refl _) hx1 hh) kk_34 rfl rfl (Nat.le_of_ble_eq_true rfl) ?_
        refine s_if_eq (tgt := 196) C dX0_isOrder_179 (by decide) (fun c => ?_) (fun c => ?_)
        · have h := it_t c h
          refine s_iconst C dX0_isOrder_196 ic_0 ?_
          obtain ⟨rfl, rfl⟩ := pr_e h
          exact s_iret C M dX0_isOrder_197 rfl (nz_b (by decide)) (Nat.le_refl 0) (Nat.le_refl 0)
        · have h := it_f c h
          refine s_aload_n C dX0_isOrder_182 rfl rfl ?_
          refine s_aload_n C dX0_isOrder_183 rfl rfl ?_
          refine s_iconst C dX0_isOrder_184 ic_1 ?_
          refine s_iconst C dX0_isOrder_185 ic_3 ?_
          obtain ⟨r4, I4, hh, h⟩ := bd_e h
          refine s_cV0 (st := []) C M.rg (Nat.le_trans (by decide) hd) mwX0_isNumber mlX0_42 dX0_isOrder_186 (wX0_isNumber (d := 2) (Nat.le_refl _) hx1 hh) kk_34 rfl rfl (Nat.le_of_ble_eq_true rfl) ?_
          refine s_if_eq (tgt := 196) C dX0_isOrder_189 (by decide) (fun c => ?_) (fun c => ?_)
          · have h := it_t c h
            refine s_iconst C dX0_isOrder_196 ic_0 ?_
            obtain ⟨rfl, rfl⟩ := pr_e h
            exact s_iret C M dX0_isOrder_197 rfl (nz_b (by decide)) (Nat.le_refl 0) (Nat.le_refl 0)
          · have h := it_f c h
            refine s_iconst C dX0_isOrder_192 ic_1 ?_
            refine s_goto (tgt := 197) C dX0_isOrder_193 (by decide) ?_
            obtain ⟨rfl, rfl⟩ := pr_e h
            exact s_iret C M dX0_isOrder_197 rfl (nz_b (by decide)) (Nat.le_refl 0) (Nat.le_refl 0)
  have h := it_f c3 h
  by_cases c4 : x2 = 61
  · have h := it_t c4 h
    refine s_lookup (off := 162) (tgt := 198) C dX0_isOrder_36 (by decide) (by rw [c4]; decide +kernel) (by decide) ?_
    refine s_aload_n C dX0_isOrder_198 rfl rfl ?_
    refine s_aload_n C dX0_isOrder_199 rfl rfl ?_
    refine s_iload_n C dX0_isOrder_200 rfl rfl ?_
    obtain ⟨r1, I1, hh, h⟩ := bd_e h
    refine s_cV0 (st := []) C M.rg (Nat.le_trans (by decide) hd) mwX0_isCode mlX0_34 dX0_isOrder_201 (wX0_isCode (d := 2) (Nat.le_refl _) hx1 hh) kk_34 rfl rfl (Nat.le_of_ble_eq_true rfl) ?_
    refine s_if_eq (tgt := 221) C dX0_isOrder_204 (by decide) (fun c => ?_) (fun c => ?_)
    · have h := it_t c h
      refine s_iconst C dX0_isOrder_221 ic_0 ?_
      obtain ⟨rfl, rfl⟩ := pr_e h
      exact s_iret C M dX0_isOrder_222 rfl (nz_b (by decide)) (Nat.le_refl 0) (Nat.le_refl 0)
    · have h := it_f c h
      refine s_aload_n C dX0_isOrder_207 rfl rfl ?_
      refine s_aload_n C dX0_isOrder_208 rfl rfl ?_
      refine s_iconst C dX0_isOrder_209 ic_0 ?_
      refine s_iconst C dX0_isOrder_210 ic_1 ?_
      obtain ⟨r2, I2, hh, h⟩ := bd_e h
      refine s_cV0 (st := []) C M.rg (Nat.le_trans (by decide) hd) mwX0_isNumber mlX0_42 dX0_isOrder_211 (wX0_isNumber (d := 2) (Nat.le_refl _) hx1 hh) kk_34 rfl rfl (Nat.le_of_ble_eq_true rfl) ?_
      refine s_if_eq (tgt := 221) C dX0_isOrder_214 (by decide) (fun c => ?_) (fun c => ?_)
      · have h := it_t c h
        refine s_iconst C dX0_isOrder_221 ic_0 ?_
        obtain ⟨rfl, rfl⟩ := pr_e h
        exact s_iret C M dX0_isOrder_222 rfl (nz_b (by decide)) (Nat.le_refl 0) (Nat.le_refl 0)
      · have h := it_f c h
        refine s_iconst C dX0_isOrder_217 ic_1 ?_
        refine s_goto (tgt := 222) C dX0_isOrder_218 (by decide) ?_
        obtain ⟨rfl, rfl⟩ := pr_e h
        exact s_iret C M dX0_isOrder_222 rfl (nz_b (by decide)) (Nat.le_refl 0) (Nat.le_refl 0)
  have h := it_f c4 h
  by_cases c5 : x2 = 62
  · have h := it_t c5 h
    refine s_lookup (off := 187) (tgt := 223) C dX0_isOrder_36 (by decide) (by rw [c5]; decide +kernel) (by decide) ?_
    refine s_aload_n C dX0_isOrder_223 rfl rfl ?_
    refine s_aload_n C dX0_isOrder_224 rfl rfl ?_
    refine s_iload_n C dX0_isOrder_225 rfl rfl ?_
    obtain ⟨r1, I1, hh, h⟩ := bd_e h
    refine s_cV0 (st := []) C M.rg (Nat.le_trans (by decide) hd) mwX0_isCode mlX0_34 dX0_isOrder_226 (wX0_isCode (d := 2) (Nat.le_refl _) hx1 hh) kk_34 rfl rfl (Nat.le_of_ble_eq_true rfl) ?_
    refine s_if_eq (tgt := 256) C dX0_isOrder_229 (by decide) (fun c => ?_) (fun c => ?_)
    · have h := it_t c h
      refine s_iconst C dX0_isOrder_256 ic_0 ?_
      obtain ⟨rfl, rfl⟩ := pr_e h
      exact s_iret C M dX0_isOrder_257 rfl (nz_b (by decide)) (Nat.le_refl 0) (Nat.le_refl 0)
    · have h := it_f c h
      refine s_aload_n C dX0_isOrder_232 rfl rfl ?_
      refine s_aload_n C dX0_isOrder_233 rfl rfl ?_
      refine s_iconst C dX0_isOrder_234 ic_0 ?_
      refine s_iconst C dX0_isOrder_235 ic_1 ?_
      obtain ⟨r2, I2, hh, h⟩ := bd_e h
      refine s_cV0 (st := []) C M.rg (Nat.le_trans (by decide) hd) mwX0_isNumber mlX0_42 dX0_isOrder_236 (wX0_isNumber (d := 2) (Nat.le_refl _) hx1 hh) kk_34 rfl rfl (Nat.le_of_ble_eq_true rfl) ?_
      refine s_if_eq (tgt := 256) C dX0_isOrder_239 (by decide) (fun c => ?_) (fun c => ?_)
      · have h := it_t c h
        refine s_iconst C dX0_isOrder_256 ic_0 ?_
        obtain ⟨rfl, rfl⟩ := pr_e h
        exact s_iret C M dX0_isOrder_257 rfl (nz_b (by decide)) (Nat.le_refl 0) (Nat.le_refl 0)
      · have h := it_f c h
        refine s_aload_n C dX0_isOrder_242 rfl rfl ?_
        refine s_aload_n C dX0_isOrder_243 rfl rfl ?_
        refine s_iconst C dX0_isOrder_244 ic_1 ?_
        refine s_iconst C dX0_isOrder_245 ic_1 ?_
        obtain ⟨r3, I3, hh, h⟩ := bd_e h
        refine s_cV0 (st := []) C M.rg (Nat.le_trans (by decide) hd) mwX0_isNumber mlX0_42 dX0_isOrder_246 (wX0_isNumber (d := 2) (Nat.le_refl _) hx1 hh) kk_34 rfl rfl (Nat.le_of_ble_eq_true rfl) ?_
        refine s_if_eq (tgt := 256) C dX0_isOrder_249 (by decide) (fun c => ?_) (fun c => ?_)
        · have h := it_t c h
          refine s_iconst C dX0_isOrder_256 ic_0 ?_
          obtain ⟨rfl, rfl⟩ := pr_e h
          exact s_iret C M dX0_isOrder_257 rfl (nz_b (by decide)) (Nat.le_refl 0) (Nat.le_refl 0)
        · have h := it_f c h
          refine s_iconst C dX0_isOrder_252 ic_1 ?_
          refine s_goto (tgt := 257) C dX0_isOrder_253 (by decide) ?_
          obtain ⟨rfl, rfl⟩ := pr_e h
          exact s_iret C M dX0_isOrder_257 rfl (nz_b (by decide)) (Nat.le_refl 0) (Nat.le_refl 0)
  have h := it_f c5 h
  refine s_lookup (off := 247) (tgt := 283) C dX0_isOrder_36 (by decide) (by simp only [Op.lookupswitch.offset_cons, Op.lookupswitch.offset_nil]; rw [if_neg (Ne.symm (ne_i 37 (by decide +kernel) c1)), if_neg (Ne.symm (ne_i 43 (by decide +kernel) c2)), if_neg (Ne.symm (ne_i 45 (by decide +kernel) c3)), if_neg (Ne.symm (ne_i 61 (by decide +kernel) c4)), if_neg (Ne.symm (ne_i 62 (by decide +kernel) c5))]) (by decide) ?_
  refine s_iconst C dX0_isOrder_283 ic_0 ?_
  obtain ⟨rfl, rfl⟩ := pr_e h
  exact s_iret C M dX0_isOrder_284 rfl (nz_b (by decide)) (Nat.le_refl 0) (Nat.le_refl 0)
theorem wX0_isOrder {E : Ev} {d : Nat} (hd : 3 ≤ d) {x1 : Nat} {I I' : Mm} {r : Int32} (hx1 : kd0 x1 = 2) (h : fX0_isOrder x1 I = some (r, I')) : SemM E d 0 0 mX0_isOrder [rfE E 34, rfE E x1] S0 I (some (.int r)) S0 I' := by
  unfold fX0_isOrder at h
  refine SemM.ofX (E := E) (y := mX0_isOrder) (args := fun E => [rfE E 34, rfE E x1]) (r := fun E => (some (.int r))) (fun E => [some (rfE E 34), some (rfE E x1), none]) (by decide +kernel) (Nat.le_of_ble_eq_true rfl) rfl (fun X C M => ?_)
  refine s_aload_n C dX0_isOrder_0 rfl rfl ?_
  refine s_aload_n C dX0_isOrder_1 rfl rfl ?_
  refine s_getI C dX0_isOrder_2 kk_34 foX0_22 rfl ?_
  obtain ⟨r1, I1, hh, h⟩ := bd_e h
  refine s_cV0 (st := []) C M.rg (Nat.le_trans (by decide) hd) mwX2_codeAt mlX0_38 dX0_isOrder_5 (wX2_codeAt (d := 1) (Nat.le_refl _) hx1 hh) hx1 rfl rfl (Nat.le_of_ble_eq_true rfl) ?_
  refine s_istore_n (ls' := [some (rfX X 34), some (rfX X x1), some (.int r1)]) C dX0_isOrder_8 rfl (by decide) (Nat.le_of_ble_eq_true rfl) rfl rfl ?_
  refine s_aload_n C dX0_isOrder_9 rfl rfl ?_
  refine s_getI C dX0_isOrder_10 kk_34 foX0_18 rfl ?_
  refine s_bipush C dX0_isOrder_13 bi_20 ?_
  refine s_icmp_ge (tgt := 35) C dX0_isOrder_15 (by decide) (fun c => ?_) (fun c => ?_)
  · have h := it_t c h
    exact wX0_isOrder_p35 hd C hx1 h M
  · have h := it_f c h
    refine s_aload_n C dX0_isOrder_18 rfl rfl ?_
    refine s_getI C dX0_isOrder_19 kk_34 foX0_18 rfl ?_
    refine s_if_lt (tgt := 35) C dX0_isOrder_22 (by decide) (fun c => ?_) (fun c => ?_)
    · have h := it_t c h
      exact wX0_isOrder_p35 hd C hx1 h M
    · have h := it_f c h
      refine s_aload_n C dX0_isOrder_25 rfl rfl ?_
      refine s_getR (b := 35) C dX0_isOrder_26 kk_34 foX0_9 rfl rk_34_0 ?_
      refine s_aload_n C dX0_isOrder_29 rfl rfl ?_
      refine s_getI C dX0_isOrder_30 kk_34 foX0_18 rfl ?_
      refine s_iload_n C dX0_isOrder_33 rfl rfl ?_
      obtain ⟨hb, h⟩ := it_n h
      obtain ⟨I2, eI2, h⟩ := ltm_e h
      refine s_ast (q := (I1 34 2).toNatClampNeg) C dX0_isOrder_34 kk_35 (by decide) rfl hb eI2 ?_
      exact wX0_isOrder_p35 hd C hx1 h M
theorem wX0_numberOf {E : Ev} {d : Nat} (hd : 1 ≤ d) {x1 : Int32} {x2 : Int32} {I I' : Mm} {r : Int32}  (h : fX0_numberOf x1 x2 I = some (r, I')) : SemM E d 0 0 mX0_numberOf [rfE E 34, .int x1, .int x2] S0 I (some (.int r)) S0 I' := by
  unfold fX0_numberOf at h
  refine SemM.ofX (E := E) (y := mX0_numberOf) (args := fun E => [rfE E 34, .int x1, .int x2]) (r := fun E => (some (.int r))) (fun E => [some (rfE E 34), some (.int x1), some (.int x2), none]) (by decide +kernel) (Nat.le_of_ble_eq_true rfl) rfl (fun X C M => ?_)
  refine s_iload_n C dX0_numberOf_0 rfl rfl ?_
  refine s_iconst C dX0_numberOf_1 ic_3 ?_
  refine s_imul C dX0_numberOf_2 ?_
  refine s_iload_n C dX0_numberOf_3 rfl rfl ?_
  refine s_iadd C dX0_numberOf_4 ?_
  obtain ⟨v1, ev1, h⟩ := ltm_e h
  refine s_top_i ev1 ?_
  refine s_istore_n (ls' := [some (rfX X 34), some (.int x1), some (.int x2), some (.int v1)]) C dX0_numberOf_5 rfl (by decide) (Nat.le_of_ble_eq_true rfl) rfl rfl ?_
  refine s_iload_n C dX0_numberOf_6 rfl rfl ?_
  refine s_if_lt (tgt := 34) C dX0_numberOf_7 (by decide) (fun c => ?_) (fun c => ?_)
  · have h := it_t c h
    refine s_bipush C dX0_numberOf_34 bi_m11 ?_
    obtain ⟨rfl, rfl⟩ := pr_e h
    exact s_iret C M dX0_numberOf_36 rfl rfl (Nat.le_refl 0) (Nat.le_refl 0)
  · have h := it_f c h
    refine s_iload_n C dX0_numberOf_10 rfl rfl ?_
    refine s_bipush C dX0_numberOf_11 bi_20 ?_
    refine s_icmp_ge (tgt := 34) C dX0_numberOf_13 (by decide) (fun c => ?_) (fun c => ?_)
    · have h := it_t c h
      refine s_bipush C dX0_numberOf_34 bi_m11 ?_
      obtain ⟨rfl, rfl⟩ := pr_e h
      exact s_iret C M dX0_numberOf_36 rfl rfl (Nat.le_refl 0) (Nat.le_refl 0)
    · have h := it_f c h
      refine s_iload_n C dX0_numberOf_16 rfl rfl ?_
      refine s_if_lt (tgt := 34) C dX0_numberOf_17 (by decide) (fun c => ?_) (fun c => ?_)
      · have h := it_t c h
        refine s_bipush C dX0_numberOf_34 bi_m11 ?_
        obtain ⟨rfl, rfl⟩ := pr_e h
        exact s_iret C M dX0_numberOf_36 rfl rfl (Nat.le_refl 0) (Nat.le_refl 0)
      · have h := it_f c h
        refine s_iload_n C dX0_numberOf_20 rfl rfl ?_
        refine s_iconst C dX0_numberOf_21 ic_3 ?_
        refine s_icmp_ge (tgt := 34) C dX0_numberOf_22 (by decide) (fun c => ?_) (fun c => ?_)
        · have h := it_t c h
          refine s_bipush C dX0_numberOf_34 bi_m11 ?_
          obtain ⟨rfl, rfl⟩ := pr_e h
          exact s_iret C M dX0_numberOf_36 rfl rfl (Nat.le_refl 0) (Nat.le_refl 0)
        · have h := it_f c h
          refine s_aload_n C dX0_numberOf_25 rfl rfl ?_
          refine s_getR (b := 36) C dX0_numberOf_26 kk_34 foX0_15 rfl rk_34_1 ?_
          refine s_iload_n C dX0_numberOf_29 rfl rfl ?_
          obtain ⟨hb, h⟩ := it_n h
          refine s_ald (q := v1.toNatClampNeg) C dX0_numberOf_30 kk_36 (by decide) rfl hb ?_
          refine s_goto (tgt := 36) C dX0_numberOf_31 (by decide) ?_
          obtain ⟨rfl, rfl⟩ := pr_e h
          exact s_iret C M dX0_numberOf_36 rfl rfl (Nat.le_refl 0) (Nat.le_refl 0)
theorem wX0_read_p14 {X : Cx} {d : Nat} (hd : 4 ≤ d) (C : CtxOK X mX0_read) : ∀ (n : Nat) {x1 : Nat} {x2 : Int32} {x3 : Int32} {I I' : Mm} {r : Int32} (hx1 : kd0 x1 = 2) (_ : fX0_read_p14 n x1 x2 x3 I = some (r, I')) (_ : MX X (xE X) d 0 0 (some (.int r)) S0 I'), WM X mX0_read 14 [some (rfX X 34), some (rfX X x1), some (.int x2), some (.int x3)] [] S0 I 0 0 := by
  intro n
  induction n with
  | zero => intro x1 x2 x3 I I' r hx1 h M; exact absurd h (by simp [fX0_read_p14])
  | succ n ih =>
    intro x1 x2 x3 I I' r hx1 h M
    rw [fX0_read_p14] at h
    refine s_iload_n C dX0_read_14 rfl rfl ?_
    refine s_bipush C dX0_read_15 bi_20 ?_
    refine s_icmp_gt (tgt := 97) C dX0_read_17 (by decide) (fun c => ?_) (fun c => ?_)
    · have h := it_t c h
      refine s_aload_n C dX0_read_97 rfl rfl ?_
      refine s_getI C dX0_read_98 kk_34 foX0_18 rfl ?_
      obtain ⟨rfl, rfl⟩ := pr_e h
      exact s_iret C M dX0_read_101 rfl rfl (Nat.le_refl 0) (Nat.le_refl 0)
    · have h := it_f c h
      refine s_iload_n C dX0_read_20 rfl rfl ?_
      refine s_if_eq (tgt := 97) C dX0_read_21 (by decide) (fun c => ?_) (fun c => ?_)
      · have h := it_t c h
        refine s_aload_n C dX0_read_97 rfl rfl ?_
        refine s_getI C dX0_read_98 kk_34 foX0_18 rfl ?_
        obtain ⟨rfl, rfl⟩ := pr_e h
        exact s_iret C M dX0_read_101 rfl rfl (Nat.le_refl 0) (Nat.le_refl 0)
      · have h := it_f c h
        refine s_aload_n C dX0_read_24 rfl rfl ?_
        refine s_aload_n C dX0_read_25 rfl rfl ?_
        obtain ⟨r1, I1, hh, h⟩ := bd_e h
        refine s_cV0 (st := []) C M.rg (Nat.le_trans (by decide) hd) mwX0_isOrder mlX0_25 dX0_read_26 (wX0_isOrder (d := 3) (Nat.le_refl _) hx1 hh) kk_34 rfl rfl (Nat.le_of_ble_eq_true rfl) ?_
        refine s_if_ne (tgt := 41) C dX0_read_29 (by decide) (fun c => ?_) (fun c => ?_)
        · have h := it_f c h
          refine s_aload_n C dX0_read_41 rfl rfl ?_
          refine s_dup C dX0_read_42 rfl ?_
          refine s_getI C dX0_read_43 kk_34 foX0_18 rfl ?_
          refine s_iconst C dX0_read_46 ic_1 ?_
          refine s_iadd C dX0_read_47 ?_
          obtain ⟨I2, eI2, h⟩ := ltm_e h
          refine s_putI C dX0_read_48 kk_34 poX0_18 rfl eI2 ?_
          refine s_aload_n C dX0_read_51 rfl rfl ?_
          refine s_getI C dX0_read_52 kk_34 foX0_22 rfl ?_
          refine s_aload_n C dX0_read_55 rfl rfl ?_
          refine s_getI C dX0_read_56 hx1 foX0_29 rfl ?_
          refine s_icmp_ge (tgt := 66) C dX0_read_59 (by decide) (fun c => ?_) (fun c => ?_)
          · have h := it_t c h
            refine s_iconst C dX0_read_66 ic_0 ?_
            refine s_istore_n (ls' := [some (rfX X 34), some (rfX X x1), some (.int 0), some (.int x3)]) C dX0_read_67 rfl (by decide) (Nat.le_of_ble_eq_true rfl) rfl rfl ?_
            refine s_iload_n C dX0_read_68 rfl rfl ?_
            refine s_if_eq (tgt := 91) C dX0_read_69 (by decide) (fun c => ?_) (fun c => ?_)
            · have h := it_t c h
              obtain ⟨v1, ev1, h⟩ := ltm_e h
              refine s_iinc (v := v1) (ls' := [some (rfX X 34), some (rfX X x1), some (.int 0), some (.int v1)]) C dX0_read_91 rfl (by decide) (Nat.le_of_ble_eq_true rfl) (by rw [ev1, ic_1]) rfl rfl ?_
              refine s_goto (tgt := 14) C dX0_read_94 (by decide) ?_
              exact ih hx1 h M
            · have h := it_f c h
              refine s_aload_n C dX0_read_72 rfl rfl ?_
              refine s_aload_n C dX0_read_73 rfl rfl ?_
              refine s_bipush C dX0_read_74 bi_59 ?_
              obtain ⟨r2, I3, hh, h⟩ := bd_e h
              refine s_cV0 (st := []) C M.rg (Nat.le_trans (by decide) hd) mwX0_isCode mlX0_34 dX0_read_76 (wX0_isCode (d := 2) (Nat.le_refl _) hx1 hh) kk_34 rfl rfl (Nat.le_of_ble_eq_true rfl) ?_
              refine s_if_ne (tgt := 91) C dX0_read_79 (by decide) (fun c => ?_) (fun c => ?_)
              · have h := it_f c h
                obtain ⟨v1, ev1, h⟩ := ltm_e h
                refine s_iinc (v := v1) (ls' := [some (rfX X 34), some (rfX X x1), some (.int 0), some (.int v1)]) C dX0_read_91 rfl (by decide) (Nat.le_of_ble_eq_true rfl) (by rw [ev1, ic_1]) rfl rfl ?_
                refine s_goto (tgt := 14) C dX0_read_94 (by decide) ?_
                exact ih hx1 h M
              · have h := it_t c h
                refine s_sipush C dX0_read_82 si_m1000 ?_
                refine s_aload_n C dX0_read_85 rfl rfl ?_
                refine s_getI C dX0_read_86 kk_34 foX0_22 rfl ?_
                refine s_isub C dX0_read_89 ?_
                obtain ⟨rfl, rfl⟩ := pr_e h
                exact s_iret C M dX0_read_90 rfl rfl (Nat.le_refl 0) (Nat.le_refl 0)
          · have h := it_f c h
            refine s_iconst C dX0_read_62 ic_1 ?_
            refine s_goto (tgt := 67) C dX0_read_63 (by decide) ?_
            refine s_istore_n (ls' := [some (rfX X 34), some (rfX X x1), some (.int 1), some (.int x3)]) C dX0_read_67 rfl (by decide) (Nat.le_of_ble_eq_true rfl) rfl rfl ?_
            refine s_iload_n C dX0_read_68 rfl rfl ?_
            refine s_if_eq (tgt := 91) C dX0_read_69 (by decide) (fun c => ?_) (fun c => ?_)
            · have h := it_t c h
              obtain ⟨v1, ev1, h⟩ := ltm_e h
              refine s_iinc (v := v1) (ls' := [some (rfX X 34), some (rfX X x1), some (.int 1), some (.int v1)]) C dX0_read_91 rfl (by decide) (Nat.le_of_ble_eq_true rfl) (by rw [ev1, ic_1]) rfl rfl ?_
              refine s_goto (tgt := 14) C dX0_read_94 (by decide) ?_
              exact ih hx1 h M
            · have h := it_f c h
              refine s_aload_n C dX0_read_72 rfl rfl ?_
              refine s_aload_n C dX0_read_73 rfl rfl ?_
              refine s_bipush C dX0_read_74 bi_59 ?_
              obtain ⟨r2, I3, hh, h⟩ := bd_e h
              refine s_cV0 (st := []) C M.rg (Nat.le_trans (by decide) hd) mwX0_isCode mlX0_34 dX0_read_76 (wX0_isCode (d := 2) (Nat.le_refl _) hx1 hh) kk_34 rfl rfl (Nat.le_of_ble_eq_true rfl) ?_
              refine s_if_ne (tgt := 91) C dX0_read_79 (by decide) (fun c => ?_) (fun c => ?_)
              · have h := it_f c h
                obtain ⟨v1, ev1, h⟩ := ltm_e h
                refine s_iinc (v := v1) (ls' := [some (rfX X 34), some (rfX X x1), some (.int 1), some (.int v1)]) C dX0_read_91 rfl (by decide) (Nat.le_of_ble_eq_true rfl) (by rw [ev1, ic_1]) rfl rfl ?_
                refine s_goto (tgt := 14) C dX0_read_94 (by decide) ?_
                exact ih hx1 h M
              · have h := it_t c h
                refine s_sipush C dX0_read_82 si_m1000 ?_
                refine s_aload_n C dX0_read_85 rfl rfl ?_
                refine s_getI C dX0_read_86 kk_34 foX0_22 rfl ?_
                refine s_isub C dX0_read_89 ?_
                obtain ⟨rfl, rfl⟩ := pr_e h
                exact s_iret C M dX0_read_90 rfl rfl (Nat.le_refl 0) (Nat.le_refl 0)
        · have h := it_t c h
          refine s_sipush C dX0_read_32 si_m1000 ?_
          refine s_aload_n C dX0_read_35 rfl rfl ?_
          refine s_getI C dX0_read_36 kk_34 foX0_22 rfl ?_
          refine s_isub C dX0_read_39 ?_
          obtain ⟨rfl, rfl⟩ := pr_e h
          exact s_iret C M dX0_read_40 rfl rfl (Nat.le_refl 0) (Nat.le_refl 0)
theorem wX0_read {E : Ev} {d : Nat} (hd : 4 ≤ d) {x1 : Nat} {I I' : Mm} {r : Int32} (hx1 : kd0 x1 = 2) (h : fX0_read x1 I = some (r, I')) : SemM E d 0 0 mX0_read [rfE E 34, rfE E x1] S0 I (some (.int r)) S0 I' := by
  unfold fX0_read at h
  refine SemM.ofX (E := E) (y := mX0_read) (args := fun E => [rfE E 34, rfE E x1]) (r := fun E => (some (.int r))) (fun E => [some (rfE E 34), some (rfE E x1), none, none]) (by decide +kernel) (Nat.le_of_ble_eq_true rfl) rfl (fun X C M => ?_)
  refine s_aload_n C dX0_read_0 rfl rfl ?_
  refine s_iconst C dX0_read_1 ic_0 ?_
  obtain ⟨I1, eI1, h⟩ := ltm_e h
  refine s_putI C dX0_read_2 kk_34 poX0_18 rfl eI1 ?_
  refine s_aload_n C dX0_read_5 rfl rfl ?_
  refine s_iconst C dX0_read_6 ic_0 ?_
  obtain ⟨I2, eI2, h⟩ := ltm_e h
  refine s_putI C dX0_read_7 kk_34 poX0_22 rfl eI2 ?_
  refine s_iconst C dX0_read_10 ic_1 ?_
  refine s_istore_n (ls' := [some (rfX X 34), some (rfX X x1), some (.int 1), none]) C dX0_read_11 rfl (by decide) (Nat.le_of_ble_eq_true rfl) rfl rfl ?_
  refine s_iconst C dX0_read_12 ic_0 ?_
  refine s_istore_n (ls' := [some (rfX X 34), some (rfX X x1), some (.int 1), some (.int 0)]) C dX0_read_13 rfl (by decide) (Nat.le_of_ble_eq_true rfl) rfl rfl ?_
  exact wX0_read_p14 hd C _ hx1 h M
theorem wX0_signOf {E : Ev} {d : Nat} (hd : 1 ≤ d) {x1 : Int32} {I I' : Mm} {r : Int32}  (h : fX0_signOf x1 I = some (r, I')) : SemM E d 0 0 mX0_signOf [rfE E 34, .int x1] S0 I (some (.int r)) S0 I' := by
  unfold fX0_signOf at h
  refine SemM.ofX (E := E) (y := mX0_signOf) (args := fun E => [rfE E 34, .int x1]) (r := fun E => (some (.int r))) (fun E => [some (rfE E 34), some (.int x1)]) (by decide +kernel) (Nat.le_of_ble_eq_true rfl) rfl (fun X C M => ?_)
  refine s_iload_n C dX0_signOf_0 rfl rfl ?_
  refine s_if_lt (tgt := 19) C dX0_signOf_1 (by decide) (fun c => ?_) (fun c => ?_)
  · have h := it_t c h
    refine s_bipush C dX0_signOf_19 bi_m11 ?_
    obtain ⟨rfl, rfl⟩ := pr_e h
    exact s_iret C M dX0_signOf_21 rfl rfl (Nat.le_refl 0) (Nat.le_refl 0)
  · have h := it_f c h
    refine s_iload_n C dX0_signOf_4 rfl rfl ?_
    refine s_bipush C dX0_signOf_5 bi_20 ?_
    refine s_icmp_ge (tgt := 19) C dX0_signOf_7 (by decide) (fun c => ?_) (fun c => ?_)
    · have h := it_t c h
      refine s_bipush C dX0_signOf_19 bi_m11 ?_
      obtain ⟨rfl, rfl⟩ := pr_e h
      exact s_iret C M dX0_signOf_21 rfl rfl (Nat.le_refl 0) (Nat.le_refl 0)
    · have h := it_f c h
      refine s_aload_n C dX0_signOf_10 rfl rfl ?_
      refine s_getR (b := 35) C dX0_signOf_11 kk_34 foX0_9 rfl rk_34_0 ?_
      refine s_iload_n C dX0_signOf_14 rfl rfl ?_
      obtain ⟨hb, h⟩ := it_n h
      refine s_ald (q := x1.toNatClampNeg) C dX0_signOf_15 kk_35 (by decide) rfl hb ?_
      refine s_goto (tgt := 21) C dX0_signOf_16 (by decide) ?_
      obtain ⟨rfl, rfl⟩ := pr_e h
      exact s_iret C M dX0_signOf_21 rfl rfl (Nat.le_refl 0) (Nat.le_refl 0)
theorem wX1_depthAt {E : Ev} {d : Nat} (hd : 1 ≤ d) {x0 : Nat} {x1 : Int32} {I I' : Mm} {r : Int32} (hx0 : kd0 x0 = 1) (h : fX1_depthAt x0 x1 I = some (r, I')) : SemM E d 0 0 mX1_depthAt [rfE E x0, .int x1] S0 I (some (.int r)) S0 I' := by
  unfold fX1_depthAt at h
  refine SemM.ofX (E := E) (y := mX1_depthAt) (args := fun E => [rfE E x0, .int x1]) (r := fun E => (some (.int r))) (fun E => [some (rfE E x0), some (.int x1)]) (by decide +kernel) (Nat.le_of_ble_eq_true rfl) rfl (fun X C M => ?_)
  refine s_iload_n C dX1_depthAt_0 rfl rfl ?_
  refine s_if_lt (tgt := 27) C dX1_depthAt_1 (by decide) (fun c => ?_) (fun c => ?_)
  · have h := it_t c h
    refine s_iconst C dX1_depthAt_27 ic_m1 ?_
    obtain ⟨rfl, rfl⟩ := pr_e h
    exact s_iret C M dX1_depthAt_28 rfl rfl (Nat.le_refl 0) (Nat.le_refl 0)
  · have h := it_f c h
    refine s_iload_n C dX1_depthAt_4 rfl rfl ?_
    refine s_aload_n C dX1_depthAt_5 rfl rfl ?_
    refine s_getI C dX1_depthAt_6 hx0 foX1_21 rfl ?_
    refine s_icmp_ge (tgt := 27) C dX1_depthAt_9 (by decide) (fun c => ?_) (fun c => ?_)
    · have h := it_t c h
      refine s_iconst C dX1_depthAt_27 ic_m1 ?_
      obtain ⟨rfl, rfl⟩ := pr_e h
      exact s_iret C M dX1_depthAt_28 rfl rfl (Nat.le_refl 0) (Nat.le_refl 0)
    · have h := it_f c h
      refine s_iload_n C dX1_depthAt_12 rfl rfl ?_
      refine s_bipush C dX1_depthAt_13 bi_30 ?_
      refine s_icmp_ge (tgt := 27) C dX1_depthAt_15 (by decide) (fun c => ?_) (fun c => ?_)
      · have h := it_t c h
        refine s_iconst C dX1_depthAt_27 ic_m1 ?_
        obtain ⟨rfl, rfl⟩ := pr_e h
        exact s_iret C M dX1_depthAt_28 rfl rfl (Nat.le_refl 0) (Nat.le_refl 0)
      · have h := it_f c h
        refine s_aload_n C dX1_depthAt_18 rfl rfl ?_
        refine s_getR (b := (x0 + 3)) C dX1_depthAt_19 hx0 foX1_18 rfl (rr1 hx0).2.2 ?_
        refine s_iload_n C dX1_depthAt_22 rfl rfl ?_
        obtain ⟨hb, h⟩ := it_n h
        refine s_ald (q := x1.toNatClampNeg) C dX1_depthAt_23 (kd1 hx0).2.2 (by decide) rfl hb ?_
        refine s_goto (tgt := 28) C dX1_depthAt_24 (by decide) ?_
        obtain ⟨rfl, rfl⟩ := pr_e h
        exact s_iret C M dX1_depthAt_28 rfl rfl (Nat.le_refl 0) (Nat.le_refl 0)
theorem wX1_firstOf_p2 {X : Cx} {d : Nat} (hd : 2 ≤ d) (C : CtxOK X mX1_firstOf) : ∀ (n : Nat) {x0 : Nat} {x1 : Int32} {x2 : Int32} {I I' : Mm} {r : Int32} (hx0 : kd0 x0 = 1) (_ : fX1_firstOf_p2 n x0 x1 x2 I = some (r, I')) (_ : MX X (xE X) d 0 0 (some (.int r)) S0 I'), WM X mX1_firstOf 2 [some (rfX X x0), some (.int x1), some (.int x2)] [] S0 I 0 0 := by
  intro n
  induction n with
  | zero => intro x0 x1 x2 I I' r hx0 h M; exact absurd h (by simp [fX1_firstOf_p2])
  | succ n ih =>
    intro x0 x1 x2 I I' r hx0 h M
    rw [fX1_firstOf_p2] at h
    refine s_iload_n C dX1_firstOf_2 rfl rfl ?_
    refine s_if_le (tgt := 27) C dX1_firstOf_3 (by decide) (fun c => ?_) (fun c => ?_)
    · have h := it_t c h
      refine s_iload_n C dX1_firstOf_27 rfl rfl ?_
      obtain ⟨rfl, rfl⟩ := pr_e h
      exact s_iret C M dX1_firstOf_28 rfl rfl (Nat.le_refl 0) (Nat.le_refl 0)
    · have h := it_f c h
      refine s_aload_n C dX1_firstOf_6 rfl rfl ?_
      refine s_iload_n C dX1_firstOf_7 rfl rfl ?_
      refine s_iconst C dX1_firstOf_8 ic_1 ?_
      refine s_isub C dX1_firstOf_9 ?_
      obtain ⟨r1, I1, hh, h⟩ := bd_e h
      refine s_cV0 (st := []) C M.rg (Nat.le_trans (by decide) hd) mwX1_depthAt mlX1_29 dX1_firstOf_10 (wX1_depthAt (d := 1) (Nat.le_refl _) hx0 hh) hx0 rfl rfl (Nat.le_of_ble_eq_true rfl) ?_
      refine s_aload_n C dX1_firstOf_13 rfl rfl ?_
      refine s_iload_n C dX1_firstOf_14 rfl rfl ?_
      obtain ⟨r2, I2, hh, h⟩ := bd_e h
      refine s_cV0 (st := [.int r1]) C M.rg (Nat.le_trans (by decide) hd) mwX1_depthAt mlX1_29 dX1_firstOf_15 (wX1_depthAt (d := 1) (Nat.le_refl _) hx0 hh) hx0 rfl rfl (Nat.le_of_ble_eq_true rfl) ?_
      refine s_icmp_le (tgt := 27) C dX1_firstOf_18 (by decide) (fun c => ?_) (fun c => ?_)
      · have h := it_t c h
        refine s_iload_n C dX1_firstOf_27 rfl rfl ?_
        obtain ⟨rfl, rfl⟩ := pr_e h
        exact s_iret C M dX1_firstOf_28 rfl rfl (Nat.le_refl 0) (Nat.le_refl 0)
      · have h := it_f c h
        obtain ⟨v1, ev1, h⟩ := ltm_e h
        refine s_iinc (v := v1) (ls' := [some (rfX X x0), some (.int x1), some (.int v1)]) C dX1_firstOf_21 rfl (by decide) (Nat.le_of_ble_eq_true rfl) (by rw [ev1, ic_m1]) rfl rfl ?_
        refine s_goto (tgt := 2) C dX1_firstOf_24 (by decide) ?_
        exact ih hx0 h M
theorem wX1_firstOf {E : Ev} {d : Nat} (hd : 2 ≤ d) {x0 : Nat} {x1 : Int32} {I I' : Mm} {r : Int32} (hx0 : kd0 x0 = 1) (h : fX1_firstOf x0 x1 I = some (r, I')) : SemM E d 0 0 mX1_firstOf [rfE E x0, .int x1] S0 I (some (.int r)) S0 I' := by
  unfold fX1_firstOf at h
  refine SemM.ofX (E := E) (y := mX1_firstOf) (args := fun E => [rfE E x0, .int x1]) (r := fun E => (some (.int r))) (fun E => [some (rfE E x0), some (.int x1), none]) (by decide +kernel) (Nat.le_of_ble_eq_true rfl) rfl (fun X C M => ?_)
  refine s_iload_n C dX1_firstOf_0 rfl rfl ?_
  refine s_istore_n (ls' := [some (rfX X x0), some (.int x1), some (.int x1)]) C dX1_firstOf_1 rfl (by decide) (Nat.le_of_ble_eq_true rfl) rfl rfl ?_
  exact wX1_firstOf_p2 hd C _ hx0 h M
theorem wX1_isPlace {E : Ev} {d : Nat} (hd : 1 ≤ d) {x0 : Nat} {x1 : Int32} {I I' : Mm} {r : Int32} (hx0 : kd0 x0 = 1) (h : fX1_isPlace x0 x1 I = some (r, I')) : SemM E d 0 0 mX1_isPlace [rfE E x0, .int x1] S0 I (some (.int r)) S0 I' := by
  unfold fX1_isPlace at h
  refine SemM.ofX (E := E) (y := mX1_isPlace) (args := fun E => [rfE E x0, .int x1]) (r := fun E => (some (.int r))) (fun E => [some (rfE E x0), some (.int x1)]) (by decide +kernel) (Nat.le_of_ble_eq_true rfl) rfl (fun X C M => ?_)
  refine s_iload_n C dX1_isPlace_0 rfl rfl ?_
  refine s_if_lt (tgt := 16) C dX1_isPlace_1 (by decide) (fun c => ?_) (fun c => ?_)
  · have h := it_t c h
    refine s_iconst C dX1_isPlace_16 ic_0 ?_
    obtain ⟨rfl, rfl⟩ := pr_e h
    exact s_iret C M dX1_isPlace_17 rfl (nz_b (by decide)) (Nat.le_refl 0) (Nat.le_refl 0)
  · have h := it_f c h
    refine s_iload_n C dX1_isPlace_4 rfl rfl ?_
    refine s_aload_n C dX1_isPlace_5 rfl rfl ?_
    refine s_getI C dX1_isPlace_6 hx0 foX1_21 rfl ?_
    refine s_icmp_ge (tgt := 16) C dX1_isPlace_9 (by decide) (fun c => ?_) (fun c => ?_)
    · have h := it_t c h
      refine s_iconst C dX1_isPlace_16 ic_0 ?_
      obtain ⟨rfl, rfl⟩ := pr_e h
      exact s_iret C M dX1_isPlace_17 rfl (nz_b (by decide)) (Nat.le_refl 0) (Nat.le_refl 0)
    · have h := it_f c h
      refine s_iconst C dX1_isPlace_12 ic_1 ?_
      refine s_goto (tgt := 17) C dX1_isPlace_13 (by decide) ?_
      obtain ⟨rfl, rfl⟩ := pr_e h
      exact s_iret C M dX1_isPlace_17 rfl (nz_b (by decide)) (Nat.le_refl 0) (Nat.le_refl 0)
theorem wX1_lastOf_p2 {X : Cx} {d : Nat} (hd : 2 ≤ d) (C : CtxOK X mX1_lastOf) : ∀ (n : Nat) {x0 : Nat} {x1 : Int32} {x2 : Int32} {I I' : Mm} {r : Int32} (hx0 : kd0 x0 = 1) (_ : fX1_lastOf_p2 n x0 x1 x2 I = some (r, I')) (_ : MX X (xE X) d 0 0 (some (.int r)) S0 I'), WM X mX1_lastOf 2 [some (rfX X x0), some (.int x1), some (.int x2)] [] S0 I 0 0 := by
  intro n
  induction n with
  | zero => intro x0 x1 x2 I I' r hx0 h M; exact absurd h (by simp [fX1_lastOf_p2])
  | succ n ih =>
    intro x0 x1 x2 I I' r hx0 h M
    rw [fX1_lastOf_p2] at h
    refine s_iload_n C dX1_lastOf_2 rfl rfl ?_
    refine s_aload_n C dX1_lastOf_3 rfl rfl ?_
    refine s_getI C dX1_lastOf_4 hx0 foX1_21 rfl ?_
    refine s_iconst C dX1_lastOf_7 ic_1 ?_
    refine s_isub C dX1_lastOf_8 ?_
    refine s_icmp_ge (tgt := 33) C dX1_lastOf_9 (by decide) (fun c => ?_) (fun c => ?_)
    · have h := it_t c h
      refine s_iload_n C dX1_lastOf_33 rfl rfl ?_
      obtain ⟨rfl, rfl⟩ := pr_e h
      exact s_iret C M dX1_lastOf_34 rfl rfl (Nat.le_refl 0) (Nat.le_refl 0)
    · have h := it_f c h
      refine s_aload_n C dX1_lastOf_12 rfl rfl ?_
      refine s_iload_n C dX1_lastOf_13 rfl rfl ?_
      refine s_iconst C dX1_lastOf_14 ic_1 ?_
      refine s_iadd C dX1_lastOf_15 ?_
      obtain ⟨r1, I1, hh, h⟩ := bd_e h
      refine s_cV0 (st := []) C M.rg (Nat.le_trans (by decide) hd) mwX1_depthAt mlX1_29 dX1_lastOf_16 (wX1_depthAt (d := 1) (Nat.le_refl _) hx0 hh) hx0 rfl rfl (Nat.le_of_ble_eq_true rfl) ?_
      refine s_aload_n C dX1_lastOf_19 rfl rfl ?_
      refine s_iload_n C dX1_lastOf_20 rfl rfl ?_
      obtain ⟨r2, I2, hh, h⟩ := bd_e h
      refine s_cV0 (st := [.int r1]) C M.rg (Nat.le_trans (by decide) hd) mwX1_depthAt mlX1_29 dX1_lastOf_21 (wX1_depthAt (d := 1) (Nat.le_refl _) hx0 hh) hx0 rfl rfl (Nat.le_of_ble_eq_true rfl) ?_
      refine s_icmp_le (tgt := 33) C dX1_lastOf_24 (by decide) (fun c => ?_) (fun c => ?_)
      · have h := it_t c h
        refine s_iload_n C dX1_lastOf_33 rfl rfl ?_
        obtain ⟨rfl, rfl⟩ := pr_e h
        exact s_iret C M dX1_lastOf_34 rfl rfl (Nat.le_refl 0) (Nat.le_refl 0)
      · have h := it_f c h
        obtain ⟨v1, ev1, h⟩ := ltm_e h
        refine s_iinc (v := v1) (ls' := [some (rfX X x0), some (.int x1), some (.int v1)]) C dX1_lastOf_27 rfl (by decide) (Nat.le_of_ble_eq_true rfl) (by rw [ev1, ic_1]) rfl rfl ?_
        refine s_goto (tgt := 2) C dX1_lastOf_30 (by decide) ?_
        exact ih hx0 h M
theorem wX1_lastOf {E : Ev} {d : Nat} (hd : 2 ≤ d) {x0 : Nat} {x1 : Int32} {I I' : Mm} {r : Int32} (hx0 : kd0 x0 = 1) (h : fX1_lastOf x0 x1 I = some (r, I')) : SemM E d 0 0 mX1_lastOf [rfE E x0, .int x1] S0 I (some (.int r)) S0 I' := by
  unfold fX1_lastOf at h
  refine SemM.ofX (E := E) (y := mX1_lastOf) (args := fun E => [rfE E x0, .int x1]) (r := fun E => (some (.int r))) (fun E => [some (rfE E x0), some (.int x1), none]) (by decide +kernel) (Nat.le_of_ble_eq_true rfl) rfl (fun X C M => ?_)
  refine s_iload_n C dX1_lastOf_0 rfl rfl ?_
  refine s_istore_n (ls' := [some (rfX X x0), some (.int x1), some (.int x1)]) C dX1_lastOf_1 rfl (by decide) (Nat.le_of_ble_eq_true rfl) rfl rfl ?_
  exact wX1_lastOf_p2 hd C _ hx0 h M
