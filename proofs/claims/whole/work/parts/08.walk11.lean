theorem wX5_lowest_p9 {X : Cx} {d : Nat} (hd : 44 ≤ d) (C : CtxOK X mX5_lowest) : ∀ (n : Nat) {x1 : Int32} {x2 : Int32} {x3 : Int32} {I I' : Mm} {r : Int32}  (_ : fX5_lowest_p9 n x1 x2 x3 I = some (r, I')) (_ : MX X (xE X) d 0 0 (some (.int r)) S0 I'), WM X mX5_lowest 9 [some (rfX X 163), some (.int x1), some (.int x2), some (.int x3)] [] S0 I 0 0 := by
  intro n
  induction n with
  | zero => intro x1 x2 x3 I I' r  h M; exact absurd h (by simp [fX5_lowest_p9])
  | succ n ih =>
    intro x1 x2 x3 I I' r  h M
    rw [fX5_lowest_p9] at h
    refine s_iload_n C dX5_lowest_9 rfl rfl ?_
    refine s_aload_n C dX5_lowest_10 rfl rfl ?_
    refine s_getI C dX5_lowest_11 kk_163 foX5_84 rfl ?_
    refine s_icmp_ge (tgt := 46) C dX5_lowest_14 (by decide) (fun c => ?_) (fun c => ?_)
    · have h := it_t c h
      refine s_iload_n C dX5_lowest_46 rfl rfl ?_
      obtain ⟨rfl, rfl⟩ := pr_e h
      exact s_iret C M dX5_lowest_47 rfl rfl (Nat.le_refl 0) (Nat.le_refl 0)
    · have h := it_f c h
      refine s_iload_n C dX5_lowest_17 rfl rfl ?_
      refine s_aload_n C dX5_lowest_18 rfl rfl ?_
      refine s_iload_n C dX5_lowest_19 rfl rfl ?_
      refine s_aload_n C dX5_lowest_20 rfl rfl ?_
      refine s_getR (b := 176) C dX5_lowest_21 kk_163 foX5_24 rfl rk_163_9 ?_
      refine s_iload_n C dX5_lowest_24 rfl rfl ?_
      obtain ⟨hb, h⟩ := it_n h
      refine s_ald (q := x3.toNatClampNeg) C dX5_lowest_25 kk_176 (by decide) rfl hb ?_
      obtain ⟨r1, I1, hh, h⟩ := bd_e h
      refine s_cV0 (st := [.int x2]) C M.rg (Nat.le_trans (by decide) hd) mwX5_size mlX5_66 dX5_lowest_26 (wX5_size _ (d := 42) (Nat.le_refl _)  hh) kk_163 rfl rfl (Nat.le_of_ble_eq_true rfl) ?_
      refine s_iconst C dX5_lowest_29 ic_1 ?_
      refine s_icmp_ne (tgt := 37) C dX5_lowest_30 (by decide) (fun c => ?_) (fun c => ?_)
      · have h := it_f c h
        refine s_iconst C dX5_lowest_37 ic_0 ?_
        refine s_iadd C dX5_lowest_38 ?_
        obtain ⟨v1, ev1, h⟩ := ltm_e h
        refine s_top_i ev1 ?_
        refine s_istore_n (ls' := [some (rfX X 163), some (.int x1), some (.int v1), some (.int x3)]) C dX5_lowest_39 rfl (by decide) (Nat.le_of_ble_eq_true rfl) rfl rfl ?_
        obtain ⟨v2, ev2, h⟩ := ltm_e h
        refine s_iinc (v := v2) (ls' := [some (rfX X 163), some (.int x1), some (.int v1), some (.int v2)]) C dX5_lowest_40 rfl (by decide) (Nat.le_of_ble_eq_true rfl) (by rw [ev2, ic_1]) rfl rfl ?_
        refine s_goto (tgt := 9) C dX5_lowest_43 (by decide) ?_
        exact ih  h M
      · have h := it_t c h
        refine s_iconst C dX5_lowest_33 ic_1 ?_
        refine s_goto (tgt := 38) C dX5_lowest_34 (by decide) ?_
        refine s_iadd C dX5_lowest_38 ?_
        obtain ⟨v1, ev1, h⟩ := ltm_e h
        refine s_top_i ev1 ?_
        refine s_istore_n (ls' := [some (rfX X 163), some (.int x1), some (.int v1), some (.int x3)]) C dX5_lowest_39 rfl (by decide) (Nat.le_of_ble_eq_true rfl) rfl rfl ?_
        obtain ⟨v2, ev2, h⟩ := ltm_e h
        refine s_iinc (v := v2) (ls' := [some (rfX X 163), some (.int x1), some (.int v1), some (.int v2)]) C dX5_lowest_40 rfl (by decide) (Nat.le_of_ble_eq_true rfl) (by rw [ev2, ic_1]) rfl rfl ?_
        refine s_goto (tgt := 9) C dX5_lowest_43 (by decide) ?_
        exact ih  h M
theorem wX5_lowest {E : Ev} {d : Nat} (hd : 44 ≤ d) {x1 : Int32} {I I' : Mm} {r : Int32}  (h : fX5_lowest x1 I = some (r, I')) : SemM E d 0 0 mX5_lowest [rfE E 163, .int x1] S0 I (some (.int r)) S0 I' := by
  unfold fX5_lowest at h
  refine SemM.ofX (E := E) (y := mX5_lowest) (args := fun E => [rfE E 163, .int x1]) (r := fun E => (some (.int r))) (fun E => [some (rfE E 163), some (.int x1), none, none]) (by decide +kernel) (Nat.le_of_ble_eq_true rfl) rfl (fun X C M => ?_)
  refine s_iconst C dX5_lowest_0 ic_0 ?_
  refine s_istore_n (ls' := [some (rfX X 163), some (.int x1), some (.int 0), none]) C dX5_lowest_1 rfl (by decide) (Nat.le_of_ble_eq_true rfl) rfl rfl ?_
  refine s_aload_n C dX5_lowest_2 rfl rfl ?_
  refine s_iload_n C dX5_lowest_3 rfl rfl ?_
  obtain ⟨r1, I1, hh, h⟩ := bd_e h
  refine s_cV0 (st := []) C M.rg (Nat.le_trans (by decide) hd) mwX5_listAll mlX5_100 dX5_lowest_4 (wX5_listAll (d := 43) (Nat.le_refl _)  hh) kk_163 rfl rfl (Nat.le_of_ble_eq_true rfl) ?_
  refine s_iconst C dX5_lowest_7 ic_0 ?_
  refine s_istore_n (ls' := [some (rfX X 163), some (.int x1), some (.int 0), some (.int 0)]) C dX5_lowest_8 rfl (by decide) (Nat.le_of_ble_eq_true rfl) rfl rfl ?_
  exact wX5_lowest_p9 hd C _  h M
theorem wX5_meanDepth {E : Ev} {d : Nat} (hd : 45 ≤ d) {x1 : Int32} {I I' : Mm} {r : Int64}  (h : fX5_meanDepth x1 I = some (r, I')) : SemM E d 0 0 mX5_meanDepth [rfE E 163, .int x1] S0 I (some (.long r)) S0 I' := by
  unfold fX5_meanDepth at h
  refine SemM.ofX (E := E) (y := mX5_meanDepth) (args := fun E => [rfE E 163, .int x1]) (r := fun E => (some (.long r))) (fun E => [some (rfE E 163), some (.int x1)]) (by decide +kernel) (Nat.le_of_ble_eq_true rfl) rfl (fun X C M => ?_)
  refine s_iload_n C dX5_meanDepth_0 rfl rfl ?_
  obtain ⟨r1, I1, hh, h⟩ := bd_e h
  refine s_cS0 (st := []) C M.rg (Nat.le_trans (by decide) hd) mwX5_isRick mlX5_110 dX5_meanDepth_1 (wX5_isRick (d := 2) (Nat.le_refl _)  hh) rfl rfl (Nat.le_of_ble_eq_true rfl) ?_
  refine s_if_ne (tgt := 11) C dX5_meanDepth_4 (by decide) (fun c => ?_) (fun c => ?_)
  · have h := it_f c h
    refine s_aload_n C dX5_meanDepth_11 rfl rfl ?_
    refine s_iload_n C dX5_meanDepth_12 rfl rfl ?_
    obtain ⟨r2, I2, hh, h⟩ := bd_e h
    refine s_cV0 (st := []) C M.rg (Nat.le_trans (by decide) hd) mwX5_count mlX5_124 dX5_meanDepth_13 (wX5_count (d := 43) (Nat.le_refl _)  hh) kk_163 rfl rfl (Nat.le_of_ble_eq_true rfl) ?_
    refine s_if_ne (tgt := 25) C dX5_meanDepth_16 (by decide) (fun c => ?_) (fun c => ?_)
    · have h := it_f c h
      refine s_aload_n C dX5_meanDepth_25 rfl rfl ?_
      refine s_iload_n C dX5_meanDepth_26 rfl rfl ?_
      obtain ⟨r3, I3, hh, h⟩ := bd_e h
      refine s_cV0 (st := []) C M.rg (Nat.le_trans (by decide) hd) mwX5_allDepths mlX5_176 dX5_meanDepth_27 (wX5_allDepths (d := 44) (Nat.le_refl _)  hh) kk_163 rfl rfl (Nat.le_of_ble_eq_true rfl) ?_
      refine s_i2d C dX5_meanDepth_30 ?_
      refine s_aload_n C dX5_meanDepth_31 rfl rfl ?_
      refine s_iload_n C dX5_meanDepth_32 rfl rfl ?_
      obtain ⟨r4, I4, hh, h⟩ := bd_e h
      refine s_cV0 (st := [.double (FP.i2d r3)]) C M.rg (Nat.le_trans (by decide) hd) mwX5_count mlX5_124 dX5_meanDepth_33 (wX5_count (d := 43) (Nat.le_refl _)  hh) kk_163 rfl rfl (Nat.le_of_ble_eq_true rfl) ?_
      refine s_i2d C dX5_meanDepth_36 ?_
      obtain ⟨hnan, h⟩ := it_s h
      refine s_ddiv C dX5_meanDepth_37 hnan ?_
      obtain ⟨v1, ev1, h⟩ := ltm_e h
      refine s_top_d ev1 ?_
      obtain ⟨r5, I5, hh, h⟩ := bd_e h
      refine s_cS0 (st := []) C M.rg (Nat.le_trans (by decide) hd) mwJxe99ae_doubleToLongBits_ccdee mlX5_217 dX5_meanDepth_38 (wJxe99ae_doubleToLongBits_ccdee (d := 2) (Nat.le_refl _)  hh) rfl rfl (Nat.le_of_ble_eq_true rfl) ?_
      obtain ⟨rfl, rfl⟩ := pr_e h
      exact s_lret C M dX5_meanDepth_41 rfl (Nat.le_refl 0) (Nat.le_refl 0)
    · have h := it_t c h
      refine s_ldc2 C dX5_meanDepth_19 coX5_215 ?_
      refine s_goto (tgt := 41) C dX5_meanDepth_22 (by decide) ?_
      obtain ⟨rfl, rfl⟩ := pr_e h
      exact s_lret C M dX5_meanDepth_41 rfl (Nat.le_refl 0) (Nat.le_refl 0)
  · have h := it_t c h
    refine s_ldc2 C dX5_meanDepth_7 coX5_207 ?_
    obtain ⟨rfl, rfl⟩ := pr_e h
    exact s_lret C M dX5_meanDepth_10 rfl (Nat.le_refl 0) (Nat.le_refl 0)
theorem wX5_rankAgain {E : Ev} {d : Nat} (hd : 45 ≤ d) {x1 : Int32} {x2 : Int32} {I I' : Mm} {r : Int32}  (h : fX5_rankAgain x1 x2 I = some (r, I')) : SemM E d 0 0 mX5_rankAgain [rfE E 163, .int x1, .int x2] S0 I (some (.int r)) S0 I' := by
  unfold fX5_rankAgain at h
  refine SemM.ofX (E := E) (y := mX5_rankAgain) (args := fun E => [rfE E 163, .int x1, .int x2]) (r := fun E => (some (.int r))) (fun E => [some (rfE E 163), some (.int x1), some (.int x2)]) (by decide +kernel) (Nat.le_of_ble_eq_true rfl) rfl (fun X C M => ?_)
  refine s_aload_n C dX5_rankAgain_0 rfl rfl ?_
  refine s_iload_n C dX5_rankAgain_1 rfl rfl ?_
  refine s_iload_n C dX5_rankAgain_2 rfl rfl ?_
  obtain ⟨r1, I1, hh, h⟩ := bd_e h
  refine s_cV0 (st := []) C M.rg (Nat.le_trans (by decide) hd) mwX5_rank mlX5_182 dX5_rankAgain_3 (wX5_rank (d := 44) (Nat.le_refl _)  hh) kk_163 rfl rfl (Nat.le_of_ble_eq_true rfl) ?_
  obtain ⟨rfl, rfl⟩ := pr_e h
  exact s_iret C M dX5_rankAgain_6 rfl rfl (Nat.le_refl 0) (Nat.le_refl 0)
theorem wX5_reason {E : Ev} {d : Nat} (hd : 1 ≤ d) {x1 : Int32} {I I' : Mm} {r : Int32}  (h : fX5_reason x1 I = some (r, I')) : SemM E d 0 0 mX5_reason [rfE E 163, .int x1] S0 I (some (.int r)) S0 I' := by
  unfold fX5_reason at h
  refine SemM.ofX (E := E) (y := mX5_reason) (args := fun E => [rfE E 163, .int x1]) (r := fun E => (some (.int r))) (fun E => [some (rfE E 163), some (.int x1)]) (by decide +kernel) (Nat.le_of_ble_eq_true rfl) rfl (fun X C M => ?_)
  refine s_aload_n C dX5_reason_0 rfl rfl ?_
  refine s_getI C dX5_reason_1 kk_163 foX5_36 rfl ?_
  refine s_if_ne (tgt := 12) C dX5_reason_4 (by decide) (fun c => ?_) (fun c => ?_)
  · have h := it_f c h
    refine s_iload_n C dX5_reason_12 rfl rfl ?_
    refine s_if_eq (tgt := 23) C dX5_reason_13 (by decide) (fun c => ?_) (fun c => ?_)
    · have h := it_t c h
      refine s_aload_n C dX5_reason_23 rfl rfl ?_
      refine s_getI C dX5_reason_24 kk_163 foX5_36 rfl ?_
      obtain ⟨rfl, rfl⟩ := pr_e h
      exact s_iret C M dX5_reason_27 rfl rfl (Nat.le_refl 0) (Nat.le_refl 0)
    · have h := it_f c h
      refine s_aload_n C dX5_reason_16 rfl rfl ?_
      refine s_getI C dX5_reason_17 kk_163 foX5_40 rfl ?_
      refine s_goto (tgt := 27) C dX5_reason_20 (by decide) ?_
      obtain ⟨rfl, rfl⟩ := pr_e h
      exact s_iret C M dX5_reason_27 rfl rfl (Nat.le_refl 0) (Nat.le_refl 0)
  · have h := it_t c h
    refine s_bipush C dX5_reason_7 bi_m15 ?_
    refine s_goto (tgt := 27) C dX5_reason_9 (by decide) ?_
    obtain ⟨rfl, rfl⟩ := pr_e h
    exact s_iret C M dX5_reason_27 rfl rfl (Nat.le_refl 0) (Nat.le_refl 0)
theorem wX5_restore {E : Ev} {d : Nat} (hd : 45 ≤ d)  {I I' : Mm} {r : Int32}  (h : fX5_restore  I = some (r, I')) : SemM E d 0 0 mX5_restore [rfE E 163] S0 I (some (.int r)) S0 I' := by
  unfold fX5_restore at h
  refine SemM.ofX (E := E) (y := mX5_restore) (args := fun E => [rfE E 163]) (r := fun E => (some (.int r))) (fun E => [some (rfE E 163)]) (by decide +kernel) (Nat.le_of_ble_eq_true rfl) rfl (fun X C M => ?_)
  refine s_aload_n C dX5_restore_0 rfl rfl ?_
  refine s_getI C dX5_restore_1 kk_163 foX5_302 rfl ?_
  refine s_if_ne (tgt := 10) C dX5_restore_4 (by decide) (fun c => ?_) (fun c => ?_)
  · have h := it_f c h
    refine s_aload_n C dX5_restore_10 rfl rfl ?_
    refine s_getR (b := 165) C dX5_restore_11 kk_163 foX5_13 rfl rk_163_1 ?_
    refine s_aload_n C dX5_restore_14 rfl rfl ?_
    refine s_getR (b := 164) C dX5_restore_15 kk_163 foX5_9 rfl rk_163_0 ?_
    obtain ⟨r1, I1, hh, h⟩ := bd_e h
    refine s_cS0 (st := []) C M.rg (Nat.le_trans (by decide) hd) mwX5_copyRow mlX5_46 dX5_restore_18 (wX5_copyRow (d := 1) (Nat.le_refl _) (by rw [kk_165]; decide) (by rw [kk_164]; decide) hh) rfl rfl (Nat.le_of_ble_eq_true rfl) ?_
    refine s_aload_n C dX5_restore_21 rfl rfl ?_
    refine s_iconst C dX5_restore_22 ic_0 ?_
    obtain ⟨I2, eI2, h⟩ := ltm_e h
    refine s_putI C dX5_restore_23 kk_163 poX5_43 rfl eI2 ?_
    refine s_aload_n C dX5_restore_26 rfl rfl ?_
    obtain ⟨r2, I3, hh, h⟩ := bd_e h
    refine s_cV0 (st := []) C M.rg (Nat.le_trans (by decide) hd) mwX5_allSheaves mlX5_299 dX5_restore_27 (wX5_allSheaves (d := 44) (Nat.le_refl _)  hh) kk_163 rfl rfl (Nat.le_of_ble_eq_true rfl) ?_
    obtain ⟨rfl, rfl⟩ := pr_e h
    exact s_iret C M dX5_restore_30 rfl rfl (Nat.le_refl 0) (Nat.le_refl 0)
  · have h := it_t c h
    refine s_bipush C dX5_restore_7 bi_m15 ?_
    obtain ⟨rfl, rfl⟩ := pr_e h
    exact s_iret C M dX5_restore_9 rfl rfl (Nat.le_refl 0) (Nat.le_refl 0)
theorem wX5_weightOr {E : Ev} {d : Nat} (hd : 2 ≤ d) {x1 : Int32} {x2 : Int32} {I I' : Mm} {r : Int32}  (h : fX5_weightOr x1 x2 I = some (r, I')) : SemM E d 0 0 mX5_weightOr [rfE E 163, .int x1, .int x2] S0 I (some (.int r)) S0 I' := by
  unfold fX5_weightOr at h
  refine SemM.ofX (E := E) (y := mX5_weightOr) (args := fun E => [rfE E 163, .int x1, .int x2]) (r := fun E => (some (.int r))) (fun E => [some (rfE E 163), some (.int x1), some (.int x2)]) (by decide +kernel) (Nat.le_of_ble_eq_true rfl) rfl (fun X C M => ?_)
  refine s_iload_n C dX5_weightOr_0 rfl rfl ?_
  refine s_if_ge (tgt := 9) C dX5_weightOr_1 (by decide) (fun c => ?_) (fun c => ?_)
  · have h := it_t c h
    refine s_aload_n C dX5_weightOr_9 rfl rfl ?_
    refine s_iload_n C dX5_weightOr_10 rfl rfl ?_
    refine s_iload_n C dX5_weightOr_11 rfl rfl ?_
    refine s_iconst C dX5_weightOr_12 ic_0 ?_
    obtain ⟨r1, I1, hh, h⟩ := bd_e h
    refine s_cV0 (st := []) C M.rg (Nat.le_trans (by decide) hd) mwX5_of mlX5_62 dX5_weightOr_13 (wX5_of (d := 1) (Nat.le_refl _)  hh) kk_163 rfl rfl (Nat.le_of_ble_eq_true rfl) ?_
    obtain ⟨rfl, rfl⟩ := pr_e h
    exact s_iret C M dX5_weightOr_16 rfl rfl (Nat.le_refl 0) (Nat.le_refl 0)
  · have h := it_f c h
    refine s_bipush C dX5_weightOr_4 bi_m15 ?_
    refine s_goto (tgt := 16) C dX5_weightOr_6 (by decide) ?_
    obtain ⟨rfl, rfl⟩ := pr_e h
    exact s_iret C M dX5_weightOr_16 rfl rfl (Nat.le_refl 0) (Nat.le_refl 0)
theorem wX5_rickOf {E : Ev} {d : Nat} (hd : 45 ≤ d) {x1 : Int32} {x2 : Int32} {I I' : Mm} {r : Int32}  (h : fX5_rickOf x1 x2 I = some (r, I')) : SemM E d 0 0 mX5_rickOf [rfE E 163, .int x1, .int x2] S0 I (some (.int r)) S0 I' := by
  unfold fX5_rickOf at h
  refine SemM.ofX (E := E) (y := mX5_rickOf) (args := fun E => [rfE E 163, .int x1, .int x2]) (r := fun E => (some (.int r))) (fun E => [some (rfE E 163), some (.int x1), some (.int x2)]) (by decide +kernel) (Nat.le_of_ble_eq_true rfl) rfl (fun X C M => ?_)
  refine s_iload_n C dX5_rickOf_0 rfl rfl ?_
  obtain ⟨r1, I1, hh, h⟩ := bd_e h
  refine s_cS0 (st := []) C M.rg (Nat.le_trans (by decide) hd) mwX5_isRick mlX5_110 dX5_rickOf_1 (wX5_isRick (d := 2) (Nat.le_refl _)  hh) rfl rfl (Nat.le_of_ble_eq_true rfl) ?_
  refine s_if_ne (tgt := 10) C dX5_rickOf_4 (by decide) (fun c => ?_) (fun c => ?_)
  · have h := it_f c h
    refine s_iload_n C dX5_rickOf_10 rfl rfl ?_
    by_cases c1 : x2 = 0
    · have h := it_t c1 h
      refine s_tableIn (off := 49) (tgt := 60) C dX5_rickOf_11 (by rw [c1]; decide +kernel) (by rw [c1]; decide +kernel) (by rw [c1]; decide +kernel) (by decide) ?_
      refine s_aload_n C dX5_rickOf_60 rfl rfl ?_
      refine s_iload_n C dX5_rickOf_61 rfl rfl ?_
      obtain ⟨r2, I2, hh, h⟩ := bd_e h
      refine s_cV0 (st := []) C M.rg (Nat.le_trans (by decide) hd) mwX5_count mlX5_124 dX5_rickOf_62 (wX5_count (d := 43) (Nat.le_refl _)  hh) kk_163 rfl rfl (Nat.le_of_ble_eq_true rfl) ?_
      obtain ⟨rfl, rfl⟩ := pr_e h
      exact s_iret C M dX5_rickOf_65 rfl rfl (Nat.le_refl 0) (Nat.le_refl 0)
    have h := it_f c1 h
    by_cases c2 : x2 = 1
    · have h := it_t c2 h
      refine s_tableIn (off := 55) (tgt := 66) C dX5_rickOf_11 (by rw [c2]; decide +kernel) (by rw [c2]; decide +kernel) (by rw [c2]; decide +kernel) (by decide) ?_
      refine s_aload_n C dX5_rickOf_66 rfl rfl ?_
      refine s_iload_n C dX5_rickOf_67 rfl rfl ?_
      refine s_aload_n C dX5_rickOf_68 rfl rfl ?_
      refine s_iload_n C dX5_rickOf_69 rfl rfl ?_
      obtain ⟨r2, I2, hh, h⟩ := bd_e h
      refine s_cV0 (st := [.int x1, rfX X 163]) C M.rg (Nat.le_trans (by decide) hd) mwX5_top mlX5_73 dX5_rickOf_70 (wX5_top (d := 1) (Nat.le_refl _)  hh) kk_163 rfl rfl (Nat.le_of_ble_eq_true rfl) ?_
      obtain ⟨r3, I3, hh, h⟩ := bd_e h
      refine s_cV0 (st := []) C M.rg (Nat.le_trans (by decide) hd) mwX5_loads mlX5_70 dX5_rickOf_73 (wX5_loads _ (d := 42) (Nat.le_refl _)  hh) kk_163 rfl rfl (Nat.le_of_ble_eq_true rfl) ?_
      obtain ⟨rfl, rfl⟩ := pr_e h
      exact s_iret C M dX5_rickOf_76 rfl rfl (Nat.le_refl 0) (Nat.le_refl 0)
    have h := it_f c2 h
    by_cases c3 : x2 = 2
    · have h := it_t c3 h
      refine s_tableIn (off := 66) (tgt := 77) C dX5_rickOf_11 (by rw [c3]; decide +kernel) (by rw [c3]; decide +kernel) (by rw [c3]; decide +kernel) (by decide) ?_
      refine s_aload_n C dX5_rickOf_77 rfl rfl ?_
      refine s_iload_n C dX5_rickOf_78 rfl rfl ?_
      refine s_aload_n C dX5_rickOf_79 rfl rfl ?_
      refine s_iload_n C dX5_rickOf_80 rfl rfl ?_
      obtain ⟨r2, I2, hh, h⟩ := bd_e h
      refine s_cV0 (st := [.int x1, rfX X 163]) C M.rg (Nat.le_trans (by decide) hd) mwX5_top mlX5_73 dX5_rickOf_81 (wX5_top (d := 1) (Nat.le_refl _)  hh) kk_163 rfl rfl (Nat.le_of_ble_eq_true rfl) ?_
      obtain ⟨r3, I3, hh, h⟩ := bd_e h
      refine s_cV0 (st := []) C M.rg (Nat.le_trans (by decide) hd) mwX5_weightOr mlX5_167 dX5_rickOf_84 (wX5_weightOr (d := 2) (Nat.le_refl _)  hh) kk_163 rfl rfl (Nat.le_of_ble_eq_true rfl) ?_
      obtain ⟨rfl, rfl⟩ := pr_e h
      exact s_iret C M dX5_rickOf_87 rfl rfl (Nat.le_refl 0) (Nat.le_refl 0)
    have h := it_f c3 h
    by_cases c4 : x2 = 3
    · have h := it_t c4 h
      refine s_tableIn (off := 77) (tgt := 88) C dX5_rickOf_11 (by rw [c4]; decide +kernel) (by rw [c4]; decide +kernel) (by rw [c4]; decide +kernel) (by decide) ?_
      refine s_aload_n C dX5_rickOf_88 rfl rfl ?_
      refine s_iload_n C dX5_rickOf_89 rfl rfl ?_
      obtain ⟨r2, I2, hh, h⟩ := bd_e h
      refine s_cV0 (st := []) C M.rg (Nat.le_trans (by decide) hd) mwX5_greatestDepth mlX5_170 dX5_rickOf_90 (wX5_greatestDepth (d := 44) (Nat.le_refl _)  hh) kk_163 rfl rfl (Nat.le_of_ble_eq_true rfl) ?_
      obtain ⟨rfl, rfl⟩ := pr_e h
      exact s_iret C M dX5_rickOf_93 rfl rfl (Nat.le_refl 0) (Nat.le_refl 0)
    have h := it_f c4 h
    by_cases c5 : x2 = 4
    · have h := it_t c5 h
      refine s_tableIn (off := 83) (tgt := 94) C dX5_rickOf_11 (by rw [c5]; decide +kernel) (by rw [c5]; decide +kernel) (by rw [c5]; decide +kernel) (by decide) ?_
      refine s_aload_n C dX5_rickOf_94 rfl rfl ?_
      refine s_aload_n C dX5_rickOf_95 rfl rfl ?_
      refine s_iload_n C dX5_rickOf_96 rfl rfl ?_
      obtain ⟨r2, I2, hh, h⟩ := bd_e h
      refine s_cV0 (st := [rfX X 163]) C M.rg (Nat.le_trans (by decide) hd) mwX5_count mlX5_124 dX5_rickOf_97 (wX5_count (d := 43) (Nat.le_refl _)  hh) kk_163 rfl rfl (Nat.le_of_ble_eq_true rfl) ?_
      obtain ⟨r3, I3, hh, h⟩ := bd_e h
      refine s_cV0 (st := []) C M.rg (Nat.le_trans (by decide) hd) mwX5_mayHave mlX5_142 dX5_rickOf_100 (wX5_mayHave (d := 1) (Nat.le_refl _)  hh) kk_163 rfl rfl (Nat.le_of_ble_eq_true rfl) ?_
      obtain ⟨rfl, rfl⟩ := pr_e h
      exact s_iret C M dX5_rickOf_103 rfl rfl (Nat.le_refl 0) (Nat.le_refl 0)
    have h := it_f c5 h
    by_cases c6 : x2 = 5
    · have h := it_t c6 h
      refine s_tableIn (off := 93) (tgt := 104) C dX5_rickOf_11 (by rw [c6]; decide +kernel) (by rw [c6]; decide +kernel) (by rw [c6]; decide +kernel) (by decide) ?_
      refine s_aload_n C dX5_rickOf_104 rfl rfl ?_
      refine s_iload_n C dX5_rickOf_105 rfl rfl ?_
      obtain ⟨r2, I2, hh, h⟩ := bd_e h
      refine s_cV0 (st := []) C M.rg (Nat.le_trans (by decide) hd) mwX5_most mlX5_136 dX5_rickOf_106 (wX5_most (d := 1) (Nat.le_refl _)  hh) kk_163 rfl rfl (Nat.le_of_ble_eq_true rfl) ?_
      obtain ⟨rfl, rfl⟩ := pr_e h
      exact s_iret C M dX5_rickOf_109 rfl rfl (Nat.le_refl 0) (Nat.le_refl 0)
    have h := it_f c6 h
    by_cases c7 : x2 = 6
    · have h := it_t c7 h
      refine s_tableIn (off := 99) (tgt := 110) C dX5_rickOf_11 (by rw [c7]; decide +kernel) (by rw [c7]; decide +kernel) (by rw [c7]; decide +kernel) (by decide) ?_
      refine s_aload_n C dX5_rickOf_110 rfl rfl ?_
      refine s_iload_n C dX5_rickOf_111 rfl rfl ?_
      obtain ⟨r2, I2, hh, h⟩ := bd_e h
      refine s_cV0 (st := []) C M.rg (Nat.le_trans (by decide) hd) mwX5_leaning mlX5_173 dX5_rickOf_112 (wX5_leaning (d := 44) (Nat.le_refl _)  hh) kk_163 rfl rfl (Nat.le_of_ble_eq_true rfl) ?_
      obtain ⟨rfl, rfl⟩ := pr_e h
      exact s_iret C M dX5_rickOf_115 rfl rfl (Nat.le_refl 0) (Nat.le_refl 0)
    have h := it_f c7 h
    by_cases c8 : x2 = 7
    · have h := it_t c8 h
      refine s_tableIn (off := 105) (tgt := 116) C dX5_rickOf_11 (by rw [c8]; decide +kernel) (by rw [c8]; decide +kernel) (by rw [c8]; decide +kernel) (by decide) ?_
      refine s_aload_n C dX5_rickOf_116 rfl rfl ?_
      refine s_iload_n C dX5_rickOf_117 rfl rfl ?_
      obtain ⟨r2, I2, hh, h⟩ := bd_e h
      refine s_cV0 (st := []) C M.rg (Nat.le_trans (by decide) hd) mwX5_allDepths mlX5_176 dX5_rickOf_118 (wX5_allDepths (d := 44) (Nat.le_refl _)  hh) kk_163 rfl rfl (Nat.le_of_ble_eq_true rfl) ?_
      obtain ⟨rfl, rfl⟩ := pr_e h
      exact s_iret C M dX5_rickOf_121 rfl rfl (Nat.le_refl 0) (Nat.le_refl 0)
    have h := it_f c8 h
    by_cases c9 : x2 = 8
    · have h := it_t c9 h
      refine s_tableIn (off := 111) (tgt := 122) C dX5_rickOf_11 (by rw [c9]; decide +kernel) (by rw [c9]; decide +kernel) (by rw [c9]; decide +kernel) (by decide) ?_
      refine s_aload_n C dX5_rickOf_122 rfl rfl ?_
      refine s_iload_n C dX5_rickOf_123 rfl rfl ?_
      obtain ⟨r2, I2, hh, h⟩ := bd_e h
      refine s_cV0 (st := []) C M.rg (Nat.le_trans (by decide) hd) mwX5_lowest mlX5_179 dX5_rickOf_124 (wX5_lowest (d := 44) (Nat.le_refl _)  hh) kk_163 rfl rfl (Nat.le_of_ble_eq_true rfl) ?_
      obtain ⟨rfl, rfl⟩ := pr_e h
      exact s_iret C M dX5_rickOf_127 rfl rfl (Nat.le_refl 0) (Nat.le_refl 0)
    have h := it_f c9 h
    refine s_tableOut (tgt := 128) C dX5_rickOf_11 (by have := ne_i 0 (by decide +kernel) c1; have := ne_i 1 (by decide +kernel) c2; have := ne_i 2 (by decide +kernel) c3; have := ne_i 3 (by decide +kernel) c4; have := ne_i 4 (by decide +kernel) c5; have := ne_i 5 (by decide +kernel) c6; have := ne_i 6 (by decide +kernel) c7; have := ne_i 7 (by decide +kernel) c8; have := ne_i 8 (by decide +kernel) c9; omega) (by decide) ?_
    refine s_bipush C dX5_rickOf_128 bi_m12 ?_
    obtain ⟨rfl, rfl⟩ := pr_e h
    exact s_iret C M dX5_rickOf_130 rfl rfl (Nat.le_refl 0) (Nat.le_refl 0)
  · have h := it_t c h
    refine s_bipush C dX5_rickOf_7 bi_m11 ?_
    obtain ⟨rfl, rfl⟩ := pr_e h
    exact s_iret C M dX5_rickOf_9 rfl rfl (Nat.le_refl 0) (Nat.le_refl 0)
theorem wX5_run_p102 {X : Cx} {d : Nat} (hd : 47 ≤ d) (C : CtxOK X mX5_run) {x1 : Int32} {x2 : Int32} {I I' : Mm} {r : Int32}  (h : fX5_run_p102 x1 x2 I = some (r, I')) (M : MX X (xE X) d 0 0 (some (.int r)) S0 I') : WM X mX5_run 102 [some (rfX X 163), some (.int x1), some (.int x2), none] [] S0 I 0 0 := by
  unfold fX5_run_p102 at h
  refine s_aload_n C dX5_run_102 rfl rfl ?_
  refine s_iconst C dX5_run_103 ic_0 ?_
  obtain ⟨I1, eI1, h⟩ := ltm_e h
  refine s_putZ C dX5_run_104 kk_163 poX5_50 rfl (by decide) eI1 ?_
  refine s_aload_n C dX5_run_107 rfl rfl ?_
  refine s_iconst C dX5_run_108 ic_0 ?_
  obtain ⟨I2, eI2, h⟩ := ltm_e h
  refine s_putI C dX5_run_109 kk_163 poX5_223 rfl eI2 ?_
  refine s_iload_n C dX5_run_112 rfl rfl ?_
  refine s_if_ge (tgt := 130) C dX5_run_113 (by decide) (fun c => ?_) (fun c => ?_)
  · have h := it_t c h
    refine s_aload_n C dX5_run_130 rfl rfl ?_
    refine s_aload_n C dX5_run_131 rfl rfl ?_
    refine s_getR (b := 166) C dX5_run_132 kk_163 foX5_16 rfl rk_163_2 ?_
    obtain ⟨r1, I3, hh, h⟩ := bd_e h
    refine s_cV0 (st := []) C M.rg (Nat.le_trans (by decide) hd) mwX5_remember mlX5_54 dX5_run_135 (wX5_remember (d := 2) (Nat.le_refl _) (by rw [kk_166]; decide) hh) kk_163 rfl rfl (Nat.le_of_ble_eq_true rfl) ?_
    refine s_iload_n C dX5_run_138 rfl rfl ?_
    obtain ⟨rfl, rfl⟩ := pr_e h
    exact s_iret C M dX5_run_139 rfl rfl (Nat.le_refl 0) (Nat.le_refl 0)
  · have h := it_f c h
    refine s_aload_n C dX5_run_116 rfl rfl ?_
    refine s_getR (b := 166) C dX5_run_117 kk_163 foX5_16 rfl rk_163_2 ?_
    refine s_aload_n C dX5_run_120 rfl rfl ?_
    refine s_getR (b := 164) C dX5_run_121 kk_163 foX5_9 rfl rk_163_0 ?_
    obtain ⟨r1, I3, hh, h⟩ := bd_e h
    refine s_cS0 (st := []) C M.rg (Nat.le_trans (by decide) hd) mwX5_copyRow mlX5_46 dX5_run_124 (wX5_copyRow (d := 1) (Nat.le_refl _) (by rw [kk_166]; decide) (by rw [kk_164]; decide) hh) rfl rfl (Nat.le_of_ble_eq_true rfl) ?_
    refine s_bipush C dX5_run_127 bi_m14 ?_
    obtain ⟨rfl, rfl⟩ := pr_e h
    exact s_iret C M dX5_run_129 rfl rfl (Nat.le_refl 0) (Nat.le_refl 0)
theorem wX5_run_p51 {X : Cx} {d : Nat} (hd : 47 ≤ d) (C : CtxOK X mX5_run) : ∀ (n : Nat) {x1 : Int32} {x2 : Int32} {x3 : Int32} {I I' : Mm} {r : Int32}  (_ : fX5_run_p51 n x1 x2 x3 I = some (r, I')) (_ : MX X (xE X) d 0 0 (some (.int r)) S0 I'), WM X mX5_run 51 [some (rfX X 163), some (.int x1), some (.int x2), some (.int x3)] [] S0 I 0 0 := by
  intro n
  induction n with
  | zero => intro x1 x2 x3 I I' r  h M; exact absurd h (by simp [fX5_run_p51])
  | succ n ih =>
    intro x1 x2 x3 I I' r  h M
    rw [fX5_run_p51] at h
    refine s_iload_n C dX5_run_51 rfl rfl ?_
    refine s_iload_n C dX5_run_52 rfl rfl ?_
    refine s_icmp_ge (tgt := 102) C dX5_run_53 (by decide) (fun c => ?_) (fun c => ?_)
    · have h := it_t c h
      refine s_weak (ls' := [some (rfX X 163), some (.int x1), some (.int x2), none]) [true, true, true, false] rfl ?_
      exact wX5_run_p102 hd C  h M
    · have h := it_f c h
      refine s_iload_n C dX5_run_56 rfl rfl ?_
      refine s_if_lt (tgt := 102) C dX5_run_57 (by decide) (fun c => ?_) (fun c => ?_)
      · have h := it_t c h
        refine s_weak (ls' := [some (rfX X 163), some (.int x1), some (.int x2), none]) [true, true, true, false] rfl ?_
        exact wX5_run_p102 hd C  h M
      · have h := it_f c h
        refine s_aload_n C dX5_run_60 rfl rfl ?_
        obtain ⟨r1, I1, hh, h⟩ := bd_e h
        refine s_cV0 (st := []) C M.rg (Nat.le_trans (by decide) hd) mwX5_readOrder mlX5_263 dX5_run_61 (wX5_readOrder (d := 21) (Nat.le_refl _)  hh) kk_163 rfl rfl (Nat.le_of_ble_eq_true rfl) ?_
        refine s_aload_n C dX5_run_64 rfl rfl ?_
        refine s_dup C dX5_run_65 rfl ?_
        refine s_getI C dX5_run_66 kk_163 foX5_229 rfl ?_
        refine s_iconst C dX5_run_69 ic_1 ?_
        refine s_iadd C dX5_run_70 ?_
        obtain ⟨I2, eI2, h⟩ := ltm_e h
        refine s_putI C dX5_run_71 kk_163 poX5_229 rfl eI2 ?_
        refine s_aload_n C dX5_run_74 rfl rfl ?_
        obtain ⟨r2, I3, hh, h⟩ := bd_e h
        refine s_cV0 (st := []) C M.rg (Nat.le_trans (by decide) hd) mwX5_carryOut mlX5_284 dX5_run_75 (wX5_carryOut (d := 46) (Nat.le_refl _)  hh) kk_163 rfl rfl (Nat.le_of_ble_eq_true rfl) ?_
        refine s_istore_n (ls' := [some (rfX X 163), some (.int x1), some (.int r2), some (.int x3)]) C dX5_run_78 rfl (by decide) (Nat.le_of_ble_eq_true rfl) rfl rfl ?_
        refine s_aload_n C dX5_run_79 rfl rfl ?_
        refine s_iload_n C dX5_run_80 rfl rfl ?_
        refine s_if_ge (tgt := 88) C dX5_run_81 (by decide) (fun c => ?_) (fun c => ?_)
        · have h := it_t c h
          refine s_iconst C dX5_run_88 ic_0 ?_
          refine s_bipush C dX5_run_89 bi_6 ?_
          refine s_iload_n C dX5_run_91 rfl rfl ?_
          obtain ⟨r3, I4, hh, h⟩ := bd_e h
          refine s_cV0 (st := []) C M.rg (Nat.le_trans (by decide) hd) mwX5_refuse mlX5_120 dX5_run_92 (wX5_refuse (d := 1) (Nat.le_refl _)  hh) kk_163 rfl rfl (Nat.le_of_ble_eq_true rfl) ?_
          refine s_pop C dX5_run_95 rfl ?_
          obtain ⟨v1, ev1, h⟩ := ltm_e h
          refine s_iinc (v := v1) (ls' := [some (rfX X 163), some (.int x1), some (.int r2), some (.int v1)]) C dX5_run_96 rfl (by decide) (Nat.le_of_ble_eq_true rfl) (by rw [ev1, ic_1]) rfl rfl ?_
          refine s_goto (tgt := 51) C dX5_run_99 (by decide) ?_
          exact ih  h M
        · have h := it_f c h
          refine s_iconst C dX5_run_84 ic_1 ?_
          refine s_goto (tgt := 89) C dX5_run_85 (by decide) ?_
          refine s_bipush C dX5_run_89 bi_6 ?_
          refine s_iload_n C dX5_run_91 rfl rfl ?_
          obtain ⟨r3, I4, hh, h⟩ := bd_e h
          refine s_cV0 (st := []) C M.rg (Nat.le_trans (by decide) hd) mwX5_refuse mlX5_120 dX5_run_92 (wX5_refuse (d := 1) (Nat.le_refl _)  hh) kk_163 rfl rfl (Nat.le_of_ble_eq_true rfl) ?_
          refine s_pop C dX5_run_95 rfl ?_
          obtain ⟨v1, ev1, h⟩ := ltm_e h
          refine s_iinc (v := v1) (ls' := [some (rfX X 163), some (.int x1), some (.int r2), some (.int v1)]) C dX5_run_96 rfl (by decide) (Nat.le_of_ble_eq_true rfl) (by rw [ev1, ic_1]) rfl rfl ?_
          refine s_goto (tgt := 51) C dX5_run_99 (by decide) ?_
          exact ih  h M
theorem wX5_run {E : Ev} {d : Nat} (hd : 47 ≤ d)  {I I' : Mm} {r : Int32}  (h : fX5_run  I = some (r, I')) : SemM E d 0 0 mX5_run [rfE E 163] S0 I (some (.int r)) S0 I' := by
  unfold fX5_run at h
  refine SemM.ofX (E := E) (y := mX5_run) (args := fun E => [rfE E 163]) (r := fun E => (some (.int r))) (fun E => [some (rfE E 163), none, none, none]) (by decide +kernel) (Nat.le_of_ble_eq_true rfl) rfl (fun X C M => ?_)
  refine s_aload_n C dX5_run_0 rfl rfl ?_
  obtain ⟨r1, I1, hh, h⟩ := bd_e h
  refine s_cV0 (st := []) C M.rg (Nat.le_trans (by decide) hd) mwX5_countOrders mlX5_280 dX5_run_1 (wX5_countOrders (d := 22) (Nat.le_refl _)  hh) kk_163 rfl rfl (Nat.le_of_ble_eq_true rfl) ?_
  refine s_istore_n (ls' := [some (rfX X 163), some (.int r1), none, none]) C dX5_run_4 rfl (by decide) (Nat.le_of_ble_eq_true rfl) rfl rfl ?_
  refine s_aload_n C dX5_run_5 rfl rfl ?_
  refine s_getI C dX5_run_6 kk_163 foX5_226 rfl ?_
  refine s_if_eq (tgt := 26) C dX5_run_9 (by decide) (fun c => ?_) (fun c => ?_)
  · have h := it_t c h
    refine s_aload_n C dX5_run_26 rfl rfl ?_
    refine s_getR (b := 164) C dX5_run_27 kk_163 foX5_9 rfl rk_163_0 ?_
    refine s_aload_n C dX5_run_30 rfl rfl ?_
    refine s_getR (b := 166) C dX5_run_31 kk_163 foX5_16 rfl rk_163_2 ?_
    obtain ⟨r2, I2, hh, h⟩ := bd_e h
    refine s_cS0 (st := []) C M.rg (Nat.le_trans (by decide) hd) mwX5_copyRow mlX5_46 dX5_run_34 (wX5_copyRow (d := 1) (Nat.le_refl _) (by rw [kk_164]; decide) (by rw [kk_166]; decide) hh) rfl rfl (Nat.le_of_ble_eq_true rfl) ?_
    refine s_aload_n C dX5_run_37 rfl rfl ?_
    refine s_iconst C dX5_run_38 ic_1 ?_
    obtain ⟨I3, eI3, h⟩ := ltm_e h
    refine s_putZ C dX5_run_39 kk_163 poX5_50 rfl (by decide) eI3 ?_
    refine s_iconst C dX5_run_42 ic_0 ?_
    refine s_istore_n (ls' := [some (rfX X 163), some (.int r1), some (.int 0), none]) C dX5_run_43 rfl (by decide) (Nat.le_of_ble_eq_true rfl) rfl rfl ?_
    refine s_aload_n C dX5_run_44 rfl rfl ?_
    refine s_iconst C dX5_run_45 ic_0 ?_
    obtain ⟨I4, eI4, h⟩ := ltm_e h
    refine s_putI C dX5_run_46 kk_163 poX5_229 rfl eI4 ?_
    refine s_iconst C dX5_run_49 ic_0 ?_
    refine s_istore_n (ls' := [some (rfX X 163), some (.int r1), some (.int 0), some (.int 0)]) C dX5_run_50 rfl (by decide) (Nat.le_of_ble_eq_true rfl) rfl rfl ?_
    exact wX5_run_p51 hd C _  h M
  · have h := it_f c h
    refine s_aload_n C dX5_run_12 rfl rfl ?_
    refine s_iconst C dX5_run_13 ic_0 ?_
    obtain ⟨I2, eI2, h⟩ := ltm_e h
    refine s_putI C dX5_run_14 kk_163 poX5_223 rfl eI2 ?_
    refine s_sipush C dX5_run_17 si_m1000 ?_
    refine s_aload_n C dX5_run_20 rfl rfl ?_
    refine s_getI C dX5_run_21 kk_163 foX5_229 rfl ?_
    refine s_isub C dX5_run_24 ?_
    obtain ⟨rfl, rfl⟩ := pr_e h
    exact s_iret C M dX5_run_25 rfl rfl (Nat.le_refl 0) (Nat.le_refl 0)
theorem wX5_save {E : Ev} {d : Nat} (hd : 45 ≤ d)  {I I' : Mm} {r : Int32}  (h : fX5_save  I = some (r, I')) : SemM E d 0 0 mX5_save [rfE E 163] S0 I (some (.int r)) S0 I' := by
  unfold fX5_save at h
  refine SemM.ofX (E := E) (y := mX5_save) (args := fun E => [rfE E 163]) (r := fun E => (some (.int r))) (fun E => [some (rfE E 163)]) (by decide +kernel) (Nat.le_of_ble_eq_true rfl) rfl (fun X C M => ?_)
  refine s_aload_n C dX5_save_0 rfl rfl ?_
  refine s_iconst C dX5_save_1 ic_1 ?_
  obtain ⟨I1, eI1, h⟩ := ltm_e h
  refine s_putZ C dX5_save_2 kk_163 poX5_302 rfl (by decide) eI1 ?_
  refine s_aload_n C dX5_save_5 rfl rfl ?_
  refine s_getR (b := 164) C dX5_save_6 kk_163 foX5_9 rfl rk_163_0 ?_
  refine s_aload_n C dX5_save_9 rfl rfl ?_
  refine s_getR (b := 165) C dX5_save_10 kk_163 foX5_13 rfl rk_163_1 ?_
  obtain ⟨r1, I2, hh, h⟩ := bd_e h
  refine s_cS0 (st := []) C M.rg (Nat.le_trans (by decide) hd) mwX5_copyRow mlX5_46 dX5_save_13 (wX5_copyRow (d := 1) (Nat.le_refl _) (by rw [kk_164]; decide) (by rw [kk_165]; decide) hh) rfl rfl (Nat.le_of_ble_eq_true rfl) ?_
  refine s_aload_n C dX5_save_16 rfl rfl ?_
  obtain ⟨r2, I3, hh, h⟩ := bd_e h
  refine s_cV0 (st := []) C M.rg (Nat.le_trans (by decide) hd) mwX5_allSheaves mlX5_299 dX5_save_17 (wX5_allSheaves (d := 44) (Nat.le_refl _)  hh) kk_163 rfl rfl (Nat.le_of_ble_eq_true rfl) ?_
  obtain ⟨rfl, rfl⟩ := pr_e h
  exact s_iret C M dX5_save_20 rfl rfl (Nat.le_refl 0) (Nat.le_refl 0)
theorem wX5_shape {E : Ev} {d : Nat} (hd : 43 ≤ d) {x1 : Int32} {I I' : Mm} {r : Int64}  (h : fX5_shape x1 I = some (r, I')) : SemM E d 0 0 mX5_shape [rfE E 163, .int x1] S0 I (some (.long r)) S0 I' := by
  unfold fX5_shape at h
  refine SemM.ofX (E := E) (y := mX5_shape) (args := fun E => [rfE E 163, .int x1]) (r := fun E => (some (.long r))) (fun E => [some (rfE E 163), some (.int x1)]) (by decide +kernel) (Nat.le_of_ble_eq_true rfl) rfl (fun X C M => ?_)
  refine s_iload_n C dX5_shape_0 rfl rfl ?_
  obtain ⟨r1, I1, hh, h⟩ := bd_e h
  refine s_cS0 (st := []) C M.rg (Nat.le_trans (by decide) hd) mwX5_isRick mlX5_110 dX5_shape_1 (wX5_isRick (d := 2) (Nat.le_refl _)  hh) rfl rfl (Nat.le_of_ble_eq_true rfl) ?_
  refine s_if_eq (tgt := 21) C dX5_shape_4 (by decide) (fun c => ?_) (fun c => ?_)
  · have h := it_t c h
    refine s_ldc2 C dX5_shape_21 coX5_207 ?_
    obtain ⟨rfl, rfl⟩ := pr_e h
    exact s_lret C M dX5_shape_24 rfl (Nat.le_refl 0) (Nat.le_refl 0)
  · have h := it_f c h
    refine s_aload_n C dX5_shape_7 rfl rfl ?_
    refine s_iload_n C dX5_shape_8 rfl rfl ?_
    refine s_aload_n C dX5_shape_9 rfl rfl ?_
    refine s_iload_n C dX5_shape_10 rfl rfl ?_
    obtain ⟨r2, I2, hh, h⟩ := bd_e h
    refine s_cV0 (st := [.int x1, rfX X 163]) C M.rg (Nat.le_trans (by decide) hd) mwX5_top mlX5_73 dX5_shape_11 (wX5_top (d := 1) (Nat.le_refl _)  hh) kk_163 rfl rfl (Nat.le_of_ble_eq_true rfl) ?_
    refine s_lconst (v := 0) C dX5_shape_14 (by decide +kernel) ?_
    obtain ⟨r3, I3, hh, h⟩ := bd_e h
    refine s_cV0 (st := []) C M.rg (Nat.le_trans (by decide) hd) mwX5_bits mlX5_203 dX5_shape_15 (wX5_bits _ (d := 42) (Nat.le_refl _)  hh) kk_163 rfl rfl (Nat.le_of_ble_eq_true rfl) ?_
    refine s_goto (tgt := 24) C dX5_shape_18 (by decide) ?_
    obtain ⟨rfl, rfl⟩ := pr_e h
    exact s_lret C M dX5_shape_24 rfl (Nat.le_refl 0) (Nat.le_refl 0)
theorem wX5_sheafOf {E : Ev} {d : Nat} (hd : 44 ≤ d) {x1 : Int32} {x2 : Int32} {x3 : Int32} {I I' : Mm} {r : Int32}  (h : fX5_sheafOf x1 x2 x3 I = some (r, I')) : SemM E d 0 0 mX5_sheafOf [rfE E 163, .int x1, .int x2, .int x3] S0 I (some (.int r)) S0 I' := by
  unfold fX5_sheafOf at h
  refine SemM.ofX (E := E) (y := mX5_sheafOf) (args := fun E => [rfE E 163, .int x1, .int x2, .int x3]) (r := fun E => (some (.int r))) (fun E => [some (rfE E 163), some (.int x1), some (.int x2), some (.int x3), none]) (by decide +kernel) (Nat.le_of_ble_eq_true rfl) rfl (fun X C M => ?_)
  refine s_iload_n C dX5_sheafOf_0 rfl rfl ?_
  obtain ⟨r1, I1, hh, h⟩ := bd_e h
  refine s_cS0 (st := []) C M.rg (Nat.le_trans (by decide) hd) mwX5_isRick mlX5_110 dX5_sheafOf_1 (wX5_isRick (d := 2) (Nat.le_refl _)  hh) rfl rfl (Nat.le_of_ble_eq_true rfl) ?_
  refine s_if_eq (tgt := 16) C dX5_sheafOf_4 (by decide) (fun c => ?_) (fun c => ?_)
  · have h := it_t c h
    refine s_bipush C dX5_sheafOf_16 bi_m11 ?_
    obtain ⟨rfl, rfl⟩ := pr_e h
    exact s_iret C M dX5_sheafOf_18 rfl rfl (Nat.le_refl 0) (Nat.le_refl 0)
  · have h := it_f c h
    refine s_aload_n C dX5_sheafOf_7 rfl rfl ?_
    refine s_iload_n C dX5_sheafOf_8 rfl rfl ?_
    refine s_iload_n C dX5_sheafOf_9 rfl rfl ?_
    obtain ⟨r2, I2, hh, h⟩ := bd_e h
    refine s_cV0 (st := []) C M.rg (Nat.le_trans (by decide) hd) mwX5_find mlX5_117 dX5_sheafOf_10 (wX5_find (d := 2) (Nat.le_refl _)  hh) kk_163 rfl rfl (Nat.le_of_ble_eq_true rfl) ?_
    refine s_if_ge (tgt := 19) C dX5_sheafOf_13 (by decide) (fun c => ?_) (fun c => ?_)
    · have h := it_t c h
      refine s_aload_n C dX5_sheafOf_19 rfl rfl ?_
      refine s_iload_n C dX5_sheafOf_20 rfl rfl ?_
      refine s_iload_n C dX5_sheafOf_21 rfl rfl ?_
      obtain ⟨r3, I3, hh, h⟩ := bd_e h
      refine s_cV0 (st := []) C M.rg (Nat.le_trans (by decide) hd) mwX5_find mlX5_117 dX5_sheafOf_22 (wX5_find (d := 2) (Nat.le_refl _)  hh) kk_163 rfl rfl (Nat.le_of_ble_eq_true rfl) ?_
      refine s_istore (ls' := [some (rfX X 163), some (.int x1), some (.int x2), some (.int x3), some (.int r3)]) C dX5_sheafOf_25 (by decide) (Nat.le_of_ble_eq_true rfl) rfl rfl ?_
      refine s_iload_n C dX5_sheafOf_27 rfl rfl ?_
      by_cases c1 : x3 = 0
      · have h := it_t c1 h
        refine s_tableIn (off := 48) (tgt := 76) C dX5_sheafOf_28 (by rw [c1]; decide +kernel) (by rw [c1]; decide +kernel) (by rw [c1]; decide +kernel) (by decide) ?_
        refine s_aload_n C dX5_sheafOf_76 rfl rfl ?_
        refine s_iload_n C dX5_sheafOf_77 rfl rfl ?_
        refine s_iload C dX5_sheafOf_78 rfl ?_
        refine s_iconst C dX5_sheafOf_80 ic_1 ?_
        obtain ⟨r4, I4, hh, h⟩ := bd_e h
        refine s_cV0 (st := []) C M.rg (Nat.le_trans (by decide) hd) mwX5_of mlX5_62 dX5_sheafOf_81 (wX5_of (d := 1) (Nat.le_refl _)  hh) kk_163 rfl rfl (Nat.le_of_ble_eq_true rfl) ?_
        obtain ⟨rfl, rfl⟩ := pr_e h
        exact s_iret C M dX5_sheafOf_84 rfl rfl (Nat.le_refl 0) (Nat.le_refl 0)
      have h := it_f c1 h
      by_cases c2 : x3 = 1
      · have h := it_t c2 h
        refine s_tableIn (off := 57) (tgt := 85) C dX5_sheafOf_28 (by rw [c2]; decide +kernel) (by rw [c2]; decide +kernel) (by rw [c2]; decide +kernel) (by decide) ?_
        refine s_aload_n C dX5_sheafOf_85 rfl rfl ?_
        refine s_iload_n C dX5_sheafOf_86 rfl rfl ?_
        refine s_iload C dX5_sheafOf_87 rfl ?_
        obtain ⟨r4, I4, hh, h⟩ := bd_e h
        refine s_cV0 (st := []) C M.rg (Nat.le_trans (by decide) hd) mwX5_depth mlX5_139 dX5_sheafOf_89 (wX5_depth (d := 3) (Nat.le_refl _)  hh) kk_163 rfl rfl (Nat.le_of_ble_eq_true rfl) ?_
        obtain ⟨rfl, rfl⟩ := pr_e h
        exact s_iret C M dX5_sheafOf_92 rfl rfl (Nat.le_refl 0) (Nat.le_refl 0)
      have h := it_f c2 h
      by_cases c3 : x3 = 2
      · have h := it_t c3 h
        refine s_tableIn (off := 65) (tgt := 93) C dX5_sheafOf_28 (by rw [c3]; decide +kernel) (by rw [c3]; decide +kernel) (by rw [c3]; decide +kernel) (by decide) ?_
        refine s_aload_n C dX5_sheafOf_93 rfl rfl ?_
        refine s_iload_n C dX5_sheafOf_94 rfl rfl ?_
        refine s_iload C dX5_sheafOf_95 rfl ?_
        obtain ⟨r4, I4, hh, h⟩ := bd_e h
        refine s_cV0 (st := []) C M.rg (Nat.le_trans (by decide) hd) mwX5_size mlX5_66 dX5_sheafOf_97 (wX5_size _ (d := 42) (Nat.le_refl _)  hh) kk_163 rfl rfl (Nat.le_of_ble_eq_true rfl) ?_
        obtain ⟨rfl, rfl⟩ := pr_e h
        exact s_iret C M dX5_sheafOf_100 rfl rfl (Nat.le_refl 0) (Nat.le_refl 0)
      have h := it_f c3 h
      by_cases c4 : x3 = 3
      · have h := it_t c4 h
        refine s_tableIn (off := 73) (tgt := 101) C dX5_sheafOf_28 (by rw [c4]; decide +kernel) (by rw [c4]; decide +kernel) (by rw [c4]; decide +kernel) (by decide) ?_
        refine s_aload_n C dX5_sheafOf_101 rfl rfl ?_
        refine s_iload_n C dX5_sheafOf_102 rfl rfl ?_
        refine s_iload C dX5_sheafOf_103 rfl ?_
        obtain ⟨r4, I4, hh, h⟩ := bd_e h
        refine s_cV0 (st := []) C M.rg (Nat.le_trans (by decide) hd) mwX5_loads mlX5_70 dX5_sheafOf_105 (wX5_loads _ (d := 42) (Nat.le_refl _)  hh) kk_163 rfl rfl (Nat.le_of_ble_eq_true rfl) ?_
        obtain ⟨rfl, rfl⟩ := pr_e h
        exact s_iret C M dX5_sheafOf_108 rfl rfl (Nat.le_refl 0) (Nat.le_refl 0)
      have h := it_f c4 h
      by_cases c5 : x3 = 4
      · have h := it_t c5 h
        refine s_tableIn (off := 81) (tgt := 109) C dX5_sheafOf_28 (by rw [c5]; decide +kernel) (by rw [c5]; decide +kernel) (by rw [c5]; decide +kernel) (by decide) ?_
        refine s_aload_n C dX5_sheafOf_109 rfl rfl ?_
        refine s_iload_n C dX5_sheafOf_110 rfl rfl ?_
        refine s_iload C dX5_sheafOf_111 rfl ?_
        obtain ⟨r4, I4, hh, h⟩ := bd_e h
        refine s_cV0 (st := []) C M.rg (Nat.le_trans (by decide) hd) mwX5_leans mlX5_145 dX5_sheafOf_113 (wX5_leans (d := 43) (Nat.le_refl _)  hh) kk_163 rfl rfl (Nat.le_of_ble_eq_true rfl) ?_
        refine s_if_eq (tgt := 123) C dX5_sheafOf_116 (by decide) (fun c => ?_) (fun c => ?_)
        · have h := it_t c h
          refine s_iconst C dX5_sheafOf_123 ic_0 ?_
          obtain ⟨rfl, rfl⟩ := pr_e h
          exact s_iret C M dX5_sheafOf_124 rfl rfl (Nat.le_refl 0) (Nat.le_refl 0)
        · have h := it_f c h
          refine s_iconst C dX5_sheafOf_119 ic_1 ?_
          refine s_goto (tgt := 124) C dX5_sheafOf_120 (by decide) ?_
          obtain ⟨rfl, rfl⟩ := pr_e h
          exact s_iret C M dX5_sheafOf_124 rfl rfl (Nat.le_refl 0) (Nat.le_refl 0)
      have h := it_f c5 h
      by_cases c6 : x3 = 5
      · have h := it_t c6 h
        refine s_tableIn (off := 97) (tgt := 125) C dX5_sheafOf_28 (by rw [c6]; decide +kernel) (by rw [c6]; decide +kernel) (by rw [c6]; decide +kernel) (by decide) ?_
        refine s_aload_n C dX5_sheafOf_125 rfl rfl ?_
        refine s_iload_n C dX5_sheafOf_126 rfl rfl ?_
        refine s_aload_n C dX5_sheafOf_127 rfl rfl ?_
        refine s_iload_n C dX5_sheafOf_128 rfl rfl ?_
        refine s_iload C dX5_sheafOf_129 rfl ?_
        obtain ⟨r4, I4, hh, h⟩ := bd_e h
        refine s_cV0 (st := [.int x1, rfX X 163]) C M.rg (Nat.le_trans (by decide) hd) mwX5_above mlX5_77 dX5_sheafOf_131 (wX5_above (d := 2) (Nat.le_refl _)  hh) kk_163 rfl rfl (Nat.le_of_ble_eq_true rfl) ?_
        obtain ⟨r5, I5, hh, h⟩ := bd_e h
        refine s_cV0 (st := []) C M.rg (Nat.le_trans (by decide) hd) mwX5_weightOr mlX5_167 dX5_sheafOf_134 (wX5_weightOr (d := 2) (Nat.le_refl _)  hh) kk_163 rfl rfl (Nat.le_of_ble_eq_true rfl) ?_
        obtain ⟨rfl, rfl⟩ := pr_e h
        exact s_iret C M dX5_sheafOf_137 rfl rfl (Nat.le_refl 0) (Nat.le_refl 0)
      have h := it_f c6 h
      by_cases c7 : x3 = 6
      · have h := it_t c7 h
        refine s_tableIn (off := 110) (tgt := 138) C dX5_sheafOf_28 (by rw [c7]; decide +kernel) (by rw [c7]; decide +kernel) (by rw [c7]; decide +kernel) (by decide) ?_
        refine s_aload_n C dX5_sheafOf_138 rfl rfl ?_
        refine s_iload_n C dX5_sheafOf_139 rfl rfl ?_
        refine s_aload_n C dX5_sheafOf_140 rfl rfl ?_
        refine s_iload_n C dX5_sheafOf_141 rfl rfl ?_
        refine s_iload C dX5_sheafOf_142 rfl ?_
        refine s_iload_n C dX5_sheafOf_144 rfl rfl ?_
        refine s_iconst C dX5_sheafOf_145 ic_4 ?_
        refine s_isub C dX5_sheafOf_146 ?_
        obtain ⟨r4, I4, hh, h⟩ := bd_e h
        refine s_cV0 (st := [.int x1, rfX X 163]) C M.rg (Nat.le_trans (by decide) hd) mwX5_of mlX5_62 dX5_sheafOf_147 (wX5_of (d := 1) (Nat.le_refl _)  hh) kk_163 rfl rfl (Nat.le_of_ble_eq_true rfl) ?_
        obtain ⟨r5, I5, hh, h⟩ := bd_e h
        refine s_cV0 (st := []) C M.rg (Nat.le_trans (by decide) hd) mwX5_weightOr mlX5_167 dX5_sheafOf_150 (wX5_weightOr (d := 2) (Nat.le_refl _)  hh) kk_163 rfl rfl (Nat.le_of_ble_eq_true rfl) ?_
        obtain ⟨rfl, rfl⟩ := pr_e h
        exact s_iret C M dX5_sheafOf_153 rfl rfl (Nat.le_refl 0) (Nat.le_refl 0)
      have h := it_f c7 h
      by_cases c8 : x3 = 7
      · have h := it_t c8 h
        refine s_tableIn (off := 110) (tgt := 138) C dX5_sheafOf_28 (by rw [c8]; decide +kernel) (by rw [c8]; decide +kernel) (by rw [c8]; decide +kernel) (by decide) ?_
        refine s_aload_n C dX5_sheafOf_138 rfl rfl ?_
        refine s_iload_n C dX5_sheafOf_139 rfl rfl ?_
        refine s_aload_n C dX5_sheafOf_140 rfl rfl ?_
        refine s_iload_n C dX5_sheafOf_141 rfl rfl ?_
        refine s_iload C dX5_sheafOf_142 rfl ?_
        refine s_iload_n C dX5_sheafOf_144 rfl rfl ?_
        refine s_iconst C dX5_sheafOf_145 ic_4 ?_
        refine s_isub C dX5_sheafOf_146 ?_
        obtain ⟨r4, I4, hh, h⟩ := bd_e h
        refine s_cV0 (st := [.int x1, rfX X 163]) C M.rg (Nat.le_trans (by decide) hd) mwX5_of mlX5_62 dX5_sheafOf_147 (wX5_of (d := 1) (Nat.le_refl _)  hh) kk_163 rfl rfl (Nat.le_of_ble_eq_true rfl) ?_
        obtain ⟨r5, I5, hh, h⟩ := bd_e h
        refine s_cV0 (st := []) C M.rg (Nat.le_trans (by decide) hd) mwX5_weightOr mlX5_167 dX5_sheafOf_150 (wX5_weightOr (d := 2) (Nat.le_refl _)  hh) kk_163 rfl rfl (Nat.le_of_ble_eq_true rfl) ?_
        obtain ⟨rfl, rfl⟩ := pr_e h
        exact s_iret C M dX5_sheafOf_153 rfl rfl (Nat.le_refl 0) (Nat.le_refl 0)
      have h := it_f c8 h
      refine s_tableOut (tgt := 154) C dX5_sheafOf_28 (by have := ne_i 0 (by decide +kernel) c1; have := ne_i 1 (by decide +kernel) c2; have := ne_i 2 (by decide +kernel) c3; have := ne_i 3 (by decide +kernel) c4; have := ne_i 4 (by decide +kernel) c5; have := ne_i 5 (by decide +kernel) c6; have := ne_i 6 (by decide +kernel) c7; have := ne_i 7 (by decide +kernel) c8; omega) (by decide) ?_
      refine s_bipush C dX5_sheafOf_154 bi_m12 ?_
      obtain ⟨rfl, rfl⟩ := pr_e h
      exact s_iret C M dX5_sheafOf_156 rfl rfl (Nat.le_refl 0) (Nat.le_refl 0)
    · have h := it_f c h
      refine s_bipush C dX5_sheafOf_16 bi_m11 ?_
      obtain ⟨rfl, rfl⟩ := pr_e h
      exact s_iret C M dX5_sheafOf_18 rfl rfl (Nat.le_refl 0) (Nat.le_refl 0)
theorem wX5_write {E : Ev} {d : Nat} (hd : 1 ≤ d) {x1 : Int32} {I I' : Mm} {r : Unit}  (h : fX5_write x1 I = some (r, I')) : SemM E d 0 0 mX5_write [rfE E 163, .int x1] S0 I none S0 I' := by
  unfold fX5_write at h
  refine SemM.ofX (E := E) (y := mX5_write) (args := fun E => [rfE E 163, .int x1]) (r := fun E => none) (fun E => [some (rfE E 163), some (.int x1)]) (by decide +kernel) (Nat.le_of_ble_eq_true rfl) rfl (fun X C M => ?_)
  refine s_aload_n C dX5_write_0 rfl rfl ?_
  refine s_getI C dX5_write_1 kk_163 foX5_287 rfl ?_
  refine s_bipush C dX5_write_4 bi_60 ?_
  refine s_icmp_ge (tgt := 29) C dX5_write_6 (by decide) (fun c => ?_) (fun c => ?_)
  · have h := it_t c h
    obtain ⟨rfl, rfl⟩ := pr_e h
    exact s_vret C M dX5_write_29 rfl (Nat.le_refl 0) (Nat.le_refl 0)
  · have h := it_f c h
    refine s_aload_n C dX5_write_9 rfl rfl ?_
    refine s_getR (b := 179) C dX5_write_10 kk_163 foX5_33 rfl rk_163_20 ?_
    refine s_aload_n C dX5_write_13 rfl rfl ?_
    refine s_getI C dX5_write_14 kk_163 foX5_287 rfl ?_
    refine s_iload_n C dX5_write_17 rfl rfl ?_
    obtain ⟨hb, h⟩ := it_n h
    obtain ⟨I1, eI1, h⟩ := ltm_e h
    refine s_ast (q := (I 163 21).toNatClampNeg) C dX5_write_18 kk_179 (by decide) rfl hb eI1 ?_
    refine s_aload_n C dX5_write_19 rfl rfl ?_
    refine s_dup C dX5_write_20 rfl ?_
    refine s_getI C dX5_write_21 kk_163 foX5_287 rfl ?_
    refine s_iconst C dX5_write_24 ic_1 ?_
    refine s_iadd C dX5_write_25 ?_
    obtain ⟨I2, eI2, h⟩ := ltm_e h
    refine s_putI C dX5_write_26 kk_163 poX5_287 rfl eI2 ?_
    obtain ⟨rfl, rfl⟩ := pr_e h
    exact s_vret C M dX5_write_29 rfl (Nat.le_refl 0) (Nat.le_refl 0)
theorem wX5_writeNumber : ∀ (n : Nat) {E : Ev} {d : Nat} (_ : 2 + n ≤ d) {x1 : Int32} {I I' : Mm} {r : Unit}  (_ : fX5_writeNumber n x1 I = some (r, I')), SemM E d 0 0 mX5_writeNumber [rfE E 163, .int x1] S0 I none S0 I' := by
  intro n
  induction n with
  | zero => intro E d hd x1 I I' r  h; exact absurd h (by simp [fX5_writeNumber])
  | succ n ih =>
    intro E d hd x1 I I' r  h
    rw [fX5_writeNumber] at h
    refine SemM.ofX (E := E) (y := mX5_writeNumber) (args := fun E => [rfE E 163, .int x1]) (r := fun E => none) (fun E => [some (rfE E 163), some (.int x1)]) (by decide +kernel) (Nat.le_of_ble_eq_true rfl) rfl (fun X C M => ?_)
    refine s_iload_n C dX5_writeNumber_0 rfl rfl ?_
    refine s_bipush C dX5_writeNumber_1 bi_9 ?_
    refine s_icmp_le (tgt := 14) C dX5_writeNumber_3 (by decide) (fun c => ?_) (fun c => ?_)
    · have h := it_t c h
      refine s_aload_n C dX5_writeNumber_14 rfl rfl ?_
      refine s_bipush C dX5_writeNumber_15 bi_48 ?_
      refine s_iload_n C dX5_writeNumber_17 rfl rfl ?_
      refine s_bipush C dX5_writeNumber_18 bi_10 ?_
      refine s_irem C dX5_writeNumber_20 (by decide) ?_
      refine s_iadd C dX5_writeNumber_21 ?_
      obtain ⟨r1, I1, hh, h⟩ := bd_e h
      refine s_cV0 (st := []) C M.rg (Nat.le_trans (by omega) hd) mwX5_write mlX5_293 dX5_writeNumber_22 (wX5_write (d := 1) (Nat.le_refl _)  hh) kk_163 rfl rfl (Nat.le_of_ble_eq_true rfl) ?_
      obtain ⟨rfl, rfl⟩ := pr_e h
      exact s_vret C M dX5_writeNumber_25 rfl (Nat.le_refl 0) (Nat.le_refl 0)
    · have h := it_f c h
      refine s_aload_n C dX5_writeNumber_6 rfl rfl ?_
      refine s_iload_n C dX5_writeNumber_7 rfl rfl ?_
      refine s_bipush C dX5_writeNumber_8 bi_10 ?_
      refine s_idiv C dX5_writeNumber_10 (by decide) ?_
      obtain ⟨r1, I1, hh, h⟩ := bd_e h
      refine s_cV0 (st := []) C M.rg (Nat.le_trans (by omega) hd) mwX5_writeNumber mlX5_290 dX5_writeNumber_11 (ih (d := 2 + n) (Nat.le_refl _)  hh) kk_163 rfl rfl (Nat.le_of_ble_eq_true rfl) ?_
      refine s_aload_n C dX5_writeNumber_14 rfl rfl ?_
      refine s_bipush C dX5_writeNumber_15 bi_48 ?_
      refine s_iload_n C dX5_writeNumber_17 rfl rfl ?_
      refine s_bipush C dX5_writeNumber_18 bi_10 ?_
      refine s_irem C dX5_writeNumber_20 (by decide) ?_
      refine s_iadd C dX5_writeNumber_21 ?_
      obtain ⟨r2, I2, hh, h⟩ := bd_e h
      refine s_cV0 (st := []) C M.rg (Nat.le_trans (by omega) hd) mwX5_write mlX5_293 dX5_writeNumber_22 (wX5_write (d := 1) (Nat.le_refl _)  hh) kk_163 rfl rfl (Nat.le_of_ble_eq_true rfl) ?_
      obtain ⟨rfl, rfl⟩ := pr_e h
      exact s_vret C M dX5_writeNumber_25 rfl (Nat.le_refl 0) (Nat.le_refl 0)
theorem wX5_writeSheaf : ∀ (n : Nat) {E : Ev} {d : Nat} (_ : 44 + n ≤ d) {x1 : Int32} {x2 : Int32} {I I' : Mm} {r : Unit}  (_ : fX5_writeSheaf n x1 x2 I = some (r, I')), SemM E d 0 0 mX5_writeSheaf [rfE E 163, .int x1, .int x2] S0 I none S0 I' := by
  intro n
  induction n with
  | zero => intro E d hd x1 x2 I I' r  h; exact absurd h (by simp [fX5_writeSheaf])
  | succ n ih =>
    intro E d hd x1 x2 I I' r  h
    rw [fX5_writeSheaf] at h
    refine SemM.ofX (E := E) (y := mX5_writeSheaf) (args := fun E => [rfE E 163, .int x1, .int x2]) (r := fun E => none) (fun E => [some (rfE E 163), some (.int x1), some (.int x2)]) (by decide +kernel) (Nat.le_of_ble_eq_true rfl) rfl (fun X C M => ?_)
    refine s_iload_n C dX5_writeSheaf_0 rfl rfl ?_
    refine s_if_ge (tgt := 5) C dX5_writeSheaf_1 (by decide) (fun c => ?_) (fun c => ?_)
    · have h := it_t c h
      refine s_aload_n C dX5_writeSheaf_5 rfl rfl ?_
      refine s_bipush C dX5_writeSheaf_6 bi_40 ?_
      obtain ⟨r1, I1, hh, h⟩ := bd_e h
      refine s_cV0 (st := []) C M.rg (Nat.le_trans (by omega) hd) mwX5_write mlX5_293 dX5_writeSheaf_8 (wX5_write (d := 1) (Nat.le_refl _)  hh) kk_163 rfl rfl (Nat.le_of_ble_eq_true rfl) ?_
      refine s_aload_n C dX5_writeSheaf_11 rfl rfl ?_
      refine s_iload_n C dX5_writeSheaf_12 rfl rfl ?_
      refine s_aload_n C dX5_writeSheaf_13 rfl rfl ?_
      refine s_iload_n C dX5_writeSheaf_14 rfl rfl ?_
      refine s_iload_n C dX5_writeSheaf_15 rfl rfl ?_
      refine s_iconst C dX5_writeSheaf_16 ic_2 ?_
      obtain ⟨r2, I2, hh, h⟩ := bd_e h
      refine s_cV0 (st := [.int x1, rfX X 163]) C M.rg (Nat.le_trans (by omega) hd) mwX5_of mlX5_62 dX5_writeSheaf_17 (wX5_of (d := 1) (Nat.le_refl _)  hh) kk_163 rfl rfl (Nat.le_of_ble_eq_true rfl) ?_
      obtain ⟨r3, I3, hh, h⟩ := bd_e h
      refine s_cV0 (st := []) C M.rg (Nat.le_trans (by omega) hd) mwX5_writeSheaf mlX5_296 dX5_writeSheaf_20 (ih (d := 44 + n) (Nat.le_refl _)  hh) kk_163 rfl rfl (Nat.le_of_ble_eq_true rfl) ?_
      refine s_aload_n C dX5_writeSheaf_23 rfl rfl ?_
      refine s_aload_n C dX5_writeSheaf_24 rfl rfl ?_
      refine s_iload_n C dX5_writeSheaf_25 rfl rfl ?_
      refine s_iload_n C dX5_writeSheaf_26 rfl rfl ?_
      refine s_iconst C dX5_writeSheaf_27 ic_0 ?_
      obtain ⟨r4, I4, hh, h⟩ := bd_e h
      refine s_cV0 (st := [rfX X 163]) C M.rg (Nat.le_trans (by omega) hd) mwX5_of mlX5_62 dX5_writeSheaf_28 (wX5_of (d := 1) (Nat.le_refl _)  hh) kk_163 rfl rfl (Nat.le_of_ble_eq_true rfl) ?_
      obtain ⟨r5, I5, hh, h⟩ := bd_e h
      refine s_cV0 (st := []) C M.rg (Nat.le_trans (by omega) hd) mwX5_writeNumber mlX5_290 dX5_writeSheaf_31 (wX5_writeNumber _ (d := 42) (Nat.le_refl _)  hh) kk_163 rfl rfl (Nat.le_of_ble_eq_true rfl) ?_
      refine s_aload_n C dX5_writeSheaf_34 rfl rfl ?_
      refine s_iload_n C dX5_writeSheaf_35 rfl rfl ?_
      refine s_iload_n C dX5_writeSheaf_36 rfl rfl ?_
      obtain ⟨r6, I6, hh, h⟩ := bd_e h
      refine s_cV0 (st := []) C M.rg (Nat.le_trans (by omega) hd) mwX5_leans mlX5_145 dX5_writeSheaf_37 (wX5_leans (d := 43) (Nat.le_refl _)  hh) kk_163 rfl rfl (Nat.le_of_ble_eq_true rfl) ?_
      refine s_if_eq (tgt := 49) C dX5_writeSheaf_40 (by decide) (fun c => ?_) (fun c => ?_)
      · have h := it_t c h
        refine s_aload_n C dX5_writeSheaf_49 rfl rfl ?_
        refine s_iload_n C dX5_writeSheaf_50 rfl rfl ?_
        refine s_aload_n C dX5_writeSheaf_51 rfl rfl ?_
        refine s_iload_n C dX5_writeSheaf_52 rfl rfl ?_
        refine s_iload_n C dX5_writeSheaf_53 rfl rfl ?_
        refine s_iconst C dX5_writeSheaf_54 ic_3 ?_
        obtain ⟨r7, I7, hh, h⟩ := bd_e h
        refine s_cV0 (st := [.int x1, rfX X 163]) C M.rg (Nat.le_trans (by omega) hd) mwX5_of mlX5_62 dX5_writeSheaf_55 (wX5_of (d := 1) (Nat.le_refl _)  hh) kk_163 rfl rfl (Nat.le_of_ble_eq_true rfl) ?_
        obtain ⟨r8, I8, hh, h⟩ := bd_e h
        refine s_cV0 (st := []) C M.rg (Nat.le_trans (by omega) hd) mwX5_writeSheaf mlX5_296 dX5_writeSheaf_58 (ih (d := 44 + n) (Nat.le_refl _)  hh) kk_163 rfl rfl (Nat.le_of_ble_eq_true rfl) ?_
        refine s_aload_n C dX5_writeSheaf_61 rfl rfl ?_
        refine s_bipush C dX5_writeSheaf_62 bi_41 ?_
        obtain ⟨r9, I9, hh, h⟩ := bd_e h
        refine s_cV0 (st := []) C M.rg (Nat.le_trans (by omega) hd) mwX5_write mlX5_293 dX5_writeSheaf_64 (wX5_write (d := 1) (Nat.le_refl _)  hh) kk_163 rfl rfl (Nat.le_of_ble_eq_true rfl) ?_
        obtain ⟨rfl, rfl⟩ := pr_e h
        exact s_vret C M dX5_writeSheaf_67 rfl (Nat.le_refl 0) (Nat.le_refl 0)
      · have h := it_f c h
        refine s_aload_n C dX5_writeSheaf_43 rfl rfl ?_
        refine s_bipush C dX5_writeSheaf_44 bi_33 ?_
        obtain ⟨r7, I7, hh, h⟩ := bd_e h
        refine s_cV0 (st := []) C M.rg (Nat.le_trans (by omega) hd) mwX5_write mlX5_293 dX5_writeSheaf_46 (wX5_write (d := 1) (Nat.le_refl _)  hh) kk_163 rfl rfl (Nat.le_of_ble_eq_true rfl) ?_
        refine s_aload_n C dX5_writeSheaf_49 rfl rfl ?_
        refine s_iload_n C dX5_writeSheaf_50 rfl rfl ?_
        refine s_aload_n C dX5_writeSheaf_51 rfl rfl ?_
        refine s_iload_n C dX5_writeSheaf_52 rfl rfl ?_
        refine s_iload_n C dX5_writeSheaf_53 rfl rfl ?_
        refine s_iconst C dX5_writeSheaf_54 ic_3 ?_
        obtain ⟨r8, I8, hh, h⟩ := bd_e h
        refine s_cV0 (st := [.int x1, rfX X 163]) C M.rg (Nat.le_trans (by omega) hd) mwX5_of mlX5_62 dX5_writeSheaf_55 (wX5_of (d := 1) (Nat.le_refl _)  hh) kk_163 rfl rfl (Nat.le_of_ble_eq_true rfl) ?_
        obtain ⟨r9, I9, hh, h⟩ := bd_e h
        refine s_cV0 (st := []) C M.rg (Nat.le_trans (by omega) hd) mwX5_writeSheaf mlX5_296 dX5_writeSheaf_58 (ih (d := 44 + n) (Nat.le_refl _)  hh) kk_163 rfl rfl (Nat.le_of_ble_eq_true rfl) ?_
        refine s_aload_n C dX5_writeSheaf_61 rfl rfl ?_
        refine s_bipush C dX5_writeSheaf_62 bi_41 ?_
        obtain ⟨r10, I10, hh, h⟩ := bd_e h
        refine s_cV0 (st := []) C M.rg (Nat.le_trans (by omega) hd) mwX5_write mlX5_293 dX5_writeSheaf_64 (wX5_write (d := 1) (Nat.le_refl _)  hh) kk_163 rfl rfl (Nat.le_of_ble_eq_true rfl) ?_
        obtain ⟨rfl, rfl⟩ := pr_e h
        exact s_vret C M dX5_writeSheaf_67 rfl (Nat.le_refl 0) (Nat.le_refl 0)
    · have h := it_f c h
      obtain ⟨rfl, rfl⟩ := pr_e h
      exact s_vret C M dX5_writeSheaf_4 rfl (Nat.le_refl 0) (Nat.le_refl 0)
theorem wX5_tell {E : Ev} {d : Nat} (hd : 85 ≤ d) {x1 : Int32} {I I' : Mm} {r : Int32}  (h : fX5_tell x1 I = some (r, I')) : SemM E d 0 0 mX5_tell [rfE E 163, .int x1] S0 I (some (.int r)) S0 I' := by
  unfold fX5_tell at h
  refine SemM.ofX (E := E) (y := mX5_tell) (args := fun E => [rfE E 163, .int x1]) (r := fun E => (some (.int r))) (fun E => [some (rfE E 163), some (.int x1)]) (by decide +kernel) (Nat.le_of_ble_eq_true rfl) rfl (fun X C M => ?_)
  refine s_iload_n C dX5_tell_0 rfl rfl ?_
  obtain ⟨r1, I1, hh, h⟩ := bd_e h
  refine s_cS0 (st := []) C M.rg (Nat.le_trans (by decide) hd) mwX5_isRick mlX5_110 dX5_tell_1 (wX5_isRick (d := 2) (Nat.le_refl _)  hh) rfl rfl (Nat.le_of_ble_eq_true rfl) ?_
  refine s_if_ne (tgt := 10) C dX5_tell_4 (by decide) (fun c => ?_) (fun c => ?_)
  · have h := it_f c h
    refine s_aload_n C dX5_tell_10 rfl rfl ?_
    refine s_iconst C dX5_tell_11 ic_0 ?_
    obtain ⟨I2, eI2, h⟩ := ltm_e h
    refine s_putI C dX5_tell_12 kk_163 poX5_287 rfl eI2 ?_
    refine s_aload_n C dX5_tell_15 rfl rfl ?_
    refine s_iload_n C dX5_tell_16 rfl rfl ?_
    refine s_aload_n C dX5_tell_17 rfl rfl ?_
    refine s_iload_n C dX5_tell_18 rfl rfl ?_
    obtain ⟨r2, I3, hh, h⟩ := bd_e h
    refine s_cV0 (st := [.int x1, rfX X 163]) C M.rg (Nat.le_trans (by decide) hd) mwX5_top mlX5_73 dX5_tell_19 (wX5_top (d := 1) (Nat.le_refl _)  hh) kk_163 rfl rfl (Nat.le_of_ble_eq_true rfl) ?_
    obtain ⟨r3, I4, hh, h⟩ := bd_e h
    refine s_cV0 (st := []) C M.rg (Nat.le_trans (by decide) hd) mwX5_writeSheaf mlX5_296 dX5_tell_22 (wX5_writeSheaf _ (d := 84) (Nat.le_refl _)  hh) kk_163 rfl rfl (Nat.le_of_ble_eq_true rfl) ?_
    refine s_aload_n C dX5_tell_25 rfl rfl ?_
    refine s_getI C dX5_tell_26 kk_163 foX5_287 rfl ?_
    obtain ⟨rfl, rfl⟩ := pr_e h
    exact s_iret C M dX5_tell_29 rfl rfl (Nat.le_refl 0) (Nat.le_refl 0)
  · have h := it_t c h
    refine s_bipush C dX5_tell_7 bi_m11 ?_
    obtain ⟨rfl, rfl⟩ := pr_e h
    exact s_iret C M dX5_tell_9 rfl rfl (Nat.le_refl 0) (Nat.le_refl 0)
theorem wX5_undo {E : Ev} {d : Nat} (hd : 2 ≤ d)  {I I' : Mm} {r : Int32}  (h : fX5_undo  I = some (r, I')) : SemM E d 0 0 mX5_undo [rfE E 163] S0 I (some (.int r)) S0 I' := by
  unfold fX5_undo at h
  refine SemM.ofX (E := E) (y := mX5_undo) (args := fun E => [rfE E 163]) (r := fun E => (some (.int r))) (fun E => [some (rfE E 163)]) (by decide +kernel) (Nat.le_of_ble_eq_true rfl) rfl (fun X C M => ?_)
  refine s_aload_n C dX5_undo_0 rfl rfl ?_
  refine s_getI C dX5_undo_1 kk_163 foX5_43 rfl ?_
  refine s_if_ne (tgt := 10) C dX5_undo_4 (by decide) (fun c => ?_) (fun c => ?_)
  · have h := it_f c h
    refine s_aload_n C dX5_undo_10 rfl rfl ?_
    refine s_dup C dX5_undo_11 rfl ?_
    refine s_getI C dX5_undo_12 kk_163 foX5_43 rfl ?_
    refine s_iconst C dX5_undo_15 ic_1 ?_
    refine s_isub C dX5_undo_16 ?_
    obtain ⟨I1, eI1, h⟩ := ltm_e h
    refine s_putI C dX5_undo_17 kk_163 poX5_43 rfl eI1 ?_
    refine s_aload_n C dX5_undo_20 rfl rfl ?_
    refine s_getR (b := 167) C dX5_undo_21 kk_163 foX5_21 rfl rk_163_3 ?_
    refine s_aload_n C dX5_undo_24 rfl rfl ?_
    refine s_getI C dX5_undo_25 kk_163 foX5_43 rfl ?_
    obtain ⟨hb, h⟩ := it_n h
    have kq1 := (kd8 (ck_lt hb))
    refine s_aald C dX5_undo_28 kk_167 (by decide) hb (rr8 kk_167 (ck_lt hb)) ?_
    refine s_aload_n C dX5_undo_29 rfl rfl ?_
    refine s_getR (b := 164) C dX5_undo_30 kk_163 foX5_9 rfl rk_163_0 ?_
    obtain ⟨r1, I2, hh, h⟩ := bd_e h
    refine s_cS0 (st := []) C M.rg (Nat.le_trans (by decide) hd) mwX5_copyRow mlX5_46 dX5_undo_33 (wX5_copyRow (d := 1) (Nat.le_refl _) (by rw [kq1]; decide) (by rw [kk_164]; decide) hh) rfl rfl (Nat.le_of_ble_eq_true rfl) ?_
    refine s_aload_n C dX5_undo_36 rfl rfl ?_
    refine s_getI C dX5_undo_37 kk_163 foX5_43 rfl ?_
    obtain ⟨rfl, rfl⟩ := pr_e h
    exact s_iret C M dX5_undo_40 rfl rfl (Nat.le_refl 0) (Nat.le_refl 0)
  · have h := it_t c h
    refine s_bipush C dX5_undo_7 bi_m15 ?_
    obtain ⟨rfl, rfl⟩ := pr_e h
    exact s_iret C M dX5_undo_9 rfl rfl (Nat.le_refl 0) (Nat.le_refl 0)
