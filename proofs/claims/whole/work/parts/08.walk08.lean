theorem wX5_build {E : Ev} {d : Nat} (hd : 45 ≤ d) {x1 : Int32} {I I' : Mm} {r : Int32}  (h : fX5_build x1 I = some (r, I')) : SemM E d 0 0 mX5_build [rfE E 163, .int x1] S0 I (some (.int r)) S0 I' := by
  unfold fX5_build at h
  refine SemM.ofX (E := E) (y := mX5_build) (args := fun E => [rfE E 163, .int x1]) (r := fun E => (some (.int r))) (fun E => [some (rfE E 163), some (.int x1), none, none]) (by decide +kernel) (Nat.le_of_ble_eq_true rfl) rfl (fun X C M => ?_)
  refine s_iload_n C dX5_build_0 rfl rfl ?_
  obtain ⟨r1, I1, hh, h⟩ := bd_e h
  refine s_cS0 (st := []) C M.rg (Nat.le_trans (by decide) hd) mwX5_isRick mlX5_110 dX5_build_1 (wX5_isRick (d := 2) (Nat.le_refl _)  hh) rfl rfl (Nat.le_of_ble_eq_true rfl) ?_
  refine s_if_ne (tgt := 10) C dX5_build_4 (by decide) (fun c => ?_) (fun c => ?_)
  · have h := it_f c h
    refine s_aload_n C dX5_build_10 rfl rfl ?_
    refine s_aload_n C dX5_build_11 rfl rfl ?_
    refine s_iload_n C dX5_build_12 rfl rfl ?_
    obtain ⟨r2, I2, hh, h⟩ := bd_e h
    refine s_cV0 (st := [rfX X 163]) C M.rg (Nat.le_trans (by decide) hd) mwX5_count mlX5_124 dX5_build_13 (wX5_count (d := 43) (Nat.le_refl _)  hh) kk_163 rfl rfl (Nat.le_of_ble_eq_true rfl) ?_
    refine s_if_ne (tgt := 23) C dX5_build_16 (by decide) (fun c => ?_) (fun c => ?_)
    · have h := it_f c h
      refine s_iconst C dX5_build_23 ic_0 ?_
      exact wX5_build_p24 hd C  h M
    · have h := it_t c h
      refine s_iconst C dX5_build_19 ic_1 ?_
      refine s_goto (tgt := 24) C dX5_build_20 (by decide) ?_
      exact wX5_build_p24 hd C  h M
  · have h := it_t c h
    refine s_bipush C dX5_build_7 bi_m11 ?_
    obtain ⟨rfl, rfl⟩ := pr_e h
    exact s_iret C M dX5_build_9 rfl rfl (Nat.le_refl 0) (Nat.le_refl 0)
theorem wX5_replace {E : Ev} {d : Nat} (hd : 2 ≤ d) {x1 : Int32} {x2 : Int32} {x3 : Int32} {x4 : Int32} {I I' : Mm} {r : Unit}  (h : fX5_replace x1 x2 x3 x4 I = some (r, I')) : SemM E d 0 0 mX5_replace [rfE E 163, .int x1, .int x2, .int x3, .int x4] S0 I none S0 I' := by
  unfold fX5_replace at h
  refine SemM.ofX (E := E) (y := mX5_replace) (args := fun E => [rfE E 163, .int x1, .int x2, .int x3, .int x4]) (r := fun E => none) (fun E => [some (rfE E 163), some (.int x1), some (.int x2), some (.int x3), some (.int x4)]) (by decide +kernel) (Nat.le_of_ble_eq_true rfl) rfl (fun X C M => ?_)
  refine s_iload_n C dX5_replace_0 rfl rfl ?_
  refine s_if_ge (tgt := 14) C dX5_replace_1 (by decide) (fun c => ?_) (fun c => ?_)
  · have h := it_t c h
    refine s_aload_n C dX5_replace_14 rfl rfl ?_
    refine s_iload_n C dX5_replace_15 rfl rfl ?_
    refine s_iload_n C dX5_replace_16 rfl rfl ?_
    refine s_aload_n C dX5_replace_17 rfl rfl ?_
    refine s_iload_n C dX5_replace_18 rfl rfl ?_
    refine s_iload_n C dX5_replace_19 rfl rfl ?_
    refine s_iconst C dX5_replace_20 ic_2 ?_
    obtain ⟨r1, I1, hh, h⟩ := bd_e h
    refine s_cV0 (st := [.int x2, .int x1, rfX X 163]) C M.rg (Nat.le_trans (by decide) hd) mwX5_of mlX5_62 dX5_replace_21 (wX5_of (d := 1) (Nat.le_refl _)  hh) kk_163 rfl rfl (Nat.le_of_ble_eq_true rfl) ?_
    refine s_iload_n C dX5_replace_24 rfl rfl ?_
    refine s_icmp_ne (tgt := 32) C dX5_replace_25 (by decide) (fun c => ?_) (fun c => ?_)
    · have h := it_f c h
      refine s_iconst C dX5_replace_32 ic_3 ?_
      refine s_iload C dX5_replace_33 rfl ?_
      obtain ⟨r2, I2, hh, h⟩ := bd_e h
      refine s_cV0 (st := []) C M.rg (Nat.le_trans (by decide) hd) mwX5_put mlX5_90 dX5_replace_35 (wX5_put (d := 1) (Nat.le_refl _)  hh) kk_163 rfl rfl (Nat.le_of_ble_eq_true rfl) ?_
      obtain ⟨rfl, rfl⟩ := pr_e h
      exact s_vret C M dX5_replace_38 rfl (Nat.le_refl 0) (Nat.le_refl 0)
    · have h := it_t c h
      refine s_iconst C dX5_replace_28 ic_2 ?_
      refine s_goto (tgt := 33) C dX5_replace_29 (by decide) ?_
      refine s_iload C dX5_replace_33 rfl ?_
      obtain ⟨r2, I2, hh, h⟩ := bd_e h
      refine s_cV0 (st := []) C M.rg (Nat.le_trans (by decide) hd) mwX5_put mlX5_90 dX5_replace_35 (wX5_put (d := 1) (Nat.le_refl _)  hh) kk_163 rfl rfl (Nat.le_of_ble_eq_true rfl) ?_
      obtain ⟨rfl, rfl⟩ := pr_e h
      exact s_vret C M dX5_replace_38 rfl (Nat.le_refl 0) (Nat.le_refl 0)
  · have h := it_f c h
    refine s_aload_n C dX5_replace_4 rfl rfl ?_
    refine s_iload_n C dX5_replace_5 rfl rfl ?_
    refine s_iload C dX5_replace_6 rfl ?_
    obtain ⟨r1, I1, hh, h⟩ := bd_e h
    refine s_cV0 (st := []) C M.rg (Nat.le_trans (by decide) hd) mwX5_setTop mlX5_94 dX5_replace_8 (wX5_setTop (d := 1) (Nat.le_refl _)  hh) kk_163 rfl rfl (Nat.le_of_ble_eq_true rfl) ?_
    refine s_goto (tgt := 38) C dX5_replace_11 (by decide) ?_
    obtain ⟨rfl, rfl⟩ := pr_e h
    exact s_vret C M dX5_replace_38 rfl (Nat.le_refl 0) (Nat.le_refl 0)
theorem wX5_buildPart {E : Ev} {d : Nat} (hd : 43 ≤ d) {x1 : Int32} {x2 : Int32} {I I' : Mm} {r : Unit}  (h : fX5_buildPart x1 x2 I = some (r, I')) : SemM E d 0 0 mX5_buildPart [rfE E 163, .int x1, .int x2] S0 I none S0 I' := by
  unfold fX5_buildPart at h
  refine SemM.ofX (E := E) (y := mX5_buildPart) (args := fun E => [rfE E 163, .int x1, .int x2]) (r := fun E => none) (fun E => [some (rfE E 163), some (.int x1), some (.int x2), none]) (by decide +kernel) (Nat.le_of_ble_eq_true rfl) rfl (fun X C M => ?_)
  refine s_aload_n C dX5_buildPart_0 rfl rfl ?_
  refine s_iload_n C dX5_buildPart_1 rfl rfl ?_
  refine s_iload_n C dX5_buildPart_2 rfl rfl ?_
  obtain ⟨r1, I1, hh, h⟩ := bd_e h
  refine s_cV0 (st := []) C M.rg (Nat.le_trans (by decide) hd) mwX5_above mlX5_77 dX5_buildPart_3 (wX5_above (d := 2) (Nat.le_refl _)  hh) kk_163 rfl rfl (Nat.le_of_ble_eq_true rfl) ?_
  refine s_istore_n (ls' := [some (rfX X 163), some (.int x1), some (.int x2), some (.int r1)]) C dX5_buildPart_6 rfl (by decide) (Nat.le_of_ble_eq_true rfl) rfl rfl ?_
  refine s_aload_n C dX5_buildPart_7 rfl rfl ?_
  refine s_iconst C dX5_buildPart_8 ic_0 ?_
  obtain ⟨I2, eI2, h⟩ := ltm_e h
  refine s_putI C dX5_buildPart_9 kk_163 poX5_84 rfl eI2 ?_
  refine s_aload_n C dX5_buildPart_12 rfl rfl ?_
  refine s_iload_n C dX5_buildPart_13 rfl rfl ?_
  refine s_iload_n C dX5_buildPart_14 rfl rfl ?_
  obtain ⟨r2, I3, hh, h⟩ := bd_e h
  refine s_cV0 (st := []) C M.rg (Nat.le_trans (by decide) hd) mwX5_listFrom mlX5_80 dX5_buildPart_15 (wX5_listFrom _ (d := 42) (Nat.le_refl _)  hh) kk_163 rfl rfl (Nat.le_of_ble_eq_true rfl) ?_
  refine s_aload_n C dX5_buildPart_18 rfl rfl ?_
  refine s_iload_n C dX5_buildPart_19 rfl rfl ?_
  refine s_iload_n C dX5_buildPart_20 rfl rfl ?_
  refine s_iload_n C dX5_buildPart_21 rfl rfl ?_
  refine s_aload_n C dX5_buildPart_22 rfl rfl ?_
  refine s_iload_n C dX5_buildPart_23 rfl rfl ?_
  refine s_iconst C dX5_buildPart_24 ic_0 ?_
  refine s_aload_n C dX5_buildPart_25 rfl rfl ?_
  refine s_getI C dX5_buildPart_26 kk_163 foX5_84 rfl ?_
  refine s_iconst C dX5_buildPart_29 ic_1 ?_
  refine s_isub C dX5_buildPart_30 ?_
  obtain ⟨r3, I4, hh, h⟩ := bd_e h
  refine s_cV0 (st := [.int x2, .int r1, .int x1, rfX X 163]) C M.rg (Nat.le_trans (by decide) hd) mwX5_make mlX5_87 dX5_buildPart_31 (wX5_make _ (d := 42) (Nat.le_refl _)  hh) kk_163 rfl rfl (Nat.le_of_ble_eq_true rfl) ?_
  obtain ⟨r4, I5, hh, h⟩ := bd_e h
  refine s_cV0 (st := []) C M.rg (Nat.le_trans (by decide) hd) mwX5_replace mlX5_97 dX5_buildPart_34 (wX5_replace (d := 2) (Nat.le_refl _)  hh) kk_163 rfl rfl (Nat.le_of_ble_eq_true rfl) ?_
  refine s_aload_n C dX5_buildPart_37 rfl rfl ?_
  refine s_getR (b := 164) C dX5_buildPart_38 kk_163 foX5_9 rfl rk_163_0 ?_
  refine s_iconst C dX5_buildPart_41 ic_5 ?_
  refine s_dup2 C dX5_buildPart_42 rfl rfl ?_
  refine s_ald (q := 5) C dX5_buildPart_43 kk_164 (by decide) (by decide) (by decide) ?_
  refine s_aload_n C dX5_buildPart_44 rfl rfl ?_
  refine s_getI C dX5_buildPart_45 kk_163 foX5_84 rfl ?_
  refine s_iadd C dX5_buildPart_48 ?_
  obtain ⟨I6, eI6, h⟩ := ltm_e h
  refine s_ast (q := 5) C dX5_buildPart_49 kk_164 (by decide) (by decide) (by decide) eI6 ?_
  obtain ⟨rfl, rfl⟩ := pr_e h
  exact s_vret C M dX5_buildPart_50 rfl (Nat.le_refl 0) (Nat.le_refl 0)
theorem wX5_limit_p30 {X : Cx} {d : Nat} (hd : 4 ≤ d) (C : CtxOK X mX5_limit) {x1 : Int32} {s1 : Int32} {I I' : Mm} {r : Int32}  (h : fX5_limit_p30 x1 s1 I = some (r, I')) (M : MX X (xE X) d 0 0 (some (.int r)) S0 I') : WM X mX5_limit 30 [some (rfX X 163), some (.int x1), none] [.int s1, rfX X 163] S0 I 0 0 := by
  unfold fX5_limit_p30 at h
  refine s_iconst C dX5_limit_30 ic_4 ?_
  refine s_iload_n C dX5_limit_31 rfl rfl ?_
  obtain ⟨r1, I1, hh, h⟩ := bd_e h
  refine s_cV0 (st := []) C M.rg (Nat.le_trans (by decide) hd) mwX5_refuse mlX5_120 dX5_limit_32 (wX5_refuse (d := 1) (Nat.le_refl _)  hh) kk_163 rfl rfl (Nat.le_of_ble_eq_true rfl) ?_
  refine s_if_eq (tgt := 41) C dX5_limit_35 (by decide) (fun c => ?_) (fun c => ?_)
  · have h := it_t c h
    refine s_aload_n C dX5_limit_41 rfl rfl ?_
    obtain ⟨r2, I2, hh, h⟩ := bd_e h
    refine s_cV0 (st := []) C M.rg (Nat.le_trans (by decide) hd) mwX5_change mlX5_127 dX5_limit_42 (wX5_change (d := 3) (Nat.le_refl _)  hh) kk_163 rfl rfl (Nat.le_of_ble_eq_true rfl) ?_
    refine s_aload_n C dX5_limit_45 rfl rfl ?_
    refine s_getR (b := 164) C dX5_limit_46 kk_163 foX5_9 rfl rk_163_0 ?_
    refine s_iconst C dX5_limit_49 ic_0 ?_
    refine s_ald (q := 0) C dX5_limit_50 kk_164 (by decide) (by decide) (by decide) ?_
    obtain ⟨v1, ev1, h⟩ := ltm_e h
    refine s_top_i ev1 ?_
    refine s_istore_n (ls' := [some (rfX X 163), some (.int x1), some (.int v1)]) C dX5_limit_51 rfl (by decide) (Nat.le_of_ble_eq_true rfl) rfl rfl ?_
    refine s_aload_n C dX5_limit_52 rfl rfl ?_
    refine s_getR (b := 164) C dX5_limit_53 kk_163 foX5_9 rfl rk_163_0 ?_
    refine s_iconst C dX5_limit_56 ic_0 ?_
    refine s_iload_n C dX5_limit_57 rfl rfl ?_
    obtain ⟨I3, eI3, h⟩ := ltm_e h
    refine s_ast (q := 0) C dX5_limit_58 kk_164 (by decide) (by decide) (by decide) eI3 ?_
    refine s_iload_n C dX5_limit_59 rfl rfl ?_
    obtain ⟨rfl, rfl⟩ := pr_e h
    exact s_iret C M dX5_limit_60 rfl rfl (Nat.le_refl 0) (Nat.le_refl 0)
  · have h := it_f c h
    refine s_bipush C dX5_limit_38 bi_m14 ?_
    obtain ⟨rfl, rfl⟩ := pr_e h
    exact s_iret C M dX5_limit_40 rfl rfl (Nat.le_refl 0) (Nat.le_refl 0)
theorem wX5_limit {E : Ev} {d : Nat} (hd : 4 ≤ d) {x1 : Int32} {I I' : Mm} {r : Int32}  (h : fX5_limit x1 I = some (r, I')) : SemM E d 0 0 mX5_limit [rfE E 163, .int x1] S0 I (some (.int r)) S0 I' := by
  unfold fX5_limit at h
  refine SemM.ofX (E := E) (y := mX5_limit) (args := fun E => [rfE E 163, .int x1]) (r := fun E => (some (.int r))) (fun E => [some (rfE E 163), some (.int x1), none]) (by decide +kernel) (Nat.le_of_ble_eq_true rfl) rfl (fun X C M => ?_)
  refine s_iload_n C dX5_limit_0 rfl rfl ?_
  refine s_bipush C dX5_limit_1 bi_55 ?_
  refine s_bipush C dX5_limit_3 bi_90 ?_
  obtain ⟨r1, I1, hh, h⟩ := bd_e h
  refine s_cS0 (st := []) C M.rg (Nat.le_trans (by decide) hd) mwX5_isBetween mlX5_58 dX5_limit_5 (wX5_isBetween (d := 1) (Nat.le_refl _)  hh) rfl rfl (Nat.le_of_ble_eq_true rfl) ?_
  refine s_if_ne (tgt := 14) C dX5_limit_8 (by decide) (fun c => ?_) (fun c => ?_)
  · have h := it_f c h
    refine s_aload_n C dX5_limit_14 rfl rfl ?_
    refine s_aload_n C dX5_limit_15 rfl rfl ?_
    refine s_getR (b := 164) C dX5_limit_16 kk_163 foX5_9 rfl rk_163_0 ?_
    refine s_iconst C dX5_limit_19 ic_0 ?_
    refine s_ald (q := 0) C dX5_limit_20 kk_164 (by decide) (by decide) (by decide) ?_
    refine s_iload_n C dX5_limit_21 rfl rfl ?_
    refine s_icmp_ne (tgt := 29) C dX5_limit_22 (by decide) (fun c => ?_) (fun c => ?_)
    · have h := it_f c h
      refine s_iconst C dX5_limit_29 ic_0 ?_
      exact wX5_limit_p30 hd C  h M
    · have h := it_t c h
      refine s_iconst C dX5_limit_25 ic_1 ?_
      refine s_goto (tgt := 30) C dX5_limit_26 (by decide) ?_
      exact wX5_limit_p30 hd C  h M
  · have h := it_t c h
    refine s_bipush C dX5_limit_11 bi_m12 ?_
    obtain ⟨rfl, rfl⟩ := pr_e h
    exact s_iret C M dX5_limit_13 rfl rfl (Nat.le_refl 0) (Nat.le_refl 0)
theorem wX5_clear {E : Ev} {d : Nat} (hd : 2 ≤ d) {x1 : Int32} {x2 : Int32} {I I' : Mm} {r : Unit}  (h : fX5_clear x1 x2 I = some (r, I')) : SemM E d 0 0 mX5_clear [rfE E 163, .int x1, .int x2] S0 I none S0 I' := by
  unfold fX5_clear at h
  refine SemM.ofX (E := E) (y := mX5_clear) (args := fun E => [rfE E 163, .int x1, .int x2]) (r := fun E => none) (fun E => [some (rfE E 163), some (.int x1), some (.int x2)]) (by decide +kernel) (Nat.le_of_ble_eq_true rfl) rfl (fun X C M => ?_)
  refine s_aload_n C dX5_clear_0 rfl rfl ?_
  refine s_iload_n C dX5_clear_1 rfl rfl ?_
  refine s_iload_n C dX5_clear_2 rfl rfl ?_
  refine s_iconst C dX5_clear_3 ic_0 ?_
  refine s_iconst C dX5_clear_4 ic_m1 ?_
  obtain ⟨r1, I1, hh, h⟩ := bd_e h
  refine s_cV0 (st := []) C M.rg (Nat.le_trans (by decide) hd) mwX5_put mlX5_90 dX5_clear_5 (wX5_put (d := 1) (Nat.le_refl _)  hh) kk_163 rfl rfl (Nat.le_of_ble_eq_true rfl) ?_
  refine s_aload_n C dX5_clear_8 rfl rfl ?_
  refine s_iload_n C dX5_clear_9 rfl rfl ?_
  refine s_iload_n C dX5_clear_10 rfl rfl ?_
  refine s_iconst C dX5_clear_11 ic_1 ?_
  refine s_iconst C dX5_clear_12 ic_0 ?_
  obtain ⟨r2, I2, hh, h⟩ := bd_e h
  refine s_cV0 (st := []) C M.rg (Nat.le_trans (by decide) hd) mwX5_put mlX5_90 dX5_clear_13 (wX5_put (d := 1) (Nat.le_refl _)  hh) kk_163 rfl rfl (Nat.le_of_ble_eq_true rfl) ?_
  refine s_aload_n C dX5_clear_16 rfl rfl ?_
  refine s_iload_n C dX5_clear_17 rfl rfl ?_
  refine s_iload_n C dX5_clear_18 rfl rfl ?_
  refine s_iconst C dX5_clear_19 ic_2 ?_
  refine s_iconst C dX5_clear_20 ic_m1 ?_
  obtain ⟨r3, I3, hh, h⟩ := bd_e h
  refine s_cV0 (st := []) C M.rg (Nat.le_trans (by decide) hd) mwX5_put mlX5_90 dX5_clear_21 (wX5_put (d := 1) (Nat.le_refl _)  hh) kk_163 rfl rfl (Nat.le_of_ble_eq_true rfl) ?_
  refine s_aload_n C dX5_clear_24 rfl rfl ?_
  refine s_iload_n C dX5_clear_25 rfl rfl ?_
  refine s_iload_n C dX5_clear_26 rfl rfl ?_
  refine s_iconst C dX5_clear_27 ic_3 ?_
  refine s_iconst C dX5_clear_28 ic_m1 ?_
  obtain ⟨r4, I4, hh, h⟩ := bd_e h
  refine s_cV0 (st := []) C M.rg (Nat.le_trans (by decide) hd) mwX5_put mlX5_90 dX5_clear_29 (wX5_put (d := 1) (Nat.le_refl _)  hh) kk_163 rfl rfl (Nat.le_of_ble_eq_true rfl) ?_
  obtain ⟨rfl, rfl⟩ := pr_e h
  exact s_vret C M dX5_clear_32 rfl (Nat.le_refl 0) (Nat.le_refl 0)
theorem wX5_find_p6 {X : Cx} {d : Nat} (hd : 2 ≤ d) (C : CtxOK X mX5_find) : ∀ (n : Nat) {x1 : Int32} {x2 : Int32} {x3 : Int32} {I I' : Mm} {r : Int32}  (_ : fX5_find_p6 n x1 x2 x3 I = some (r, I')) (_ : MX X (xE X) d 0 0 (some (.int r)) S0 I'), WM X mX5_find 6 [some (rfX X 163), some (.int x1), some (.int x2), some (.int x3)] [] S0 I 0 0 := by
  intro n
  induction n with
  | zero => intro x1 x2 x3 I I' r  h M; exact absurd h (by simp [fX5_find_p6])
  | succ n ih =>
    intro x1 x2 x3 I I' r  h M
    rw [fX5_find_p6] at h
    refine s_iload_n C dX5_find_6 rfl rfl ?_
    refine s_if_lt (tgt := 47) C dX5_find_7 (by decide) (fun c => ?_) (fun c => ?_)
    · have h := it_t c h
      refine s_iload_n C dX5_find_47 rfl rfl ?_
      obtain ⟨rfl, rfl⟩ := pr_e h
      exact s_iret C M dX5_find_48 rfl rfl (Nat.le_refl 0) (Nat.le_refl 0)
    · have h := it_f c h
      refine s_aload_n C dX5_find_10 rfl rfl ?_
      refine s_iload_n C dX5_find_11 rfl rfl ?_
      refine s_iload_n C dX5_find_12 rfl rfl ?_
      refine s_iconst C dX5_find_13 ic_0 ?_
      obtain ⟨r1, I1, hh, h⟩ := bd_e h
      refine s_cV0 (st := []) C M.rg (Nat.le_trans (by decide) hd) mwX5_of mlX5_62 dX5_find_14 (wX5_of (d := 1) (Nat.le_refl _)  hh) kk_163 rfl rfl (Nat.le_of_ble_eq_true rfl) ?_
      refine s_iload_n C dX5_find_17 rfl rfl ?_
      refine s_icmp_eq (tgt := 47) C dX5_find_18 (by decide) (fun c => ?_) (fun c => ?_)
      · have h := it_t c h
        refine s_iload_n C dX5_find_47 rfl rfl ?_
        obtain ⟨rfl, rfl⟩ := pr_e h
        exact s_iret C M dX5_find_48 rfl rfl (Nat.le_refl 0) (Nat.le_refl 0)
      · have h := it_f c h
        refine s_aload_n C dX5_find_21 rfl rfl ?_
        refine s_iload_n C dX5_find_22 rfl rfl ?_
        refine s_iload_n C dX5_find_23 rfl rfl ?_
        refine s_iload_n C dX5_find_24 rfl rfl ?_
        refine s_aload_n C dX5_find_25 rfl rfl ?_
        refine s_iload_n C dX5_find_26 rfl rfl ?_
        refine s_iload_n C dX5_find_27 rfl rfl ?_
        refine s_iconst C dX5_find_28 ic_0 ?_
        obtain ⟨r2, I2, hh, h⟩ := bd_e h
        refine s_cV0 (st := [.int x2, .int x3, .int x1, rfX X 163]) C M.rg (Nat.le_trans (by decide) hd) mwX5_of mlX5_62 dX5_find_29 (wX5_of (d := 1) (Nat.le_refl _)  hh) kk_163 rfl rfl (Nat.le_of_ble_eq_true rfl) ?_
        refine s_icmp_ge (tgt := 39) C dX5_find_32 (by decide) (fun c => ?_) (fun c => ?_)
        · have h := it_t c h
          refine s_iconst C dX5_find_39 ic_3 ?_
          obtain ⟨r3, I3, hh, h⟩ := bd_e h
          refine s_cV0 (st := []) C M.rg (Nat.le_trans (by decide) hd) mwX5_of mlX5_62 dX5_find_40 (wX5_of (d := 1) (Nat.le_refl _)  hh) kk_163 rfl rfl (Nat.le_of_ble_eq_true rfl) ?_
          refine s_istore_n (ls' := [some (rfX X 163), some (.int x1), some (.int x2), some (.int r3)]) C dX5_find_43 rfl (by decide) (Nat.le_of_ble_eq_true rfl) rfl rfl ?_
          refine s_goto (tgt := 6) C dX5_find_44 (by decide) ?_
          exact ih  h M
        · have h := it_f c h
          refine s_iconst C dX5_find_35 ic_2 ?_
          refine s_goto (tgt := 40) C dX5_find_36 (by decide) ?_
          obtain ⟨r3, I3, hh, h⟩ := bd_e h
          refine s_cV0 (st := []) C M.rg (Nat.le_trans (by decide) hd) mwX5_of mlX5_62 dX5_find_40 (wX5_of (d := 1) (Nat.le_refl _)  hh) kk_163 rfl rfl (Nat.le_of_ble_eq_true rfl) ?_
          refine s_istore_n (ls' := [some (rfX X 163), some (.int x1), some (.int x2), some (.int r3)]) C dX5_find_43 rfl (by decide) (Nat.le_of_ble_eq_true rfl) rfl rfl ?_
          refine s_goto (tgt := 6) C dX5_find_44 (by decide) ?_
          exact ih  h M
theorem wX5_find {E : Ev} {d : Nat} (hd : 2 ≤ d) {x1 : Int32} {x2 : Int32} {I I' : Mm} {r : Int32}  (h : fX5_find x1 x2 I = some (r, I')) : SemM E d 0 0 mX5_find [rfE E 163, .int x1, .int x2] S0 I (some (.int r)) S0 I' := by
  unfold fX5_find at h
  refine SemM.ofX (E := E) (y := mX5_find) (args := fun E => [rfE E 163, .int x1, .int x2]) (r := fun E => (some (.int r))) (fun E => [some (rfE E 163), some (.int x1), some (.int x2), none]) (by decide +kernel) (Nat.le_of_ble_eq_true rfl) rfl (fun X C M => ?_)
  refine s_aload_n C dX5_find_0 rfl rfl ?_
  refine s_iload_n C dX5_find_1 rfl rfl ?_
  obtain ⟨r1, I1, hh, h⟩ := bd_e h
  refine s_cV0 (st := []) C M.rg (Nat.le_trans (by decide) hd) mwX5_top mlX5_73 dX5_find_2 (wX5_top (d := 1) (Nat.le_refl _)  hh) kk_163 rfl rfl (Nat.le_of_ble_eq_true rfl) ?_
  refine s_istore_n (ls' := [some (rfX X 163), some (.int x1), some (.int x2), some (.int r1)]) C dX5_find_5 rfl (by decide) (Nat.le_of_ble_eq_true rfl) rfl rfl ?_
  exact wX5_find_p6 hd C _  h M
theorem wX5_common_p7 {X : Cx} {d : Nat} (hd : 44 ≤ d) (C : CtxOK X mX5_common) : ∀ (n : Nat) {x1 : Int32} {x2 : Int32} {x3 : Int32} {I I' : Mm} {r : Int32}  (_ : fX5_common_p7 n x1 x2 x3 I = some (r, I')) (_ : MX X (xE X) d 0 0 (some (.int r)) S0 I'), WM X mX5_common 7 [some (rfX X 163), some (.int x1), some (.int x2), some (.int x3)] [] S0 I 0 0 := by
  intro n
  induction n with
  | zero => intro x1 x2 x3 I I' r  h M; exact absurd h (by simp [fX5_common_p7])
  | succ n ih =>
    intro x1 x2 x3 I I' r  h M
    rw [fX5_common_p7] at h
    refine s_iload_n C dX5_common_7 rfl rfl ?_
    refine s_aload_n C dX5_common_8 rfl rfl ?_
    refine s_getI C dX5_common_9 kk_163 foX5_84 rfl ?_
    refine s_icmp_ge (tgt := 54) C dX5_common_12 (by decide) (fun c => ?_) (fun c => ?_)
    · have h := it_t c h
      refine s_iconst C dX5_common_54 ic_m1 ?_
      obtain ⟨rfl, rfl⟩ := pr_e h
      exact s_iret C M dX5_common_55 rfl rfl (Nat.le_refl 0) (Nat.le_refl 0)
    · have h := it_f c h
      refine s_aload_n C dX5_common_15 rfl rfl ?_
      refine s_iload_n C dX5_common_16 rfl rfl ?_
      refine s_aload_n C dX5_common_17 rfl rfl ?_
      refine s_iload_n C dX5_common_18 rfl rfl ?_
      refine s_aload_n C dX5_common_19 rfl rfl ?_
      refine s_getR (b := 176) C dX5_common_20 kk_163 foX5_24 rfl rk_163_9 ?_
      refine s_iload_n C dX5_common_23 rfl rfl ?_
      obtain ⟨hb, h⟩ := it_n h
      refine s_ald (q := x3.toNatClampNeg) C dX5_common_24 kk_176 (by decide) rfl hb ?_
      refine s_iconst C dX5_common_25 ic_0 ?_
      obtain ⟨r1, I1, hh, h⟩ := bd_e h
      refine s_cV0 (st := [.int x2, rfX X 163]) C M.rg (Nat.le_trans (by decide) hd) mwX5_of mlX5_62 dX5_common_26 (wX5_of (d := 1) (Nat.le_refl _)  hh) kk_163 rfl rfl (Nat.le_of_ble_eq_true rfl) ?_
      obtain ⟨r2, I2, hh, h⟩ := bd_e h
      refine s_cV0 (st := []) C M.rg (Nat.le_trans (by decide) hd) mwX5_find mlX5_117 dX5_common_29 (wX5_find (d := 2) (Nat.le_refl _)  hh) kk_163 rfl rfl (Nat.le_of_ble_eq_true rfl) ?_
      refine s_if_lt (tgt := 48) C dX5_common_32 (by decide) (fun c => ?_) (fun c => ?_)
      · have h := it_t c h
        obtain ⟨v1, ev1, h⟩ := ltm_e h
        refine s_iinc (v := v1) (ls' := [some (rfX X 163), some (.int x1), some (.int x2), some (.int v1)]) C dX5_common_48 rfl (by decide) (Nat.le_of_ble_eq_true rfl) (by rw [ev1, ic_1]) rfl rfl ?_
        refine s_goto (tgt := 7) C dX5_common_51 (by decide) ?_
        exact ih  h M
      · have h := it_f c h
        refine s_aload_n C dX5_common_35 rfl rfl ?_
        refine s_iload_n C dX5_common_36 rfl rfl ?_
        refine s_aload_n C dX5_common_37 rfl rfl ?_
        refine s_getR (b := 176) C dX5_common_38 kk_163 foX5_24 rfl rk_163_9 ?_
        refine s_iload_n C dX5_common_41 rfl rfl ?_
        obtain ⟨hb, h⟩ := it_n h
        refine s_ald (q := x3.toNatClampNeg) C dX5_common_42 kk_176 (by decide) rfl hb ?_
        refine s_iconst C dX5_common_43 ic_0 ?_
        obtain ⟨r3, I3, hh, h⟩ := bd_e h
        refine s_cV0 (st := []) C M.rg (Nat.le_trans (by decide) hd) mwX5_of mlX5_62 dX5_common_44 (wX5_of (d := 1) (Nat.le_refl _)  hh) kk_163 rfl rfl (Nat.le_of_ble_eq_true rfl) ?_
        obtain ⟨rfl, rfl⟩ := pr_e h
        exact s_iret C M dX5_common_47 rfl rfl (Nat.le_refl 0) (Nat.le_refl 0)
theorem wX5_common {E : Ev} {d : Nat} (hd : 44 ≤ d) {x1 : Int32} {x2 : Int32} {I I' : Mm} {r : Int32}  (h : fX5_common x1 x2 I = some (r, I')) : SemM E d 0 0 mX5_common [rfE E 163, .int x1, .int x2] S0 I (some (.int r)) S0 I' := by
  unfold fX5_common at h
  refine SemM.ofX (E := E) (y := mX5_common) (args := fun E => [rfE E 163, .int x1, .int x2]) (r := fun E => (some (.int r))) (fun E => [some (rfE E 163), some (.int x1), some (.int x2), none]) (by decide +kernel) (Nat.le_of_ble_eq_true rfl) rfl (fun X C M => ?_)
  refine s_aload_n C dX5_common_0 rfl rfl ?_
  refine s_iload_n C dX5_common_1 rfl rfl ?_
  obtain ⟨r1, I1, hh, h⟩ := bd_e h
  refine s_cV0 (st := []) C M.rg (Nat.le_trans (by decide) hd) mwX5_listAll mlX5_100 dX5_common_2 (wX5_listAll (d := 43) (Nat.le_refl _)  hh) kk_163 rfl rfl (Nat.le_of_ble_eq_true rfl) ?_
  refine s_iconst C dX5_common_5 ic_0 ?_
  refine s_istore_n (ls' := [some (rfX X 163), some (.int x1), some (.int x2), some (.int 0)]) C dX5_common_6 rfl (by decide) (Nat.le_of_ble_eq_true rfl) rfl rfl ?_
  exact wX5_common_p7 hd C _  h M
theorem wX5_emptyStall_p2 {X : Cx} {d : Nat} (hd : 2 ≤ d) (C : CtxOK X mX5_emptyStall) : ∀ (n : Nat) {x1 : Int32} {x2 : Int32} {I I' : Mm} {r : Int32}  (_ : fX5_emptyStall_p2 n x1 x2 I = some (r, I')) (_ : MX X (xE X) d 0 0 (some (.int r)) S0 I'), WM X mX5_emptyStall 2 [some (rfX X 163), some (.int x1), some (.int x2)] [] S0 I 0 0 := by
  intro n
  induction n with
  | zero => intro x1 x2 I I' r  h M; exact absurd h (by simp [fX5_emptyStall_p2])
  | succ n ih =>
    intro x1 x2 I I' r  h M
    rw [fX5_emptyStall_p2] at h
    refine s_aload_n C dX5_emptyStall_2 rfl rfl ?_
    refine s_iload_n C dX5_emptyStall_3 rfl rfl ?_
    refine s_iload_n C dX5_emptyStall_4 rfl rfl ?_
    refine s_iconst C dX5_emptyStall_5 ic_0 ?_
    obtain ⟨r1, I1, hh, h⟩ := bd_e h
    refine s_cV0 (st := []) C M.rg (Nat.le_trans (by decide) hd) mwX5_of mlX5_62 dX5_emptyStall_6 (wX5_of (d := 1) (Nat.le_refl _)  hh) kk_163 rfl rfl (Nat.le_of_ble_eq_true rfl) ?_
    refine s_if_lt (tgt := 18) C dX5_emptyStall_9 (by decide) (fun c => ?_) (fun c => ?_)
    · have h := it_t c h
      refine s_iload_n C dX5_emptyStall_18 rfl rfl ?_
      obtain ⟨rfl, rfl⟩ := pr_e h
      exact s_iret C M dX5_emptyStall_19 rfl rfl (Nat.le_refl 0) (Nat.le_refl 0)
    · have h := it_f c h
      obtain ⟨v1, ev1, h⟩ := ltm_e h
      refine s_iinc (v := v1) (ls' := [some (rfX X 163), some (.int x1), some (.int v1)]) C dX5_emptyStall_12 rfl (by decide) (Nat.le_of_ble_eq_true rfl) (by rw [ev1, ic_1]) rfl rfl ?_
      refine s_goto (tgt := 2) C dX5_emptyStall_15 (by decide) ?_
      exact ih  h M
theorem wX5_emptyStall {E : Ev} {d : Nat} (hd : 2 ≤ d) {x1 : Int32} {I I' : Mm} {r : Int32}  (h : fX5_emptyStall x1 I = some (r, I')) : SemM E d 0 0 mX5_emptyStall [rfE E 163, .int x1] S0 I (some (.int r)) S0 I' := by
  unfold fX5_emptyStall at h
  refine SemM.ofX (E := E) (y := mX5_emptyStall) (args := fun E => [rfE E 163, .int x1]) (r := fun E => (some (.int r))) (fun E => [some (rfE E 163), some (.int x1), none]) (by decide +kernel) (Nat.le_of_ble_eq_true rfl) rfl (fun X C M => ?_)
  refine s_iconst C dX5_emptyStall_0 ic_0 ?_
  refine s_istore_n (ls' := [some (rfX X 163), some (.int x1), some (.int 0)]) C dX5_emptyStall_1 rfl (by decide) (Nat.le_of_ble_eq_true rfl) rfl rfl ?_
  exact wX5_emptyStall_p2 hd C _  h M
theorem wX5_enter {E : Ev} {d : Nat} (hd : 3 ≤ d) {x1 : Int32} {x2 : Int32} {x3 : Int32} {I I' : Mm} {r : Int32}  (h : fX5_enter x1 x2 x3 I = some (r, I')) : SemM E d 0 0 mX5_enter [rfE E 163, .int x1, .int x2, .int x3] S0 I (some (.int r)) S0 I' := by
  unfold fX5_enter at h
  refine SemM.ofX (E := E) (y := mX5_enter) (args := fun E => [rfE E 163, .int x1, .int x2, .int x3]) (r := fun E => (some (.int r))) (fun E => [some (rfE E 163), some (.int x1), some (.int x2), some (.int x3), none]) (by decide +kernel) (Nat.le_of_ble_eq_true rfl) rfl (fun X C M => ?_)
  refine s_aload_n C dX5_enter_0 rfl rfl ?_
  refine s_iload_n C dX5_enter_1 rfl rfl ?_
  obtain ⟨r1, I1, hh, h⟩ := bd_e h
  refine s_cV0 (st := []) C M.rg (Nat.le_trans (by decide) hd) mwX5_emptyStall mlX5_107 dX5_enter_2 (wX5_emptyStall (d := 2) (Nat.le_refl _)  hh) kk_163 rfl rfl (Nat.le_of_ble_eq_true rfl) ?_
  refine s_istore (ls' := [some (rfX X 163), some (.int x1), some (.int x2), some (.int x3), some (.int r1)]) C dX5_enter_5 (by decide) (Nat.le_of_ble_eq_true rfl) rfl rfl ?_
  refine s_aload_n C dX5_enter_7 rfl rfl ?_
  refine s_iload_n C dX5_enter_8 rfl rfl ?_
  refine s_iload C dX5_enter_9 rfl ?_
  refine s_iconst C dX5_enter_11 ic_0 ?_
  refine s_iload_n C dX5_enter_12 rfl rfl ?_
  obtain ⟨r2, I2, hh, h⟩ := bd_e h
  refine s_cV0 (st := []) C M.rg (Nat.le_trans (by decide) hd) mwX5_put mlX5_90 dX5_enter_13 (wX5_put (d := 1) (Nat.le_refl _)  hh) kk_163 rfl rfl (Nat.le_of_ble_eq_true rfl) ?_
  refine s_aload_n C dX5_enter_16 rfl rfl ?_
  refine s_iload_n C dX5_enter_17 rfl rfl ?_
  refine s_iload C dX5_enter_18 rfl ?_
  refine s_iconst C dX5_enter_20 ic_1 ?_
  refine s_iload_n C dX5_enter_21 rfl rfl ?_
  obtain ⟨r3, I3, hh, h⟩ := bd_e h
  refine s_cV0 (st := []) C M.rg (Nat.le_trans (by decide) hd) mwX5_put mlX5_90 dX5_enter_22 (wX5_put (d := 1) (Nat.le_refl _)  hh) kk_163 rfl rfl (Nat.le_of_ble_eq_true rfl) ?_
  refine s_aload_n C dX5_enter_25 rfl rfl ?_
  refine s_iload_n C dX5_enter_26 rfl rfl ?_
  refine s_iload C dX5_enter_27 rfl ?_
  refine s_iconst C dX5_enter_29 ic_2 ?_
  refine s_iconst C dX5_enter_30 ic_m1 ?_
  obtain ⟨r4, I4, hh, h⟩ := bd_e h
  refine s_cV0 (st := []) C M.rg (Nat.le_trans (by decide) hd) mwX5_put mlX5_90 dX5_enter_31 (wX5_put (d := 1) (Nat.le_refl _)  hh) kk_163 rfl rfl (Nat.le_of_ble_eq_true rfl) ?_
  refine s_aload_n C dX5_enter_34 rfl rfl ?_
  refine s_iload_n C dX5_enter_35 rfl rfl ?_
  refine s_iload C dX5_enter_36 rfl ?_
  refine s_iconst C dX5_enter_38 ic_3 ?_
  refine s_iconst C dX5_enter_39 ic_m1 ?_
  obtain ⟨r5, I5, hh, h⟩ := bd_e h
  refine s_cV0 (st := []) C M.rg (Nat.le_trans (by decide) hd) mwX5_put mlX5_90 dX5_enter_40 (wX5_put (d := 1) (Nat.le_refl _)  hh) kk_163 rfl rfl (Nat.le_of_ble_eq_true rfl) ?_
  refine s_iload C dX5_enter_43 rfl ?_
  obtain ⟨rfl, rfl⟩ := pr_e h
  exact s_iret C M dX5_enter_45 rfl rfl (Nat.le_refl 0) (Nat.le_refl 0)
theorem wX5_hang_p12 {X : Cx} {d : Nat} (hd : 2 ≤ d) (C : CtxOK X mX5_hang) : ∀ (n : Nat) {x1 : Int32} {x2 : Int32} {x3 : Int32} {x4 : Int32} {x5 : Int32} {I I' : Mm} {r : Unit}  (_ : fX5_hang_p12 n x1 x2 x3 x4 x5 I = some (r, I')) (_ : MX X (xE X) d 0 0 none S0 I'), WM X mX5_hang 12 [some (rfX X 163), some (.int x1), some (.int x2), some (.int x3), some (.int x4), some (.int x5)] [] S0 I 0 0 := by
  intro n
  induction n with
  | zero => intro x1 x2 x3 x4 x5 I I' r  h M; exact absurd h (by simp [fX5_hang_p12])
  | succ n ih =>
    intro x1 x2 x3 x4 x5 I I' r  h M
    rw [fX5_hang_p12] at h
    refine s_iload C dX5_hang_12 rfl ?_
    refine s_if_lt (tgt := 59) C dX5_hang_14 (by decide) (fun c => ?_) (fun c => ?_)
    · have h := it_t c h
      refine s_iload_n C dX5_hang_59 rfl rfl ?_
      refine s_if_ge (tgt := 72) C dX5_hang_60 (by decide) (fun c => ?_) (fun c => ?_)
      · have h := it_t c h
        refine s_aload_n C dX5_hang_72 rfl rfl ?_
        refine s_iload_n C dX5_hang_73 rfl rfl ?_
        refine s_iload_n C dX5_hang_74 rfl rfl ?_
        refine s_iload C dX5_hang_75 rfl ?_
        refine s_iload_n C dX5_hang_77 rfl rfl ?_
        obtain ⟨r1, I1, hh, h⟩ := bd_e h
        refine s_cV0 (st := []) C M.rg (Nat.le_trans (by decide) hd) mwX5_put mlX5_90 dX5_hang_78 (wX5_put (d := 1) (Nat.le_refl _)  hh) kk_163 rfl rfl (Nat.le_of_ble_eq_true rfl) ?_
        obtain ⟨rfl, rfl⟩ := pr_e h
        exact s_vret C M dX5_hang_81 rfl (Nat.le_refl 0) (Nat.le_refl 0)
      · have h := it_f c h
        refine s_aload_n C dX5_hang_63 rfl rfl ?_
        refine s_iload_n C dX5_hang_64 rfl rfl ?_
        refine s_iload_n C dX5_hang_65 rfl rfl ?_
        obtain ⟨r1, I1, hh, h⟩ := bd_e h
        refine s_cV0 (st := []) C M.rg (Nat.le_trans (by decide) hd) mwX5_setTop mlX5_94 dX5_hang_66 (wX5_setTop (d := 1) (Nat.le_refl _)  hh) kk_163 rfl rfl (Nat.le_of_ble_eq_true rfl) ?_
        refine s_goto (tgt := 81) C dX5_hang_69 (by decide) ?_
        obtain ⟨rfl, rfl⟩ := pr_e h
        exact s_vret C M dX5_hang_81 rfl (Nat.le_refl 0) (Nat.le_refl 0)
    · have h := it_f c h
      refine s_iload C dX5_hang_17 rfl ?_
      refine s_istore_n (ls' := [some (rfX X 163), some (.int x1), some (.int x2), some (.int x5), some (.int x4), some (.int x5)]) C dX5_hang_19 rfl (by decide) (Nat.le_of_ble_eq_true rfl) rfl rfl ?_
      refine s_aload_n C dX5_hang_20 rfl rfl ?_
      refine s_iload_n C dX5_hang_21 rfl rfl ?_
      refine s_iload_n C dX5_hang_22 rfl rfl ?_
      refine s_iconst C dX5_hang_23 ic_0 ?_
      obtain ⟨r1, I1, hh, h⟩ := bd_e h
      refine s_cV0 (st := []) C M.rg (Nat.le_trans (by decide) hd) mwX5_of mlX5_62 dX5_hang_24 (wX5_of (d := 1) (Nat.le_refl _)  hh) kk_163 rfl rfl (Nat.le_of_ble_eq_true rfl) ?_
      refine s_aload_n C dX5_hang_27 rfl rfl ?_
      refine s_iload_n C dX5_hang_28 rfl rfl ?_
      refine s_iload C dX5_hang_29 rfl ?_
      refine s_iconst C dX5_hang_31 ic_0 ?_
      obtain ⟨r2, I2, hh, h⟩ := bd_e h
      refine s_cV0 (st := [.int r1]) C M.rg (Nat.le_trans (by decide) hd) mwX5_of mlX5_62 dX5_hang_32 (wX5_of (d := 1) (Nat.le_refl _)  hh) kk_163 rfl rfl (Nat.le_of_ble_eq_true rfl) ?_
      refine s_icmp_ge (tgt := 42) C dX5_hang_35 (by decide) (fun c => ?_) (fun c => ?_)
      · have h := it_t c h
        refine s_iconst C dX5_hang_42 ic_3 ?_
        refine s_istore (ls' := [some (rfX X 163), some (.int x1), some (.int x2), some (.int x5), some (.int 3), some (.int x5)]) C dX5_hang_43 (by decide) (Nat.le_of_ble_eq_true rfl) rfl rfl ?_
        refine s_aload_n C dX5_hang_45 rfl rfl ?_
        refine s_iload_n C dX5_hang_46 rfl rfl ?_
        refine s_iload C dX5_hang_47 rfl ?_
        refine s_iload C dX5_hang_49 rfl ?_
        obtain ⟨r3, I3, hh, h⟩ := bd_e h
        refine s_cV0 (st := []) C M.rg (Nat.le_trans (by decide) hd) mwX5_of mlX5_62 dX5_hang_51 (wX5_of (d := 1) (Nat.le_refl _)  hh) kk_163 rfl rfl (Nat.le_of_ble_eq_true rfl) ?_
        refine s_istore (ls' := [some (rfX X 163), some (.int x1), some (.int x2), some (.int x5), some (.int 3), some (.int r3)]) C dX5_hang_54 (by decide) (Nat.le_of_ble_eq_true rfl) rfl rfl ?_
        refine s_goto (tgt := 12) C dX5_hang_56 (by decide) ?_
        exact ih  h M
      · have h := it_f c h
        refine s_iconst C dX5_hang_38 ic_2 ?_
        refine s_goto (tgt := 43) C dX5_hang_39 (by decide) ?_
        refine s_istore (ls' := [some (rfX X 163), some (.int x1), some (.int x2), some (.int x5), some (.int 2), some (.int x5)]) C dX5_hang_43 (by decide) (Nat.le_of_ble_eq_true rfl) rfl rfl ?_
        refine s_aload_n C dX5_hang_45 rfl rfl ?_
        refine s_iload_n C dX5_hang_46 rfl rfl ?_
        refine s_iload C dX5_hang_47 rfl ?_
        refine s_iload C dX5_hang_49 rfl ?_
        obtain ⟨r3, I3, hh, h⟩ := bd_e h
        refine s_cV0 (st := []) C M.rg (Nat.le_trans (by decide) hd) mwX5_of mlX5_62 dX5_hang_51 (wX5_of (d := 1) (Nat.le_refl _)  hh) kk_163 rfl rfl (Nat.le_of_ble_eq_true rfl) ?_
        refine s_istore (ls' := [some (rfX X 163), some (.int x1), some (.int x2), some (.int x5), some (.int 2), some (.int r3)]) C dX5_hang_54 (by decide) (Nat.le_of_ble_eq_true rfl) rfl rfl ?_
        refine s_goto (tgt := 12) C dX5_hang_56 (by decide) ?_
        exact ih  h M
theorem wX5_hang {E : Ev} {d : Nat} (hd : 2 ≤ d) {x1 : Int32} {x2 : Int32} {I I' : Mm} {r : Unit}  (h : fX5_hang x1 x2 I = some (r, I')) : SemM E d 0 0 mX5_hang [rfE E 163, .int x1, .int x2] S0 I none S0 I' := by
  unfold fX5_hang at h
  refine SemM.ofX (E := E) (y := mX5_hang) (args := fun E => [rfE E 163, .int x1, .int x2]) (r := fun E => none) (fun E => [some (rfE E 163), some (.int x1), some (.int x2), none, none, none]) (by decide +kernel) (Nat.le_of_ble_eq_true rfl) rfl (fun X C M => ?_)
  refine s_iconst C dX5_hang_0 ic_m1 ?_
  refine s_istore_n (ls' := [some (rfX X 163), some (.int x1), some (.int x2), some (.int (-1)), none, none]) C dX5_hang_1 rfl (by decide) (Nat.le_of_ble_eq_true rfl) rfl rfl ?_
  refine s_iconst C dX5_hang_2 ic_2 ?_
  refine s_istore (ls' := [some (rfX X 163), some (.int x1), some (.int x2), some (.int (-1)), some (.int 2), none]) C dX5_hang_3 (by decide) (Nat.le_of_ble_eq_true rfl) rfl rfl ?_
  refine s_aload_n C dX5_hang_5 rfl rfl ?_
  refine s_iload_n C dX5_hang_6 rfl rfl ?_
  obtain ⟨r1, I1, hh, h⟩ := bd_e h
  refine s_cV0 (st := []) C M.rg (Nat.le_trans (by decide) hd) mwX5_top mlX5_73 dX5_hang_7 (wX5_top (d := 1) (Nat.le_refl _)  hh) kk_163 rfl rfl (Nat.le_of_ble_eq_true rfl) ?_
  refine s_istore (ls' := [some (rfX X 163), some (.int x1), some (.int x2), some (.int (-1)), some (.int 2), some (.int r1)]) C dX5_hang_10 (by decide) (Nat.le_of_ble_eq_true rfl) rfl rfl ?_
  exact wX5_hang_p12 hd C _  h M
theorem wX5_pour_p131 {X : Cx} {d : Nat} (hd : 45 ≤ d) (C : CtxOK X mX5_pour) : ∀ (n : Nat) {x1 : Int32} {x2 : Int32} {x3 : Int32} {x5 : Int32} {I I' : Mm} {r : Int32}  (_ : fX5_pour_p131 n x1 x2 x3 x5 I = some (r, I')) (_ : MX X (xE X) d 0 0 (some (.int r)) S0 I'), WM X mX5_pour 131 [some (rfX X 163), some (.int x1), some (.int x2), some (.int x3), none, some (.int x5)] [] S0 I 0 0 := by
  intro n
  induction n with
  | zero => intro x1 x2 x3 x5 I I' r  h M; exact absurd h (by simp [fX5_pour_p131])
  | succ n ih =>
    intro x1 x2 x3 x5 I I' r  h M
    rw [fX5_pour_p131] at h
    refine s_iload C dX5_pour_131 rfl ?_
    refine s_bipush C dX5_pour_133 bi_30 ?_
    refine s_icmp_ge (tgt := 188) C dX5_pour_135 (by decide) (fun c => ?_) (fun c => ?_)
    · have h := it_t c h
      refine s_aload_n C dX5_pour_188 rfl rfl ?_
      refine s_iload_n C dX5_pour_189 rfl rfl ?_
      refine s_iconst C dX5_pour_190 ic_m1 ?_
      obtain ⟨r1, I1, hh, h⟩ := bd_e h
      refine s_cV0 (st := []) C M.rg (Nat.le_trans (by decide) hd) mwX5_setTop mlX5_94 dX5_pour_191 (wX5_setTop (d := 1) (Nat.le_refl _)  hh) kk_163 rfl rfl (Nat.le_of_ble_eq_true rfl) ?_
      refine s_aload_n C dX5_pour_194 rfl rfl ?_
      refine s_iload_n C dX5_pour_195 rfl rfl ?_
      refine s_iconst C dX5_pour_196 ic_0 ?_
      obtain ⟨r2, I2, hh, h⟩ := bd_e h
      refine s_cV0 (st := []) C M.rg (Nat.le_trans (by decide) hd) mwX5_setMost mlX5_104 dX5_pour_197 (wX5_setMost (d := 1) (Nat.le_refl _)  hh) kk_163 rfl rfl (Nat.le_of_ble_eq_true rfl) ?_
      refine s_aload_n C dX5_pour_200 rfl rfl ?_
      refine s_iload_n C dX5_pour_201 rfl rfl ?_
      obtain ⟨r3, I3, hh, h⟩ := bd_e h
      refine s_cV0 (st := []) C M.rg (Nat.le_trans (by decide) hd) mwX5_buildWhole mlX5_161 dX5_pour_202 (wX5_buildWhole (d := 44) (Nat.le_refl _)  hh) kk_163 rfl rfl (Nat.le_of_ble_eq_true rfl) ?_
      refine s_aload_n C dX5_pour_205 rfl rfl ?_
      refine s_getR (b := 164) C dX5_pour_206 kk_163 foX5_9 rfl rk_163_0 ?_
      refine s_bipush C dX5_pour_209 bi_6 ?_
      refine s_dup2 C dX5_pour_211 rfl rfl ?_
      refine s_ald (q := 6) C dX5_pour_212 kk_164 (by decide) (by decide) (by decide) ?_
      refine s_iconst C dX5_pour_213 ic_1 ?_
      refine s_iadd C dX5_pour_214 ?_
      obtain ⟨I4, eI4, h⟩ := ltm_e h
      refine s_ast (q := 6) C dX5_pour_215 kk_164 (by decide) (by decide) (by decide) eI4 ?_
      refine s_iload_n C dX5_pour_216 rfl rfl ?_
      obtain ⟨rfl, rfl⟩ := pr_e h
      exact s_iret C M dX5_pour_217 rfl rfl (Nat.le_refl 0) (Nat.le_refl 0)
    · have h := it_f c h
      refine s_aload_n C dX5_pour_138 rfl rfl ?_
      refine s_iload_n C dX5_pour_139 rfl rfl ?_
      refine s_iload C dX5_pour_140 rfl ?_
      refine s_iconst C dX5_pour_142 ic_0 ?_
      obtain ⟨r1, I1, hh, h⟩ := bd_e h
      refine s_cV0 (st := []) C M.rg (Nat.le_trans (by decide) hd) mwX5_of mlX5_62 dX5_pour_143 (wX5_of (d := 1) (Nat.le_refl _)  hh) kk_163 rfl rfl (Nat.le_of_ble_eq_true rfl) ?_
      refine s_if_lt (tgt := 182) C dX5_pour_146 (by decide) (fun c => ?_) (fun c => ?_)
      · have h := it_t c h
        obtain ⟨v1, ev1, h⟩ := ltm_e h
        refine s_iinc (v := v1) (ls' := [some (rfX X 163), some (.int x1), some (.int x2), some (.int x3), none, some (.int v1)]) C dX5_pour_182 rfl (by decide) (Nat.le_of_ble_eq_true rfl) (by rw [ev1, ic_1]) rfl rfl ?_
        refine s_goto (tgt := 131) C dX5_pour_185 (by decide) ?_
        exact ih  h M
      · have h := it_f c h
        refine s_aload_n C dX5_pour_149 rfl rfl ?_
        refine s_iload_n C dX5_pour_150 rfl rfl ?_
        refine s_aload_n C dX5_pour_151 rfl rfl ?_
        refine s_iload_n C dX5_pour_152 rfl rfl ?_
        refine s_aload_n C dX5_pour_153 rfl rfl ?_
        refine s_iload_n C dX5_pour_154 rfl rfl ?_
        refine s_iload C dX5_pour_155 rfl ?_
        refine s_iconst C dX5_pour_157 ic_0 ?_
        obtain ⟨r2, I2, hh, h⟩ := bd_e h
        refine s_cV0 (st := [.int x2, rfX X 163, .int x2, rfX X 163]) C M.rg (Nat.le_trans (by decide) hd) mwX5_of mlX5_62 dX5_pour_158 (wX5_of (d := 1) (Nat.le_refl _)  hh) kk_163 rfl rfl (Nat.le_of_ble_eq_true rfl) ?_
        refine s_aload_n C dX5_pour_161 rfl rfl ?_
        refine s_iload_n C dX5_pour_162 rfl rfl ?_
        refine s_iload C dX5_pour_163 rfl ?_
        refine s_iconst C dX5_pour_165 ic_1 ?_
        obtain ⟨r3, I3, hh, h⟩ := bd_e h
        refine s_cV0 (st := [.int r2, .int x2, rfX X 163, .int x2, rfX X 163]) C M.rg (Nat.le_trans (by decide) hd) mwX5_of mlX5_62 dX5_pour_166 (wX5_of (d := 1) (Nat.le_refl _)  hh) kk_163 rfl rfl (Nat.le_of_ble_eq_true rfl) ?_
        obtain ⟨r4, I4, hh, h⟩ := bd_e h
        refine s_cV0 (st := [.int x2, rfX X 163]) C M.rg (Nat.le_trans (by decide) hd) mwX5_enter mlX5_130 dX5_pour_169 (wX5_enter (d := 3) (Nat.le_refl _)  hh) kk_163 rfl rfl (Nat.le_of_ble_eq_true rfl) ?_
        obtain ⟨r5, I5, hh, h⟩ := bd_e h
        refine s_cV0 (st := []) C M.rg (Nat.le_trans (by decide) hd) mwX5_hang mlX5_133 dX5_pour_172 (wX5_hang (d := 2) (Nat.le_refl _)  hh) kk_163 rfl rfl (Nat.le_of_ble_eq_true rfl) ?_
        refine s_aload_n C dX5_pour_175 rfl rfl ?_
        refine s_iload_n C dX5_pour_176 rfl rfl ?_
        refine s_iload C dX5_pour_177 rfl ?_
        obtain ⟨r6, I6, hh, h⟩ := bd_e h
        refine s_cV0 (st := []) C M.rg (Nat.le_trans (by decide) hd) mwX5_clear mlX5_158 dX5_pour_179 (wX5_clear (d := 2) (Nat.le_refl _)  hh) kk_163 rfl rfl (Nat.le_of_ble_eq_true rfl) ?_
        obtain ⟨v1, ev1, h⟩ := ltm_e h
        refine s_iinc (v := v1) (ls' := [some (rfX X 163), some (.int x1), some (.int x2), some (.int x3), none, some (.int v1)]) C dX5_pour_182 rfl (by decide) (Nat.le_of_ble_eq_true rfl) (by rw [ev1, ic_1]) rfl rfl ?_
        refine s_goto (tgt := 131) C dX5_pour_185 (by decide) ?_
        exact ih  h M
theorem wX5_pour_p112 {X : Cx} {d : Nat} (hd : 45 ≤ d) (C : CtxOK X mX5_pour) {x1 : Int32} {x2 : Int32} {x3 : Int32} {x4 : Int32} {s1 : Int32} {I I' : Mm} {r : Int32}  (h : fX5_pour_p112 x1 x2 x3 x4 s1 I = some (r, I')) (M : MX X (xE X) d 0 0 (some (.int r)) S0 I') : WM X mX5_pour 112 [some (rfX X 163), some (.int x1), some (.int x2), some (.int x3), some (.int x4), none] [.int s1, rfX X 163] S0 I 0 0 := by
  unfold fX5_pour_p112 at h
  refine s_iconst C dX5_pour_112 ic_2 ?_
  refine s_iload C dX5_pour_113 rfl ?_
  obtain ⟨r1, I1, hh, h⟩ := bd_e h
  refine s_cV0 (st := []) C M.rg (Nat.le_trans (by decide) hd) mwX5_refuse mlX5_120 dX5_pour_115 (wX5_refuse (d := 1) (Nat.le_refl _)  hh) kk_163 rfl rfl (Nat.le_of_ble_eq_true rfl) ?_
  refine s_if_eq (tgt := 124) C dX5_pour_118 (by decide) (fun c => ?_) (fun c => ?_)
  · have h := it_t c h
    refine s_aload_n C dX5_pour_124 rfl rfl ?_
    obtain ⟨r2, I2, hh, h⟩ := bd_e h
    refine s_cV0 (st := []) C M.rg (Nat.le_trans (by decide) hd) mwX5_change mlX5_127 dX5_pour_125 (wX5_change (d := 3) (Nat.le_refl _)  hh) kk_163 rfl rfl (Nat.le_of_ble_eq_true rfl) ?_
    refine s_iconst C dX5_pour_128 ic_0 ?_
    refine s_istore (ls' := [some (rfX X 163), some (.int x1), some (.int x2), some (.int x3), some (.int x4), some (.int 0)]) C dX5_pour_129 (by decide) (Nat.le_of_ble_eq_true rfl) rfl rfl ?_
    refine s_weak (ls' := [some (rfX X 163), some (.int x1), some (.int x2), some (.int x3), none, some (.int 0)]) [true, true, true, true, false, true] rfl ?_
    exact wX5_pour_p131 hd C _  h M
  · have h := it_f c h
    refine s_bipush C dX5_pour_121 bi_m14 ?_
    obtain ⟨rfl, rfl⟩ := pr_e h
    exact s_iret C M dX5_pour_123 rfl rfl (Nat.le_refl 0) (Nat.le_refl 0)
theorem wX5_pour_p82 {X : Cx} {d : Nat} (hd : 45 ≤ d) (C : CtxOK X mX5_pour) {x1 : Int32} {x2 : Int32} {x3 : Int32} {s1 : Int32} {I I' : Mm} {r : Int32}  (h : fX5_pour_p82 x1 x2 x3 s1 I = some (r, I')) (M : MX X (xE X) d 0 0 (some (.int r)) S0 I') : WM X mX5_pour 82 [some (rfX X 163), some (.int x1), some (.int x2), some (.int x3), none, none] [.int s1, rfX X 163] S0 I 0 0 := by
  unfold fX5_pour_p82 at h
  refine s_iconst C dX5_pour_82 ic_1 ?_
  refine s_iload_n C dX5_pour_83 rfl rfl ?_
  obtain ⟨r1, I1, hh, h⟩ := bd_e h
  refine s_cV0 (st := []) C M.rg (Nat.le_trans (by decide) hd) mwX5_refuse mlX5_120 dX5_pour_84 (wX5_refuse (d := 1) (Nat.le_refl _)  hh) kk_163 rfl rfl (Nat.le_of_ble_eq_true rfl) ?_
  refine s_if_eq (tgt := 93) C dX5_pour_87 (by decide) (fun c => ?_) (fun c => ?_)
  · have h := it_t c h
    refine s_aload_n C dX5_pour_93 rfl rfl ?_
    refine s_iload_n C dX5_pour_94 rfl rfl ?_
    refine s_iload_n C dX5_pour_95 rfl rfl ?_
    obtain ⟨r2, I2, hh, h⟩ := bd_e h
    refine s_cV0 (st := []) C M.rg (Nat.le_trans (by decide) hd) mwX5_common mlX5_164 dX5_pour_96 (wX5_common (d := 44) (Nat.le_refl _)  hh) kk_163 rfl rfl (Nat.le_of_ble_eq_true rfl) ?_
    refine s_istore (ls' := [some (rfX X 163), some (.int x1), some (.int x2), some (.int x3), some (.int r2), none]) C dX5_pour_99 (by decide) (Nat.le_of_ble_eq_true rfl) rfl rfl ?_
    refine s_aload_n C dX5_pour_101 rfl rfl ?_
    refine s_iload C dX5_pour_102 rfl ?_
    refine s_if_lt (tgt := 111) C dX5_pour_104 (by decide) (fun c => ?_) (fun c => ?_)
    · have h := it_t c h
      refine s_iconst C dX5_pour_111 ic_0 ?_
      exact wX5_pour_p112 hd C  h M
    · have h := it_f c h
      refine s_iconst C dX5_pour_107 ic_1 ?_
      refine s_goto (tgt := 112) C dX5_pour_108 (by decide) ?_
      exact wX5_pour_p112 hd C  h M
  · have h := it_f c h
    refine s_bipush C dX5_pour_90 bi_m14 ?_
    obtain ⟨rfl, rfl⟩ := pr_e h
    exact s_iret C M dX5_pour_92 rfl rfl (Nat.le_refl 0) (Nat.le_refl 0)
theorem wX5_pour_p62 {X : Cx} {d : Nat} (hd : 45 ≤ d) (C : CtxOK X mX5_pour) {x1 : Int32} {x2 : Int32} {x3 : Int32} {s1 : Int32} {I I' : Mm} {r : Int32}  (h : fX5_pour_p62 x1 x2 x3 s1 I = some (r, I')) (M : MX X (xE X) d 0 0 (some (.int r)) S0 I') : WM X mX5_pour 62 [some (rfX X 163), some (.int x1), some (.int x2), some (.int x3), none, none] [.int s1, rfX X 163] S0 I 0 0 := by
  unfold fX5_pour_p62 at h
  refine s_iconst C dX5_pour_62 ic_5 ?_
  refine s_iload_n C dX5_pour_63 rfl rfl ?_
  obtain ⟨r1, I1, hh, h⟩ := bd_e h
  refine s_cV0 (st := []) C M.rg (Nat.le_trans (by decide) hd) mwX5_refuse mlX5_120 dX5_pour_64 (wX5_refuse (d := 1) (Nat.le_refl _)  hh) kk_163 rfl rfl (Nat.le_of_ble_eq_true rfl) ?_
  refine s_if_ne (tgt := 90) C dX5_pour_67 (by decide) (fun c => ?_) (fun c => ?_)
  · have h := it_f c h
    refine s_bipush C dX5_pour_90 bi_m14 ?_
    obtain ⟨rfl, rfl⟩ := pr_e h
    exact s_iret C M dX5_pour_92 rfl rfl (Nat.le_refl 0) (Nat.le_refl 0)
  · have h := it_t c h
    refine s_aload_n C dX5_pour_70 rfl rfl ?_
    refine s_iload_n C dX5_pour_71 rfl rfl ?_
    refine s_bipush C dX5_pour_72 bi_30 ?_
    refine s_icmp_le (tgt := 81) C dX5_pour_74 (by decide) (fun c => ?_) (fun c => ?_)
    · have h := it_t c h
      refine s_iconst C dX5_pour_81 ic_0 ?_
      exact wX5_pour_p82 hd C  h M
    · have h := it_f c h
      refine s_iconst C dX5_pour_77 ic_1 ?_
      refine s_goto (tgt := 82) C dX5_pour_78 (by decide) ?_
      exact wX5_pour_p82 hd C  h M
theorem wX5_pour_p40 {X : Cx} {d : Nat} (hd : 45 ≤ d) (C : CtxOK X mX5_pour) {x1 : Int32} {x2 : Int32} {x3 : Int32} {s1 : Int32} {I I' : Mm} {r : Int32}  (h : fX5_pour_p40 x1 x2 x3 s1 I = some (r, I')) (M : MX X (xE X) d 0 0 (some (.int r)) S0 I') : WM X mX5_pour 40 [some (rfX X 163), some (.int x1), some (.int x2), some (.int x3), none, none] [.int s1, rfX X 163] S0 I 0 0 := by
  unfold fX5_pour_p40 at h
  refine s_iconst C dX5_pour_40 ic_3 ?_
  refine s_iload_n C dX5_pour_41 rfl rfl ?_
  obtain ⟨r1, I1, hh, h⟩ := bd_e h
  refine s_cV0 (st := []) C M.rg (Nat.le_trans (by decide) hd) mwX5_refuse mlX5_120 dX5_pour_42 (wX5_refuse (d := 1) (Nat.le_refl _)  hh) kk_163 rfl rfl (Nat.le_of_ble_eq_true rfl) ?_
  refine s_if_ne (tgt := 90) C dX5_pour_45 (by decide) (fun c => ?_) (fun c => ?_)
  · have h := it_f c h
    refine s_bipush C dX5_pour_90 bi_m14 ?_
    obtain ⟨rfl, rfl⟩ := pr_e h
    exact s_iret C M dX5_pour_92 rfl rfl (Nat.le_refl 0) (Nat.le_refl 0)
  · have h := it_t c h
    refine s_aload_n C dX5_pour_48 rfl rfl ?_
    refine s_aload_n C dX5_pour_49 rfl rfl ?_
    refine s_iload_n C dX5_pour_50 rfl rfl ?_
    obtain ⟨r2, I2, hh, h⟩ := bd_e h
    refine s_cV0 (st := [rfX X 163]) C M.rg (Nat.le_trans (by decide) hd) mwX5_count mlX5_124 dX5_pour_51 (wX5_count (d := 43) (Nat.le_refl _)  hh) kk_163 rfl rfl (Nat.le_of_ble_eq_true rfl) ?_
    refine s_if_ne (tgt := 61) C dX5_pour_54 (by decide) (fun c => ?_) (fun c => ?_)
    · have h := it_f c h
      refine s_iconst C dX5_pour_61 ic_0 ?_
      exact wX5_pour_p62 hd C  h M
    · have h := it_t c h
      refine s_iconst C dX5_pour_57 ic_1 ?_
      refine s_goto (tgt := 62) C dX5_pour_58 (by decide) ?_
      exact wX5_pour_p62 hd C  h M
theorem wX5_pour {E : Ev} {d : Nat} (hd : 45 ≤ d) {x1 : Int32} {x2 : Int32} {I I' : Mm} {r : Int32}  (h : fX5_pour x1 x2 I = some (r, I')) : SemM E d 0 0 mX5_pour [rfE E 163, .int x1, .int x2] S0 I (some (.int r)) S0 I' := by
  unfold fX5_pour at h
  refine SemM.ofX (E := E) (y := mX5_pour) (args := fun E => [rfE E 163, .int x1, .int x2]) (r := fun E => (some (.int r))) (fun E => [some (rfE E 163), some (.int x1), some (.int x2), none, none, none]) (by decide +kernel) (Nat.le_of_ble_eq_true rfl) rfl (fun X C M => ?_)
  refine s_iload_n C dX5_pour_0 rfl rfl ?_
  obtain ⟨r1, I1, hh, h⟩ := bd_e h
  refine s_cS0 (st := []) C M.rg (Nat.le_trans (by decide) hd) mwX5_isRick mlX5_110 dX5_pour_1 (wX5_isRick (d := 2) (Nat.le_refl _)  hh) rfl rfl (Nat.le_of_ble_eq_true rfl) ?_
  refine s_if_eq (tgt := 14) C dX5_pour_4 (by decide) (fun c => ?_) (fun c => ?_)
  · have h := it_t c h
    refine s_bipush C dX5_pour_14 bi_m11 ?_
    obtain ⟨rfl, rfl⟩ := pr_e h
    exact s_iret C M dX5_pour_16 rfl rfl (Nat.le_refl 0) (Nat.le_refl 0)
  · have h := it_f c h
    refine s_iload_n C dX5_pour_7 rfl rfl ?_
    obtain ⟨r2, I2, hh, h⟩ := bd_e h
    refine s_cS0 (st := []) C M.rg (Nat.le_trans (by decide) hd) mwX5_isRick mlX5_110 dX5_pour_8 (wX5_isRick (d := 2) (Nat.le_refl _)  hh) rfl rfl (Nat.le_of_ble_eq_true rfl) ?_
    refine s_if_ne (tgt := 17) C dX5_pour_11 (by decide) (fun c => ?_) (fun c => ?_)
    · have h := it_f c h
      refine s_aload_n C dX5_pour_17 rfl rfl ?_
      refine s_iload_n C dX5_pour_18 rfl rfl ?_
      obtain ⟨r3, I3, hh, h⟩ := bd_e h
      refine s_cV0 (st := []) C M.rg (Nat.le_trans (by decide) hd) mwX5_count mlX5_124 dX5_pour_19 (wX5_count (d := 43) (Nat.le_refl _)  hh) kk_163 rfl rfl (Nat.le_of_ble_eq_true rfl) ?_
      refine s_aload_n C dX5_pour_22 rfl rfl ?_
      refine s_iload_n C dX5_pour_23 rfl rfl ?_
      obtain ⟨r4, I4, hh, h⟩ := bd_e h
      refine s_cV0 (st := [.int r3]) C M.rg (Nat.le_trans (by decide) hd) mwX5_count mlX5_124 dX5_pour_24 (wX5_count (d := 43) (Nat.le_refl _)  hh) kk_163 rfl rfl (Nat.le_of_ble_eq_true rfl) ?_
      refine s_iadd C dX5_pour_27 ?_
      obtain ⟨v1, ev1, h⟩ := ltm_e h
      refine s_top_i ev1 ?_
      refine s_istore_n (ls' := [some (rfX X 163), some (.int x1), some (.int x2), some (.int v1), none, none]) C dX5_pour_28 rfl (by decide) (Nat.le_of_ble_eq_true rfl) rfl rfl ?_
      refine s_aload_n C dX5_pour_29 rfl rfl ?_
      refine s_iload_n C dX5_pour_30 rfl rfl ?_
      refine s_iload_n C dX5_pour_31 rfl rfl ?_
      refine s_icmp_ne (tgt := 39) C dX5_pour_32 (by decide) (fun c => ?_) (fun c => ?_)
      · have h := it_f c h
        refine s_iconst C dX5_pour_39 ic_0 ?_
        exact wX5_pour_p40 hd C  h M
      · have h := it_t c h
        refine s_iconst C dX5_pour_35 ic_1 ?_
        refine s_goto (tgt := 40) C dX5_pour_36 (by decide) ?_
        exact wX5_pour_p40 hd C  h M
    · have h := it_t c h
      refine s_bipush C dX5_pour_14 bi_m11 ?_
      obtain ⟨rfl, rfl⟩ := pr_e h
      exact s_iret C M dX5_pour_16 rfl rfl (Nat.le_refl 0) (Nat.le_refl 0)
theorem wX5_isWeight {E : Ev} {d : Nat} (hd : 2 ≤ d) {x0 : Int32} {I I' : Mm} {r : Int32}  (h : fX5_isWeight x0 I = some (r, I')) : SemM E d 0 0 mX5_isWeight [.int x0] S0 I (some (.int r)) S0 I' := by
  unfold fX5_isWeight at h
  refine SemM.ofX (E := E) (y := mX5_isWeight) (args := fun E => [.int x0]) (r := fun E => (some (.int r))) (fun E => [some (.int x0)]) (by decide +kernel) (Nat.le_of_ble_eq_true rfl) rfl (fun X C M => ?_)
  refine s_iload_n C dX5_isWeight_0 rfl rfl ?_
  refine s_iconst C dX5_isWeight_1 ic_0 ?_
  refine s_sipush C dX5_isWeight_2 si_999 ?_
  obtain ⟨r1, I1, hh, h⟩ := bd_e h
  refine s_cS0 (st := []) C M.rg (Nat.le_trans (by decide) hd) mwX5_isBetween mlX5_58 dX5_isWeight_5 (wX5_isBetween (d := 1) (Nat.le_refl _)  hh) rfl rfl (Nat.le_of_ble_eq_true rfl) ?_
  obtain ⟨hz, h⟩ := it_s h
  obtain ⟨rfl, rfl⟩ := pr_e h
  exact s_iret C M dX5_isWeight_8 rfl (nz_b hz) (Nat.le_refl 0) (Nat.le_refl 0)
theorem wX5_leans {E : Ev} {d : Nat} (hd : 43 ≤ d) {x1 : Int32} {x2 : Int32} {I I' : Mm} {r : Int32}  (h : fX5_leans x1 x2 I = some (r, I')) : SemM E d 0 0 mX5_leans [rfE E 163, .int x1, .int x2] S0 I (some (.int r)) S0 I' := by
  unfold fX5_leans at h
  refine SemM.ofX (E := E) (y := mX5_leans) (args := fun E => [rfE E 163, .int x1, .int x2]) (r := fun E => (some (.int r))) (fun E => [some (rfE E 163), some (.int x1), some (.int x2), none, none, none]) (by decide +kernel) (Nat.le_of_ble_eq_true rfl) rfl (fun X C M => ?_)
  refine s_aload_n C dX5_leans_0 rfl rfl ?_
  refine s_iload_n C dX5_leans_1 rfl rfl ?_
  refine s_aload_n C dX5_leans_2 rfl rfl ?_
  refine s_iload_n C dX5_leans_3 rfl rfl ?_
  refine s_iload_n C dX5_leans_4 rfl rfl ?_
  refine s_iconst C dX5_leans_5 ic_2 ?_
  obtain ⟨r1, I1, hh, h⟩ := bd_e h
  refine s_cV0 (st := [.int x1, rfX X 163]) C M.rg (Nat.le_trans (by decide) hd) mwX5_of mlX5_62 dX5_leans_6 (wX5_of (d := 1) (Nat.le_refl _)  hh) kk_163 rfl rfl (Nat.le_of_ble_eq_true rfl) ?_
  obtain ⟨r2, I2, hh, h⟩ := bd_e h
  refine s_cV0 (st := []) C M.rg (Nat.le_trans (by decide) hd) mwX5_size mlX5_66 dX5_leans_9 (wX5_size _ (d := 42) (Nat.le_refl _)  hh) kk_163 rfl rfl (Nat.le_of_ble_eq_true rfl) ?_
  refine s_istore_n (ls' := [some (rfX X 163), some (.int x1), some (.int x2), some (.int r2), none, none]) C dX5_leans_12 rfl (by decide) (Nat.le_of_ble_eq_true rfl) rfl rfl ?_
  refine s_aload_n C dX5_leans_13 rfl rfl ?_
  refine s_iload_n C dX5_leans_14 rfl rfl ?_
  refine s_aload_n C dX5_leans_15 rfl rfl ?_
  refine s_iload_n C dX5_leans_16 rfl rfl ?_
  refine s_iload_n C dX5_leans_17 rfl rfl ?_
  refine s_iconst C dX5_leans_18 ic_3 ?_
  obtain ⟨r3, I3, hh, h⟩ := bd_e h
  refine s_cV0 (st := [.int x1, rfX X 163]) C M.rg (Nat.le_trans (by decide) hd) mwX5_of mlX5_62 dX5_leans_19 (wX5_of (d := 1) (Nat.le_refl _)  hh) kk_163 rfl rfl (Nat.le_of_ble_eq_true rfl) ?_
  obtain ⟨r4, I4, hh, h⟩ := bd_e h
  refine s_cV0 (st := []) C M.rg (Nat.le_trans (by decide) hd) mwX5_size mlX5_66 dX5_leans_22 (wX5_size _ (d := 42) (Nat.le_refl _)  hh) kk_163 rfl rfl (Nat.le_of_ble_eq_true rfl) ?_
  refine s_istore (ls' := [some (rfX X 163), some (.int x1), some (.int x2), some (.int r2), some (.int r4), none]) C dX5_leans_25 (by decide) (Nat.le_of_ble_eq_true rfl) rfl rfl ?_
  refine s_iload_n C dX5_leans_27 rfl rfl ?_
  refine s_iload C dX5_leans_28 rfl ?_
  refine s_iadd C dX5_leans_30 ?_
  refine s_iconst C dX5_leans_31 ic_1 ?_
  refine s_iadd C dX5_leans_32 ?_
  obtain ⟨v1, ev1, h⟩ := ltm_e h
  refine s_top_i ev1 ?_
  refine s_istore (ls' := [some (rfX X 163), some (.int x1), some (.int x2), some (.int r2), some (.int r4), some (.int v1)]) C dX5_leans_33 (by decide) (Nat.le_of_ble_eq_true rfl) rfl rfl ?_
  refine s_bipush C dX5_leans_35 bi_100 ?_
  refine s_iload_n C dX5_leans_37 rfl rfl ?_
  refine s_imul C dX5_leans_38 ?_
  refine s_aload_n C dX5_leans_39 rfl rfl ?_
  refine s_getR (b := 164) C dX5_leans_40 kk_163 foX5_9 rfl rk_163_0 ?_
  refine s_iconst C dX5_leans_43 ic_0 ?_
  refine s_ald (q := 0) C dX5_leans_44 kk_164 (by decide) (by decide) (by decide) ?_
  refine s_iload C dX5_leans_45 rfl ?_
  refine s_imul C dX5_leans_47 ?_
  refine s_icmp_gt (tgt := 68) C dX5_leans_48 (by decide) (fun c => ?_) (fun c => ?_)
  · have h := it_t c h
    refine s_iconst C dX5_leans_68 ic_1 ?_
    refine s_goto (tgt := 73) C dX5_leans_69 (by decide) ?_
    obtain ⟨rfl, rfl⟩ := pr_e h
    exact s_iret C M dX5_leans_73 rfl (nz_b (by decide)) (Nat.le_refl 0) (Nat.le_refl 0)
  · have h := it_f c h
    refine s_bipush C dX5_leans_51 bi_100 ?_
    refine s_iload C dX5_leans_53 rfl ?_
    refine s_imul C dX5_leans_55 ?_
    refine s_aload_n C dX5_leans_56 rfl rfl ?_
    refine s_getR (b := 164) C dX5_leans_57 kk_163 foX5_9 rfl rk_163_0 ?_
    refine s_iconst C dX5_leans_60 ic_0 ?_
    refine s_ald (q := 0) C dX5_leans_61 kk_164 (by decide) (by decide) (by decide) ?_
    refine s_iload C dX5_leans_62 rfl ?_
    refine s_imul C dX5_leans_64 ?_
    refine s_icmp_le (tgt := 72) C dX5_leans_65 (by decide) (fun c => ?_) (fun c => ?_)
    · have h := it_t c h
      refine s_iconst C dX5_leans_72 ic_0 ?_
      obtain ⟨rfl, rfl⟩ := pr_e h
      exact s_iret C M dX5_leans_73 rfl (nz_b (by decide)) (Nat.le_refl 0) (Nat.le_refl 0)
    · have h := it_f c h
      refine s_iconst C dX5_leans_68 ic_1 ?_
      refine s_goto (tgt := 73) C dX5_leans_69 (by decide) ?_
      obtain ⟨rfl, rfl⟩ := pr_e h
      exact s_iret C M dX5_leans_73 rfl (nz_b (by decide)) (Nat.le_refl 0) (Nat.le_refl 0)
theorem wX5_mayHave_p14 {X : Cx} {d : Nat} (hd : 1 ≤ d) (C : CtxOK X mX5_mayHave) : ∀ (n : Nat) {x2 : Int32} {x3 : Int32} {I I' : Mm} {r : Int32}  (_ : fX5_mayHave_p14 n x2 x3 I = some (r, I')) (_ : MX X (xE X) d 0 0 (some (.int r)) S0 I'), WM X mX5_mayHave 14 [some (rfX X 163), none, some (.int x2), some (.int x3)] [] S0 I 0 0 := by
  intro n
  induction n with
  | zero => intro x2 x3 I I' r  h M; exact absurd h (by simp [fX5_mayHave_p14])
  | succ n ih =>
    intro x2 x3 I I' r  h M
    rw [fX5_mayHave_p14] at h
    refine s_iload_n C dX5_mayHave_14 rfl rfl ?_
    refine s_if_le (tgt := 36) C dX5_mayHave_15 (by decide) (fun c => ?_) (fun c => ?_)
    · have h := it_t c h
      refine s_iload_n C dX5_mayHave_36 rfl rfl ?_
      obtain ⟨rfl, rfl⟩ := pr_e h
      exact s_iret C M dX5_mayHave_37 rfl rfl (Nat.le_refl 0) (Nat.le_refl 0)
    · have h := it_f c h
      obtain ⟨v1, ev1, h⟩ := ltm_e h
      refine s_iinc (v := v1) (ls' := [some (rfX X 163), none, some (.int v1), some (.int x3)]) C dX5_mayHave_18 rfl (by decide) (Nat.le_of_ble_eq_true rfl) (by rw [ev1, ic_1]) rfl rfl ?_
      refine s_iload_n C dX5_mayHave_21 rfl rfl ?_
      refine s_aload_n C dX5_mayHave_22 rfl rfl ?_
      refine s_getR (b := 164) C dX5_mayHave_23 kk_163 foX5_9 rfl rk_163_0 ?_
      refine s_iconst C dX5_mayHave_26 ic_0 ?_
      refine s_ald (q := 0) C dX5_mayHave_27 kk_164 (by decide) (by decide) (by decide) ?_
      refine s_imul C dX5_mayHave_28 ?_
      refine s_bipush C dX5_mayHave_29 bi_100 ?_
      refine s_idiv C dX5_mayHave_31 (by decide) ?_
      obtain ⟨v2, ev2, h⟩ := ltm_e h
      refine s_top_i ev2 ?_
      refine s_istore_n (ls' := [some (rfX X 163), none, some (.int v1), some (.int v2)]) C dX5_mayHave_32 rfl (by decide) (Nat.le_of_ble_eq_true rfl) rfl rfl ?_
      refine s_goto (tgt := 14) C dX5_mayHave_33 (by decide) ?_
      exact ih  h M
theorem wX5_mayHave {E : Ev} {d : Nat} (hd : 1 ≤ d) {x1 : Int32} {I I' : Mm} {r : Int32}  (h : fX5_mayHave x1 I = some (r, I')) : SemM E d 0 0 mX5_mayHave [rfE E 163, .int x1] S0 I (some (.int r)) S0 I' := by
  unfold fX5_mayHave at h
  refine SemM.ofX (E := E) (y := mX5_mayHave) (args := fun E => [rfE E 163, .int x1]) (r := fun E => (some (.int r))) (fun E => [some (rfE E 163), some (.int x1), none, none]) (by decide +kernel) (Nat.le_of_ble_eq_true rfl) rfl (fun X C M => ?_)
  refine s_iconst C dX5_mayHave_0 ic_0 ?_
  refine s_istore_n (ls' := [some (rfX X 163), some (.int x1), some (.int 0), none]) C dX5_mayHave_1 rfl (by decide) (Nat.le_of_ble_eq_true rfl) rfl rfl ?_
  refine s_iload_n C dX5_mayHave_2 rfl rfl ?_
  refine s_aload_n C dX5_mayHave_3 rfl rfl ?_
  refine s_getR (b := 164) C dX5_mayHave_4 kk_163 foX5_9 rfl rk_163_0 ?_
  refine s_iconst C dX5_mayHave_7 ic_0 ?_
  refine s_ald (q := 0) C dX5_mayHave_8 kk_164 (by decide) (by decide) (by decide) ?_
  refine s_imul C dX5_mayHave_9 ?_
  refine s_bipush C dX5_mayHave_10 bi_100 ?_
  refine s_idiv C dX5_mayHave_12 (by decide) ?_
  obtain ⟨v1, ev1, h⟩ := ltm_e h
  refine s_top_i ev1 ?_
  refine s_istore_n (ls' := [some (rfX X 163), some (.int x1), some (.int 0), some (.int v1)]) C dX5_mayHave_13 rfl (by decide) (Nat.le_of_ble_eq_true rfl) rfl rfl ?_
  refine s_weak (ls' := [some (rfX X 163), none, some (.int 0), some (.int v1)]) [true, false, true, true] rfl ?_
  exact wX5_mayHave_p14 hd C _  h M
theorem wX5_most {E : Ev} {d : Nat} (hd : 1 ≤ d) {x1 : Int32} {I I' : Mm} {r : Int32}  (h : fX5_most x1 I = some (r, I')) : SemM E d 0 0 mX5_most [rfE E 163, .int x1] S0 I (some (.int r)) S0 I' := by
  unfold fX5_most at h
  refine SemM.ofX (E := E) (y := mX5_most) (args := fun E => [rfE E 163, .int x1]) (r := fun E => (some (.int r))) (fun E => [some (rfE E 163), some (.int x1)]) (by decide +kernel) (Nat.le_of_ble_eq_true rfl) rfl (fun X C M => ?_)
  refine s_aload_n C dX5_most_0 rfl rfl ?_
  refine s_getR (b := 164) C dX5_most_1 kk_163 foX5_9 rfl rk_163_0 ?_
  refine s_bipush C dX5_most_4 bi_7 ?_
  refine s_bipush C dX5_most_6 bi_122 ?_
  refine s_iload_n C dX5_most_8 rfl rfl ?_
  refine s_imul C dX5_most_9 ?_
  refine s_iadd C dX5_most_10 ?_
  refine s_iconst C dX5_most_11 ic_1 ?_
  refine s_iadd C dX5_most_12 ?_
  obtain ⟨hb, h⟩ := it_n h
  refine s_ald (q := ((7 + (122 * x1)) + 1).toNatClampNeg) C dX5_most_13 kk_164 (by decide) rfl hb ?_
  obtain ⟨rfl, rfl⟩ := pr_e h
  exact s_iret C M dX5_most_14 rfl rfl (Nat.le_refl 0) (Nat.le_refl 0)
