theorem wL_digest {E : Ev} {d : Nat} (hd : 45 ≤ d)  {I I' : Mm} {r : Int64}  (h : fL_digest  I = some (r, I')) : SemM E d 0 0 mL_digest [rfE E 0] S0 I (some (.long r)) S0 I' := by
  unfold fL_digest at h
  refine SemM.ofX (E := E) (y := mL_digest) (args := fun E => [rfE E 0]) (r := fun E => (some (.long r))) (fun E => [some (rfE E 0), none, none, none, none, none]) (by decide +kernel) (Nat.le_of_ble_eq_true rfl) rfl (fun X C M => ?_)
  refine s_ldc2 C dL_digest_0 coL_74 ?_
  refine s_lstore_n (ls' := [some (rfX X 0), some (.long 7), none, none, none, none]) C dL_digest_3 rfl (by decide) (Nat.le_of_ble_eq_true rfl) rfl rfl ?_
  refine s_iconst C dL_digest_4 ic_0 ?_
  refine s_istore_n (ls' := [some (rfX X 0), some (.long 7), none, some (.int 0), none, none]) C dL_digest_5 rfl (by decide) (Nat.le_of_ble_eq_true rfl) rfl rfl ?_
  exact wL_digest_p6 hd C _  h M
theorem wX1_lighterByParts_p15 {X : Cx} {d : Nat} (hd : 3 ≤ d) (C : CtxOK X mX1_lighterByParts) : ∀ (n : Nat) {x0 : Nat} {x1 : Int32} {x2 : Int32} {x3 : Int32} {x4 : Int32} {x5 : Int32} {I I' : Mm} {r : Int32} (hx0 : kd0 x0 = 1) (_ : fX1_lighterByParts_p15 n x0 x1 x2 x3 x4 x5 I = some (r, I')) (_ : MX X (xE X) d 0 0 (some (.int r)) S0 I'), WM X mX1_lighterByParts 15 [some (rfX X x0), some (.int x1), some (.int x2), some (.int x3), some (.int x4), some (.int x5), none] [] S0 I 0 0 := by
  intro n
  induction n with
  | zero => intro x0 x1 x2 x3 x4 x5 I I' r hx0 h M; exact absurd h (by simp [fX1_lighterByParts_p15])
  | succ n ih =>
    intro x0 x1 x2 x3 x4 x5 I I' r hx0 h M
    rw [fX1_lighterByParts_p15] at h
    refine s_iload C dX1_lighterByParts_15 rfl ?_
    refine s_bipush C dX1_lighterByParts_17 bi_30 ?_
    refine s_icmp_ge (tgt := 76) C dX1_lighterByParts_19 (by decide) (fun c => ?_) (fun c => ?_)
    · have h := it_t c h
      refine s_iload_n C dX1_lighterByParts_76 rfl rfl ?_
      obtain ⟨rfl, rfl⟩ := pr_e h
      exact s_iret C M dX1_lighterByParts_77 rfl rfl (Nat.le_refl 0) (Nat.le_refl 0)
    · have h := it_f c h
      refine s_iload_n C dX1_lighterByParts_22 rfl rfl ?_
      refine s_iload C dX1_lighterByParts_23 rfl ?_
      refine s_icmp_gt (tgt := 76) C dX1_lighterByParts_25 (by decide) (fun c => ?_) (fun c => ?_)
      · have h := it_t c h
        refine s_iload_n C dX1_lighterByParts_76 rfl rfl ?_
        obtain ⟨rfl, rfl⟩ := pr_e h
        exact s_iret C M dX1_lighterByParts_77 rfl rfl (Nat.le_refl 0) (Nat.le_refl 0)
      · have h := it_f c h
        refine s_aload_n C dX1_lighterByParts_28 rfl rfl ?_
        refine s_iload_n C dX1_lighterByParts_29 rfl rfl ?_
        refine s_iload C dX1_lighterByParts_30 rfl ?_
        obtain ⟨r1, I1, hh, h⟩ := bd_e h
        refine s_cV0 (st := []) C M.rg (Nat.le_trans (by decide) hd) mwX1_topOf mlX1_55 dX1_lighterByParts_32 (wX1_topOf (d := 2) (Nat.le_refl _) hx0 hh) hx0 rfl rfl (Nat.le_of_ble_eq_true rfl) ?_
        refine s_istore (ls' := [some (rfX X x0), some (.int x1), some (.int x2), some (.int x3), some (.int x4), some (.int x5), some (.int r1)]) C dX1_lighterByParts_35 (by decide) (Nat.le_of_ble_eq_true rfl) rfl rfl ?_
        refine s_aload_n C dX1_lighterByParts_37 rfl rfl ?_
        refine s_iload C dX1_lighterByParts_38 rfl ?_
        obtain ⟨r2, I2, hh, h⟩ := bd_e h
        refine s_cV0 (st := []) C M.rg (Nat.le_trans (by decide) hd) mwX1_weightAt mlX1_25 dX1_lighterByParts_40 (wX1_weightAt (d := 1) (Nat.le_refl _) hx0 hh) hx0 rfl rfl (Nat.le_of_ble_eq_true rfl) ?_
        refine s_iload_n C dX1_lighterByParts_43 rfl rfl ?_
        refine s_icmp_ge (tgt := 64) C dX1_lighterByParts_44 (by decide) (fun c => ?_) (fun c => ?_)
        · have h := it_t c h
          refine s_iload C dX1_lighterByParts_64 rfl ?_
          refine s_iconst C dX1_lighterByParts_66 ic_1 ?_
          refine s_isub C dX1_lighterByParts_67 ?_
          obtain ⟨v1, ev1, h⟩ := ltm_e h
          refine s_top_i ev1 ?_
          refine s_istore (ls' := [some (rfX X x0), some (.int x1), some (.int x2), some (.int x3), some (.int v1), some (.int x5), some (.int r1)]) C dX1_lighterByParts_68 (by decide) (Nat.le_of_ble_eq_true rfl) rfl rfl ?_
          obtain ⟨v2, ev2, h⟩ := ltm_e h
          refine s_iinc (v := v2) (ls' := [some (rfX X x0), some (.int x1), some (.int x2), some (.int x3), some (.int v1), some (.int v2), some (.int r1)]) C dX1_lighterByParts_70 rfl (by decide) (Nat.le_of_ble_eq_true rfl) (by rw [ev2, ic_1]) rfl rfl ?_
          refine s_goto (tgt := 15) C dX1_lighterByParts_73 (by decide) ?_
          refine s_weak (ls' := [some (rfX X x0), some (.int x1), some (.int x2), some (.int x3), some (.int v1), some (.int v2), none]) [true, true, true, true, true, true, false] rfl ?_
          exact ih hx0 h M
        · have h := it_f c h
          refine s_iload_n C dX1_lighterByParts_47 rfl rfl ?_
          refine s_iload C dX1_lighterByParts_48 rfl ?_
          refine s_iload_n C dX1_lighterByParts_50 rfl rfl ?_
          refine s_isub C dX1_lighterByParts_51 ?_
          refine s_iconst C dX1_lighterByParts_52 ic_1 ?_
          refine s_iadd C dX1_lighterByParts_53 ?_
          refine s_iadd C dX1_lighterByParts_54 ?_
          obtain ⟨v1, ev1, h⟩ := ltm_e h
          refine s_top_i ev1 ?_
          refine s_istore_n (ls' := [some (rfX X x0), some (.int x1), some (.int v1), some (.int x3), some (.int x4), some (.int x5), some (.int r1)]) C dX1_lighterByParts_55 rfl (by decide) (Nat.le_of_ble_eq_true rfl) rfl rfl ?_
          refine s_iload C dX1_lighterByParts_56 rfl ?_
          refine s_iconst C dX1_lighterByParts_58 ic_1 ?_
          refine s_iadd C dX1_lighterByParts_59 ?_
          obtain ⟨v2, ev2, h⟩ := ltm_e h
          refine s_top_i ev2 ?_
          refine s_istore_n (ls' := [some (rfX X x0), some (.int x1), some (.int v1), some (.int v2), some (.int x4), some (.int x5), some (.int r1)]) C dX1_lighterByParts_60 rfl (by decide) (Nat.le_of_ble_eq_true rfl) rfl rfl ?_
          refine s_goto (tgt := 70) C dX1_lighterByParts_61 (by decide) ?_
          obtain ⟨v3, ev3, h⟩ := ltm_e h
          refine s_iinc (v := v3) (ls' := [some (rfX X x0), some (.int x1), some (.int v1), some (.int v2), some (.int x4), some (.int v3), some (.int r1)]) C dX1_lighterByParts_70 rfl (by decide) (Nat.le_of_ble_eq_true rfl) (by rw [ev3, ic_1]) rfl rfl ?_
          refine s_goto (tgt := 15) C dX1_lighterByParts_73 (by decide) ?_
          refine s_weak (ls' := [some (rfX X x0), some (.int x1), some (.int v1), some (.int v2), some (.int x4), some (.int v3), none]) [true, true, true, true, true, true, false] rfl ?_
          exact ih hx0 h M
theorem wX1_lighterByParts {E : Ev} {d : Nat} (hd : 3 ≤ d) {x0 : Nat} {x1 : Int32} {I I' : Mm} {r : Int32} (hx0 : kd0 x0 = 1) (h : fX1_lighterByParts x0 x1 I = some (r, I')) : SemM E d 0 0 mX1_lighterByParts [rfE E x0, .int x1] S0 I (some (.int r)) S0 I' := by
  unfold fX1_lighterByParts at h
  refine SemM.ofX (E := E) (y := mX1_lighterByParts) (args := fun E => [rfE E x0, .int x1]) (r := fun E => (some (.int r))) (fun E => [some (rfE E x0), some (.int x1), none, none, none, none, none]) (by decide +kernel) (Nat.le_of_ble_eq_true rfl) rfl (fun X C M => ?_)
  refine s_iconst C dX1_lighterByParts_0 ic_0 ?_
  refine s_istore_n (ls' := [some (rfX X x0), some (.int x1), some (.int 0), none, none, none, none]) C dX1_lighterByParts_1 rfl (by decide) (Nat.le_of_ble_eq_true rfl) rfl rfl ?_
  refine s_iconst C dX1_lighterByParts_2 ic_0 ?_
  refine s_istore_n (ls' := [some (rfX X x0), some (.int x1), some (.int 0), some (.int 0), none, none, none]) C dX1_lighterByParts_3 rfl (by decide) (Nat.le_of_ble_eq_true rfl) rfl rfl ?_
  refine s_aload_n C dX1_lighterByParts_4 rfl rfl ?_
  refine s_getI C dX1_lighterByParts_5 hx0 foX1_21 rfl ?_
  refine s_iconst C dX1_lighterByParts_8 ic_1 ?_
  refine s_isub C dX1_lighterByParts_9 ?_
  obtain ⟨v1, ev1, h⟩ := ltm_e h
  refine s_top_i ev1 ?_
  refine s_istore (ls' := [some (rfX X x0), some (.int x1), some (.int 0), some (.int 0), some (.int v1), none, none]) C dX1_lighterByParts_10 (by decide) (Nat.le_of_ble_eq_true rfl) rfl rfl ?_
  refine s_iconst C dX1_lighterByParts_12 ic_0 ?_
  refine s_istore (ls' := [some (rfX X x0), some (.int x1), some (.int 0), some (.int 0), some (.int v1), some (.int 0), none]) C dX1_lighterByParts_13 (by decide) (Nat.le_of_ble_eq_true rfl) rfl rfl ?_
  exact wX1_lighterByParts_p15 hd C _ hx0 h M
theorem wX4_rank {E : Ev} {d : Nat} (hd : 4 ≤ d) {x1 : Int32} {x2 : Int32} {I I' : Mm} {r : Int32}  (h : fX4_rank x1 x2 I = some (r, I')) : SemM E d 0 0 mX4_rank [rfE E 0, .int x1, .int x2] S0 I (some (.int r)) S0 I' := by
  unfold fX4_rank at h
  refine SemM.ofX (E := E) (y := mX4_rank) (args := fun E => [rfE E 0, .int x1, .int x2]) (r := fun E => (some (.int r))) (fun E => [some (rfE E 0), some (.int x1), some (.int x2), none]) (by decide +kernel) (Nat.le_of_ble_eq_true rfl) rfl (fun X C M => ?_)
  refine s_aload_n C dX4_rank_0 rfl rfl ?_
  refine s_getR (b := 1) C dX4_rank_1 kk_0 foX4_10 rfl rk_0_0 ?_
  refine s_iload_n C dX4_rank_4 rfl rfl ?_
  obtain ⟨r1, I1, hh, h⟩ := bd_e h
  refine s_cV0 (st := []) C M.rg (Nat.le_trans (by decide) hd) mwX3_rickAt mlX4_71 dX4_rank_5 (wX3_rickAt (d := 1) (Nat.le_refl _) kk_1 hh) kk_1 rfl rfl (Nat.le_of_ble_eq_true rfl) ?_
  refine s_astore_no (ls' := [some (rfX X 0), some (.int x1), some (.int x2), some (rvE (xE X) r1)]) C dX4_rank_8 rfl (by decide) (Nat.le_of_ble_eq_true rfl) rfl rfl ?_
  refine s_aload_no C dX4_rank_9 rfl rfl ?_
  cases r1 with
  | none =>
    have h := on_n h
    refine s_ifnonnullN C dX4_rank_10 ?_
    refine s_bipush C dX4_rank_13 bi_m11 ?_
    refine s_goto (tgt := 23) C dX4_rank_15 (by decide) ?_
    obtain ⟨rfl, rfl⟩ := pr_e h
    exact s_iret C M dX4_rank_23 rfl rfl (Nat.le_refl 0) (Nat.le_refl 0)
  | some q1 =>
    obtain ⟨hq1, h⟩ := it_s (on_s h)
    refine s_ifnonnull (tgt := 18) C dX4_rank_10 (by decide) ?_
    refine s_aload_n C dX4_rank_18 rfl rfl ?_
    refine s_iload_n C dX4_rank_19 rfl rfl ?_
    obtain ⟨r2, I2, hh, h⟩ := bd_e h
    refine s_cV0 (st := []) C M.rg (Nat.le_trans (by decide) hd) mwX1_lighterByParts mlX4_133 dX4_rank_20 (wX1_lighterByParts (d := 3) (Nat.le_refl _) hq1 hh) hq1 rfl rfl (Nat.le_of_ble_eq_true rfl) ?_
    obtain ⟨rfl, rfl⟩ := pr_e h
    exact s_iret C M dX4_rank_23 rfl rfl (Nat.le_refl 0) (Nat.le_refl 0)
theorem wX4_rankAgain {E : Ev} {d : Nat} (hd : 3 ≤ d) {x1 : Int32} {x2 : Int32} {I I' : Mm} {r : Int32}  (h : fX4_rankAgain x1 x2 I = some (r, I')) : SemM E d 0 0 mX4_rankAgain [rfE E 0, .int x1, .int x2] S0 I (some (.int r)) S0 I' := by
  unfold fX4_rankAgain at h
  refine SemM.ofX (E := E) (y := mX4_rankAgain) (args := fun E => [rfE E 0, .int x1, .int x2]) (r := fun E => (some (.int r))) (fun E => [some (rfE E 0), some (.int x1), some (.int x2), none]) (by decide +kernel) (Nat.le_of_ble_eq_true rfl) rfl (fun X C M => ?_)
  refine s_aload_n C dX4_rankAgain_0 rfl rfl ?_
  refine s_getR (b := 1) C dX4_rankAgain_1 kk_0 foX4_10 rfl rk_0_0 ?_
  refine s_iload_n C dX4_rankAgain_4 rfl rfl ?_
  obtain ⟨r1, I1, hh, h⟩ := bd_e h
  refine s_cV0 (st := []) C M.rg (Nat.le_trans (by decide) hd) mwX3_rickAt mlX4_71 dX4_rankAgain_5 (wX3_rickAt (d := 1) (Nat.le_refl _) kk_1 hh) kk_1 rfl rfl (Nat.le_of_ble_eq_true rfl) ?_
  refine s_astore_no (ls' := [some (rfX X 0), some (.int x1), some (.int x2), some (rvE (xE X) r1)]) C dX4_rankAgain_8 rfl (by decide) (Nat.le_of_ble_eq_true rfl) rfl rfl ?_
  refine s_aload_no C dX4_rankAgain_9 rfl rfl ?_
  cases r1 with
  | none =>
    have h := on_n h
    refine s_ifnonnullN C dX4_rankAgain_10 ?_
    refine s_bipush C dX4_rankAgain_13 bi_m11 ?_
    refine s_goto (tgt := 23) C dX4_rankAgain_15 (by decide) ?_
    obtain ⟨rfl, rfl⟩ := pr_e h
    exact s_iret C M dX4_rankAgain_23 rfl rfl (Nat.le_refl 0) (Nat.le_refl 0)
  | some q1 =>
    obtain ⟨hq1, h⟩ := it_s (on_s h)
    refine s_ifnonnull (tgt := 18) C dX4_rankAgain_10 (by decide) ?_
    refine s_aload_n C dX4_rankAgain_18 rfl rfl ?_
    refine s_iload_n C dX4_rankAgain_19 rfl rfl ?_
    obtain ⟨r2, I2, hh, h⟩ := bd_e h
    refine s_cV0 (st := []) C M.rg (Nat.le_trans (by decide) hd) mwX1_lighterOneByOne mlX4_136 dX4_rankAgain_20 (wX1_lighterOneByOne (d := 2) (Nat.le_refl _) hq1 hh) hq1 rfl rfl (Nat.le_of_ble_eq_true rfl) ?_
    obtain ⟨rfl, rfl⟩ := pr_e h
    exact s_iret C M dX4_rankAgain_23 rfl rfl (Nat.le_refl 0) (Nat.le_refl 0)
theorem wL_isSheaf_p335 {X : Cx} {d : Nat} (hd : 6 ≤ d) (C : CtxOK X mL_isSheaf) {x1 : Int32} {x2 : Int32} {x3 : Int32} {s0 : Int32} {I I' : Mm} {r : Int32}  (h : fL_isSheaf_p335 x1 x2 x3 s0 I = some (r, I')) (M : MX X (xE X) d 0 0 (some (.int r)) S0 I') : WM X mL_isSheaf 335 [some (rfX X 0), some (.int x1), some (.int x2), some (.int x3), none, none, none, none, none, none, none, none] [.int s0] S0 I 0 0 := by
  unfold fL_isSheaf_p335 at h
  refine s_istore (ls' := [some (rfX X 0), some (.int x1), some (.int x2), some (.int x3), none, none, none, none, none, none, none, some (.int s0)]) C dL_isSheaf_335 (by decide) (Nat.le_of_ble_eq_true rfl) rfl rfl ?_
  refine s_iload C dL_isSheaf_337 rfl ?_
  refine s_if_eq (tgt := 396) C dL_isSheaf_339 (by decide) (fun c => ?_) (fun c => ?_)
  · have h := it_t c h
    refine s_iconst C dL_isSheaf_396 ic_0 ?_
    obtain ⟨rfl, rfl⟩ := pr_e h
    exact s_iret C M dL_isSheaf_397 rfl (nz_b (by decide)) (Nat.le_refl 0) (Nat.le_refl 0)
  · have h := it_f c h
    refine s_aload_n C dL_isSheaf_342 rfl rfl ?_
    refine s_iload_n C dL_isSheaf_343 rfl rfl ?_
    refine s_iload_n C dL_isSheaf_344 rfl rfl ?_
    obtain ⟨r1, I1, hh, h⟩ := bd_e h
    refine s_cV0 (st := []) C M.rg (Nat.le_trans (by decide) hd) mwX4_rank mlL_91 dL_isSheaf_345 (wX4_rank (d := 4) (Nat.le_refl _)  hh) kk_0 rfl rfl (Nat.le_of_ble_eq_true rfl) ?_
    refine s_iload_n C dL_isSheaf_348 rfl rfl ?_
    refine s_icmp_ne (tgt := 396) C dL_isSheaf_349 (by decide) (fun c => ?_) (fun c => ?_)
    · have h := it_f c h
      refine s_iconst C dL_isSheaf_396 ic_0 ?_
      obtain ⟨rfl, rfl⟩ := pr_e h
      exact s_iret C M dL_isSheaf_397 rfl (nz_b (by decide)) (Nat.le_refl 0) (Nat.le_refl 0)
    · have h := it_t c h
      refine s_aload_n C dL_isSheaf_352 rfl rfl ?_
      refine s_iload_n C dL_isSheaf_353 rfl rfl ?_
      refine s_iload_n C dL_isSheaf_354 rfl rfl ?_
      obtain ⟨r2, I2, hh, h⟩ := bd_e h
      refine s_cV0 (st := []) C M.rg (Nat.le_trans (by decide) hd) mwX4_rankAgain mlL_94 dL_isSheaf_355 (wX4_rankAgain (d := 3) (Nat.le_refl _)  hh) kk_0 rfl rfl (Nat.le_of_ble_eq_true rfl) ?_
      refine s_iload_n C dL_isSheaf_358 rfl rfl ?_
      refine s_icmp_ne (tgt := 396) C dL_isSheaf_359 (by decide) (fun c => ?_) (fun c => ?_)
      · have h := it_f c h
        refine s_iconst C dL_isSheaf_396 ic_0 ?_
        obtain ⟨rfl, rfl⟩ := pr_e h
        exact s_iret C M dL_isSheaf_397 rfl (nz_b (by decide)) (Nat.le_refl 0) (Nat.le_refl 0)
      · have h := it_t c h
        refine s_aload_n C dL_isSheaf_362 rfl rfl ?_
        refine s_iload_n C dL_isSheaf_363 rfl rfl ?_
        refine s_iload_n C dL_isSheaf_364 rfl rfl ?_
        refine s_iconst C dL_isSheaf_365 ic_1 ?_
        refine s_iadd C dL_isSheaf_366 ?_
        obtain ⟨r3, I3, hh, h⟩ := bd_e h
        refine s_cV0 (st := []) C M.rg (Nat.le_trans (by decide) hd) mwX4_rank mlL_91 dL_isSheaf_367 (wX4_rank (d := 4) (Nat.le_refl _)  hh) kk_0 rfl rfl (Nat.le_of_ble_eq_true rfl) ?_
        refine s_iload_n C dL_isSheaf_370 rfl rfl ?_
        refine s_iconst C dL_isSheaf_371 ic_1 ?_
        refine s_iadd C dL_isSheaf_372 ?_
        refine s_icmp_ne (tgt := 396) C dL_isSheaf_373 (by decide) (fun c => ?_) (fun c => ?_)
        · have h := it_f c h
          refine s_iconst C dL_isSheaf_396 ic_0 ?_
          obtain ⟨rfl, rfl⟩ := pr_e h
          exact s_iret C M dL_isSheaf_397 rfl (nz_b (by decide)) (Nat.le_refl 0) (Nat.le_refl 0)
        · have h := it_t c h
          refine s_iload_n C dL_isSheaf_376 rfl rfl ?_
          refine s_if_eq (tgt := 392) C dL_isSheaf_377 (by decide) (fun c => ?_) (fun c => ?_)
          · have h := it_t c h
            refine s_iconst C dL_isSheaf_392 ic_1 ?_
            refine s_goto (tgt := 397) C dL_isSheaf_393 (by decide) ?_
            obtain ⟨rfl, rfl⟩ := pr_e h
            exact s_iret C M dL_isSheaf_397 rfl (nz_b (by decide)) (Nat.le_refl 0) (Nat.le_refl 0)
          · have h := it_f c h
            refine s_aload_n C dL_isSheaf_380 rfl rfl ?_
            refine s_iload_n C dL_isSheaf_381 rfl rfl ?_
            refine s_iload_n C dL_isSheaf_382 rfl rfl ?_
            refine s_iconst C dL_isSheaf_383 ic_1 ?_
            refine s_isub C dL_isSheaf_384 ?_
            obtain ⟨r4, I4, hh, h⟩ := bd_e h
            refine s_cV0 (st := []) C M.rg (Nat.le_trans (by decide) hd) mwX4_at mlL_37 dL_isSheaf_385 (wX4_at (d := 2) (Nat.le_refl _)  hh) kk_0 rfl rfl (Nat.le_of_ble_eq_true rfl) ?_
            refine s_iload_n C dL_isSheaf_388 rfl rfl ?_
            refine s_icmp_ge (tgt := 396) C dL_isSheaf_389 (by decide) (fun c => ?_) (fun c => ?_)
            · have h := it_t c h
              refine s_iconst C dL_isSheaf_396 ic_0 ?_
              obtain ⟨rfl, rfl⟩ := pr_e h
              exact s_iret C M dL_isSheaf_397 rfl (nz_b (by decide)) (Nat.le_refl 0) (Nat.le_refl 0)
            · have h := it_f c h
              refine s_iconst C dL_isSheaf_392 ic_1 ?_
              refine s_goto (tgt := 397) C dL_isSheaf_393 (by decide) ?_
              obtain ⟨rfl, rfl⟩ := pr_e h
              exact s_iret C M dL_isSheaf_397 rfl (nz_b (by decide)) (Nat.le_refl 0) (Nat.le_refl 0)
theorem wL_isSheaf_p330 {X : Cx} {d : Nat} (hd : 6 ≤ d) (C : CtxOK X mL_isSheaf) {x1 : Int32} {x2 : Int32} {x3 : Int32} {I I' : Mm} {r : Int32}  (h : fL_isSheaf_p330 x1 x2 x3 I = some (r, I')) (M : MX X (xE X) d 0 0 (some (.int r)) S0 I') : WM X mL_isSheaf 330 [some (rfX X 0), some (.int x1), some (.int x2), some (.int x3), none, none, none, none, none, none, none, none] [] S0 I 0 0 := by
  unfold fL_isSheaf_p330 at h
  refine s_iconst C dL_isSheaf_330 ic_1 ?_
  refine s_goto (tgt := 335) C dL_isSheaf_331 (by decide) ?_
  exact wL_isSheaf_p335 hd C  h M
theorem wL_isSheaf_p334 {X : Cx} {d : Nat} (hd : 6 ≤ d) (C : CtxOK X mL_isSheaf) {x1 : Int32} {x2 : Int32} {x3 : Int32} {I I' : Mm} {r : Int32}  (h : fL_isSheaf_p334 x1 x2 x3 I = some (r, I')) (M : MX X (xE X) d 0 0 (some (.int r)) S0 I') : WM X mL_isSheaf 334 [some (rfX X 0), some (.int x1), some (.int x2), some (.int x3), none, none, none, none, none, none, none, none] [] S0 I 0 0 := by
  unfold fL_isSheaf_p334 at h
  refine s_iconst C dL_isSheaf_334 ic_0 ?_
  exact wL_isSheaf_p335 hd C  h M
theorem wL_isSheaf_p273 {X : Cx} {d : Nat} (hd : 6 ≤ d) (C : CtxOK X mL_isSheaf) {x1 : Int32} {x2 : Int32} {x3 : Int32} {x6 : Int32} {s0 : Int32} {I I' : Mm} {r : Int32}  (h : fL_isSheaf_p273 x1 x2 x3 x6 s0 I = some (r, I')) (M : MX X (xE X) d 0 0 (some (.int r)) S0 I') : WM X mL_isSheaf 273 [some (rfX X 0), some (.int x1), some (.int x2), some (.int x3), none, none, some (.int x6), none, none, none, none, none] [.int s0] S0 I 0 0 := by
  unfold fL_isSheaf_p273 at h
  refine s_istore (ls' := [some (rfX X 0), some (.int x1), some (.int x2), some (.int x3), none, none, some (.int x6), none, none, none, none, some (.int s0)]) C dL_isSheaf_273 (by decide) (Nat.le_of_ble_eq_true rfl) rfl rfl ?_
  refine s_iload C dL_isSheaf_275 rfl ?_
  refine s_if_eq (tgt := 334) C dL_isSheaf_277 (by decide) (fun c => ?_) (fun c => ?_)
  · have h := it_t c h
    refine s_weak (ls' := [some (rfX X 0), some (.int x1), some (.int x2), some (.int x3), none, none, none, none, none, none, none, none]) [true, true, true, true, false, false, false, false, false, false, false, false] rfl ?_
    exact wL_isSheaf_p334 hd C  h M
  · have h := it_f c h
    refine s_iload C dL_isSheaf_280 rfl ?_
    refine s_bipush C dL_isSheaf_282 bi_m15 ?_
    refine s_icmp_ne (tgt := 310) C dL_isSheaf_284 (by decide) (fun c => ?_) (fun c => ?_)
    · have h := it_f c h
      refine s_aload_n C dL_isSheaf_310 rfl rfl ?_
      refine s_iload_n C dL_isSheaf_311 rfl rfl ?_
      refine s_iload_n C dL_isSheaf_312 rfl rfl ?_
      refine s_iconst C dL_isSheaf_313 ic_1 ?_
      obtain ⟨r1, I1, hh, h⟩ := bd_e h
      refine s_cV0 (st := []) C M.rg (Nat.le_trans (by decide) hd) mwX4_sheafOf mlL_85 dL_isSheaf_314 (wX4_sheafOf (d := 4) (Nat.le_refl _)  hh) kk_0 rfl rfl (Nat.le_of_ble_eq_true rfl) ?_
      refine s_aload_n C dL_isSheaf_317 rfl rfl ?_
      refine s_iload_n C dL_isSheaf_318 rfl rfl ?_
      refine s_iload C dL_isSheaf_319 rfl ?_
      refine s_iconst C dL_isSheaf_321 ic_1 ?_
      obtain ⟨r2, I2, hh, h⟩ := bd_e h
      refine s_cV0 (st := [.int r1]) C M.rg (Nat.le_trans (by decide) hd) mwX4_sheafOf mlL_85 dL_isSheaf_322 (wX4_sheafOf (d := 4) (Nat.le_refl _)  hh) kk_0 rfl rfl (Nat.le_of_ble_eq_true rfl) ?_
      refine s_iconst C dL_isSheaf_325 ic_1 ?_
      refine s_iadd C dL_isSheaf_326 ?_
      refine s_icmp_ne (tgt := 334) C dL_isSheaf_327 (by decide) (fun c => ?_) (fun c => ?_)
      · have h := it_f c h
        refine s_weak (ls' := [some (rfX X 0), some (.int x1), some (.int x2), some (.int x3), none, none, none, none, none, none, none, none]) [true, true, true, true, false, false, false, false, false, false, false, false] rfl ?_
        exact wL_isSheaf_p334 hd C  h M
      · have h := it_t c h
        refine s_weak (ls' := [some (rfX X 0), some (.int x1), some (.int x2), some (.int x3), none, none, none, none, none, none, none, none]) [true, true, true, true, false, false, false, false, false, false, false, false] rfl ?_
        exact wL_isSheaf_p330 hd C  h M
    · have h := it_t c h
      refine s_aload_n C dL_isSheaf_287 rfl rfl ?_
      refine s_iload_n C dL_isSheaf_288 rfl rfl ?_
      refine s_iload_n C dL_isSheaf_289 rfl rfl ?_
      refine s_iconst C dL_isSheaf_290 ic_1 ?_
      obtain ⟨r1, I1, hh, h⟩ := bd_e h
      refine s_cV0 (st := []) C M.rg (Nat.le_trans (by decide) hd) mwX4_sheafOf mlL_85 dL_isSheaf_291 (wX4_sheafOf (d := 4) (Nat.le_refl _)  hh) kk_0 rfl rfl (Nat.le_of_ble_eq_true rfl) ?_
      refine s_if_ne (tgt := 334) C dL_isSheaf_294 (by decide) (fun c => ?_) (fun c => ?_)
      · have h := it_f c h
        refine s_weak (ls' := [some (rfX X 0), some (.int x1), some (.int x2), some (.int x3), none, none, none, none, none, none, none, none]) [true, true, true, true, false, false, false, false, false, false, false, false] rfl ?_
        exact wL_isSheaf_p334 hd C  h M
      · have h := it_t c h
        refine s_aload_n C dL_isSheaf_297 rfl rfl ?_
        refine s_iload_n C dL_isSheaf_298 rfl rfl ?_
        refine s_iconst C dL_isSheaf_299 ic_2 ?_
        obtain ⟨r2, I2, hh, h⟩ := bd_e h
        refine s_cV0 (st := []) C M.rg (Nat.le_trans (by decide) hd) mwX4_rickOf mlL_28 dL_isSheaf_300 (wX4_rickOf (d := 5) (Nat.le_refl _)  hh) kk_0 rfl rfl (Nat.le_of_ble_eq_true rfl) ?_
        refine s_iload_n C dL_isSheaf_303 rfl rfl ?_
        refine s_icmp_ne (tgt := 334) C dL_isSheaf_304 (by decide) (fun c => ?_) (fun c => ?_)
        · have h := it_f c h
          refine s_weak (ls' := [some (rfX X 0), some (.int x1), some (.int x2), some (.int x3), none, none, none, none, none, none, none, none]) [true, true, true, true, false, false, false, false, false, false, false, false] rfl ?_
          exact wL_isSheaf_p334 hd C  h M
        · have h := it_t c h
          refine s_goto (tgt := 330) C dL_isSheaf_307 (by decide) ?_
          refine s_weak (ls' := [some (rfX X 0), some (.int x1), some (.int x2), some (.int x3), none, none, none, none, none, none, none, none]) [true, true, true, true, false, false, false, false, false, false, false, false] rfl ?_
          exact wL_isSheaf_p330 hd C  h M
theorem wL_isSheaf_p272 {X : Cx} {d : Nat} (hd : 6 ≤ d) (C : CtxOK X mL_isSheaf) {x1 : Int32} {x2 : Int32} {x3 : Int32} {x6 : Int32} {I I' : Mm} {r : Int32}  (h : fL_isSheaf_p272 x1 x2 x3 x6 I = some (r, I')) (M : MX X (xE X) d 0 0 (some (.int r)) S0 I') : WM X mL_isSheaf 272 [some (rfX X 0), some (.int x1), some (.int x2), some (.int x3), none, none, some (.int x6), none, none, none, none, none] [] S0 I 0 0 := by
  unfold fL_isSheaf_p272 at h
  refine s_iconst C dL_isSheaf_272 ic_0 ?_
  exact wL_isSheaf_p273 hd C  h M
theorem wL_isSheaf_p265 {X : Cx} {d : Nat} (hd : 6 ≤ d) (C : CtxOK X mL_isSheaf) {x1 : Int32} {x2 : Int32} {x3 : Int32} {x6 : Int32} {s0 : Int32} {s1 : Int32} {I I' : Mm} {r : Int32}  (h : fL_isSheaf_p265 x1 x2 x3 x6 s0 s1 I = some (r, I')) (M : MX X (xE X) d 0 0 (some (.int r)) S0 I') : WM X mL_isSheaf 265 [some (rfX X 0), some (.int x1), some (.int x2), some (.int x3), none, none, some (.int x6), none, none, none, none, none] [.int s1, .int s0] S0 I 0 0 := by
  unfold fL_isSheaf_p265 at h
  refine s_icmp_ne (tgt := 272) C dL_isSheaf_265 (by decide) (fun c => ?_) (fun c => ?_)
  · have h := it_f c h
    exact wL_isSheaf_p272 hd C  h M
  · have h := it_t c h
    refine s_iconst C dL_isSheaf_268 ic_1 ?_
    refine s_goto (tgt := 273) C dL_isSheaf_269 (by decide) ?_
    exact wL_isSheaf_p273 hd C  h M
theorem wL_isSheaf_p246 {X : Cx} {d : Nat} (hd : 6 ≤ d) (C : CtxOK X mL_isSheaf) {x1 : Int32} {x2 : Int32} {x3 : Int32} {x6 : Int32} {x9 : Int32} {x10 : Int32} {s0 : Int32} {I I' : Mm} {r : Int32}  (h : fL_isSheaf_p246 x1 x2 x3 x6 x9 x10 s0 I = some (r, I')) (M : MX X (xE X) d 0 0 (some (.int r)) S0 I') : WM X mL_isSheaf 246 [some (rfX X 0), some (.int x1), some (.int x2), some (.int x3), none, none, some (.int x6), none, none, some (.int x9), some (.int x10), none] [.int s0] S0 I 0 0 := by
  unfold fL_isSheaf_p246 at h
  refine s_iload C dL_isSheaf_246 rfl ?_
  refine s_aload_n C dL_isSheaf_248 rfl rfl ?_
  refine s_bipush C dL_isSheaf_249 bi_8 ?_
  obtain ⟨r1, I1, hh, h⟩ := bd_e h
  refine s_cV0 (st := [.int x10, .int s0]) C M.rg (Nat.le_trans (by decide) hd) mwX4_account mlL_78 dL_isSheaf_251 (wX4_account (d := 4) (Nat.le_refl _)  hh) kk_0 rfl rfl (Nat.le_of_ble_eq_true rfl) ?_
  refine s_iload C dL_isSheaf_254 rfl ?_
  refine s_imul C dL_isSheaf_256 ?_
  refine s_icmp_le (tgt := 264) C dL_isSheaf_257 (by decide) (fun c => ?_) (fun c => ?_)
  · have h := it_t c h
    refine s_iconst C dL_isSheaf_264 ic_0 ?_
    refine s_weak (ls' := [some (rfX X 0), some (.int x1), some (.int x2), some (.int x3), none, none, some (.int x6), none, none, none, none, none]) [true, true, true, true, false, false, true, false, false, false, false, false] rfl ?_
    exact wL_isSheaf_p265 hd C  h M
  · have h := it_f c h
    refine s_iconst C dL_isSheaf_260 ic_1 ?_
    refine s_goto (tgt := 265) C dL_isSheaf_261 (by decide) ?_
    refine s_weak (ls' := [some (rfX X 0), some (.int x1), some (.int x2), some (.int x3), none, none, some (.int x6), none, none, none, none, none]) [true, true, true, true, false, false, true, false, false, false, false, false] rfl ?_
    exact wL_isSheaf_p265 hd C  h M
theorem wL_isSheaf_p230 {X : Cx} {d : Nat} (hd : 6 ≤ d) (C : CtxOK X mL_isSheaf) {x1 : Int32} {x2 : Int32} {x3 : Int32} {x6 : Int32} {x9 : Int32} {x10 : Int32} {I I' : Mm} {r : Int32}  (h : fL_isSheaf_p230 x1 x2 x3 x6 x9 x10 I = some (r, I')) (M : MX X (xE X) d 0 0 (some (.int r)) S0 I') : WM X mL_isSheaf 230 [some (rfX X 0), some (.int x1), some (.int x2), some (.int x3), none, none, some (.int x6), none, none, some (.int x9), some (.int x10), none] [] S0 I 0 0 := by
  unfold fL_isSheaf_p230 at h
  refine s_aload_n C dL_isSheaf_230 rfl rfl ?_
  refine s_iload_n C dL_isSheaf_231 rfl rfl ?_
  refine s_iload_n C dL_isSheaf_232 rfl rfl ?_
  refine s_iconst C dL_isSheaf_233 ic_4 ?_
  obtain ⟨r1, I1, hh, h⟩ := bd_e h
  refine s_cV0 (st := []) C M.rg (Nat.le_trans (by decide) hd) mwX4_sheafOf mlL_85 dL_isSheaf_234 (wX4_sheafOf (d := 4) (Nat.le_refl _)  hh) kk_0 rfl rfl (Nat.le_of_ble_eq_true rfl) ?_
  refine s_iconst C dL_isSheaf_237 ic_1 ?_
  refine s_icmp_ne (tgt := 245) C dL_isSheaf_238 (by decide) (fun c => ?_) (fun c => ?_)
  · have h := it_f c h
    refine s_iconst C dL_isSheaf_245 ic_0 ?_
    exact wL_isSheaf_p246 hd C  h M
  · have h := it_t c h
    refine s_iconst C dL_isSheaf_241 ic_1 ?_
    refine s_goto (tgt := 246) C dL_isSheaf_242 (by decide) ?_
    exact wL_isSheaf_p246 hd C  h M
theorem wL_isSheaf_p205 {X : Cx} {d : Nat} (hd : 6 ≤ d) (C : CtxOK X mL_isSheaf) {x1 : Int32} {x2 : Int32} {x3 : Int32} {x5 : Int32} {x6 : Int32} {x9 : Int32} {x10 : Int32} {I I' : Mm} {r : Int32}  (h : fL_isSheaf_p205 x1 x2 x3 x5 x6 x9 x10 I = some (r, I')) (M : MX X (xE X) d 0 0 (some (.int r)) S0 I') : WM X mL_isSheaf 205 [some (rfX X 0), some (.int x1), some (.int x2), some (.int x3), none, some (.int x5), some (.int x6), none, none, some (.int x9), some (.int x10), none] [] S0 I 0 0 := by
  unfold fL_isSheaf_p205 at h
  refine s_iload C dL_isSheaf_205 rfl ?_
  refine s_bipush C dL_isSheaf_207 bi_m15 ?_
  refine s_icmp_eq (tgt := 230) C dL_isSheaf_209 (by decide) (fun c => ?_) (fun c => ?_)
  · have h := it_t c h
    refine s_weak (ls' := [some (rfX X 0), some (.int x1), some (.int x2), some (.int x3), none, none, some (.int x6), none, none, some (.int x9), some (.int x10), none]) [true, true, true, true, false, false, true, false, false, true, true, false] rfl ?_
    exact wL_isSheaf_p230 hd C  h M
  · have h := it_f c h
    refine s_iload C dL_isSheaf_212 rfl ?_
    refine s_iload_n C dL_isSheaf_214 rfl rfl ?_
    refine s_icmp_le (tgt := 272) C dL_isSheaf_215 (by decide) (fun c => ?_) (fun c => ?_)
    · have h := it_t c h
      refine s_weak (ls' := [some (rfX X 0), some (.int x1), some (.int x2), some (.int x3), none, none, some (.int x6), none, none, none, none, none]) [true, true, true, true, false, false, true, false, false, false, false, false] rfl ?_
      exact wL_isSheaf_p272 hd C  h M
    · have h := it_f c h
      refine s_aload_n C dL_isSheaf_218 rfl rfl ?_
      refine s_iload_n C dL_isSheaf_219 rfl rfl ?_
      refine s_iload C dL_isSheaf_220 rfl ?_
      refine s_iconst C dL_isSheaf_222 ic_5 ?_
      obtain ⟨r1, I1, hh, h⟩ := bd_e h
      refine s_cV0 (st := []) C M.rg (Nat.le_trans (by decide) hd) mwX4_sheafOf mlL_85 dL_isSheaf_223 (wX4_sheafOf (d := 4) (Nat.le_refl _)  hh) kk_0 rfl rfl (Nat.le_of_ble_eq_true rfl) ?_
      refine s_iload_n C dL_isSheaf_226 rfl rfl ?_
      refine s_icmp_ne (tgt := 272) C dL_isSheaf_227 (by decide) (fun c => ?_) (fun c => ?_)
      · have h := it_f c h
        refine s_weak (ls' := [some (rfX X 0), some (.int x1), some (.int x2), some (.int x3), none, none, some (.int x6), none, none, none, none, none]) [true, true, true, true, false, false, true, false, false, false, false, false] rfl ?_
        exact wL_isSheaf_p272 hd C  h M
      · have h := it_t c h
        refine s_weak (ls' := [some (rfX X 0), some (.int x1), some (.int x2), some (.int x3), none, none, some (.int x6), none, none, some (.int x9), some (.int x10), none]) [true, true, true, true, false, false, true, false, false, true, true, false] rfl ?_
        exact wL_isSheaf_p230 hd C  h M
theorem wL_isSheaf_p173 {X : Cx} {d : Nat} (hd : 6 ≤ d) (C : CtxOK X mL_isSheaf) {x1 : Int32} {x2 : Int32} {x3 : Int32} {x4 : Int32} {x5 : Int32} {x6 : Int32} {x9 : Int32} {x10 : Int32} {s0 : Int32} {I I' : Mm} {r : Int32}  (h : fL_isSheaf_p173 x1 x2 x3 x4 x5 x6 x9 x10 s0 I = some (r, I')) (M : MX X (xE X) d 0 0 (some (.int r)) S0 I') : WM X mL_isSheaf 173 [some (rfX X 0), some (.int x1), some (.int x2), some (.int x3), some (.int x4), some (.int x5), some (.int x6), none, none, some (.int x9), some (.int x10), none] [.int s0] S0 I 0 0 := by
  unfold fL_isSheaf_p173 at h
  refine s_istore (ls' := [some (rfX X 0), some (.int x1), some (.int x2), some (.int x3), some (.int x4), some (.int x5), some (.int x6), none, none, some (.int x9), some (.int x10), some (.int s0)]) C dL_isSheaf_173 (by decide) (Nat.le_of_ble_eq_true rfl) rfl rfl ?_
  refine s_iload C dL_isSheaf_175 rfl ?_
  refine s_if_eq (tgt := 272) C dL_isSheaf_177 (by decide) (fun c => ?_) (fun c => ?_)
  · have h := it_t c h
    refine s_weak (ls' := [some (rfX X 0), some (.int x1), some (.int x2), some (.int x3), none, none, some (.int x6), none, none, none, none, none]) [true, true, true, true, false, false, true, false, false, false, false, false] rfl ?_
    exact wL_isSheaf_p272 hd C  h M
  · have h := it_f c h
    refine s_iload C dL_isSheaf_180 rfl ?_
    refine s_bipush C dL_isSheaf_182 bi_m15 ?_
    refine s_icmp_eq (tgt := 205) C dL_isSheaf_184 (by decide) (fun c => ?_) (fun c => ?_)
    · have h := it_t c h
      refine s_weak (ls' := [some (rfX X 0), some (.int x1), some (.int x2), some (.int x3), none, some (.int x5), some (.int x6), none, none, some (.int x9), some (.int x10), none]) [true, true, true, true, false, true, true, false, false, true, true, false] rfl ?_
      exact wL_isSheaf_p205 hd C  h M
    · have h := it_f c h
      refine s_iload C dL_isSheaf_187 rfl ?_
      refine s_iload_n C dL_isSheaf_189 rfl rfl ?_
      refine s_icmp_ge (tgt := 272) C dL_isSheaf_190 (by decide) (fun c => ?_) (fun c => ?_)
      · have h := it_t c h
        refine s_weak (ls' := [some (rfX X 0), some (.int x1), some (.int x2), some (.int x3), none, none, some (.int x6), none, none, none, none, none]) [true, true, true, true, false, false, true, false, false, false, false, false] rfl ?_
        exact wL_isSheaf_p272 hd C  h M
      · have h := it_f c h
        refine s_aload_n C dL_isSheaf_193 rfl rfl ?_
        refine s_iload_n C dL_isSheaf_194 rfl rfl ?_
        refine s_iload C dL_isSheaf_195 rfl ?_
        refine s_iconst C dL_isSheaf_197 ic_5 ?_
        obtain ⟨r1, I1, hh, h⟩ := bd_e h
        refine s_cV0 (st := []) C M.rg (Nat.le_trans (by decide) hd) mwX4_sheafOf mlL_85 dL_isSheaf_198 (wX4_sheafOf (d := 4) (Nat.le_refl _)  hh) kk_0 rfl rfl (Nat.le_of_ble_eq_true rfl) ?_
        refine s_iload_n C dL_isSheaf_201 rfl rfl ?_
        refine s_icmp_ne (tgt := 272) C dL_isSheaf_202 (by decide) (fun c => ?_) (fun c => ?_)
        · have h := it_f c h
          refine s_weak (ls' := [some (rfX X 0), some (.int x1), some (.int x2), some (.int x3), none, none, some (.int x6), none, none, none, none, none]) [true, true, true, true, false, false, true, false, false, false, false, false] rfl ?_
          exact wL_isSheaf_p272 hd C  h M
        · have h := it_t c h
          refine s_weak (ls' := [some (rfX X 0), some (.int x1), some (.int x2), some (.int x3), none, some (.int x5), some (.int x6), none, none, some (.int x9), some (.int x10), none]) [true, true, true, true, false, true, true, false, false, true, true, false] rfl ?_
          exact wL_isSheaf_p205 hd C  h M
theorem wL_isSheaf_p172 {X : Cx} {d : Nat} (hd : 6 ≤ d) (C : CtxOK X mL_isSheaf) {x1 : Int32} {x2 : Int32} {x3 : Int32} {x4 : Int32} {x5 : Int32} {x6 : Int32} {x9 : Int32} {x10 : Int32} {I I' : Mm} {r : Int32}  (h : fL_isSheaf_p172 x1 x2 x3 x4 x5 x6 x9 x10 I = some (r, I')) (M : MX X (xE X) d 0 0 (some (.int r)) S0 I') : WM X mL_isSheaf 172 [some (rfX X 0), some (.int x1), some (.int x2), some (.int x3), some (.int x4), some (.int x5), some (.int x6), none, none, some (.int x9), some (.int x10), none] [] S0 I 0 0 := by
  unfold fL_isSheaf_p172 at h
  refine s_iconst C dL_isSheaf_172 ic_0 ?_
  exact wL_isSheaf_p173 hd C  h M
theorem wL_isSheaf_p164 {X : Cx} {d : Nat} (hd : 6 ≤ d) (C : CtxOK X mL_isSheaf) {x1 : Int32} {x2 : Int32} {x3 : Int32} {x4 : Int32} {x5 : Int32} {x6 : Int32} {x9 : Int32} {x10 : Int32} {s0 : Int32} {s1 : Int32} {s2 : Int32} {I I' : Mm} {r : Int32}  (h : fL_isSheaf_p164 x1 x2 x3 x4 x5 x6 x9 x10 s0 s1 s2 I = some (r, I')) (M : MX X (xE X) d 0 0 (some (.int r)) S0 I') : WM X mL_isSheaf 164 [some (rfX X 0), some (.int x1), some (.int x2), some (.int x3), some (.int x4), some (.int x5), some (.int x6), none, none, some (.int x9), some (.int x10), none] [.int s2, .int s1, .int s0] S0 I 0 0 := by
  unfold fL_isSheaf_p164 at h
  refine s_iadd C dL_isSheaf_164 ?_
  refine s_icmp_ne (tgt := 172) C dL_isSheaf_165 (by decide) (fun c => ?_) (fun c => ?_)
  · have h := it_f c h
    exact wL_isSheaf_p172 hd C  h M
  · have h := it_t c h
    refine s_iconst C dL_isSheaf_168 ic_1 ?_
    refine s_goto (tgt := 173) C dL_isSheaf_169 (by decide) ?_
    exact wL_isSheaf_p173 hd C  h M
theorem wL_isSheaf_p144 {X : Cx} {d : Nat} (hd : 6 ≤ d) (C : CtxOK X mL_isSheaf) {x1 : Int32} {x2 : Int32} {x3 : Int32} {x4 : Int32} {x5 : Int32} {x6 : Int32} {x9 : Int32} {x10 : Int32} {s0 : Int32} {s1 : Int32} {s2 : Int32} {I I' : Mm} {r : Int32}  (h : fL_isSheaf_p144 x1 x2 x3 x4 x5 x6 x9 x10 s0 s1 s2 I = some (r, I')) (M : MX X (xE X) d 0 0 (some (.int r)) S0 I') : WM X mL_isSheaf 144 [some (rfX X 0), some (.int x1), some (.int x2), some (.int x3), some (.int x4), some (.int x5), some (.int x6), none, none, some (.int x9), some (.int x10), none] [.int s2, .int s1, .int s0] S0 I 0 0 := by
  unfold fL_isSheaf_p144 at h
  refine s_iadd C dL_isSheaf_144 ?_
  refine s_iload C dL_isSheaf_145 rfl ?_
  refine s_bipush C dL_isSheaf_147 bi_m15 ?_
  refine s_icmp_ne (tgt := 156) C dL_isSheaf_149 (by decide) (fun c => ?_) (fun c => ?_)
  · have h := it_f c h
    refine s_aload_n C dL_isSheaf_156 rfl rfl ?_
    refine s_iload_n C dL_isSheaf_157 rfl rfl ?_
    refine s_iload C dL_isSheaf_158 rfl ?_
    refine s_iconst C dL_isSheaf_160 ic_3 ?_
    obtain ⟨r1, I1, hh, h⟩ := bd_e h
    refine s_cV0 (st := [.int (s1 + s2), .int s0]) C M.rg (Nat.le_trans (by decide) hd) mwX4_sheafOf mlL_85 dL_isSheaf_161 (wX4_sheafOf (d := 4) (Nat.le_refl _)  hh) kk_0 rfl rfl (Nat.le_of_ble_eq_true rfl) ?_
    exact wL_isSheaf_p164 hd C  h M
  · have h := it_t c h
    refine s_iconst C dL_isSheaf_152 ic_0 ?_
    refine s_goto (tgt := 164) C dL_isSheaf_153 (by decide) ?_
    exact wL_isSheaf_p164 hd C  h M
theorem wL_isSheaf_p76 {X : Cx} {d : Nat} (hd : 6 ≤ d) (C : CtxOK X mL_isSheaf) {x1 : Int32} {x2 : Int32} {x3 : Int32} {x4 : Int32} {x5 : Int32} {x6 : Int32} {x7 : Int32} {s0 : Int32} {I I' : Mm} {r : Int32}  (h : fL_isSheaf_p76 x1 x2 x3 x4 x5 x6 x7 s0 I = some (r, I')) (M : MX X (xE X) d 0 0 (some (.int r)) S0 I') : WM X mL_isSheaf 76 [some (rfX X 0), some (.int x1), some (.int x2), some (.int x3), some (.int x4), some (.int x5), some (.int x6), some (.int x7), none, none, none, none] [.int s0] S0 I 0 0 := by
  unfold fL_isSheaf_p76 at h
  refine s_istore (ls' := [some (rfX X 0), some (.int x1), some (.int x2), some (.int x3), some (.int x4), some (.int x5), some (.int x6), some (.int x7), some (.int s0), none, none, none]) C dL_isSheaf_76 (by decide) (Nat.le_of_ble_eq_true rfl) rfl rfl ?_
  refine s_aload_n C dL_isSheaf_78 rfl rfl ?_
  refine s_iload_n C dL_isSheaf_79 rfl rfl ?_
  refine s_iload_n C dL_isSheaf_80 rfl rfl ?_
  refine s_iconst C dL_isSheaf_81 ic_2 ?_
  obtain ⟨r1, I1, hh, h⟩ := bd_e h
  refine s_cV0 (st := []) C M.rg (Nat.le_trans (by decide) hd) mwX4_sheafOf mlL_85 dL_isSheaf_82 (wX4_sheafOf (d := 4) (Nat.le_refl _)  hh) kk_0 rfl rfl (Nat.le_of_ble_eq_true rfl) ?_
  refine s_istore (ls' := [some (rfX X 0), some (.int x1), some (.int x2), some (.int x3), some (.int x4), some (.int x5), some (.int x6), some (.int x7), some (.int s0), some (.int r1), none, none]) C dL_isSheaf_85 (by decide) (Nat.le_of_ble_eq_true rfl) rfl rfl ?_
  refine s_bipush C dL_isSheaf_87 bi_100 ?_
  refine s_iload C dL_isSheaf_89 rfl ?_
  refine s_iload C dL_isSheaf_91 rfl ?_
  refine s_max C M.rg (Nat.le_trans (by decide) hd) mlL_88 dL_isSheaf_93 w_max_s w_math_i w_max_c (Nat.le_of_ble_eq_true rfl) (Nat.le_refl 0) (Nat.le_refl 0) ?_
  refine s_imul C dL_isSheaf_96 ?_
  obtain ⟨v1, ev1, h⟩ := ltm_e h
  refine s_top_i ev1 ?_
  refine s_istore (ls' := [some (rfX X 0), some (.int x1), some (.int x2), some (.int x3), some (.int x4), some (.int x5), some (.int x6), some (.int x7), some (.int s0), some (.int r1), some (.int v1), none]) C dL_isSheaf_97 (by decide) (Nat.le_of_ble_eq_true rfl) rfl rfl ?_
  refine s_iload C dL_isSheaf_99 rfl ?_
  refine s_iconst C dL_isSheaf_101 ic_1 ?_
  refine s_iload C dL_isSheaf_102 rfl ?_
  refine s_iadd C dL_isSheaf_104 ?_
  refine s_iload C dL_isSheaf_105 rfl ?_
  refine s_iadd C dL_isSheaf_107 ?_
  refine s_icmp_ne (tgt := 172) C dL_isSheaf_108 (by decide) (fun c => ?_) (fun c => ?_)
  · have h := it_f c h
    refine s_weak (ls' := [some (rfX X 0), some (.int x1), some (.int x2), some (.int x3), some (.int x4), some (.int x5), some (.int x6), none, none, some (.int r1), some (.int v1), none]) [true, true, true, true, true, true, true, false, false, true, true, false] rfl ?_
    exact wL_isSheaf_p172 hd C  h M
  · have h := it_t c h
    refine s_aload_n C dL_isSheaf_111 rfl rfl ?_
    refine s_iload_n C dL_isSheaf_112 rfl rfl ?_
    refine s_iload_n C dL_isSheaf_113 rfl rfl ?_
    refine s_iconst C dL_isSheaf_114 ic_3 ?_
    obtain ⟨r2, I2, hh, h⟩ := bd_e h
    refine s_cV0 (st := []) C M.rg (Nat.le_trans (by decide) hd) mwX4_sheafOf mlL_85 dL_isSheaf_115 (wX4_sheafOf (d := 4) (Nat.le_refl _)  hh) kk_0 rfl rfl (Nat.le_of_ble_eq_true rfl) ?_
    refine s_aload_n C dL_isSheaf_118 rfl rfl ?_
    refine s_iload_n C dL_isSheaf_119 rfl rfl ?_
    refine s_iload_n C dL_isSheaf_120 rfl rfl ?_
    refine s_iconst C dL_isSheaf_121 ic_0 ?_
    obtain ⟨r3, I3, hh, h⟩ := bd_e h
    refine s_cV0 (st := [.int r2]) C M.rg (Nat.le_trans (by decide) hd) mwX4_sheafOf mlL_85 dL_isSheaf_122 (wX4_sheafOf (d := 4) (Nat.le_refl _)  hh) kk_0 rfl rfl (Nat.le_of_ble_eq_true rfl) ?_
    refine s_iload C dL_isSheaf_125 rfl ?_
    refine s_bipush C dL_isSheaf_127 bi_m15 ?_
    refine s_icmp_ne (tgt := 136) C dL_isSheaf_129 (by decide) (fun c => ?_) (fun c => ?_)
    · have h := it_f c h
      refine s_aload_n C dL_isSheaf_136 rfl rfl ?_
      refine s_iload_n C dL_isSheaf_137 rfl rfl ?_
      refine s_iload C dL_isSheaf_138 rfl ?_
      refine s_iconst C dL_isSheaf_140 ic_3 ?_
      obtain ⟨r4, I4, hh, h⟩ := bd_e h
      refine s_cV0 (st := [.int r3, .int r2]) C M.rg (Nat.le_trans (by decide) hd) mwX4_sheafOf mlL_85 dL_isSheaf_141 (wX4_sheafOf (d := 4) (Nat.le_refl _)  hh) kk_0 rfl rfl (Nat.le_of_ble_eq_true rfl) ?_
      refine s_weak (ls' := [some (rfX X 0), some (.int x1), some (.int x2), some (.int x3), some (.int x4), some (.int x5), some (.int x6), none, none, some (.int r1), some (.int v1), none]) [true, true, true, true, true, true, true, false, false, true, true, false] rfl ?_
      exact wL_isSheaf_p144 hd C  h M
    · have h := it_t c h
      refine s_iconst C dL_isSheaf_132 ic_0 ?_
      refine s_goto (tgt := 144) C dL_isSheaf_133 (by decide) ?_
      refine s_weak (ls' := [some (rfX X 0), some (.int x1), some (.int x2), some (.int x3), some (.int x4), some (.int x5), some (.int x6), none, none, some (.int r1), some (.int v1), none]) [true, true, true, true, true, true, true, false, false, true, true, false] rfl ?_
      exact wL_isSheaf_p144 hd C  h M
theorem wL_isSheaf_p55 {X : Cx} {d : Nat} (hd : 6 ≤ d) (C : CtxOK X mL_isSheaf) {x1 : Int32} {x2 : Int32} {x3 : Int32} {x4 : Int32} {x5 : Int32} {x6 : Int32} {s0 : Int32} {I I' : Mm} {r : Int32}  (h : fL_isSheaf_p55 x1 x2 x3 x4 x5 x6 s0 I = some (r, I')) (M : MX X (xE X) d 0 0 (some (.int r)) S0 I') : WM X mL_isSheaf 55 [some (rfX X 0), some (.int x1), some (.int x2), some (.int x3), some (.int x4), some (.int x5), some (.int x6), none, none, none, none, none] [.int s0] S0 I 0 0 := by
  unfold fL_isSheaf_p55 at h
  refine s_istore (ls' := [some (rfX X 0), some (.int x1), some (.int x2), some (.int x3), some (.int x4), some (.int x5), some (.int x6), some (.int s0), none, none, none, none]) C dL_isSheaf_55 (by decide) (Nat.le_of_ble_eq_true rfl) rfl rfl ?_
  refine s_iload C dL_isSheaf_57 rfl ?_
  refine s_bipush C dL_isSheaf_59 bi_m15 ?_
  refine s_icmp_ne (tgt := 68) C dL_isSheaf_61 (by decide) (fun c => ?_) (fun c => ?_)
  · have h := it_f c h
    refine s_aload_n C dL_isSheaf_68 rfl rfl ?_
    refine s_iload_n C dL_isSheaf_69 rfl rfl ?_
    refine s_iload C dL_isSheaf_70 rfl ?_
    refine s_iconst C dL_isSheaf_72 ic_2 ?_
    obtain ⟨r1, I1, hh, h⟩ := bd_e h
    refine s_cV0 (st := []) C M.rg (Nat.le_trans (by decide) hd) mwX4_sheafOf mlL_85 dL_isSheaf_73 (wX4_sheafOf (d := 4) (Nat.le_refl _)  hh) kk_0 rfl rfl (Nat.le_of_ble_eq_true rfl) ?_
    exact wL_isSheaf_p76 hd C  h M
  · have h := it_t c h
    refine s_iconst C dL_isSheaf_64 ic_0 ?_
    refine s_goto (tgt := 76) C dL_isSheaf_65 (by decide) ?_
    exact wL_isSheaf_p76 hd C  h M
theorem wL_isSheaf {E : Ev} {d : Nat} (hd : 6 ≤ d) {x1 : Int32} {x2 : Int32} {I I' : Mm} {r : Int32}  (h : fL_isSheaf x1 x2 I = some (r, I')) : SemM E d 0 0 mL_isSheaf [rfE E 0, .int x1, .int x2] S0 I (some (.int r)) S0 I' := by
  unfold fL_isSheaf at h
  refine SemM.ofX (E := E) (y := mL_isSheaf) (args := fun E => [rfE E 0, .int x1, .int x2]) (r := fun E => (some (.int r))) (fun E => [some (rfE E 0), some (.int x1), some (.int x2), none, none, none, none, none, none, none, none, none]) (by decide +kernel) (Nat.le_of_ble_eq_true rfl) rfl (fun X C M => ?_)
  refine s_aload_n C dL_isSheaf_0 rfl rfl ?_
  refine s_iload_n C dL_isSheaf_1 rfl rfl ?_
  refine s_iload_n C dL_isSheaf_2 rfl rfl ?_
  obtain ⟨r1, I1, hh, h⟩ := bd_e h
  refine s_cV0 (st := []) C M.rg (Nat.le_trans (by decide) hd) mwX4_at mlL_37 dL_isSheaf_3 (wX4_at (d := 2) (Nat.le_refl _)  hh) kk_0 rfl rfl (Nat.le_of_ble_eq_true rfl) ?_
  refine s_istore_n (ls' := [some (rfX X 0), some (.int x1), some (.int x2), some (.int r1), none, none, none, none, none, none, none, none]) C dL_isSheaf_6 rfl (by decide) (Nat.le_of_ble_eq_true rfl) rfl rfl ?_
  refine s_aload_n C dL_isSheaf_7 rfl rfl ?_
  refine s_iload_n C dL_isSheaf_8 rfl rfl ?_
  refine s_iload_n C dL_isSheaf_9 rfl rfl ?_
  refine s_bipush C dL_isSheaf_10 bi_6 ?_
  obtain ⟨r2, I2, hh, h⟩ := bd_e h
  refine s_cV0 (st := []) C M.rg (Nat.le_trans (by decide) hd) mwX4_sheafOf mlL_85 dL_isSheaf_12 (wX4_sheafOf (d := 4) (Nat.le_refl _)  hh) kk_0 rfl rfl (Nat.le_of_ble_eq_true rfl) ?_
  refine s_istore (ls' := [some (rfX X 0), some (.int x1), some (.int x2), some (.int r1), some (.int r2), none, none, none, none, none, none, none]) C dL_isSheaf_15 (by decide) (Nat.le_of_ble_eq_true rfl) rfl rfl ?_
  refine s_aload_n C dL_isSheaf_17 rfl rfl ?_
  refine s_iload_n C dL_isSheaf_18 rfl rfl ?_
  refine s_iload_n C dL_isSheaf_19 rfl rfl ?_
  refine s_bipush C dL_isSheaf_20 bi_7 ?_
  obtain ⟨r3, I3, hh, h⟩ := bd_e h
  refine s_cV0 (st := []) C M.rg (Nat.le_trans (by decide) hd) mwX4_sheafOf mlL_85 dL_isSheaf_22 (wX4_sheafOf (d := 4) (Nat.le_refl _)  hh) kk_0 rfl rfl (Nat.le_of_ble_eq_true rfl) ?_
  refine s_istore (ls' := [some (rfX X 0), some (.int x1), some (.int x2), some (.int r1), some (.int r2), some (.int r3), none, none, none, none, none, none]) C dL_isSheaf_25 (by decide) (Nat.le_of_ble_eq_true rfl) rfl rfl ?_
  refine s_aload_n C dL_isSheaf_27 rfl rfl ?_
  refine s_iload_n C dL_isSheaf_28 rfl rfl ?_
  refine s_iload_n C dL_isSheaf_29 rfl rfl ?_
  refine s_iconst C dL_isSheaf_30 ic_5 ?_
  obtain ⟨r4, I4, hh, h⟩ := bd_e h
  refine s_cV0 (st := []) C M.rg (Nat.le_trans (by decide) hd) mwX4_sheafOf mlL_85 dL_isSheaf_31 (wX4_sheafOf (d := 4) (Nat.le_refl _)  hh) kk_0 rfl rfl (Nat.le_of_ble_eq_true rfl) ?_
  refine s_istore (ls' := [some (rfX X 0), some (.int x1), some (.int x2), some (.int r1), some (.int r2), some (.int r3), some (.int r4), none, none, none, none, none]) C dL_isSheaf_34 (by decide) (Nat.le_of_ble_eq_true rfl) rfl rfl ?_
  refine s_iload C dL_isSheaf_36 rfl ?_
  refine s_bipush C dL_isSheaf_38 bi_m15 ?_
  refine s_icmp_ne (tgt := 47) C dL_isSheaf_40 (by decide) (fun c => ?_) (fun c => ?_)
  · have h := it_f c h
    refine s_aload_n C dL_isSheaf_47 rfl rfl ?_
    refine s_iload_n C dL_isSheaf_48 rfl rfl ?_
    refine s_iload C dL_isSheaf_49 rfl ?_
    refine s_iconst C dL_isSheaf_51 ic_2 ?_
    obtain ⟨r5, I5, hh, h⟩ := bd_e h
    refine s_cV0 (st := []) C M.rg (Nat.le_trans (by decide) hd) mwX4_sheafOf mlL_85 dL_isSheaf_52 (wX4_sheafOf (d := 4) (Nat.le_refl _)  hh) kk_0 rfl rfl (Nat.le_of_ble_eq_true rfl) ?_
    exact wL_isSheaf_p55 hd C  h M
  · have h := it_t c h
    refine s_iconst C dL_isSheaf_43 ic_0 ?_
    refine s_goto (tgt := 55) C dL_isSheaf_44 (by decide) ?_
    exact wL_isSheaf_p55 hd C  h M
theorem wX1_loadsOfLighter_p16 {X : Cx} {d : Nat} (hd : 3 ≤ d) (C : CtxOK X mX1_loadsOfLighter) : ∀ (n : Nat) {x0 : Nat} {x1 : Int64} {x3 : Int32} {x4 : Int32} {x5 : Int32} {x6 : Int32} {I I' : Mm} {r : Int32} (hx0 : kd0 x0 = 1) (_ : fX1_loadsOfLighter_p16 n x0 x1 x3 x4 x5 x6 I = some (r, I')) (_ : MX X (xE X) d 0 0 (some (.int r)) S0 I'), WM X mX1_loadsOfLighter 16 [some (rfX X x0), some (.long x1), none, some (.int x3), some (.int x4), some (.int x5), some (.int x6), none] [] S0 I 0 0 := by
  intro n
  induction n with
  | zero => intro x0 x1 x3 x4 x5 x6 I I' r hx0 h M; exact absurd h (by simp [fX1_loadsOfLighter_p16])
  | succ n ih =>
    intro x0 x1 x3 x4 x5 x6 I I' r hx0 h M
    rw [fX1_loadsOfLighter_p16] at h
    refine s_iload C dX1_loadsOfLighter_16 rfl ?_
    refine s_bipush C dX1_loadsOfLighter_18 bi_30 ?_
    refine s_icmp_ge (tgt := 84) C dX1_loadsOfLighter_20 (by decide) (fun c => ?_) (fun c => ?_)
    · have h := it_t c h
      refine s_iload_n C dX1_loadsOfLighter_84 rfl rfl ?_
      obtain ⟨rfl, rfl⟩ := pr_e h
      exact s_iret C M dX1_loadsOfLighter_85 rfl rfl (Nat.le_refl 0) (Nat.le_refl 0)
    · have h := it_f c h
      refine s_iload C dX1_loadsOfLighter_23 rfl ?_
      refine s_iload C dX1_loadsOfLighter_25 rfl ?_
      refine s_icmp_gt (tgt := 84) C dX1_loadsOfLighter_27 (by decide) (fun c => ?_) (fun c => ?_)
      · have h := it_t c h
        refine s_iload_n C dX1_loadsOfLighter_84 rfl rfl ?_
        obtain ⟨rfl, rfl⟩ := pr_e h
        exact s_iret C M dX1_loadsOfLighter_85 rfl rfl (Nat.le_refl 0) (Nat.le_refl 0)
      · have h := it_f c h
        refine s_aload_n C dX1_loadsOfLighter_30 rfl rfl ?_
        refine s_iload C dX1_loadsOfLighter_31 rfl ?_
        refine s_iload C dX1_loadsOfLighter_33 rfl ?_
        obtain ⟨r1, I1, hh, h⟩ := bd_e h
        refine s_cV0 (st := []) C M.rg (Nat.le_trans (by decide) hd) mwX1_topOf mlX1_55 dX1_loadsOfLighter_35 (wX1_topOf (d := 2) (Nat.le_refl _) hx0 hh) hx0 rfl rfl (Nat.le_of_ble_eq_true rfl) ?_
        refine s_istore (ls' := [some (rfX X x0), some (.long x1), none, some (.int x3), some (.int x4), some (.int x5), some (.int x6), some (.int r1)]) C dX1_loadsOfLighter_38 (by decide) (Nat.le_of_ble_eq_true rfl) rfl rfl ?_
        refine s_aload_n C dX1_loadsOfLighter_40 rfl rfl ?_
        refine s_iload C dX1_loadsOfLighter_41 rfl ?_
        obtain ⟨r2, I2, hh, h⟩ := bd_e h
        refine s_cV0 (st := []) C M.rg (Nat.le_trans (by decide) hd) mwX1_weightAt mlX1_25 dX1_loadsOfLighter_43 (wX1_weightAt (d := 1) (Nat.le_refl _) hx0 hh) hx0 rfl rfl (Nat.le_of_ble_eq_true rfl) ?_
        refine s_i2l C dX1_loadsOfLighter_46 ?_
        refine s_lload_n C dX1_loadsOfLighter_47 rfl rfl ?_
        refine s_lcmp C dX1_loadsOfLighter_48 ?_
        refine s_if_ge (tgt := 72) C dX1_loadsOfLighter_49 (by decide) (fun c => ?_) (fun c => ?_)
        · have h := it_t c h
          refine s_iload C dX1_loadsOfLighter_72 rfl ?_
          refine s_iconst C dX1_loadsOfLighter_74 ic_1 ?_
          refine s_isub C dX1_loadsOfLighter_75 ?_
          obtain ⟨v1, ev1, h⟩ := ltm_e h
          refine s_top_i ev1 ?_
          refine s_istore (ls' := [some (rfX X x0), some (.long x1), none, some (.int x3), some (.int x4), some (.int v1), some (.int x6), some (.int r1)]) C dX1_loadsOfLighter_76 (by decide) (Nat.le_of_ble_eq_true rfl) rfl rfl ?_
          obtain ⟨v2, ev2, h⟩ := ltm_e h
          refine s_iinc (v := v2) (ls' := [some (rfX X x0), some (.long x1), none, some (.int x3), some (.int x4), some (.int v1), some (.int v2), some (.int r1)]) C dX1_loadsOfLighter_78 rfl (by decide) (Nat.le_of_ble_eq_true rfl) (by rw [ev2, ic_1]) rfl rfl ?_
          refine s_goto (tgt := 16) C dX1_loadsOfLighter_81 (by decide) ?_
          refine s_weak (ls' := [some (rfX X x0), some (.long x1), none, some (.int x3), some (.int x4), some (.int v1), some (.int v2), none]) [true, true, false, true, true, true, true, false] rfl ?_
          exact ih hx0 h M
        · have h := it_f c h
          refine s_iload_n C dX1_loadsOfLighter_52 rfl rfl ?_
          refine s_aload_n C dX1_loadsOfLighter_53 rfl rfl ?_
          refine s_iload C dX1_loadsOfLighter_54 rfl ?_
          refine s_iload C dX1_loadsOfLighter_56 rfl ?_
          obtain ⟨r3, I3, hh, h⟩ := bd_e h
          refine s_cV0 (st := [.int x3]) C M.rg (Nat.le_trans (by decide) hd) mwX1_loadsFrom mlX1_62 dX1_loadsOfLighter_58 (wX1_loadsFrom (d := 2) (Nat.le_refl _) hx0 hh) hx0 rfl rfl (Nat.le_of_ble_eq_true rfl) ?_
          refine s_iadd C dX1_loadsOfLighter_61 ?_
          obtain ⟨v1, ev1, h⟩ := ltm_e h
          refine s_top_i ev1 ?_
          refine s_istore_n (ls' := [some (rfX X x0), some (.long x1), none, some (.int v1), some (.int x4), some (.int x5), some (.int x6), some (.int r1)]) C dX1_loadsOfLighter_62 rfl (by decide) (Nat.le_of_ble_eq_true rfl) rfl rfl ?_
          refine s_iload C dX1_loadsOfLighter_63 rfl ?_
          refine s_iconst C dX1_loadsOfLighter_65 ic_1 ?_
          refine s_iadd C dX1_loadsOfLighter_66 ?_
          obtain ⟨v2, ev2, h⟩ := ltm_e h
          refine s_top_i ev2 ?_
          refine s_istore (ls' := [some (rfX X x0), some (.long x1), none, some (.int v1), some (.int v2), some (.int x5), some (.int x6), some (.int r1)]) C dX1_loadsOfLighter_67 (by decide) (Nat.le_of_ble_eq_true rfl) rfl rfl ?_
          refine s_goto (tgt := 78) C dX1_loadsOfLighter_69 (by decide) ?_
          obtain ⟨v3, ev3, h⟩ := ltm_e h
          refine s_iinc (v := v3) (ls' := [some (rfX X x0), some (.long x1), none, some (.int v1), some (.int v2), some (.int x5), some (.int v3), some (.int r1)]) C dX1_loadsOfLighter_78 rfl (by decide) (Nat.le_of_ble_eq_true rfl) (by rw [ev3, ic_1]) rfl rfl ?_
          refine s_goto (tgt := 16) C dX1_loadsOfLighter_81 (by decide) ?_
          refine s_weak (ls' := [some (rfX X x0), some (.long x1), none, some (.int v1), some (.int v2), some (.int x5), some (.int v3), none]) [true, true, false, true, true, true, true, false] rfl ?_
          exact ih hx0 h M
theorem wX1_loadsOfLighter {E : Ev} {d : Nat} (hd : 3 ≤ d) {x0 : Nat} {x1 : Int64} {I I' : Mm} {r : Int32} (hx0 : kd0 x0 = 1) (h : fX1_loadsOfLighter x0 x1 I = some (r, I')) : SemM E d 0 0 mX1_loadsOfLighter [rfE E x0, .long x1] S0 I (some (.int r)) S0 I' := by
  unfold fX1_loadsOfLighter at h
  refine SemM.ofX (E := E) (y := mX1_loadsOfLighter) (args := fun E => [rfE E x0, .long x1]) (r := fun E => (some (.int r))) (fun E => [some (rfE E x0), some (.long x1), none, none, none, none, none, none]) (by decide +kernel) (Nat.le_of_ble_eq_true rfl) rfl (fun X C M => ?_)
  refine s_iconst C dX1_loadsOfLighter_0 ic_0 ?_
  refine s_istore_n (ls' := [some (rfX X x0), some (.long x1), none, some (.int 0), none, none, none, none]) C dX1_loadsOfLighter_1 rfl (by decide) (Nat.le_of_ble_eq_true rfl) rfl rfl ?_
  refine s_iconst C dX1_loadsOfLighter_2 ic_0 ?_
  refine s_istore (ls' := [some (rfX X x0), some (.long x1), none, some (.int 0), some (.int 0), none, none, none]) C dX1_loadsOfLighter_3 (by decide) (Nat.le_of_ble_eq_true rfl) rfl rfl ?_
  refine s_aload_n C dX1_loadsOfLighter_5 rfl rfl ?_
  refine s_getI C dX1_loadsOfLighter_6 hx0 foX1_21 rfl ?_
  refine s_iconst C dX1_loadsOfLighter_9 ic_1 ?_
  refine s_isub C dX1_loadsOfLighter_10 ?_
  obtain ⟨v1, ev1, h⟩ := ltm_e h
  refine s_top_i ev1 ?_
  refine s_istore (ls' := [some (rfX X x0), some (.long x1), none, some (.int 0), some (.int 0), some (.int v1), none, none]) C dX1_loadsOfLighter_11 (by decide) (Nat.le_of_ble_eq_true rfl) rfl rfl ?_
  refine s_iconst C dX1_loadsOfLighter_13 ic_0 ?_
  refine s_istore (ls' := [some (rfX X x0), some (.long x1), none, some (.int 0), some (.int 0), some (.int v1), some (.int 0), none]) C dX1_loadsOfLighter_14 (by decide) (Nat.le_of_ble_eq_true rfl) rfl rfl ?_
  exact wX1_loadsOfLighter_p16 hd C _ hx0 h M
theorem wX1_loadsByParts {E : Ev} {d : Nat} (hd : 4 ≤ d) {x0 : Nat} {x1 : Int32} {x2 : Int32} {I I' : Mm} {r : Int32} (hx0 : kd0 x0 = 1) (h : fX1_loadsByParts x0 x1 x2 I = some (r, I')) : SemM E d 0 0 mX1_loadsByParts [rfE E x0, .int x1, .int x2] S0 I (some (.int r)) S0 I' := by
  unfold fX1_loadsByParts at h
  refine SemM.ofX (E := E) (y := mX1_loadsByParts) (args := fun E => [rfE E x0, .int x1, .int x2]) (r := fun E => (some (.int r))) (fun E => [some (rfE E x0), some (.int x1), some (.int x2)]) (by decide +kernel) (Nat.le_of_ble_eq_true rfl) rfl (fun X C M => ?_)
  refine s_iload_n C dX1_loadsByParts_0 rfl rfl ?_
  refine s_iload_n C dX1_loadsByParts_1 rfl rfl ?_
  refine s_icmp_le (tgt := 9) C dX1_loadsByParts_2 (by decide) (fun c => ?_) (fun c => ?_)
  · have h := it_t c h
    refine s_aload_n C dX1_loadsByParts_9 rfl rfl ?_
    refine s_iload_n C dX1_loadsByParts_10 rfl rfl ?_
    refine s_i2l C dX1_loadsByParts_11 ?_
    refine s_lconst (v := 1) C dX1_loadsByParts_12 (by decide +kernel) ?_
    refine s_ladd C dX1_loadsByParts_13 ?_
    obtain ⟨r1, I1, hh, h⟩ := bd_e h
    refine s_cV0 (st := []) C M.rg (Nat.le_trans (by decide) hd) mwX1_loadsOfLighter mlX1_58 dX1_loadsByParts_14 (wX1_loadsOfLighter (d := 3) (Nat.le_refl _) hx0 hh) hx0 rfl rfl (Nat.le_of_ble_eq_true rfl) ?_
    refine s_aload_n C dX1_loadsByParts_17 rfl rfl ?_
    refine s_iload_n C dX1_loadsByParts_18 rfl rfl ?_
    refine s_i2l C dX1_loadsByParts_19 ?_
    obtain ⟨r2, I2, hh, h⟩ := bd_e h
    refine s_cV0 (st := [.int r1]) C M.rg (Nat.le_trans (by decide) hd) mwX1_loadsOfLighter mlX1_58 dX1_loadsByParts_20 (wX1_loadsOfLighter (d := 3) (Nat.le_refl _) hx0 hh) hx0 rfl rfl (Nat.le_of_ble_eq_true rfl) ?_
    refine s_isub C dX1_loadsByParts_23 ?_
    obtain ⟨rfl, rfl⟩ := pr_e h
    exact s_iret C M dX1_loadsByParts_24 rfl rfl (Nat.le_refl 0) (Nat.le_refl 0)
  · have h := it_f c h
    refine s_iconst C dX1_loadsByParts_5 ic_0 ?_
    refine s_goto (tgt := 24) C dX1_loadsByParts_6 (by decide) ?_
    obtain ⟨rfl, rfl⟩ := pr_e h
    exact s_iret C M dX1_loadsByParts_24 rfl rfl (Nat.le_refl 0) (Nat.le_refl 0)
theorem wX4_between {E : Ev} {d : Nat} (hd : 5 ≤ d) {x1 : Int32} {x2 : Int32} {x3 : Int32} {I I' : Mm} {r : Int32}  (h : fX4_between x1 x2 x3 I = some (r, I')) : SemM E d 0 0 mX4_between [rfE E 0, .int x1, .int x2, .int x3] S0 I (some (.int r)) S0 I' := by
  unfold fX4_between at h
  refine SemM.ofX (E := E) (y := mX4_between) (args := fun E => [rfE E 0, .int x1, .int x2, .int x3]) (r := fun E => (some (.int r))) (fun E => [some (rfE E 0), some (.int x1), some (.int x2), some (.int x3), none]) (by decide +kernel) (Nat.le_of_ble_eq_true rfl) rfl (fun X C M => ?_)
  refine s_aload_n C dX4_between_0 rfl rfl ?_
  refine s_getR (b := 1) C dX4_between_1 kk_0 foX4_10 rfl rk_0_0 ?_
  refine s_iload_n C dX4_between_4 rfl rfl ?_
  obtain ⟨r1, I1, hh, h⟩ := bd_e h
  refine s_cV0 (st := []) C M.rg (Nat.le_trans (by decide) hd) mwX3_rickAt mlX4_71 dX4_between_5 (wX3_rickAt (d := 1) (Nat.le_refl _) kk_1 hh) kk_1 rfl rfl (Nat.le_of_ble_eq_true rfl) ?_
  refine s_astore_o (ls' := [some (rfX X 0), some (.int x1), some (.int x2), some (.int x3), some (rvE (xE X) r1)]) C dX4_between_8 (by decide) (Nat.le_of_ble_eq_true rfl) rfl rfl ?_
  refine s_aload_o C dX4_between_10 rfl ?_
  cases r1 with
  | none =>
    have h := on_n h
    refine s_ifnonnullN C dX4_between_12 ?_
    refine s_bipush C dX4_between_15 bi_m11 ?_
    refine s_goto (tgt := 27) C dX4_between_17 (by decide) ?_
    obtain ⟨rfl, rfl⟩ := pr_e h
    exact s_iret C M dX4_between_27 rfl rfl (Nat.le_refl 0) (Nat.le_refl 0)
  | some q1 =>
    obtain ⟨hq1, h⟩ := it_s (on_s h)
    refine s_ifnonnull (tgt := 20) C dX4_between_12 (by decide) ?_
    refine s_aload C dX4_between_20 rfl ?_
    refine s_iload_n C dX4_between_22 rfl rfl ?_
    refine s_iload_n C dX4_between_23 rfl rfl ?_
    obtain ⟨r2, I2, hh, h⟩ := bd_e h
    refine s_cV0 (st := []) C M.rg (Nat.le_trans (by decide) hd) mwX1_loadsByParts mlX4_143 dX4_between_24 (wX1_loadsByParts (d := 4) (Nat.le_refl _) hq1 hh) hq1 rfl rfl (Nat.le_of_ble_eq_true rfl) ?_
    obtain ⟨rfl, rfl⟩ := pr_e h
    exact s_iret C M dX4_between_27 rfl rfl (Nat.le_refl 0) (Nat.le_refl 0)
theorem wX1_loadsOneByOne_p5 {X : Cx} {d : Nat} (hd : 2 ≤ d) (C : CtxOK X mX1_loadsOneByOne) : ∀ (n : Nat) {x0 : Nat} {x1 : Int32} {x2 : Int32} {x3 : Int32} {x4 : Int32} {I I' : Mm} {r : Int32} (hx0 : kd0 x0 = 1) (_ : fX1_loadsOneByOne_p5 n x0 x1 x2 x3 x4 I = some (r, I')) (_ : MX X (xE X) d 0 0 (some (.int r)) S0 I'), WM X mX1_loadsOneByOne 5 [some (rfX X x0), some (.int x1), some (.int x2), some (.int x3), some (.int x4)] [] S0 I 0 0 := by
  intro n
  induction n with
  | zero => intro x0 x1 x2 x3 x4 I I' r hx0 h M; exact absurd h (by simp [fX1_loadsOneByOne_p5])
  | succ n ih =>
    intro x0 x1 x2 x3 x4 I I' r hx0 h M
    rw [fX1_loadsOneByOne_p5] at h
    refine s_iload C dX1_loadsOneByOne_5 rfl ?_
    refine s_aload_n C dX1_loadsOneByOne_7 rfl rfl ?_
    refine s_getI C dX1_loadsOneByOne_8 hx0 foX1_21 rfl ?_
    refine s_icmp_ge (tgt := 49) C dX1_loadsOneByOne_11 (by decide) (fun c => ?_) (fun c => ?_)
    · have h := it_t c h
      refine s_iload_n C dX1_loadsOneByOne_49 rfl rfl ?_
      obtain ⟨rfl, rfl⟩ := pr_e h
      exact s_iret C M dX1_loadsOneByOne_50 rfl rfl (Nat.le_refl 0) (Nat.le_refl 0)
    · have h := it_f c h
      refine s_aload_n C dX1_loadsOneByOne_14 rfl rfl ?_
      refine s_iload C dX1_loadsOneByOne_15 rfl ?_
      obtain ⟨r1, I1, hh, h⟩ := bd_e h
      refine s_cV0 (st := []) C M.rg (Nat.le_trans (by decide) hd) mwX1_weightAt mlX1_25 dX1_loadsOneByOne_17 (wX1_weightAt (d := 1) (Nat.le_refl _) hx0 hh) hx0 rfl rfl (Nat.le_of_ble_eq_true rfl) ?_
      refine s_iload_n C dX1_loadsOneByOne_20 rfl rfl ?_
      refine s_icmp_lt (tgt := 43) C dX1_loadsOneByOne_21 (by decide) (fun c => ?_) (fun c => ?_)
      · have h := it_t c h
        obtain ⟨v1, ev1, h⟩ := ltm_e h
        refine s_iinc (v := v1) (ls' := [some (rfX X x0), some (.int x1), some (.int x2), some (.int x3), some (.int v1)]) C dX1_loadsOneByOne_43 rfl (by decide) (Nat.le_of_ble_eq_true rfl) (by rw [ev1, ic_1]) rfl rfl ?_
        refine s_goto (tgt := 5) C dX1_loadsOneByOne_46 (by decide) ?_
        exact ih hx0 h M
      · have h := it_f c h
        refine s_aload_n C dX1_loadsOneByOne_24 rfl rfl ?_
        refine s_iload C dX1_loadsOneByOne_25 rfl ?_
        obtain ⟨r2, I2, hh, h⟩ := bd_e h
        refine s_cV0 (st := []) C M.rg (Nat.le_trans (by decide) hd) mwX1_weightAt mlX1_25 dX1_loadsOneByOne_27 (wX1_weightAt (d := 1) (Nat.le_refl _) hx0 hh) hx0 rfl rfl (Nat.le_of_ble_eq_true rfl) ?_
        refine s_iload_n C dX1_loadsOneByOne_30 rfl rfl ?_
        refine s_icmp_gt (tgt := 43) C dX1_loadsOneByOne_31 (by decide) (fun c => ?_) (fun c => ?_)
        · have h := it_t c h
          obtain ⟨v1, ev1, h⟩ := ltm_e h
          refine s_iinc (v := v1) (ls' := [some (rfX X x0), some (.int x1), some (.int x2), some (.int x3), some (.int v1)]) C dX1_loadsOneByOne_43 rfl (by decide) (Nat.le_of_ble_eq_true rfl) (by rw [ev1, ic_1]) rfl rfl ?_
          refine s_goto (tgt := 5) C dX1_loadsOneByOne_46 (by decide) ?_
          exact ih hx0 h M
        · have h := it_f c h
          refine s_iload_n C dX1_loadsOneByOne_34 rfl rfl ?_
          refine s_aload_n C dX1_loadsOneByOne_35 rfl rfl ?_
          refine s_iload C dX1_loadsOneByOne_36 rfl ?_
          obtain ⟨r3, I3, hh, h⟩ := bd_e h
          refine s_cV0 (st := [.int x3]) C M.rg (Nat.le_trans (by decide) hd) mwX1_loadAt mlX1_48 dX1_loadsOneByOne_38 (wX1_loadAt (d := 1) (Nat.le_refl _) hx0 hh) hx0 rfl rfl (Nat.le_of_ble_eq_true rfl) ?_
          refine s_iadd C dX1_loadsOneByOne_41 ?_
          obtain ⟨v1, ev1, h⟩ := ltm_e h
          refine s_top_i ev1 ?_
          refine s_istore_n (ls' := [some (rfX X x0), some (.int x1), some (.int x2), some (.int v1), some (.int x4)]) C dX1_loadsOneByOne_42 rfl (by decide) (Nat.le_of_ble_eq_true rfl) rfl rfl ?_
          obtain ⟨v2, ev2, h⟩ := ltm_e h
          refine s_iinc (v := v2) (ls' := [some (rfX X x0), some (.int x1), some (.int x2), some (.int v1), some (.int v2)]) C dX1_loadsOneByOne_43 rfl (by decide) (Nat.le_of_ble_eq_true rfl) (by rw [ev2, ic_1]) rfl rfl ?_
          refine s_goto (tgt := 5) C dX1_loadsOneByOne_46 (by decide) ?_
          exact ih hx0 h M
