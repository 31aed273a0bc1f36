theorem wX5_depth {E : Ev} {d : Nat} (hd : 3 ≤ d) {x1 : Int32} {x2 : Int32} {I I' : Mm} {r : Int32}  (h : fX5_depth x1 x2 I = some (r, I')) : SemM E d 0 0 mX5_depth [rfE E 163, .int x1, .int x2] S0 I (some (.int r)) S0 I' := by
  unfold fX5_depth at h
  refine SemM.ofX (E := E) (y := mX5_depth) (args := fun E => [rfE E 163, .int x1, .int x2]) (r := fun E => (some (.int r))) (fun E => [some (rfE E 163), some (.int x1), some (.int x2), none, none]) (by decide +kernel) (Nat.le_of_ble_eq_true rfl) rfl (fun X C M => ?_)
  refine s_iconst C dX5_depth_0 ic_0 ?_
  refine s_istore_n (ls' := [some (rfX X 163), some (.int x1), some (.int x2), some (.int 0), none]) C dX5_depth_1 rfl (by decide) (Nat.le_of_ble_eq_true rfl) rfl rfl ?_
  refine s_aload_n C dX5_depth_2 rfl rfl ?_
  refine s_iload_n C dX5_depth_3 rfl rfl ?_
  refine s_iload_n C dX5_depth_4 rfl rfl ?_
  obtain ⟨r1, I1, hh, h⟩ := bd_e h
  refine s_cV0 (st := []) C M.rg (Nat.le_trans (by decide) hd) mwX5_above mlX5_77 dX5_depth_5 (wX5_above (d := 2) (Nat.le_refl _)  hh) kk_163 rfl rfl (Nat.le_of_ble_eq_true rfl) ?_
  refine s_istore (ls' := [some (rfX X 163), some (.int x1), some (.int x2), some (.int 0), some (.int r1)]) C dX5_depth_8 (by decide) (Nat.le_of_ble_eq_true rfl) rfl rfl ?_
  refine s_weak (ls' := [some (rfX X 163), some (.int x1), none, some (.int 0), some (.int r1)]) [true, true, false, true, true] rfl ?_
  exact wX5_depth_p10 hd C _  h M
theorem wX5_listFrom : ∀ (n : Nat) {E : Ev} {d : Nat} (_ : 2 + n ≤ d) {x1 : Int32} {x2 : Int32} {I I' : Mm} {r : Unit}  (_ : fX5_listFrom n x1 x2 I = some (r, I')), SemM E d 0 0 mX5_listFrom [rfE E 163, .int x1, .int x2] S0 I none S0 I' := by
  intro n
  induction n with
  | zero => intro E d hd x1 x2 I I' r  h; exact absurd h (by simp [fX5_listFrom])
  | succ n ih =>
    intro E d hd x1 x2 I I' r  h
    rw [fX5_listFrom] at h
    refine SemM.ofX (E := E) (y := mX5_listFrom) (args := fun E => [rfE E 163, .int x1, .int x2]) (r := fun E => none) (fun E => [some (rfE E 163), some (.int x1), some (.int x2)]) (by decide +kernel) (Nat.le_of_ble_eq_true rfl) rfl (fun X C M => ?_)
    refine s_iload_n C dX5_listFrom_0 rfl rfl ?_
    refine s_if_lt (tgt := 48) C dX5_listFrom_1 (by decide) (fun c => ?_) (fun c => ?_)
    · have h := it_t c h
      obtain ⟨rfl, rfl⟩ := pr_e h
      exact s_vret C M dX5_listFrom_48 rfl (Nat.le_refl 0) (Nat.le_refl 0)
    · have h := it_f c h
      refine s_aload_n C dX5_listFrom_4 rfl rfl ?_
      refine s_iload_n C dX5_listFrom_5 rfl rfl ?_
      refine s_aload_n C dX5_listFrom_6 rfl rfl ?_
      refine s_iload_n C dX5_listFrom_7 rfl rfl ?_
      refine s_iload_n C dX5_listFrom_8 rfl rfl ?_
      refine s_iconst C dX5_listFrom_9 ic_2 ?_
      obtain ⟨r1, I1, hh, h⟩ := bd_e h
      refine s_cV0 (st := [.int x1, rfX X 163]) C M.rg (Nat.le_trans (by omega) hd) mwX5_of mlX5_62 dX5_listFrom_10 (wX5_of (d := 1) (Nat.le_refl _)  hh) kk_163 rfl rfl (Nat.le_of_ble_eq_true rfl) ?_
      obtain ⟨r2, I2, hh, h⟩ := bd_e h
      refine s_cV0 (st := []) C M.rg (Nat.le_trans (by omega) hd) mwX5_listFrom mlX5_80 dX5_listFrom_13 (ih (d := 2 + n) (Nat.le_refl _)  hh) kk_163 rfl rfl (Nat.le_of_ble_eq_true rfl) ?_
      refine s_aload_n C dX5_listFrom_16 rfl rfl ?_
      refine s_getR (b := 176) C dX5_listFrom_17 kk_163 foX5_24 rfl rk_163_9 ?_
      refine s_aload_n C dX5_listFrom_20 rfl rfl ?_
      refine s_getI C dX5_listFrom_21 kk_163 foX5_84 rfl ?_
      refine s_iload_n C dX5_listFrom_24 rfl rfl ?_
      obtain ⟨hb, h⟩ := it_n h
      obtain ⟨I3, eI3, h⟩ := ltm_e h
      refine s_ast (q := (I2 163 10).toNatClampNeg) C dX5_listFrom_25 kk_176 (by decide) rfl hb eI3 ?_
      refine s_aload_n C dX5_listFrom_26 rfl rfl ?_
      refine s_dup C dX5_listFrom_27 rfl ?_
      refine s_getI C dX5_listFrom_28 kk_163 foX5_84 rfl ?_
      refine s_iconst C dX5_listFrom_31 ic_1 ?_
      refine s_iadd C dX5_listFrom_32 ?_
      obtain ⟨I4, eI4, h⟩ := ltm_e h
      refine s_putI C dX5_listFrom_33 kk_163 poX5_84 rfl eI4 ?_
      refine s_aload_n C dX5_listFrom_36 rfl rfl ?_
      refine s_iload_n C dX5_listFrom_37 rfl rfl ?_
      refine s_aload_n C dX5_listFrom_38 rfl rfl ?_
      refine s_iload_n C dX5_listFrom_39 rfl rfl ?_
      refine s_iload_n C dX5_listFrom_40 rfl rfl ?_
      refine s_iconst C dX5_listFrom_41 ic_3 ?_
      obtain ⟨r3, I5, hh, h⟩ := bd_e h
      refine s_cV0 (st := [.int x1, rfX X 163]) C M.rg (Nat.le_trans (by omega) hd) mwX5_of mlX5_62 dX5_listFrom_42 (wX5_of (d := 1) (Nat.le_refl _)  hh) kk_163 rfl rfl (Nat.le_of_ble_eq_true rfl) ?_
      obtain ⟨r4, I6, hh, h⟩ := bd_e h
      refine s_cV0 (st := []) C M.rg (Nat.le_trans (by omega) hd) mwX5_listFrom mlX5_80 dX5_listFrom_45 (ih (d := 2 + n) (Nat.le_refl _)  hh) kk_163 rfl rfl (Nat.le_of_ble_eq_true rfl) ?_
      obtain ⟨rfl, rfl⟩ := pr_e h
      exact s_vret C M dX5_listFrom_48 rfl (Nat.le_refl 0) (Nat.le_refl 0)
theorem wX5_listAll {E : Ev} {d : Nat} (hd : 43 ≤ d) {x1 : Int32} {I I' : Mm} {r : Unit}  (h : fX5_listAll x1 I = some (r, I')) : SemM E d 0 0 mX5_listAll [rfE E 163, .int x1] S0 I none S0 I' := by
  unfold fX5_listAll at h
  refine SemM.ofX (E := E) (y := mX5_listAll) (args := fun E => [rfE E 163, .int x1]) (r := fun E => none) (fun E => [some (rfE E 163), some (.int x1)]) (by decide +kernel) (Nat.le_of_ble_eq_true rfl) rfl (fun X C M => ?_)
  refine s_aload_n C dX5_listAll_0 rfl rfl ?_
  refine s_iconst C dX5_listAll_1 ic_0 ?_
  obtain ⟨I1, eI1, h⟩ := ltm_e h
  refine s_putI C dX5_listAll_2 kk_163 poX5_84 rfl eI1 ?_
  refine s_aload_n C dX5_listAll_5 rfl rfl ?_
  refine s_iload_n C dX5_listAll_6 rfl rfl ?_
  refine s_aload_n C dX5_listAll_7 rfl rfl ?_
  refine s_iload_n C dX5_listAll_8 rfl rfl ?_
  obtain ⟨r1, I2, hh, h⟩ := bd_e h
  refine s_cV0 (st := [.int x1, rfX X 163]) C M.rg (Nat.le_trans (by decide) hd) mwX5_top mlX5_73 dX5_listAll_9 (wX5_top (d := 1) (Nat.le_refl _)  hh) kk_163 rfl rfl (Nat.le_of_ble_eq_true rfl) ?_
  obtain ⟨r2, I3, hh, h⟩ := bd_e h
  refine s_cV0 (st := []) C M.rg (Nat.le_trans (by decide) hd) mwX5_listFrom mlX5_80 dX5_listAll_12 (wX5_listFrom _ (d := 42) (Nat.le_refl _)  hh) kk_163 rfl rfl (Nat.le_of_ble_eq_true rfl) ?_
  obtain ⟨rfl, rfl⟩ := pr_e h
  exact s_vret C M dX5_listAll_15 rfl (Nat.le_refl 0) (Nat.le_refl 0)
theorem wX5_allDepths_p9 {X : Cx} {d : Nat} (hd : 44 ≤ d) (C : CtxOK X mX5_allDepths) : ∀ (n : Nat) {x1 : Int32} {x2 : Int32} {x3 : Int32} {I I' : Mm} {r : Int32}  (_ : fX5_allDepths_p9 n x1 x2 x3 I = some (r, I')) (_ : MX X (xE X) d 0 0 (some (.int r)) S0 I'), WM X mX5_allDepths 9 [some (rfX X 163), some (.int x1), some (.int x2), some (.int x3)] [] S0 I 0 0 := by
  intro n
  induction n with
  | zero => intro x1 x2 x3 I I' r  h M; exact absurd h (by simp [fX5_allDepths_p9])
  | succ n ih =>
    intro x1 x2 x3 I I' r  h M
    rw [fX5_allDepths_p9] at h
    refine s_iload_n C dX5_allDepths_9 rfl rfl ?_
    refine s_aload_n C dX5_allDepths_10 rfl rfl ?_
    refine s_getI C dX5_allDepths_11 kk_163 foX5_84 rfl ?_
    refine s_icmp_ge (tgt := 37) C dX5_allDepths_14 (by decide) (fun c => ?_) (fun c => ?_)
    · have h := it_t c h
      refine s_iload_n C dX5_allDepths_37 rfl rfl ?_
      obtain ⟨rfl, rfl⟩ := pr_e h
      exact s_iret C M dX5_allDepths_38 rfl rfl (Nat.le_refl 0) (Nat.le_refl 0)
    · have h := it_f c h
      refine s_iload_n C dX5_allDepths_17 rfl rfl ?_
      refine s_aload_n C dX5_allDepths_18 rfl rfl ?_
      refine s_iload_n C dX5_allDepths_19 rfl rfl ?_
      refine s_aload_n C dX5_allDepths_20 rfl rfl ?_
      refine s_getR (b := 176) C dX5_allDepths_21 kk_163 foX5_24 rfl rk_163_9 ?_
      refine s_iload_n C dX5_allDepths_24 rfl rfl ?_
      obtain ⟨hb, h⟩ := it_n h
      refine s_ald (q := x3.toNatClampNeg) C dX5_allDepths_25 kk_176 (by decide) rfl hb ?_
      obtain ⟨r1, I1, hh, h⟩ := bd_e h
      refine s_cV0 (st := [.int x2]) C M.rg (Nat.le_trans (by decide) hd) mwX5_depth mlX5_139 dX5_allDepths_26 (wX5_depth (d := 3) (Nat.le_refl _)  hh) kk_163 rfl rfl (Nat.le_of_ble_eq_true rfl) ?_
      refine s_iadd C dX5_allDepths_29 ?_
      obtain ⟨v1, ev1, h⟩ := ltm_e h
      refine s_top_i ev1 ?_
      refine s_istore_n (ls' := [some (rfX X 163), some (.int x1), some (.int v1), some (.int x3)]) C dX5_allDepths_30 rfl (by decide) (Nat.le_of_ble_eq_true rfl) rfl rfl ?_
      obtain ⟨v2, ev2, h⟩ := ltm_e h
      refine s_iinc (v := v2) (ls' := [some (rfX X 163), some (.int x1), some (.int v1), some (.int v2)]) C dX5_allDepths_31 rfl (by decide) (Nat.le_of_ble_eq_true rfl) (by rw [ev2, ic_1]) rfl rfl ?_
      refine s_goto (tgt := 9) C dX5_allDepths_34 (by decide) ?_
      exact ih  h M
theorem wX5_allDepths {E : Ev} {d : Nat} (hd : 44 ≤ d) {x1 : Int32} {I I' : Mm} {r : Int32}  (h : fX5_allDepths x1 I = some (r, I')) : SemM E d 0 0 mX5_allDepths [rfE E 163, .int x1] S0 I (some (.int r)) S0 I' := by
  unfold fX5_allDepths at h
  refine SemM.ofX (E := E) (y := mX5_allDepths) (args := fun E => [rfE E 163, .int x1]) (r := fun E => (some (.int r))) (fun E => [some (rfE E 163), some (.int x1), none, none]) (by decide +kernel) (Nat.le_of_ble_eq_true rfl) rfl (fun X C M => ?_)
  refine s_iconst C dX5_allDepths_0 ic_0 ?_
  refine s_istore_n (ls' := [some (rfX X 163), some (.int x1), some (.int 0), none]) C dX5_allDepths_1 rfl (by decide) (Nat.le_of_ble_eq_true rfl) rfl rfl ?_
  refine s_aload_n C dX5_allDepths_2 rfl rfl ?_
  refine s_iload_n C dX5_allDepths_3 rfl rfl ?_
  obtain ⟨r1, I1, hh, h⟩ := bd_e h
  refine s_cV0 (st := []) C M.rg (Nat.le_trans (by decide) hd) mwX5_listAll mlX5_100 dX5_allDepths_4 (wX5_listAll (d := 43) (Nat.le_refl _)  hh) kk_163 rfl rfl (Nat.le_of_ble_eq_true rfl) ?_
  refine s_iconst C dX5_allDepths_7 ic_0 ?_
  refine s_istore_n (ls' := [some (rfX X 163), some (.int x1), some (.int 0), some (.int 0)]) C dX5_allDepths_8 rfl (by decide) (Nat.le_of_ble_eq_true rfl) rfl rfl ?_
  exact wX5_allDepths_p9 hd C _  h M
theorem wX5_isBetween {E : Ev} {d : Nat} (hd : 1 ≤ d) {x0 : Int32} {x1 : Int32} {x2 : Int32} {I I' : Mm} {r : Int32}  (h : fX5_isBetween x0 x1 x2 I = some (r, I')) : SemM E d 0 0 mX5_isBetween [.int x0, .int x1, .int x2] S0 I (some (.int r)) S0 I' := by
  unfold fX5_isBetween at h
  refine SemM.ofX (E := E) (y := mX5_isBetween) (args := fun E => [.int x0, .int x1, .int x2]) (r := fun E => (some (.int r))) (fun E => [some (.int x0), some (.int x1), some (.int x2)]) (by decide +kernel) (Nat.le_of_ble_eq_true rfl) rfl (fun X C M => ?_)
  refine s_iload_n C dX5_isBetween_0 rfl rfl ?_
  refine s_iload_n C dX5_isBetween_1 rfl rfl ?_
  refine s_icmp_lt (tgt := 14) C dX5_isBetween_2 (by decide) (fun c => ?_) (fun c => ?_)
  · have h := it_t c h
    refine s_iconst C dX5_isBetween_14 ic_0 ?_
    obtain ⟨rfl, rfl⟩ := pr_e h
    exact s_iret C M dX5_isBetween_15 rfl (nz_b (by decide)) (Nat.le_refl 0) (Nat.le_refl 0)
  · have h := it_f c h
    refine s_iload_n C dX5_isBetween_5 rfl rfl ?_
    refine s_iload_n C dX5_isBetween_6 rfl rfl ?_
    refine s_icmp_gt (tgt := 14) C dX5_isBetween_7 (by decide) (fun c => ?_) (fun c => ?_)
    · have h := it_t c h
      refine s_iconst C dX5_isBetween_14 ic_0 ?_
      obtain ⟨rfl, rfl⟩ := pr_e h
      exact s_iret C M dX5_isBetween_15 rfl (nz_b (by decide)) (Nat.le_refl 0) (Nat.le_refl 0)
    · have h := it_f c h
      refine s_iconst C dX5_isBetween_10 ic_1 ?_
      refine s_goto (tgt := 15) C dX5_isBetween_11 (by decide) ?_
      obtain ⟨rfl, rfl⟩ := pr_e h
      exact s_iret C M dX5_isBetween_15 rfl (nz_b (by decide)) (Nat.le_refl 0) (Nat.le_refl 0)
theorem wX5_append {E : Ev} {d : Nat} (hd : 2 ≤ d) {x1 : Int32} {I I' : Mm} {r : Int32}  (h : fX5_append x1 I = some (r, I')) : SemM E d 0 0 mX5_append [rfE E 163, .int x1] S0 I (some (.int r)) S0 I' := by
  unfold fX5_append at h
  refine SemM.ofX (E := E) (y := mX5_append) (args := fun E => [rfE E 163, .int x1]) (r := fun E => (some (.int r))) (fun E => [some (rfE E 163), some (.int x1)]) (by decide +kernel) (Nat.le_of_ble_eq_true rfl) rfl (fun X C M => ?_)
  refine s_iload_n C dX5_append_0 rfl rfl ?_
  refine s_bipush C dX5_append_1 bi_32 ?_
  refine s_bipush C dX5_append_3 bi_126 ?_
  obtain ⟨r1, I1, hh, h⟩ := bd_e h
  refine s_cS0 (st := []) C M.rg (Nat.le_trans (by decide) hd) mwX5_isBetween mlX5_58 dX5_append_5 (wX5_isBetween (d := 1) (Nat.le_refl _)  hh) rfl rfl (Nat.le_of_ble_eq_true rfl) ?_
  refine s_if_ne (tgt := 14) C dX5_append_8 (by decide) (fun c => ?_) (fun c => ?_)
  · have h := it_f c h
    refine s_aload_n C dX5_append_14 rfl rfl ?_
    refine s_getI C dX5_append_15 kk_163 foX5_223 rfl ?_
    refine s_bipush C dX5_append_18 bi_60 ?_
    refine s_icmp_ne (tgt := 26) C dX5_append_20 (by decide) (fun c => ?_) (fun c => ?_)
    · have h := it_f c h
      refine s_aload_n C dX5_append_26 rfl rfl ?_
      refine s_getR (b := 178) C dX5_append_27 kk_163 foX5_30 rfl rk_163_12 ?_
      refine s_aload_n C dX5_append_30 rfl rfl ?_
      refine s_getI C dX5_append_31 kk_163 foX5_223 rfl ?_
      refine s_iload_n C dX5_append_34 rfl rfl ?_
      obtain ⟨hb, h⟩ := it_n h
      obtain ⟨I2, eI2, h⟩ := ltm_e h
      refine s_ast (q := (I1 163 13).toNatClampNeg) C dX5_append_35 kk_178 (by decide) rfl hb eI2 ?_
      refine s_aload_n C dX5_append_36 rfl rfl ?_
      refine s_dup C dX5_append_37 rfl ?_
      refine s_getI C dX5_append_38 kk_163 foX5_223 rfl ?_
      refine s_iconst C dX5_append_41 ic_1 ?_
      refine s_iadd C dX5_append_42 ?_
      obtain ⟨I3, eI3, h⟩ := ltm_e h
      refine s_putI C dX5_append_43 kk_163 poX5_223 rfl eI3 ?_
      refine s_aload_n C dX5_append_46 rfl rfl ?_
      refine s_getI C dX5_append_47 kk_163 foX5_223 rfl ?_
      obtain ⟨rfl, rfl⟩ := pr_e h
      exact s_iret C M dX5_append_50 rfl rfl (Nat.le_refl 0) (Nat.le_refl 0)
    · have h := it_t c h
      refine s_bipush C dX5_append_23 bi_m13 ?_
      obtain ⟨rfl, rfl⟩ := pr_e h
      exact s_iret C M dX5_append_25 rfl rfl (Nat.le_refl 0) (Nat.le_refl 0)
  · have h := it_t c h
    refine s_bipush C dX5_append_11 bi_m12 ?_
    obtain ⟨rfl, rfl⟩ := pr_e h
    exact s_iret C M dX5_append_13 rfl rfl (Nat.le_refl 0) (Nat.le_refl 0)
theorem wX5_isRick {E : Ev} {d : Nat} (hd : 2 ≤ d) {x0 : Int32} {I I' : Mm} {r : Int32}  (h : fX5_isRick x0 I = some (r, I')) : SemM E d 0 0 mX5_isRick [.int x0] S0 I (some (.int r)) S0 I' := by
  unfold fX5_isRick at h
  refine SemM.ofX (E := E) (y := mX5_isRick) (args := fun E => [.int x0]) (r := fun E => (some (.int r))) (fun E => [some (.int x0)]) (by decide +kernel) (Nat.le_of_ble_eq_true rfl) rfl (fun X C M => ?_)
  refine s_iload_n C dX5_isRick_0 rfl rfl ?_
  refine s_iconst C dX5_isRick_1 ic_0 ?_
  refine s_iconst C dX5_isRick_2 ic_2 ?_
  obtain ⟨r1, I1, hh, h⟩ := bd_e h
  refine s_cS0 (st := []) C M.rg (Nat.le_trans (by decide) hd) mwX5_isBetween mlX5_58 dX5_isRick_3 (wX5_isBetween (d := 1) (Nat.le_refl _)  hh) rfl rfl (Nat.le_of_ble_eq_true rfl) ?_
  obtain ⟨hz, h⟩ := it_s h
  obtain ⟨rfl, rfl⟩ := pr_e h
  exact s_iret C M dX5_isRick_6 rfl (nz_b hz) (Nat.le_refl 0) (Nat.le_refl 0)
theorem wX5_at {E : Ev} {d : Nat} (hd : 44 ≤ d) {x1 : Int32} {x2 : Int32} {I I' : Mm} {r : Int32}  (h : fX5_at x1 x2 I = some (r, I')) : SemM E d 0 0 mX5_at [rfE E 163, .int x1, .int x2] S0 I (some (.int r)) S0 I' := by
  unfold fX5_at at h
  refine SemM.ofX (E := E) (y := mX5_at) (args := fun E => [rfE E 163, .int x1, .int x2]) (r := fun E => (some (.int r))) (fun E => [some (rfE E 163), some (.int x1), some (.int x2)]) (by decide +kernel) (Nat.le_of_ble_eq_true rfl) rfl (fun X C M => ?_)
  refine s_iload_n C dX5_at_0 rfl rfl ?_
  obtain ⟨r1, I1, hh, h⟩ := bd_e h
  refine s_cS0 (st := []) C M.rg (Nat.le_trans (by decide) hd) mwX5_isRick mlX5_110 dX5_at_1 (wX5_isRick (d := 2) (Nat.le_refl _)  hh) rfl rfl (Nat.le_of_ble_eq_true rfl) ?_
  refine s_if_ne (tgt := 10) C dX5_at_4 (by decide) (fun c => ?_) (fun c => ?_)
  · have h := it_f c h
    refine s_aload_n C dX5_at_10 rfl rfl ?_
    refine s_iload_n C dX5_at_11 rfl rfl ?_
    obtain ⟨r2, I2, hh, h⟩ := bd_e h
    refine s_cV0 (st := []) C M.rg (Nat.le_trans (by decide) hd) mwX5_listAll mlX5_100 dX5_at_12 (wX5_listAll (d := 43) (Nat.le_refl _)  hh) kk_163 rfl rfl (Nat.le_of_ble_eq_true rfl) ?_
    refine s_iload_n C dX5_at_15 rfl rfl ?_
    refine s_iconst C dX5_at_16 ic_0 ?_
    refine s_aload_n C dX5_at_17 rfl rfl ?_
    refine s_getI C dX5_at_18 kk_163 foX5_84 rfl ?_
    refine s_iconst C dX5_at_21 ic_1 ?_
    refine s_isub C dX5_at_22 ?_
    obtain ⟨r3, I3, hh, h⟩ := bd_e h
    refine s_cS0 (st := []) C M.rg (Nat.le_trans (by decide) hd) mwX5_isBetween mlX5_58 dX5_at_23 (wX5_isBetween (d := 1) (Nat.le_refl _)  hh) rfl rfl (Nat.le_of_ble_eq_true rfl) ?_
    refine s_if_eq (tgt := 44) C dX5_at_26 (by decide) (fun c => ?_) (fun c => ?_)
    · have h := it_t c h
      refine s_bipush C dX5_at_44 bi_m11 ?_
      obtain ⟨rfl, rfl⟩ := pr_e h
      exact s_iret C M dX5_at_46 rfl rfl (Nat.le_refl 0) (Nat.le_refl 0)
    · have h := it_f c h
      refine s_aload_n C dX5_at_29 rfl rfl ?_
      refine s_iload_n C dX5_at_30 rfl rfl ?_
      refine s_aload_n C dX5_at_31 rfl rfl ?_
      refine s_getR (b := 176) C dX5_at_32 kk_163 foX5_24 rfl rk_163_9 ?_
      refine s_iload_n C dX5_at_35 rfl rfl ?_
      obtain ⟨hb, h⟩ := it_n h
      refine s_ald (q := x2.toNatClampNeg) C dX5_at_36 kk_176 (by decide) rfl hb ?_
      refine s_iconst C dX5_at_37 ic_0 ?_
      obtain ⟨r4, I4, hh, h⟩ := bd_e h
      refine s_cV0 (st := []) C M.rg (Nat.le_trans (by decide) hd) mwX5_of mlX5_62 dX5_at_38 (wX5_of (d := 1) (Nat.le_refl _)  hh) kk_163 rfl rfl (Nat.le_of_ble_eq_true rfl) ?_
      refine s_goto (tgt := 46) C dX5_at_41 (by decide) ?_
      obtain ⟨rfl, rfl⟩ := pr_e h
      exact s_iret C M dX5_at_46 rfl rfl (Nat.le_refl 0) (Nat.le_refl 0)
  · have h := it_t c h
    refine s_bipush C dX5_at_7 bi_m11 ?_
    obtain ⟨rfl, rfl⟩ := pr_e h
    exact s_iret C M dX5_at_9 rfl rfl (Nat.le_refl 0) (Nat.le_refl 0)
theorem wX5_between_p21 {X : Cx} {d : Nat} (hd : 44 ≤ d) (C : CtxOK X mX5_between) : ∀ (n : Nat) {x1 : Int32} {x2 : Int32} {x3 : Int32} {x4 : Int32} {x5 : Int32} {I I' : Mm} {r : Int32}  (_ : fX5_between_p21 n x1 x2 x3 x4 x5 I = some (r, I')) (_ : MX X (xE X) d 0 0 (some (.int r)) S0 I'), WM X mX5_between 21 [some (rfX X 163), some (.int x1), some (.int x2), some (.int x3), some (.int x4), some (.int x5)] [] S0 I 0 0 := by
  intro n
  induction n with
  | zero => intro x1 x2 x3 x4 x5 I I' r  h M; exact absurd h (by simp [fX5_between_p21])
  | succ n ih =>
    intro x1 x2 x3 x4 x5 I I' r  h M
    rw [fX5_between_p21] at h
    refine s_iload C dX5_between_21 rfl ?_
    refine s_aload_n C dX5_between_23 rfl rfl ?_
    refine s_getI C dX5_between_24 kk_163 foX5_84 rfl ?_
    refine s_icmp_ge (tgt := 79) C dX5_between_27 (by decide) (fun c => ?_) (fun c => ?_)
    · have h := it_t c h
      refine s_iload C dX5_between_79 rfl ?_
      obtain ⟨rfl, rfl⟩ := pr_e h
      exact s_iret C M dX5_between_81 rfl rfl (Nat.le_refl 0) (Nat.le_refl 0)
    · have h := it_f c h
      refine s_iload C dX5_between_30 rfl ?_
      refine s_aload_n C dX5_between_32 rfl rfl ?_
      refine s_iload_n C dX5_between_33 rfl rfl ?_
      refine s_aload_n C dX5_between_34 rfl rfl ?_
      refine s_getR (b := 176) C dX5_between_35 kk_163 foX5_24 rfl rk_163_9 ?_
      refine s_iload C dX5_between_38 rfl ?_
      obtain ⟨hb, h⟩ := it_n h
      refine s_ald (q := x5.toNatClampNeg) C dX5_between_40 kk_176 (by decide) rfl hb ?_
      refine s_iconst C dX5_between_41 ic_0 ?_
      obtain ⟨r1, I1, hh, h⟩ := bd_e h
      refine s_cV0 (st := [.int x4]) C M.rg (Nat.le_trans (by decide) hd) mwX5_of mlX5_62 dX5_between_42 (wX5_of (d := 1) (Nat.le_refl _)  hh) kk_163 rfl rfl (Nat.le_of_ble_eq_true rfl) ?_
      refine s_iload_n C dX5_between_45 rfl rfl ?_
      refine s_iload_n C dX5_between_46 rfl rfl ?_
      obtain ⟨r2, I2, hh, h⟩ := bd_e h
      refine s_cS0 (st := [.int x4]) C M.rg (Nat.le_trans (by decide) hd) mwX5_isBetween mlX5_58 dX5_between_47 (wX5_isBetween (d := 1) (Nat.le_refl _)  hh) rfl rfl (Nat.le_of_ble_eq_true rfl) ?_
      refine s_if_eq (tgt := 69) C dX5_between_50 (by decide) (fun c => ?_) (fun c => ?_)
      · have h := it_t c h
        refine s_iconst C dX5_between_69 ic_0 ?_
        refine s_iadd C dX5_between_70 ?_
        obtain ⟨v1, ev1, h⟩ := ltm_e h
        refine s_top_i ev1 ?_
        refine s_istore (ls' := [some (rfX X 163), some (.int x1), some (.int x2), some (.int x3), some (.int v1), some (.int x5)]) C dX5_between_71 (by decide) (Nat.le_of_ble_eq_true rfl) rfl rfl ?_
        obtain ⟨v2, ev2, h⟩ := ltm_e h
        refine s_iinc (v := v2) (ls' := [some (rfX X 163), some (.int x1), some (.int x2), some (.int x3), some (.int v1), some (.int v2)]) C dX5_between_73 rfl (by decide) (Nat.le_of_ble_eq_true rfl) (by rw [ev2, ic_1]) rfl rfl ?_
        refine s_goto (tgt := 21) C dX5_between_76 (by decide) ?_
        exact ih  h M
      · have h := it_f c h
        refine s_aload_n C dX5_between_53 rfl rfl ?_
        refine s_iload_n C dX5_between_54 rfl rfl ?_
        refine s_aload_n C dX5_between_55 rfl rfl ?_
        refine s_getR (b := 176) C dX5_between_56 kk_163 foX5_24 rfl rk_163_9 ?_
        refine s_iload C dX5_between_59 rfl ?_
        obtain ⟨hb, h⟩ := it_n h
        refine s_ald (q := x5.toNatClampNeg) C dX5_between_61 kk_176 (by decide) rfl hb ?_
        refine s_iconst C dX5_between_62 ic_1 ?_
        obtain ⟨r3, I3, hh, h⟩ := bd_e h
        refine s_cV0 (st := [.int x4]) C M.rg (Nat.le_trans (by decide) hd) mwX5_of mlX5_62 dX5_between_63 (wX5_of (d := 1) (Nat.le_refl _)  hh) kk_163 rfl rfl (Nat.le_of_ble_eq_true rfl) ?_
        refine s_goto (tgt := 70) C dX5_between_66 (by decide) ?_
        refine s_iadd C dX5_between_70 ?_
        obtain ⟨v1, ev1, h⟩ := ltm_e h
        refine s_top_i ev1 ?_
        refine s_istore (ls' := [some (rfX X 163), some (.int x1), some (.int x2), some (.int x3), some (.int v1), some (.int x5)]) C dX5_between_71 (by decide) (Nat.le_of_ble_eq_true rfl) rfl rfl ?_
        obtain ⟨v2, ev2, h⟩ := ltm_e h
        refine s_iinc (v := v2) (ls' := [some (rfX X 163), some (.int x1), some (.int x2), some (.int x3), some (.int v1), some (.int v2)]) C dX5_between_73 rfl (by decide) (Nat.le_of_ble_eq_true rfl) (by rw [ev2, ic_1]) rfl rfl ?_
        refine s_goto (tgt := 21) C dX5_between_76 (by decide) ?_
        exact ih  h M
theorem wX5_between {E : Ev} {d : Nat} (hd : 44 ≤ d) {x1 : Int32} {x2 : Int32} {x3 : Int32} {I I' : Mm} {r : Int32}  (h : fX5_between x1 x2 x3 I = some (r, I')) : SemM E d 0 0 mX5_between [rfE E 163, .int x1, .int x2, .int x3] S0 I (some (.int r)) S0 I' := by
  unfold fX5_between at h
  refine SemM.ofX (E := E) (y := mX5_between) (args := fun E => [rfE E 163, .int x1, .int x2, .int x3]) (r := fun E => (some (.int r))) (fun E => [some (rfE E 163), some (.int x1), some (.int x2), some (.int x3), none, none]) (by decide +kernel) (Nat.le_of_ble_eq_true rfl) rfl (fun X C M => ?_)
  refine s_iload_n C dX5_between_0 rfl rfl ?_
  obtain ⟨r1, I1, hh, h⟩ := bd_e h
  refine s_cS0 (st := []) C M.rg (Nat.le_trans (by decide) hd) mwX5_isRick mlX5_110 dX5_between_1 (wX5_isRick (d := 2) (Nat.le_refl _)  hh) rfl rfl (Nat.le_of_ble_eq_true rfl) ?_
  refine s_if_ne (tgt := 10) C dX5_between_4 (by decide) (fun c => ?_) (fun c => ?_)
  · have h := it_f c h
    refine s_aload_n C dX5_between_10 rfl rfl ?_
    refine s_iload_n C dX5_between_11 rfl rfl ?_
    obtain ⟨r2, I2, hh, h⟩ := bd_e h
    refine s_cV0 (st := []) C M.rg (Nat.le_trans (by decide) hd) mwX5_listAll mlX5_100 dX5_between_12 (wX5_listAll (d := 43) (Nat.le_refl _)  hh) kk_163 rfl rfl (Nat.le_of_ble_eq_true rfl) ?_
    refine s_iconst C dX5_between_15 ic_0 ?_
    refine s_istore (ls' := [some (rfX X 163), some (.int x1), some (.int x2), some (.int x3), some (.int 0), none]) C dX5_between_16 (by decide) (Nat.le_of_ble_eq_true rfl) rfl rfl ?_
    refine s_iconst C dX5_between_18 ic_0 ?_
    refine s_istore (ls' := [some (rfX X 163), some (.int x1), some (.int x2), some (.int x3), some (.int 0), some (.int 0)]) C dX5_between_19 (by decide) (Nat.le_of_ble_eq_true rfl) rfl rfl ?_
    exact wX5_between_p21 hd C _  h M
  · have h := it_t c h
    refine s_bipush C dX5_between_7 bi_m11 ?_
    obtain ⟨rfl, rfl⟩ := pr_e h
    exact s_iret C M dX5_between_9 rfl rfl (Nat.le_refl 0) (Nat.le_refl 0)
theorem wX5_betweenAgain {E : Ev} {d : Nat} (hd : 45 ≤ d) {x1 : Int32} {x2 : Int32} {x3 : Int32} {I I' : Mm} {r : Int32}  (h : fX5_betweenAgain x1 x2 x3 I = some (r, I')) : SemM E d 0 0 mX5_betweenAgain [rfE E 163, .int x1, .int x2, .int x3] S0 I (some (.int r)) S0 I' := by
  unfold fX5_betweenAgain at h
  refine SemM.ofX (E := E) (y := mX5_betweenAgain) (args := fun E => [rfE E 163, .int x1, .int x2, .int x3]) (r := fun E => (some (.int r))) (fun E => [some (rfE E 163), some (.int x1), some (.int x2), some (.int x3)]) (by decide +kernel) (Nat.le_of_ble_eq_true rfl) rfl (fun X C M => ?_)
  refine s_aload_n C dX5_betweenAgain_0 rfl rfl ?_
  refine s_iload_n C dX5_betweenAgain_1 rfl rfl ?_
  refine s_iload_n C dX5_betweenAgain_2 rfl rfl ?_
  refine s_iload_n C dX5_betweenAgain_3 rfl rfl ?_
  obtain ⟨r1, I1, hh, h⟩ := bd_e h
  refine s_cV0 (st := []) C M.rg (Nat.le_trans (by decide) hd) mwX5_between mlX5_185 dX5_betweenAgain_4 (wX5_between (d := 44) (Nat.le_refl _)  hh) kk_163 rfl rfl (Nat.le_of_ble_eq_true rfl) ?_
  obtain ⟨rfl, rfl⟩ := pr_e h
  exact s_iret C M dX5_betweenAgain_7 rfl rfl (Nat.le_refl 0) (Nat.le_refl 0)
theorem wX5_bits : ∀ (n : Nat) {E : Ev} {d : Nat} (_ : 2 + n ≤ d) {x1 : Int32} {x2 : Int32} {x3 : Int64} {I I' : Mm} {r : Int64}  (_ : fX5_bits n x1 x2 x3 I = some (r, I')), SemM E d 0 0 mX5_bits [rfE E 163, .int x1, .int x2, .long x3] S0 I (some (.long r)) S0 I' := by
  intro n
  induction n with
  | zero => intro E d hd x1 x2 x3 I I' r  h; exact absurd h (by simp [fX5_bits])
  | succ n ih =>
    intro E d hd x1 x2 x3 I I' r  h
    rw [fX5_bits] at h
    refine SemM.ofX (E := E) (y := mX5_bits) (args := fun E => [rfE E 163, .int x1, .int x2, .long x3]) (r := fun E => (some (.long r))) (fun E => [some (rfE E 163), some (.int x1), some (.int x2), some (.long x3), none]) (by decide +kernel) (Nat.le_of_ble_eq_true rfl) rfl (fun X C M => ?_)
    refine s_iload_n C dX5_bits_0 rfl rfl ?_
    refine s_if_ge (tgt := 8) C dX5_bits_1 (by decide) (fun c => ?_) (fun c => ?_)
    · have h := it_t c h
      refine s_aload_n C dX5_bits_8 rfl rfl ?_
      refine s_iload_n C dX5_bits_9 rfl rfl ?_
      refine s_aload_n C dX5_bits_10 rfl rfl ?_
      refine s_iload_n C dX5_bits_11 rfl rfl ?_
      refine s_iload_n C dX5_bits_12 rfl rfl ?_
      refine s_iconst C dX5_bits_13 ic_3 ?_
      obtain ⟨r1, I1, hh, h⟩ := bd_e h
      refine s_cV0 (st := [.int x1, rfX X 163]) C M.rg (Nat.le_trans (by omega) hd) mwX5_of mlX5_62 dX5_bits_14 (wX5_of (d := 1) (Nat.le_refl _)  hh) kk_163 rfl rfl (Nat.le_of_ble_eq_true rfl) ?_
      refine s_aload_n C dX5_bits_17 rfl rfl ?_
      refine s_iload_n C dX5_bits_18 rfl rfl ?_
      refine s_aload_n C dX5_bits_19 rfl rfl ?_
      refine s_iload_n C dX5_bits_20 rfl rfl ?_
      refine s_iload_n C dX5_bits_21 rfl rfl ?_
      refine s_iconst C dX5_bits_22 ic_2 ?_
      obtain ⟨r2, I2, hh, h⟩ := bd_e h
      refine s_cV0 (st := [.int x1, rfX X 163, .int r1, .int x1, rfX X 163]) C M.rg (Nat.le_trans (by omega) hd) mwX5_of mlX5_62 dX5_bits_23 (wX5_of (d := 1) (Nat.le_refl _)  hh) kk_163 rfl rfl (Nat.le_of_ble_eq_true rfl) ?_
      refine s_lload_n C dX5_bits_26 rfl rfl ?_
      refine s_iconst C dX5_bits_27 ic_1 ?_
      refine s_lshl C dX5_bits_28 ?_
      refine s_lconst (v := 1) C dX5_bits_29 (by decide +kernel) ?_
      refine s_lor C dX5_bits_30 ?_
      obtain ⟨r3, I3, hh, h⟩ := bd_e h
      refine s_cV0 (st := [.int r1, .int x1, rfX X 163]) C M.rg (Nat.le_trans (by omega) hd) mwX5_bits mlX5_203 dX5_bits_31 (ih (d := 2 + n) (Nat.le_refl _)  hh) kk_163 rfl rfl (Nat.le_of_ble_eq_true rfl) ?_
      obtain ⟨r4, I4, hh, h⟩ := bd_e h
      refine s_cV0 (st := []) C M.rg (Nat.le_trans (by omega) hd) mwX5_bits mlX5_203 dX5_bits_34 (ih (d := 2 + n) (Nat.le_refl _)  hh) kk_163 rfl rfl (Nat.le_of_ble_eq_true rfl) ?_
      obtain ⟨rfl, rfl⟩ := pr_e h
      exact s_lret C M dX5_bits_37 rfl (Nat.le_refl 0) (Nat.le_refl 0)
    · have h := it_f c h
      refine s_lload_n C dX5_bits_4 rfl rfl ?_
      refine s_iconst C dX5_bits_5 ic_1 ?_
      refine s_lshl C dX5_bits_6 ?_
      obtain ⟨rfl, rfl⟩ := pr_e h
      exact s_lret C M dX5_bits_7 rfl (Nat.le_refl 0) (Nat.le_refl 0)
theorem wX5_put {E : Ev} {d : Nat} (hd : 1 ≤ d) {x1 : Int32} {x2 : Int32} {x3 : Int32} {x4 : Int32} {I I' : Mm} {r : Unit}  (h : fX5_put x1 x2 x3 x4 I = some (r, I')) : SemM E d 0 0 mX5_put [rfE E 163, .int x1, .int x2, .int x3, .int x4] S0 I none S0 I' := by
  unfold fX5_put at h
  refine SemM.ofX (E := E) (y := mX5_put) (args := fun E => [rfE E 163, .int x1, .int x2, .int x3, .int x4]) (r := fun E => none) (fun E => [some (rfE E 163), some (.int x1), some (.int x2), some (.int x3), some (.int x4)]) (by decide +kernel) (Nat.le_of_ble_eq_true rfl) rfl (fun X C M => ?_)
  refine s_aload_n C dX5_put_0 rfl rfl ?_
  refine s_getR (b := 164) C dX5_put_1 kk_163 foX5_9 rfl rk_163_0 ?_
  refine s_bipush C dX5_put_4 bi_7 ?_
  refine s_bipush C dX5_put_6 bi_122 ?_
  refine s_iload_n C dX5_put_8 rfl rfl ?_
  refine s_imul C dX5_put_9 ?_
  refine s_iadd C dX5_put_10 ?_
  refine s_iconst C dX5_put_11 ic_2 ?_
  refine s_iadd C dX5_put_12 ?_
  refine s_iconst C dX5_put_13 ic_4 ?_
  refine s_iload_n C dX5_put_14 rfl rfl ?_
  refine s_imul C dX5_put_15 ?_
  refine s_iadd C dX5_put_16 ?_
  refine s_iload_n C dX5_put_17 rfl rfl ?_
  refine s_iadd C dX5_put_18 ?_
  refine s_iload C dX5_put_19 rfl ?_
  refine s_iload_n C dX5_put_21 rfl rfl ?_
  refine s_iconst C dX5_put_22 ic_1 ?_
  refine s_icmp_ne (tgt := 30) C dX5_put_23 (by decide) (fun c => ?_) (fun c => ?_)
  · have h := it_f c h
    refine s_iconst C dX5_put_30 ic_1 ?_
    refine s_iadd C dX5_put_31 ?_
    obtain ⟨hb, h⟩ := it_n h
    obtain ⟨I1, eI1, h⟩ := ltm_e h
    refine s_ast (q := ((((7 + (122 * x1)) + 2) + (4 * x2)) + x3).toNatClampNeg) C dX5_put_32 kk_164 (by decide) rfl hb eI1 ?_
    obtain ⟨rfl, rfl⟩ := pr_e h
    exact s_vret C M dX5_put_33 rfl (Nat.le_refl 0) (Nat.le_refl 0)
  · have h := it_t c h
    refine s_iconst C dX5_put_26 ic_0 ?_
    refine s_goto (tgt := 31) C dX5_put_27 (by decide) ?_
    refine s_iadd C dX5_put_31 ?_
    obtain ⟨hb, h⟩ := it_n h
    obtain ⟨I1, eI1, h⟩ := ltm_e h
    refine s_ast (q := ((((7 + (122 * x1)) + 2) + (4 * x2)) + x3).toNatClampNeg) C dX5_put_32 kk_164 (by decide) rfl hb eI1 ?_
    obtain ⟨rfl, rfl⟩ := pr_e h
    exact s_vret C M dX5_put_33 rfl (Nat.le_refl 0) (Nat.le_refl 0)
theorem wX5_make : ∀ (n : Nat) {E : Ev} {d : Nat} (_ : 2 + n ≤ d) {x1 : Int32} {x2 : Int32} {x3 : Int32} {I I' : Mm} {r : Int32}  (_ : fX5_make n x1 x2 x3 I = some (r, I')), SemM E d 0 0 mX5_make [rfE E 163, .int x1, .int x2, .int x3] S0 I (some (.int r)) S0 I' := by
  intro n
  induction n with
  | zero => intro E d hd x1 x2 x3 I I' r  h; exact absurd h (by simp [fX5_make])
  | succ n ih =>
    intro E d hd x1 x2 x3 I I' r  h
    rw [fX5_make] at h
    refine SemM.ofX (E := E) (y := mX5_make) (args := fun E => [rfE E 163, .int x1, .int x2, .int x3]) (r := fun E => (some (.int r))) (fun E => [some (rfE E 163), some (.int x1), some (.int x2), some (.int x3), none, none]) (by decide +kernel) (Nat.le_of_ble_eq_true rfl) rfl (fun X C M => ?_)
    refine s_iload_n C dX5_make_0 rfl rfl ?_
    refine s_iload_n C dX5_make_1 rfl rfl ?_
    refine s_icmp_le (tgt := 7) C dX5_make_2 (by decide) (fun c => ?_) (fun c => ?_)
    · have h := it_t c h
      refine s_iload_n C dX5_make_7 rfl rfl ?_
      refine s_iload_n C dX5_make_8 rfl rfl ?_
      refine s_iadd C dX5_make_9 ?_
      refine s_iconst C dX5_make_10 ic_2 ?_
      refine s_idiv C dX5_make_11 (by decide) ?_
      obtain ⟨v1, ev1, h⟩ := ltm_e h
      refine s_top_i ev1 ?_
      refine s_istore (ls' := [some (rfX X 163), some (.int x1), some (.int x2), some (.int x3), some (.int v1), none]) C dX5_make_12 (by decide) (Nat.le_of_ble_eq_true rfl) rfl rfl ?_
      refine s_aload_n C dX5_make_14 rfl rfl ?_
      refine s_getR (b := 176) C dX5_make_15 kk_163 foX5_24 rfl rk_163_9 ?_
      refine s_iload C dX5_make_18 rfl ?_
      obtain ⟨hb, h⟩ := it_n h
      refine s_ald (q := v1.toNatClampNeg) C dX5_make_20 kk_176 (by decide) rfl hb ?_
      obtain ⟨v2, ev2, h⟩ := ltm_e h
      refine s_top_i ev2 ?_
      refine s_istore (ls' := [some (rfX X 163), some (.int x1), some (.int x2), some (.int x3), some (.int v1), some (.int v2)]) C dX5_make_21 (by decide) (Nat.le_of_ble_eq_true rfl) rfl rfl ?_
      refine s_aload_n C dX5_make_23 rfl rfl ?_
      refine s_iload_n C dX5_make_24 rfl rfl ?_
      refine s_iload C dX5_make_25 rfl ?_
      refine s_iconst C dX5_make_27 ic_2 ?_
      refine s_aload_n C dX5_make_28 rfl rfl ?_
      refine s_iload_n C dX5_make_29 rfl rfl ?_
      refine s_iload_n C dX5_make_30 rfl rfl ?_
      refine s_iload C dX5_make_31 rfl ?_
      refine s_iconst C dX5_make_33 ic_1 ?_
      refine s_isub C dX5_make_34 ?_
      obtain ⟨r1, I1, hh, h⟩ := bd_e h
      refine s_cV0 (st := [.int 2, .int v2, .int x1, rfX X 163]) C M.rg (Nat.le_trans (by omega) hd) mwX5_make mlX5_87 dX5_make_35 (ih (d := 2 + n) (Nat.le_refl _)  hh) kk_163 rfl rfl (Nat.le_of_ble_eq_true rfl) ?_
      obtain ⟨r2, I2, hh, h⟩ := bd_e h
      refine s_cV0 (st := []) C M.rg (Nat.le_trans (by omega) hd) mwX5_put mlX5_90 dX5_make_38 (wX5_put (d := 1) (Nat.le_refl _)  hh) kk_163 rfl rfl (Nat.le_of_ble_eq_true rfl) ?_
      refine s_aload_n C dX5_make_41 rfl rfl ?_
      refine s_iload_n C dX5_make_42 rfl rfl ?_
      refine s_iload C dX5_make_43 rfl ?_
      refine s_iconst C dX5_make_45 ic_3 ?_
      refine s_aload_n C dX5_make_46 rfl rfl ?_
      refine s_iload_n C dX5_make_47 rfl rfl ?_
      refine s_iload C dX5_make_48 rfl ?_
      refine s_iconst C dX5_make_50 ic_1 ?_
      refine s_iadd C dX5_make_51 ?_
      refine s_iload_n C dX5_make_52 rfl rfl ?_
      obtain ⟨r3, I3, hh, h⟩ := bd_e h
      refine s_cV0 (st := [.int 3, .int v2, .int x1, rfX X 163]) C M.rg (Nat.le_trans (by omega) hd) mwX5_make mlX5_87 dX5_make_53 (ih (d := 2 + n) (Nat.le_refl _)  hh) kk_163 rfl rfl (Nat.le_of_ble_eq_true rfl) ?_
      obtain ⟨r4, I4, hh, h⟩ := bd_e h
      refine s_cV0 (st := []) C M.rg (Nat.le_trans (by omega) hd) mwX5_put mlX5_90 dX5_make_56 (wX5_put (d := 1) (Nat.le_refl _)  hh) kk_163 rfl rfl (Nat.le_of_ble_eq_true rfl) ?_
      refine s_iload C dX5_make_59 rfl ?_
      obtain ⟨rfl, rfl⟩ := pr_e h
      exact s_iret C M dX5_make_61 rfl rfl (Nat.le_refl 0) (Nat.le_refl 0)
    · have h := it_f c h
      refine s_iconst C dX5_make_5 ic_m1 ?_
      obtain ⟨rfl, rfl⟩ := pr_e h
      exact s_iret C M dX5_make_6 rfl rfl (Nat.le_refl 0) (Nat.le_refl 0)
theorem wX5_setMost {E : Ev} {d : Nat} (hd : 1 ≤ d) {x1 : Int32} {x2 : Int32} {I I' : Mm} {r : Unit}  (h : fX5_setMost x1 x2 I = some (r, I')) : SemM E d 0 0 mX5_setMost [rfE E 163, .int x1, .int x2] S0 I none S0 I' := by
  unfold fX5_setMost at h
  refine SemM.ofX (E := E) (y := mX5_setMost) (args := fun E => [rfE E 163, .int x1, .int x2]) (r := fun E => none) (fun E => [some (rfE E 163), some (.int x1), some (.int x2)]) (by decide +kernel) (Nat.le_of_ble_eq_true rfl) rfl (fun X C M => ?_)
  refine s_aload_n C dX5_setMost_0 rfl rfl ?_
  refine s_getR (b := 164) C dX5_setMost_1 kk_163 foX5_9 rfl rk_163_0 ?_
  refine s_bipush C dX5_setMost_4 bi_7 ?_
  refine s_bipush C dX5_setMost_6 bi_122 ?_
  refine s_iload_n C dX5_setMost_8 rfl rfl ?_
  refine s_imul C dX5_setMost_9 ?_
  refine s_iadd C dX5_setMost_10 ?_
  refine s_iconst C dX5_setMost_11 ic_1 ?_
  refine s_iadd C dX5_setMost_12 ?_
  refine s_iload_n C dX5_setMost_13 rfl rfl ?_
  obtain ⟨hb, h⟩ := it_n h
  obtain ⟨I1, eI1, h⟩ := ltm_e h
  refine s_ast (q := ((7 + (122 * x1)) + 1).toNatClampNeg) C dX5_setMost_14 kk_164 (by decide) rfl hb eI1 ?_
  obtain ⟨rfl, rfl⟩ := pr_e h
  exact s_vret C M dX5_setMost_15 rfl (Nat.le_refl 0) (Nat.le_refl 0)
theorem wX5_setTop {E : Ev} {d : Nat} (hd : 1 ≤ d) {x1 : Int32} {x2 : Int32} {I I' : Mm} {r : Unit}  (h : fX5_setTop x1 x2 I = some (r, I')) : SemM E d 0 0 mX5_setTop [rfE E 163, .int x1, .int x2] S0 I none S0 I' := by
  unfold fX5_setTop at h
  refine SemM.ofX (E := E) (y := mX5_setTop) (args := fun E => [rfE E 163, .int x1, .int x2]) (r := fun E => none) (fun E => [some (rfE E 163), some (.int x1), some (.int x2)]) (by decide +kernel) (Nat.le_of_ble_eq_true rfl) rfl (fun X C M => ?_)
  refine s_aload_n C dX5_setTop_0 rfl rfl ?_
  refine s_getR (b := 164) C dX5_setTop_1 kk_163 foX5_9 rfl rk_163_0 ?_
  refine s_bipush C dX5_setTop_4 bi_7 ?_
  refine s_bipush C dX5_setTop_6 bi_122 ?_
  refine s_iload_n C dX5_setTop_8 rfl rfl ?_
  refine s_imul C dX5_setTop_9 ?_
  refine s_iadd C dX5_setTop_10 ?_
  refine s_iload_n C dX5_setTop_11 rfl rfl ?_
  refine s_iconst C dX5_setTop_12 ic_1 ?_
  refine s_iadd C dX5_setTop_13 ?_
  obtain ⟨hb, h⟩ := it_n h
  obtain ⟨I1, eI1, h⟩ := ltm_e h
  refine s_ast (q := (7 + (122 * x1)).toNatClampNeg) C dX5_setTop_14 kk_164 (by decide) rfl hb eI1 ?_
  obtain ⟨rfl, rfl⟩ := pr_e h
  exact s_vret C M dX5_setTop_15 rfl (Nat.le_refl 0) (Nat.le_refl 0)
theorem wX5_buildWhole {E : Ev} {d : Nat} (hd : 44 ≤ d) {x1 : Int32} {I I' : Mm} {r : Unit}  (h : fX5_buildWhole x1 I = some (r, I')) : SemM E d 0 0 mX5_buildWhole [rfE E 163, .int x1] S0 I none S0 I' := by
  unfold fX5_buildWhole at h
  refine SemM.ofX (E := E) (y := mX5_buildWhole) (args := fun E => [rfE E 163, .int x1]) (r := fun E => none) (fun E => [some (rfE E 163), some (.int x1)]) (by decide +kernel) (Nat.le_of_ble_eq_true rfl) rfl (fun X C M => ?_)
  refine s_aload_n C dX5_buildWhole_0 rfl rfl ?_
  refine s_iload_n C dX5_buildWhole_1 rfl rfl ?_
  obtain ⟨r1, I1, hh, h⟩ := bd_e h
  refine s_cV0 (st := []) C M.rg (Nat.le_trans (by decide) hd) mwX5_listAll mlX5_100 dX5_buildWhole_2 (wX5_listAll (d := 43) (Nat.le_refl _)  hh) kk_163 rfl rfl (Nat.le_of_ble_eq_true rfl) ?_
  refine s_aload_n C dX5_buildWhole_5 rfl rfl ?_
  refine s_iload_n C dX5_buildWhole_6 rfl rfl ?_
  refine s_aload_n C dX5_buildWhole_7 rfl rfl ?_
  refine s_iload_n C dX5_buildWhole_8 rfl rfl ?_
  refine s_iconst C dX5_buildWhole_9 ic_0 ?_
  refine s_aload_n C dX5_buildWhole_10 rfl rfl ?_
  refine s_getI C dX5_buildWhole_11 kk_163 foX5_84 rfl ?_
  refine s_iconst C dX5_buildWhole_14 ic_1 ?_
  refine s_isub C dX5_buildWhole_15 ?_
  obtain ⟨r2, I2, hh, h⟩ := bd_e h
  refine s_cV0 (st := [.int x1, rfX X 163]) C M.rg (Nat.le_trans (by decide) hd) mwX5_make mlX5_87 dX5_buildWhole_16 (wX5_make _ (d := 42) (Nat.le_refl _)  hh) kk_163 rfl rfl (Nat.le_of_ble_eq_true rfl) ?_
  obtain ⟨r3, I3, hh, h⟩ := bd_e h
  refine s_cV0 (st := []) C M.rg (Nat.le_trans (by decide) hd) mwX5_setTop mlX5_94 dX5_buildWhole_19 (wX5_setTop (d := 1) (Nat.le_refl _)  hh) kk_163 rfl rfl (Nat.le_of_ble_eq_true rfl) ?_
  refine s_aload_n C dX5_buildWhole_22 rfl rfl ?_
  refine s_iload_n C dX5_buildWhole_23 rfl rfl ?_
  refine s_aload_n C dX5_buildWhole_24 rfl rfl ?_
  refine s_getI C dX5_buildWhole_25 kk_163 foX5_84 rfl ?_
  obtain ⟨r4, I4, hh, h⟩ := bd_e h
  refine s_cV0 (st := []) C M.rg (Nat.le_trans (by decide) hd) mwX5_setMost mlX5_104 dX5_buildWhole_28 (wX5_setMost (d := 1) (Nat.le_refl _)  hh) kk_163 rfl rfl (Nat.le_of_ble_eq_true rfl) ?_
  refine s_aload_n C dX5_buildWhole_31 rfl rfl ?_
  refine s_getR (b := 164) C dX5_buildWhole_32 kk_163 foX5_9 rfl rk_163_0 ?_
  refine s_iconst C dX5_buildWhole_35 ic_4 ?_
  refine s_dup2 C dX5_buildWhole_36 rfl rfl ?_
  refine s_ald (q := 4) C dX5_buildWhole_37 kk_164 (by decide) (by decide) (by decide) ?_
  refine s_iconst C dX5_buildWhole_38 ic_1 ?_
  refine s_iadd C dX5_buildWhole_39 ?_
  obtain ⟨I5, eI5, h⟩ := ltm_e h
  refine s_ast (q := 4) C dX5_buildWhole_40 kk_164 (by decide) (by decide) (by decide) eI5 ?_
  refine s_aload_n C dX5_buildWhole_41 rfl rfl ?_
  refine s_getR (b := 164) C dX5_buildWhole_42 kk_163 foX5_9 rfl rk_163_0 ?_
  refine s_iconst C dX5_buildWhole_45 ic_5 ?_
  refine s_dup2 C dX5_buildWhole_46 rfl rfl ?_
  refine s_ald (q := 5) C dX5_buildWhole_47 kk_164 (by decide) (by decide) (by decide) ?_
  refine s_aload_n C dX5_buildWhole_48 rfl rfl ?_
  refine s_getI C dX5_buildWhole_49 kk_163 foX5_84 rfl ?_
  refine s_iadd C dX5_buildWhole_52 ?_
  obtain ⟨I6, eI6, h⟩ := ltm_e h
  refine s_ast (q := 5) C dX5_buildWhole_53 kk_164 (by decide) (by decide) (by decide) eI6 ?_
  obtain ⟨rfl, rfl⟩ := pr_e h
  exact s_vret C M dX5_buildWhole_54 rfl (Nat.le_refl 0) (Nat.le_refl 0)
theorem wX5_copyRow_p2 {X : Cx} {d : Nat} (hd : 1 ≤ d) (C : CtxOK X mX5_copyRow) : ∀ (n : Nat) {x0 : Nat} {x1 : Nat} {x2 : Int32} {I I' : Mm} {r : Unit} (hx0 : 10 ≤ kd0 x0) (hx1 : 10 ≤ kd0 x1) (_ : fX5_copyRow_p2 n x0 x1 x2 I = some (r, I')) (_ : MX X (xE X) d 0 0 none S0 I'), WM X mX5_copyRow 2 [some (rfX X x0), some (rfX X x1), some (.int x2)] [] S0 I 0 0 := by
  intro n
  induction n with
  | zero => intro x0 x1 x2 I I' r hx0 hx1 h M; exact absurd h (by simp [fX5_copyRow_p2])
  | succ n ih =>
    intro x0 x1 x2 I I' r hx0 hx1 h M
    rw [fX5_copyRow_p2] at h
    refine s_iload_n C dX5_copyRow_2 rfl rfl ?_
    refine s_sipush C dX5_copyRow_3 si_373 ?_
    refine s_icmp_ge (tgt := 21) C dX5_copyRow_6 (by decide) (fun c => ?_) (fun c => ?_)
    · have h := it_t c h
      obtain ⟨rfl, rfl⟩ := pr_e h
      exact s_vret C M dX5_copyRow_21 rfl (Nat.le_refl 0) (Nat.le_refl 0)
    · have h := it_f c h
      refine s_aload_n C dX5_copyRow_9 rfl rfl ?_
      refine s_iload_n C dX5_copyRow_10 rfl rfl ?_
      refine s_aload_n C dX5_copyRow_11 rfl rfl ?_
      refine s_iload_n C dX5_copyRow_12 rfl rfl ?_
      obtain ⟨hb, h⟩ := it_n h
      refine s_ald (q := x2.toNatClampNeg) C dX5_copyRow_13 rfl hx0 rfl hb ?_
      obtain ⟨hb, h⟩ := it_n h
      obtain ⟨I1, eI1, h⟩ := ltm_e h
      refine s_ast (q := x2.toNatClampNeg) C dX5_copyRow_14 rfl hx1 rfl hb eI1 ?_
      obtain ⟨v1, ev1, h⟩ := ltm_e h
      refine s_iinc (v := v1) (ls' := [some (rfX X x0), some (rfX X x1), some (.int v1)]) C dX5_copyRow_15 rfl (by decide) (Nat.le_of_ble_eq_true rfl) (by rw [ev1, ic_1]) rfl rfl ?_
      refine s_goto (tgt := 2) C dX5_copyRow_18 (by decide) ?_
      exact ih hx0 hx1 h M
theorem wX5_copyRow {E : Ev} {d : Nat} (hd : 1 ≤ d) {x0 : Nat} {x1 : Nat} {I I' : Mm} {r : Unit} (hx0 : 10 ≤ kd0 x0) (hx1 : 10 ≤ kd0 x1) (h : fX5_copyRow x0 x1 I = some (r, I')) : SemM E d 0 0 mX5_copyRow [rfE E x0, rfE E x1] S0 I none S0 I' := by
  unfold fX5_copyRow at h
  refine SemM.ofX (E := E) (y := mX5_copyRow) (args := fun E => [rfE E x0, rfE E x1]) (r := fun E => none) (fun E => [some (rfE E x0), some (rfE E x1), none]) (by decide +kernel) (Nat.le_of_ble_eq_true rfl) rfl (fun X C M => ?_)
  refine s_iconst C dX5_copyRow_0 ic_0 ?_
  refine s_istore_n (ls' := [some (rfX X x0), some (rfX X x1), some (.int 0)]) C dX5_copyRow_1 rfl (by decide) (Nat.le_of_ble_eq_true rfl) rfl rfl ?_
  exact wX5_copyRow_p2 hd C _ hx0 hx1 h M
theorem wX5_remember_p21 {X : Cx} {d : Nat} (hd : 2 ≤ d) (C : CtxOK X mX5_remember) : ∀ (n : Nat) {x1 : Nat} {x2 : Int32} {I I' : Mm} {r : Unit} (hx1 : 10 ≤ kd0 x1) (_ : fX5_remember_p21 n x1 x2 I = some (r, I')) (_ : MX X (xE X) d 0 0 none S0 I'), WM X mX5_remember 21 [some (rfX X 163), some (rfX X x1), some (.int x2)] [] S0 I 0 0 := by
  intro n
  induction n with
  | zero => intro x1 x2 I I' r hx1 h M; exact absurd h (by simp [fX5_remember_p21])
  | succ n ih =>
    intro x1 x2 I I' r hx1 h M
    rw [fX5_remember_p21] at h
    refine s_iload_n C dX5_remember_21 rfl rfl ?_
    refine s_aload_n C dX5_remember_22 rfl rfl ?_
    refine s_getI C dX5_remember_23 kk_163 foX5_43 rfl ?_
    refine s_icmp_ge (tgt := 52) C dX5_remember_26 (by decide) (fun c => ?_) (fun c => ?_)
    · have h := it_t c h
      refine s_aload_n C dX5_remember_52 rfl rfl ?_
      refine s_aload_n C dX5_remember_53 rfl rfl ?_
      refine s_getR (b := 167) C dX5_remember_54 kk_163 foX5_21 rfl rk_163_3 ?_
      refine s_aload_n C dX5_remember_57 rfl rfl ?_
      refine s_getI C dX5_remember_58 kk_163 foX5_43 rfl ?_
      obtain ⟨hb, h⟩ := it_n h
      have kq1 := (kd8 (ck_lt hb))
      refine s_aald C dX5_remember_61 kk_167 (by decide) hb (rr8 kk_167 (ck_lt hb)) ?_
      obtain ⟨r1, I1, hh, h⟩ := bd_e h
      refine s_cS0 (st := []) C M.rg (Nat.le_trans (by decide) hd) mwX5_copyRow mlX5_46 dX5_remember_62 (wX5_copyRow (d := 1) (Nat.le_refl _) hx1 (by rw [kq1]; decide) hh) rfl rfl (Nat.le_of_ble_eq_true rfl) ?_
      refine s_aload_n C dX5_remember_65 rfl rfl ?_
      refine s_dup C dX5_remember_66 rfl ?_
      refine s_getI C dX5_remember_67 kk_163 foX5_43 rfl ?_
      refine s_iconst C dX5_remember_70 ic_1 ?_
      refine s_iadd C dX5_remember_71 ?_
      obtain ⟨I2, eI2, h⟩ := ltm_e h
      refine s_putI C dX5_remember_72 kk_163 poX5_43 rfl eI2 ?_
      obtain ⟨rfl, rfl⟩ := pr_e h
      exact s_vret C M dX5_remember_75 rfl (Nat.le_refl 0) (Nat.le_refl 0)
    · have h := it_f c h
      refine s_aload_n C dX5_remember_29 rfl rfl ?_
      refine s_getR (b := 167) C dX5_remember_30 kk_163 foX5_21 rfl rk_163_3 ?_
      refine s_iload_n C dX5_remember_33 rfl rfl ?_
      refine s_iconst C dX5_remember_34 ic_1 ?_
      refine s_iadd C dX5_remember_35 ?_
      obtain ⟨hb, h⟩ := it_n h
      have kq1 := (kd8 (ck_lt hb))
      refine s_aald C dX5_remember_36 kk_167 (by decide) hb (rr8 kk_167 (ck_lt hb)) ?_
      refine s_aload_n C dX5_remember_37 rfl rfl ?_
      refine s_getR (b := 167) C dX5_remember_38 kk_163 foX5_21 rfl rk_163_3 ?_
      refine s_iload_n C dX5_remember_41 rfl rfl ?_
      obtain ⟨hb, h⟩ := it_n h
      have kq2 := (kd8 (ck_lt hb))
      refine s_aald C dX5_remember_42 kk_167 (by decide) hb (rr8 kk_167 (ck_lt hb)) ?_
      obtain ⟨r1, I1, hh, h⟩ := bd_e h
      refine s_cS0 (st := []) C M.rg (Nat.le_trans (by decide) hd) mwX5_copyRow mlX5_46 dX5_remember_43 (wX5_copyRow (d := 1) (Nat.le_refl _) (by rw [kq1]; decide) (by rw [kq2]; decide) hh) rfl rfl (Nat.le_of_ble_eq_true rfl) ?_
      obtain ⟨v1, ev1, h⟩ := ltm_e h
      refine s_iinc (v := v1) (ls' := [some (rfX X 163), some (rfX X x1), some (.int v1)]) C dX5_remember_46 rfl (by decide) (Nat.le_of_ble_eq_true rfl) (by rw [ev1, ic_1]) rfl rfl ?_
      refine s_goto (tgt := 21) C dX5_remember_49 (by decide) ?_
      exact ih hx1 h M
theorem wX5_remember {E : Ev} {d : Nat} (hd : 2 ≤ d) {x1 : Nat} {I I' : Mm} {r : Unit} (hx1 : 10 ≤ kd0 x1) (h : fX5_remember x1 I = some (r, I')) : SemM E d 0 0 mX5_remember [rfE E 163, rfE E x1] S0 I none S0 I' := by
  unfold fX5_remember at h
  refine SemM.ofX (E := E) (y := mX5_remember) (args := fun E => [rfE E 163, rfE E x1]) (r := fun E => none) (fun E => [some (rfE E 163), some (rfE E x1), none]) (by decide +kernel) (Nat.le_of_ble_eq_true rfl) rfl (fun X C M => ?_)
  refine s_aload_n C dX5_remember_0 rfl rfl ?_
  refine s_getI C dX5_remember_1 kk_163 foX5_43 rfl ?_
  refine s_bipush C dX5_remember_4 bi_8 ?_
  refine s_icmp_ne (tgt := 52) C dX5_remember_6 (by decide) (fun c => ?_) (fun c => ?_)
  · have h := it_f c h
    refine s_aload_n C dX5_remember_52 rfl rfl ?_
    refine s_aload_n C dX5_remember_53 rfl rfl ?_
    refine s_getR (b := 167) C dX5_remember_54 kk_163 foX5_21 rfl rk_163_3 ?_
    refine s_aload_n C dX5_remember_57 rfl rfl ?_
    refine s_getI C dX5_remember_58 kk_163 foX5_43 rfl ?_
    obtain ⟨hb, h⟩ := it_n h
    have kq1 := (kd8 (ck_lt hb))
    refine s_aald C dX5_remember_61 kk_167 (by decide) hb (rr8 kk_167 (ck_lt hb)) ?_
    obtain ⟨r1, I1, hh, h⟩ := bd_e h
    refine s_cS0 (st := []) C M.rg (Nat.le_trans (by decide) hd) mwX5_copyRow mlX5_46 dX5_remember_62 (wX5_copyRow (d := 1) (Nat.le_refl _) hx1 (by rw [kq1]; decide) hh) rfl rfl (Nat.le_of_ble_eq_true rfl) ?_
    refine s_aload_n C dX5_remember_65 rfl rfl ?_
    refine s_dup C dX5_remember_66 rfl ?_
    refine s_getI C dX5_remember_67 kk_163 foX5_43 rfl ?_
    refine s_iconst C dX5_remember_70 ic_1 ?_
    refine s_iadd C dX5_remember_71 ?_
    obtain ⟨I2, eI2, h⟩ := ltm_e h
    refine s_putI C dX5_remember_72 kk_163 poX5_43 rfl eI2 ?_
    obtain ⟨rfl, rfl⟩ := pr_e h
    exact s_vret C M dX5_remember_75 rfl (Nat.le_refl 0) (Nat.le_refl 0)
  · have h := it_t c h
    refine s_aload_n C dX5_remember_9 rfl rfl ?_
    refine s_dup C dX5_remember_10 rfl ?_
    refine s_getI C dX5_remember_11 kk_163 foX5_43 rfl ?_
    refine s_iconst C dX5_remember_14 ic_1 ?_
    refine s_isub C dX5_remember_15 ?_
    obtain ⟨I1, eI1, h⟩ := ltm_e h
    refine s_putI C dX5_remember_16 kk_163 poX5_43 rfl eI1 ?_
    refine s_iconst C dX5_remember_19 ic_0 ?_
    refine s_istore_n (ls' := [some (rfX X 163), some (rfX X x1), some (.int 0)]) C dX5_remember_20 rfl (by decide) (Nat.le_of_ble_eq_true rfl) rfl rfl ?_
    exact wX5_remember_p21 hd C _ hx1 h M
theorem wX5_change {E : Ev} {d : Nat} (hd : 3 ≤ d)  {I I' : Mm} {r : Unit}  (h : fX5_change  I = some (r, I')) : SemM E d 0 0 mX5_change [rfE E 163] S0 I none S0 I' := by
  unfold fX5_change at h
  refine SemM.ofX (E := E) (y := mX5_change) (args := fun E => [rfE E 163]) (r := fun E => none) (fun E => [some (rfE E 163)]) (by decide +kernel) (Nat.le_of_ble_eq_true rfl) rfl (fun X C M => ?_)
  refine s_aload_n C dX5_change_0 rfl rfl ?_
  refine s_getI C dX5_change_1 kk_163 foX5_50 rfl ?_
  refine s_if_ne (tgt := 15) C dX5_change_4 (by decide) (fun c => ?_) (fun c => ?_)
  · have h := it_f c h
    obtain ⟨rfl, rfl⟩ := pr_e h
    exact s_vret C M dX5_change_15 rfl (Nat.le_refl 0) (Nat.le_refl 0)
  · have h := it_t c h
    refine s_aload_n C dX5_change_7 rfl rfl ?_
    refine s_aload_n C dX5_change_8 rfl rfl ?_
    refine s_getR (b := 164) C dX5_change_9 kk_163 foX5_9 rfl rk_163_0 ?_
    obtain ⟨r1, I1, hh, h⟩ := bd_e h
    refine s_cV0 (st := []) C M.rg (Nat.le_trans (by decide) hd) mwX5_remember mlX5_54 dX5_change_12 (wX5_remember (d := 2) (Nat.le_refl _) (by rw [kk_164]; decide) hh) kk_163 rfl rfl (Nat.le_of_ble_eq_true rfl) ?_
    obtain ⟨rfl, rfl⟩ := pr_e h
    exact s_vret C M dX5_change_15 rfl (Nat.le_refl 0) (Nat.le_refl 0)
theorem wX5_refuse {E : Ev} {d : Nat} (hd : 1 ≤ d) {x1 : Int32} {x2 : Int32} {x3 : Int32} {I I' : Mm} {r : Int32}  (h : fX5_refuse x1 x2 x3 I = some (r, I')) : SemM E d 0 0 mX5_refuse [rfE E 163, .int x1, .int x2, .int x3] S0 I (some (.int r)) S0 I' := by
  unfold fX5_refuse at h
  refine SemM.ofX (E := E) (y := mX5_refuse) (args := fun E => [rfE E 163, .int x1, .int x2, .int x3]) (r := fun E => (some (.int r))) (fun E => [some (rfE E 163), some (.int x1), some (.int x2), some (.int x3)]) (by decide +kernel) (Nat.le_of_ble_eq_true rfl) rfl (fun X C M => ?_)
  refine s_iload_n C dX5_refuse_0 rfl rfl ?_
  refine s_if_eq (tgt := 14) C dX5_refuse_1 (by decide) (fun c => ?_) (fun c => ?_)
  · have h := it_t c h
    refine s_iload_n C dX5_refuse_14 rfl rfl ?_
    obtain ⟨hz, h⟩ := it_s h
    obtain ⟨rfl, rfl⟩ := pr_e h
    exact s_iret C M dX5_refuse_15 rfl (nz_b hz) (Nat.le_refl 0) (Nat.le_refl 0)
  · have h := it_f c h
    refine s_aload_n C dX5_refuse_4 rfl rfl ?_
    refine s_iload_n C dX5_refuse_5 rfl rfl ?_
    obtain ⟨I1, eI1, h⟩ := ltm_e h
    refine s_putI C dX5_refuse_6 kk_163 poX5_36 rfl eI1 ?_
    refine s_aload_n C dX5_refuse_9 rfl rfl ?_
    refine s_iload_n C dX5_refuse_10 rfl rfl ?_
    obtain ⟨I2, eI2, h⟩ := ltm_e h
    refine s_putI C dX5_refuse_11 kk_163 poX5_40 rfl eI2 ?_
    refine s_iload_n C dX5_refuse_14 rfl rfl ?_
    obtain ⟨hz, h⟩ := it_s h
    obtain ⟨rfl, rfl⟩ := pr_e h
    exact s_iret C M dX5_refuse_15 rfl (nz_b hz) (Nat.le_refl 0) (Nat.le_refl 0)
theorem wX5_build_p91 {X : Cx} {d : Nat} (hd : 45 ≤ d) (C : CtxOK X mX5_build) : ∀ (n : Nat) {x1 : Int32} {x2 : Int32} {x3 : Int32} {I I' : Mm} {r : Int32}  (_ : fX5_build_p91 n x1 x2 x3 I = some (r, I')) (_ : MX X (xE X) d 0 0 (some (.int r)) S0 I'), WM X mX5_build 91 [some (rfX X 163), some (.int x1), some (.int x2), some (.int x3)] [] S0 I 0 0 := by
  intro n
  induction n with
  | zero => intro x1 x2 x3 I I' r  h M; exact absurd h (by simp [fX5_build_p91])
  | succ n ih =>
    intro x1 x2 x3 I I' r  h M
    rw [fX5_build_p91] at h
    refine s_iload_n C dX5_build_91 rfl rfl ?_
    refine s_aload_n C dX5_build_92 rfl rfl ?_
    refine s_getI C dX5_build_93 kk_163 foX5_84 rfl ?_
    refine s_icmp_ge (tgt := 138) C dX5_build_96 (by decide) (fun c => ?_) (fun c => ?_)
    · have h := it_t c h
      refine s_iload_n C dX5_build_138 rfl rfl ?_
      obtain ⟨rfl, rfl⟩ := pr_e h
      exact s_iret C M dX5_build_139 rfl rfl (Nat.le_refl 0) (Nat.le_refl 0)
    · have h := it_f c h
      refine s_iload_n C dX5_build_99 rfl rfl ?_
      refine s_aload_n C dX5_build_100 rfl rfl ?_
      refine s_getR (b := 177) C dX5_build_101 kk_163 foX5_27 rfl rk_163_11 ?_
      refine s_aload_n C dX5_build_104 rfl rfl ?_
      refine s_getR (b := 176) C dX5_build_105 kk_163 foX5_24 rfl rk_163_9 ?_
      refine s_iload_n C dX5_build_108 rfl rfl ?_
      obtain ⟨hb, h⟩ := it_n h
      refine s_ald (q := x3.toNatClampNeg) C dX5_build_109 kk_176 (by decide) rfl hb ?_
      obtain ⟨hb, h⟩ := it_n h
      refine s_ald (q := (I 176 x3.toNatClampNeg).toNatClampNeg) C dX5_build_110 kk_177 (by decide) rfl hb ?_
      refine s_aload_n C dX5_build_111 rfl rfl ?_
      refine s_iload_n C dX5_build_112 rfl rfl ?_
      refine s_aload_n C dX5_build_113 rfl rfl ?_
      refine s_getR (b := 176) C dX5_build_114 kk_163 foX5_24 rfl rk_163_9 ?_
      refine s_iload_n C dX5_build_117 rfl rfl ?_
      obtain ⟨hb, h⟩ := it_n h
      refine s_ald (q := x3.toNatClampNeg) C dX5_build_118 kk_176 (by decide) rfl hb ?_
      obtain ⟨r1, I1, hh, h⟩ := bd_e h
      refine s_cV0 (st := [.int (I 177 ((I 176 x3.toNatClampNeg).toNatClampNeg)), .int x2]) C M.rg (Nat.le_trans (by decide) hd) mwX5_depth mlX5_139 dX5_build_119 (wX5_depth (d := 3) (Nat.le_refl _)  hh) kk_163 rfl rfl (Nat.le_of_ble_eq_true rfl) ?_
      refine s_icmp_eq (tgt := 129) C dX5_build_122 (by decide) (fun c => ?_) (fun c => ?_)
      · have h := it_t c h
        refine s_iconst C dX5_build_129 ic_0 ?_
        refine s_iadd C dX5_build_130 ?_
        obtain ⟨v1, ev1, h⟩ := ltm_e h
        refine s_top_i ev1 ?_
        refine s_istore_n (ls' := [some (rfX X 163), some (.int x1), some (.int v1), some (.int x3)]) C dX5_build_131 rfl (by decide) (Nat.le_of_ble_eq_true rfl) rfl rfl ?_
        obtain ⟨v2, ev2, h⟩ := ltm_e h
        refine s_iinc (v := v2) (ls' := [some (rfX X 163), some (.int x1), some (.int v1), some (.int v2)]) C dX5_build_132 rfl (by decide) (Nat.le_of_ble_eq_true rfl) (by rw [ev2, ic_1]) rfl rfl ?_
        refine s_goto (tgt := 91) C dX5_build_135 (by decide) ?_
        exact ih  h M
      · have h := it_f c h
        refine s_iconst C dX5_build_125 ic_1 ?_
        refine s_goto (tgt := 130) C dX5_build_126 (by decide) ?_
        refine s_iadd C dX5_build_130 ?_
        obtain ⟨v1, ev1, h⟩ := ltm_e h
        refine s_top_i ev1 ?_
        refine s_istore_n (ls' := [some (rfX X 163), some (.int x1), some (.int v1), some (.int x3)]) C dX5_build_131 rfl (by decide) (Nat.le_of_ble_eq_true rfl) rfl rfl ?_
        obtain ⟨v2, ev2, h⟩ := ltm_e h
        refine s_iinc (v := v2) (ls' := [some (rfX X 163), some (.int x1), some (.int v1), some (.int v2)]) C dX5_build_132 rfl (by decide) (Nat.le_of_ble_eq_true rfl) (by rw [ev2, ic_1]) rfl rfl ?_
        refine s_goto (tgt := 91) C dX5_build_135 (by decide) ?_
        exact ih  h M
theorem wX5_build_p46 {X : Cx} {d : Nat} (hd : 45 ≤ d) (C : CtxOK X mX5_build) : ∀ (n : Nat) {x1 : Int32} {x2 : Int32} {I I' : Mm} {r : Int32}  (_ : fX5_build_p46 n x1 x2 I = some (r, I')) (_ : MX X (xE X) d 0 0 (some (.int r)) S0 I'), WM X mX5_build 46 [some (rfX X 163), some (.int x1), some (.int x2), none] [] S0 I 0 0 := by
  intro n
  induction n with
  | zero => intro x1 x2 I I' r  h M; exact absurd h (by simp [fX5_build_p46])
  | succ n ih =>
    intro x1 x2 I I' r  h M
    rw [fX5_build_p46] at h
    refine s_iload_n C dX5_build_46 rfl rfl ?_
    refine s_aload_n C dX5_build_47 rfl rfl ?_
    refine s_getI C dX5_build_48 kk_163 foX5_84 rfl ?_
    refine s_icmp_ge (tgt := 82) C dX5_build_51 (by decide) (fun c => ?_) (fun c => ?_)
    · have h := it_t c h
      refine s_aload_n C dX5_build_82 rfl rfl ?_
      refine s_iload_n C dX5_build_83 rfl rfl ?_
      obtain ⟨r1, I1, hh, h⟩ := bd_e h
      refine s_cV0 (st := []) C M.rg (Nat.le_trans (by decide) hd) mwX5_buildWhole mlX5_161 dX5_build_84 (wX5_buildWhole (d := 44) (Nat.le_refl _)  hh) kk_163 rfl rfl (Nat.le_of_ble_eq_true rfl) ?_
      refine s_iconst C dX5_build_87 ic_0 ?_
      refine s_istore_n (ls' := [some (rfX X 163), some (.int x1), some (.int 0), none]) C dX5_build_88 rfl (by decide) (Nat.le_of_ble_eq_true rfl) rfl rfl ?_
      refine s_iconst C dX5_build_89 ic_0 ?_
      refine s_istore_n (ls' := [some (rfX X 163), some (.int x1), some (.int 0), some (.int 0)]) C dX5_build_90 rfl (by decide) (Nat.le_of_ble_eq_true rfl) rfl rfl ?_
      exact wX5_build_p91 hd C _  h M
    · have h := it_f c h
      refine s_aload_n C dX5_build_54 rfl rfl ?_
      refine s_getR (b := 177) C dX5_build_55 kk_163 foX5_27 rfl rk_163_11 ?_
      refine s_aload_n C dX5_build_58 rfl rfl ?_
      refine s_getR (b := 176) C dX5_build_59 kk_163 foX5_24 rfl rk_163_9 ?_
      refine s_iload_n C dX5_build_62 rfl rfl ?_
      obtain ⟨hb, h⟩ := it_n h
      refine s_ald (q := x2.toNatClampNeg) C dX5_build_63 kk_176 (by decide) rfl hb ?_
      refine s_aload_n C dX5_build_64 rfl rfl ?_
      refine s_iload_n C dX5_build_65 rfl rfl ?_
      refine s_aload_n C dX5_build_66 rfl rfl ?_
      refine s_getR (b := 176) C dX5_build_67 kk_163 foX5_24 rfl rk_163_9 ?_
      refine s_iload_n C dX5_build_70 rfl rfl ?_
      obtain ⟨hb, h⟩ := it_n h
      refine s_ald (q := x2.toNatClampNeg) C dX5_build_71 kk_176 (by decide) rfl hb ?_
      obtain ⟨r1, I1, hh, h⟩ := bd_e h
      refine s_cV0 (st := [.int (I 176 x2.toNatClampNeg), rfX X 177]) C M.rg (Nat.le_trans (by decide) hd) mwX5_depth mlX5_139 dX5_build_72 (wX5_depth (d := 3) (Nat.le_refl _)  hh) kk_163 rfl rfl (Nat.le_of_ble_eq_true rfl) ?_
      obtain ⟨hb, h⟩ := it_n h
      obtain ⟨I2, eI2, h⟩ := ltm_e h
      refine s_ast (q := (I 176 x2.toNatClampNeg).toNatClampNeg) C dX5_build_75 kk_177 (by decide) rfl hb eI2 ?_
      obtain ⟨v1, ev1, h⟩ := ltm_e h
      refine s_iinc (v := v1) (ls' := [some (rfX X 163), some (.int x1), some (.int v1), none]) C dX5_build_76 rfl (by decide) (Nat.le_of_ble_eq_true rfl) (by rw [ev1, ic_1]) rfl rfl ?_
      refine s_goto (tgt := 46) C dX5_build_79 (by decide) ?_
      exact ih  h M
theorem wX5_build_p24 {X : Cx} {d : Nat} (hd : 45 ≤ d) (C : CtxOK X mX5_build) {x1 : Int32} {s1 : Int32} {I I' : Mm} {r : Int32}  (h : fX5_build_p24 x1 s1 I = some (r, I')) (M : MX X (xE X) d 0 0 (some (.int r)) S0 I') : WM X mX5_build 24 [some (rfX X 163), some (.int x1), none, none] [.int s1, rfX X 163] S0 I 0 0 := by
  unfold fX5_build_p24 at h
  refine s_iconst C dX5_build_24 ic_5 ?_
  refine s_iload_n C dX5_build_25 rfl rfl ?_
  obtain ⟨r1, I1, hh, h⟩ := bd_e h
  refine s_cV0 (st := []) C M.rg (Nat.le_trans (by decide) hd) mwX5_refuse mlX5_120 dX5_build_26 (wX5_refuse (d := 1) (Nat.le_refl _)  hh) kk_163 rfl rfl (Nat.le_of_ble_eq_true rfl) ?_
  refine s_if_eq (tgt := 35) C dX5_build_29 (by decide) (fun c => ?_) (fun c => ?_)
  · have h := it_t c h
    refine s_aload_n C dX5_build_35 rfl rfl ?_
    obtain ⟨r2, I2, hh, h⟩ := bd_e h
    refine s_cV0 (st := []) C M.rg (Nat.le_trans (by decide) hd) mwX5_change mlX5_127 dX5_build_36 (wX5_change (d := 3) (Nat.le_refl _)  hh) kk_163 rfl rfl (Nat.le_of_ble_eq_true rfl) ?_
    refine s_aload_n C dX5_build_39 rfl rfl ?_
    refine s_iload_n C dX5_build_40 rfl rfl ?_
    obtain ⟨r3, I3, hh, h⟩ := bd_e h
    refine s_cV0 (st := []) C M.rg (Nat.le_trans (by decide) hd) mwX5_listAll mlX5_100 dX5_build_41 (wX5_listAll (d := 43) (Nat.le_refl _)  hh) kk_163 rfl rfl (Nat.le_of_ble_eq_true rfl) ?_
    refine s_iconst C dX5_build_44 ic_0 ?_
    refine s_istore_n (ls' := [some (rfX X 163), some (.int x1), some (.int 0), none]) C dX5_build_45 rfl (by decide) (Nat.le_of_ble_eq_true rfl) rfl rfl ?_
    exact wX5_build_p46 hd C _  h M
  · have h := it_f c h
    refine s_bipush C dX5_build_32 bi_m14 ?_
    obtain ⟨rfl, rfl⟩ := pr_e h
    exact s_iret C M dX5_build_34 rfl rfl (Nat.le_refl 0) (Nat.le_refl 0)
