theorem wX4_put {E : Ev} {d : Nat} (hd : 45 ≤ d) {x1 : Int32} {x2 : Int32} {x3 : Int32} {I I' : Mm} {r : Int32}  (h : fX4_put x1 x2 x3 I = some (r, I')) : SemM E d 0 0 mX4_put [rfE E 0, .int x1, .int x2, .int x3] S0 I (some (.int r)) S0 I' := by
  unfold fX4_put at h
  refine SemM.ofX (E := E) (y := mX4_put) (args := fun E => [rfE E 0, .int x1, .int x2, .int x3]) (r := fun E => (some (.int r))) (fun E => [some (rfE E 0), some (.int x1), some (.int x2), some (.int x3)]) (by decide +kernel) (Nat.le_of_ble_eq_true rfl) rfl (fun X C M => ?_)
  refine s_aload_n C dX4_put_0 rfl rfl ?_
  obtain ⟨r1, I1, hh, h⟩ := bd_e h
  refine s_cV0 (st := []) C M.rg (Nat.le_trans (by decide) hd) mwX4_hold mlX4_47 dX4_put_1 (wX4_hold (d := 3) (Nat.le_refl _)  hh) kk_0 rfl rfl (Nat.le_of_ble_eq_true rfl) ?_
  refine s_aload_n C dX4_put_4 rfl rfl ?_
  refine s_aload_n C dX4_put_5 rfl rfl ?_
  refine s_iload_n C dX4_put_6 rfl rfl ?_
  refine s_iload_n C dX4_put_7 rfl rfl ?_
  refine s_iload_n C dX4_put_8 rfl rfl ?_
  obtain ⟨r2, I2, hh, h⟩ := bd_e h
  refine s_cV0 (st := [rfX X 0]) C M.rg (Nat.le_trans (by decide) hd) mwX4_putNow mlX4_50 dX4_put_9 (wX4_putNow (d := 44) (Nat.le_refl _)  hh) kk_0 rfl rfl (Nat.le_of_ble_eq_true rfl) ?_
  obtain ⟨r3, I3, hh, h⟩ := bd_e h
  refine s_cV0 (st := []) C M.rg (Nat.le_trans (by decide) hd) mwX4_keep mlX4_54 dX4_put_12 (wX4_keep (d := 1) (Nat.le_refl _)  hh) kk_0 rfl rfl (Nat.le_of_ble_eq_true rfl) ?_
  obtain ⟨rfl, rfl⟩ := pr_e h
  exact s_iret C M dX4_put_15 rfl rfl (Nat.le_refl 0) (Nat.le_refl 0)
theorem wX3_sheaves_p4 {X : Cx} {d : Nat} (hd : 2 ≤ d) (C : CtxOK X mX3_sheaves) : ∀ (n : Nat) {x0 : Nat} {x1 : Int32} {x2 : Int32} {I I' : Mm} {r : Int32} (hx0 : kd0 x0 = 3) (_ : fX3_sheaves_p4 n x0 x1 x2 I = some (r, I')) (_ : MX X (xE X) d 0 0 (some (.int r)) S0 I'), WM X mX3_sheaves 4 [some (rfX X x0), some (.int x1), some (.int x2), none] [] S0 I 0 0 := by
  intro n
  induction n with
  | zero => intro x0 x1 x2 I I' r hx0 h M; exact absurd h (by simp [fX3_sheaves_p4])
  | succ n ih =>
    intro x0 x1 x2 I I' r hx0 h M
    rw [fX3_sheaves_p4] at h
    refine s_iload_n C dX3_sheaves_4 rfl rfl ?_
    refine s_iconst C dX3_sheaves_5 ic_3 ?_
    refine s_icmp_ge (tgt := 32) C dX3_sheaves_6 (by decide) (fun c => ?_) (fun c => ?_)
    · have h := it_t c h
      refine s_iload_n C dX3_sheaves_32 rfl rfl ?_
      obtain ⟨rfl, rfl⟩ := pr_e h
      exact s_iret C M dX3_sheaves_33 rfl rfl (Nat.le_refl 0) (Nat.le_refl 0)
    · have h := it_f c h
      refine s_aload_n C dX3_sheaves_9 rfl rfl ?_
      refine s_iload_n C dX3_sheaves_10 rfl rfl ?_
      obtain ⟨r1, I1, hh, h⟩ := bd_e h
      refine s_cV0 (st := []) C M.rg (Nat.le_trans (by decide) hd) mwX3_rickAt mlX3_22 dX3_sheaves_11 (wX3_rickAt (d := 1) (Nat.le_refl _) hx0 hh) hx0 rfl rfl (Nat.le_of_ble_eq_true rfl) ?_
      refine s_astore_no (ls' := [some (rfX X x0), some (.int x1), some (.int x2), some (rvE (xE X) r1)]) C dX3_sheaves_14 rfl (by decide) (Nat.le_of_ble_eq_true rfl) rfl rfl ?_
      refine s_aload_no C dX3_sheaves_15 rfl rfl ?_
      cases r1 with
      | none =>
        have h := on_n h
        refine s_ifnullN (tgt := 26) C dX3_sheaves_16 (by decide) ?_
        obtain ⟨v1, ev1, h⟩ := ltm_e h
        refine s_iinc (v := v1) (ls' := [some (rfX X x0), some (.int x1), some (.int v1), some (.null)]) C dX3_sheaves_26 rfl (by decide) (Nat.le_of_ble_eq_true rfl) (by rw [ev1, ic_1]) rfl rfl ?_
        refine s_goto (tgt := 4) C dX3_sheaves_29 (by decide) ?_
        refine s_weak (ls' := [some (rfX X x0), some (.int x1), some (.int v1), none]) [true, true, true, false] rfl ?_
        exact ih hx0 h M
      | some q1 =>
        obtain ⟨hq1, h⟩ := it_s (on_s h)
        refine s_ifnull C dX3_sheaves_16 ?_
        refine s_iload_n C dX3_sheaves_19 rfl rfl ?_
        refine s_aload_n C dX3_sheaves_20 rfl rfl ?_
        refine s_getI C dX3_sheaves_21 hq1 foX3_26 rfl ?_
        refine s_iadd C dX3_sheaves_24 ?_
        obtain ⟨v1, ev1, h⟩ := ltm_e h
        refine s_top_i ev1 ?_
        refine s_istore_n (ls' := [some (rfX X x0), some (.int v1), some (.int x2), some (rfX X q1)]) C dX3_sheaves_25 rfl (by decide) (Nat.le_of_ble_eq_true rfl) rfl rfl ?_
        obtain ⟨v2, ev2, h⟩ := ltm_e h
        refine s_iinc (v := v2) (ls' := [some (rfX X x0), some (.int v1), some (.int v2), some (rfX X q1)]) C dX3_sheaves_26 rfl (by decide) (Nat.le_of_ble_eq_true rfl) (by rw [ev2, ic_1]) rfl rfl ?_
        refine s_goto (tgt := 4) C dX3_sheaves_29 (by decide) ?_
        refine s_weak (ls' := [some (rfX X x0), some (.int v1), some (.int v2), none]) [true, true, true, false] rfl ?_
        exact ih hx0 h M
theorem wX3_sheaves {E : Ev} {d : Nat} (hd : 2 ≤ d) {x0 : Nat} {I I' : Mm} {r : Int32} (hx0 : kd0 x0 = 3) (h : fX3_sheaves x0 I = some (r, I')) : SemM E d 0 0 mX3_sheaves [rfE E x0] S0 I (some (.int r)) S0 I' := by
  unfold fX3_sheaves at h
  refine SemM.ofX (E := E) (y := mX3_sheaves) (args := fun E => [rfE E x0]) (r := fun E => (some (.int r))) (fun E => [some (rfE E x0), none, none, none]) (by decide +kernel) (Nat.le_of_ble_eq_true rfl) rfl (fun X C M => ?_)
  refine s_iconst C dX3_sheaves_0 ic_0 ?_
  refine s_istore_n (ls' := [some (rfX X x0), some (.int 0), none, none]) C dX3_sheaves_1 rfl (by decide) (Nat.le_of_ble_eq_true rfl) rfl rfl ?_
  refine s_iconst C dX3_sheaves_2 ic_0 ?_
  refine s_istore_n (ls' := [some (rfX X x0), some (.int 0), some (.int 0), none]) C dX3_sheaves_3 rfl (by decide) (Nat.le_of_ble_eq_true rfl) rfl rfl ?_
  exact wX3_sheaves_p4 hd C _ hx0 h M
theorem wX4_restore {E : Ev} {d : Nat} (hd : 3 ≤ d)  {I I' : Mm} {r : Int32}  (h : fX4_restore  I = some (r, I')) : SemM E d 0 0 mX4_restore [rfE E 0] S0 I (some (.int r)) S0 I' := by
  unfold fX4_restore at h
  refine SemM.ofX (E := E) (y := mX4_restore) (args := fun E => [rfE E 0]) (r := fun E => (some (.int r))) (fun E => [some (rfE E 0)]) (by decide +kernel) (Nat.le_of_ble_eq_true rfl) rfl (fun X C M => ?_)
  refine s_aload_n C dX4_restore_0 rfl rfl ?_
  refine s_getI C dX4_restore_1 kk_0 foX4_241 rfl ?_
  refine s_if_ne (tgt := 10) C dX4_restore_4 (by decide) (fun c => ?_) (fun c => ?_)
  · have h := it_f c h
    refine s_aload_n C dX4_restore_10 rfl rfl ?_
    refine s_getR (b := 1) C dX4_restore_11 kk_0 foX4_10 rfl rk_0_0 ?_
    refine s_aload_n C dX4_restore_14 rfl rfl ?_
    refine s_getR (b := 15) C dX4_restore_15 kk_0 foX4_16 rfl rk_0_1 ?_
    obtain ⟨r1, I1, hh, h⟩ := bd_e h
    refine s_cV0 (st := []) C M.rg (Nat.le_trans (by decide) hd) mwX3_copyFrom mlX4_237 dX4_restore_18 (wX3_copyFrom (d := 2) (Nat.le_refl _) kk_1 kk_15 hh) kk_1 rfl rfl (Nat.le_of_ble_eq_true rfl) ?_
    refine s_aload_n C dX4_restore_21 rfl rfl ?_
    refine s_iconst C dX4_restore_22 ic_0 ?_
    obtain ⟨I2, eI2, h⟩ := ltm_e h
    refine s_putI C dX4_restore_23 kk_0 poX4_227 rfl eI2 ?_
    refine s_aload_n C dX4_restore_26 rfl rfl ?_
    refine s_getR (b := 1) C dX4_restore_27 kk_0 foX4_10 rfl rk_0_0 ?_
    obtain ⟨r2, I3, hh, h⟩ := bd_e h
    refine s_cV0 (st := []) C M.rg (Nat.le_trans (by decide) hd) mwX3_sheaves mlX4_149 dX4_restore_30 (wX3_sheaves (d := 2) (Nat.le_refl _) kk_1 hh) kk_1 rfl rfl (Nat.le_of_ble_eq_true rfl) ?_
    obtain ⟨rfl, rfl⟩ := pr_e h
    exact s_iret C M dX4_restore_33 rfl rfl (Nat.le_refl 0) (Nat.le_refl 0)
  · have h := it_t c h
    refine s_bipush C dX4_restore_7 bi_m15 ?_
    obtain ⟨rfl, rfl⟩ := pr_e h
    exact s_iret C M dX4_restore_9 rfl rfl (Nat.le_refl 0) (Nat.le_refl 0)
theorem wX1_depths_p4 {X : Cx} {d : Nat} (hd : 2 ≤ d) (C : CtxOK X mX1_depths) : ∀ (n : Nat) {x0 : Nat} {x1 : Int32} {x2 : Int32} {I I' : Mm} {r : Int32} (hx0 : kd0 x0 = 1) (_ : fX1_depths_p4 n x0 x1 x2 I = some (r, I')) (_ : MX X (xE X) d 0 0 (some (.int r)) S0 I'), WM X mX1_depths 4 [some (rfX X x0), some (.int x1), some (.int x2)] [] S0 I 0 0 := by
  intro n
  induction n with
  | zero => intro x0 x1 x2 I I' r hx0 h M; exact absurd h (by simp [fX1_depths_p4])
  | succ n ih =>
    intro x0 x1 x2 I I' r hx0 h M
    rw [fX1_depths_p4] at h
    refine s_iload_n C dX1_depths_4 rfl rfl ?_
    refine s_aload_n C dX1_depths_5 rfl rfl ?_
    refine s_getI C dX1_depths_6 hx0 foX1_21 rfl ?_
    refine s_icmp_ge (tgt := 26) C dX1_depths_9 (by decide) (fun c => ?_) (fun c => ?_)
    · have h := it_t c h
      refine s_iload_n C dX1_depths_26 rfl rfl ?_
      obtain ⟨rfl, rfl⟩ := pr_e h
      exact s_iret C M dX1_depths_27 rfl rfl (Nat.le_refl 0) (Nat.le_refl 0)
    · have h := it_f c h
      refine s_iload_n C dX1_depths_12 rfl rfl ?_
      refine s_aload_n C dX1_depths_13 rfl rfl ?_
      refine s_iload_n C dX1_depths_14 rfl rfl ?_
      obtain ⟨r1, I1, hh, h⟩ := bd_e h
      refine s_cV0 (st := [.int x1]) C M.rg (Nat.le_trans (by decide) hd) mwX1_depthAt mlX1_29 dX1_depths_15 (wX1_depthAt (d := 1) (Nat.le_refl _) hx0 hh) hx0 rfl rfl (Nat.le_of_ble_eq_true rfl) ?_
      refine s_iadd C dX1_depths_18 ?_
      obtain ⟨v1, ev1, h⟩ := ltm_e h
      refine s_top_i ev1 ?_
      refine s_istore_n (ls' := [some (rfX X x0), some (.int v1), some (.int x2)]) C dX1_depths_19 rfl (by decide) (Nat.le_of_ble_eq_true rfl) rfl rfl ?_
      obtain ⟨v2, ev2, h⟩ := ltm_e h
      refine s_iinc (v := v2) (ls' := [some (rfX X x0), some (.int v1), some (.int v2)]) C dX1_depths_20 rfl (by decide) (Nat.le_of_ble_eq_true rfl) (by rw [ev2, ic_1]) rfl rfl ?_
      refine s_goto (tgt := 4) C dX1_depths_23 (by decide) ?_
      exact ih hx0 h M
theorem wX1_depths {E : Ev} {d : Nat} (hd : 2 ≤ d) {x0 : Nat} {I I' : Mm} {r : Int32} (hx0 : kd0 x0 = 1) (h : fX1_depths x0 I = some (r, I')) : SemM E d 0 0 mX1_depths [rfE E x0] S0 I (some (.int r)) S0 I' := by
  unfold fX1_depths at h
  refine SemM.ofX (E := E) (y := mX1_depths) (args := fun E => [rfE E x0]) (r := fun E => (some (.int r))) (fun E => [some (rfE E x0), none, none]) (by decide +kernel) (Nat.le_of_ble_eq_true rfl) rfl (fun X C M => ?_)
  refine s_iconst C dX1_depths_0 ic_0 ?_
  refine s_istore_n (ls' := [some (rfX X x0), some (.int 0), none]) C dX1_depths_1 rfl (by decide) (Nat.le_of_ble_eq_true rfl) rfl rfl ?_
  refine s_iconst C dX1_depths_2 ic_0 ?_
  refine s_istore_n (ls' := [some (rfX X x0), some (.int 0), some (.int 0)]) C dX1_depths_3 rfl (by decide) (Nat.le_of_ble_eq_true rfl) rfl rfl ?_
  exact wX1_depths_p4 hd C _ hx0 h M
theorem wX1_greatestDepth_p4 {X : Cx} {d : Nat} (hd : 2 ≤ d) (C : CtxOK X mX1_greatestDepth) : ∀ (n : Nat) {x0 : Nat} {x1 : Int32} {x2 : Int32} {I I' : Mm} {r : Int32} (hx0 : kd0 x0 = 1) (_ : fX1_greatestDepth_p4 n x0 x1 x2 I = some (r, I')) (_ : MX X (xE X) d 0 0 (some (.int r)) S0 I'), WM X mX1_greatestDepth 4 [some (rfX X x0), some (.int x1), some (.int x2)] [] S0 I 0 0 := by
  intro n
  induction n with
  | zero => intro x0 x1 x2 I I' r hx0 h M; exact absurd h (by simp [fX1_greatestDepth_p4])
  | succ n ih =>
    intro x0 x1 x2 I I' r hx0 h M
    rw [fX1_greatestDepth_p4] at h
    refine s_iload_n C dX1_greatestDepth_4 rfl rfl ?_
    refine s_aload_n C dX1_greatestDepth_5 rfl rfl ?_
    refine s_getI C dX1_greatestDepth_6 hx0 foX1_21 rfl ?_
    refine s_icmp_ge (tgt := 28) C dX1_greatestDepth_9 (by decide) (fun c => ?_) (fun c => ?_)
    · have h := it_t c h
      refine s_iload_n C dX1_greatestDepth_28 rfl rfl ?_
      obtain ⟨rfl, rfl⟩ := pr_e h
      exact s_iret C M dX1_greatestDepth_29 rfl rfl (Nat.le_refl 0) (Nat.le_refl 0)
    · have h := it_f c h
      refine s_iload_n C dX1_greatestDepth_12 rfl rfl ?_
      refine s_aload_n C dX1_greatestDepth_13 rfl rfl ?_
      refine s_iload_n C dX1_greatestDepth_14 rfl rfl ?_
      obtain ⟨r1, I1, hh, h⟩ := bd_e h
      refine s_cV0 (st := [.int x1]) C M.rg (Nat.le_trans (by decide) hd) mwX1_depthAt mlX1_29 dX1_greatestDepth_15 (wX1_depthAt (d := 1) (Nat.le_refl _) hx0 hh) hx0 rfl rfl (Nat.le_of_ble_eq_true rfl) ?_
      refine s_max C M.rg (Nat.le_trans (by decide) hd) mlX1_32 dX1_greatestDepth_18 w_max_s w_math_i w_max_c (Nat.le_of_ble_eq_true rfl) (Nat.le_refl 0) (Nat.le_refl 0) ?_
      obtain ⟨v1, ev1, h⟩ := ltm_e h
      refine s_top_i ev1 ?_
      refine s_istore_n (ls' := [some (rfX X x0), some (.int v1), some (.int x2)]) C dX1_greatestDepth_21 rfl (by decide) (Nat.le_of_ble_eq_true rfl) rfl rfl ?_
      obtain ⟨v2, ev2, h⟩ := ltm_e h
      refine s_iinc (v := v2) (ls' := [some (rfX X x0), some (.int v1), some (.int v2)]) C dX1_greatestDepth_22 rfl (by decide) (Nat.le_of_ble_eq_true rfl) (by rw [ev2, ic_1]) rfl rfl ?_
      refine s_goto (tgt := 4) C dX1_greatestDepth_25 (by decide) ?_
      exact ih hx0 h M
theorem wX1_greatestDepth {E : Ev} {d : Nat} (hd : 2 ≤ d) {x0 : Nat} {I I' : Mm} {r : Int32} (hx0 : kd0 x0 = 1) (h : fX1_greatestDepth x0 I = some (r, I')) : SemM E d 0 0 mX1_greatestDepth [rfE E x0] S0 I (some (.int r)) S0 I' := by
  unfold fX1_greatestDepth at h
  refine SemM.ofX (E := E) (y := mX1_greatestDepth) (args := fun E => [rfE E x0]) (r := fun E => (some (.int r))) (fun E => [some (rfE E x0), none, none]) (by decide +kernel) (Nat.le_of_ble_eq_true rfl) rfl (fun X C M => ?_)
  refine s_iconst C dX1_greatestDepth_0 ic_m1 ?_
  refine s_istore_n (ls' := [some (rfX X x0), some (.int (-1)), none]) C dX1_greatestDepth_1 rfl (by decide) (Nat.le_of_ble_eq_true rfl) rfl rfl ?_
  refine s_iconst C dX1_greatestDepth_2 ic_0 ?_
  refine s_istore_n (ls' := [some (rfX X x0), some (.int (-1)), some (.int 0)]) C dX1_greatestDepth_3 rfl (by decide) (Nat.le_of_ble_eq_true rfl) rfl rfl ?_
  exact wX1_greatestDepth_p4 hd C _ hx0 h M
theorem wX1_leaning_p4 {X : Cx} {d : Nat} (hd : 4 ≤ d) (C : CtxOK X mX1_leaning) : ∀ (n : Nat) {x0 : Nat} {x1 : Int32} {x2 : Int32} {x3 : Int32} {I I' : Mm} {r : Int32} (hx0 : kd0 x0 = 1) (_ : fX1_leaning_p4 n x0 x1 x2 x3 I = some (r, I')) (_ : MX X (xE X) d 0 0 (some (.int r)) S0 I'), WM X mX1_leaning 4 [some (rfX X x0), some (.int x1), some (.int x2), some (.int x3)] [] S0 I 0 0 := by
  intro n
  induction n with
  | zero => intro x0 x1 x2 x3 I I' r hx0 h M; exact absurd h (by simp [fX1_leaning_p4])
  | succ n ih =>
    intro x0 x1 x2 x3 I I' r hx0 h M
    rw [fX1_leaning_p4] at h
    refine s_iload_n C dX1_leaning_4 rfl rfl ?_
    refine s_aload_n C dX1_leaning_5 rfl rfl ?_
    refine s_getI C dX1_leaning_6 hx0 foX1_21 rfl ?_
    refine s_icmp_ge (tgt := 30) C dX1_leaning_9 (by decide) (fun c => ?_) (fun c => ?_)
    · have h := it_t c h
      refine s_iload_n C dX1_leaning_30 rfl rfl ?_
      obtain ⟨rfl, rfl⟩ := pr_e h
      exact s_iret C M dX1_leaning_31 rfl rfl (Nat.le_refl 0) (Nat.le_refl 0)
    · have h := it_f c h
      refine s_aload_n C dX1_leaning_12 rfl rfl ?_
      refine s_iload_n C dX1_leaning_13 rfl rfl ?_
      refine s_iload_n C dX1_leaning_14 rfl rfl ?_
      obtain ⟨r1, I1, hh, h⟩ := bd_e h
      refine s_cV0 (st := []) C M.rg (Nat.le_trans (by decide) hd) mwX1_leans mlX1_51 dX1_leaning_15 (wX1_leans (d := 3) (Nat.le_refl _) hx0 hh) hx0 rfl rfl (Nat.le_of_ble_eq_true rfl) ?_
      refine s_if_eq (tgt := 24) C dX1_leaning_18 (by decide) (fun c => ?_) (fun c => ?_)
      · have h := it_t c h
        obtain ⟨v1, ev1, h⟩ := ltm_e h
        refine s_iinc (v := v1) (ls' := [some (rfX X x0), some (.int x1), some (.int x2), some (.int v1)]) C dX1_leaning_24 rfl (by decide) (Nat.le_of_ble_eq_true rfl) (by rw [ev1, ic_1]) rfl rfl ?_
        refine s_goto (tgt := 4) C dX1_leaning_27 (by decide) ?_
        exact ih hx0 h M
      · have h := it_f c h
        obtain ⟨v1, ev1, h⟩ := ltm_e h
        refine s_iinc (v := v1) (ls' := [some (rfX X x0), some (.int x1), some (.int v1), some (.int x3)]) C dX1_leaning_21 rfl (by decide) (Nat.le_of_ble_eq_true rfl) (by rw [ev1, ic_1]) rfl rfl ?_
        obtain ⟨v2, ev2, h⟩ := ltm_e h
        refine s_iinc (v := v2) (ls' := [some (rfX X x0), some (.int x1), some (.int v1), some (.int v2)]) C dX1_leaning_24 rfl (by decide) (Nat.le_of_ble_eq_true rfl) (by rw [ev2, ic_1]) rfl rfl ?_
        refine s_goto (tgt := 4) C dX1_leaning_27 (by decide) ?_
        exact ih hx0 h M
theorem wX1_leaning {E : Ev} {d : Nat} (hd : 4 ≤ d) {x0 : Nat} {x1 : Int32} {I I' : Mm} {r : Int32} (hx0 : kd0 x0 = 1) (h : fX1_leaning x0 x1 I = some (r, I')) : SemM E d 0 0 mX1_leaning [rfE E x0, .int x1] S0 I (some (.int r)) S0 I' := by
  unfold fX1_leaning at h
  refine SemM.ofX (E := E) (y := mX1_leaning) (args := fun E => [rfE E x0, .int x1]) (r := fun E => (some (.int r))) (fun E => [some (rfE E x0), some (.int x1), none, none]) (by decide +kernel) (Nat.le_of_ble_eq_true rfl) rfl (fun X C M => ?_)
  refine s_iconst C dX1_leaning_0 ic_0 ?_
  refine s_istore_n (ls' := [some (rfX X x0), some (.int x1), some (.int 0), none]) C dX1_leaning_1 rfl (by decide) (Nat.le_of_ble_eq_true rfl) rfl rfl ?_
  refine s_iconst C dX1_leaning_2 ic_0 ?_
  refine s_istore_n (ls' := [some (rfX X x0), some (.int x1), some (.int 0), some (.int 0)]) C dX1_leaning_3 rfl (by decide) (Nat.le_of_ble_eq_true rfl) rfl rfl ?_
  exact wX1_leaning_p4 hd C _ hx0 h M
theorem wX1_loadsFrom_p9 {X : Cx} {d : Nat} (hd : 2 ≤ d) (C : CtxOK X mX1_loadsFrom) : ∀ (n : Nat) {x0 : Nat} {x2 : Int32} {x3 : Int32} {x4 : Int32} {I I' : Mm} {r : Int32} (hx0 : kd0 x0 = 1) (_ : fX1_loadsFrom_p9 n x0 x2 x3 x4 I = some (r, I')) (_ : MX X (xE X) d 0 0 (some (.int r)) S0 I'), WM X mX1_loadsFrom 9 [some (rfX X x0), none, some (.int x2), some (.int x3), some (.int x4)] [] S0 I 0 0 := by
  intro n
  induction n with
  | zero => intro x0 x2 x3 x4 I I' r hx0 h M; exact absurd h (by simp [fX1_loadsFrom_p9])
  | succ n ih =>
    intro x0 x2 x3 x4 I I' r hx0 h M
    rw [fX1_loadsFrom_p9] at h
    refine s_iload C dX1_loadsFrom_9 rfl ?_
    refine s_iload_n C dX1_loadsFrom_11 rfl rfl ?_
    refine s_icmp_gt (tgt := 39) C dX1_loadsFrom_12 (by decide) (fun c => ?_) (fun c => ?_)
    · have h := it_t c h
      refine s_iload_n C dX1_loadsFrom_39 rfl rfl ?_
      obtain ⟨rfl, rfl⟩ := pr_e h
      exact s_iret C M dX1_loadsFrom_40 rfl rfl (Nat.le_refl 0) (Nat.le_refl 0)
    · have h := it_f c h
      refine s_iload C dX1_loadsFrom_15 rfl ?_
      refine s_aload_n C dX1_loadsFrom_17 rfl rfl ?_
      refine s_getI C dX1_loadsFrom_18 hx0 foX1_21 rfl ?_
      refine s_icmp_ge (tgt := 39) C dX1_loadsFrom_21 (by decide) (fun c => ?_) (fun c => ?_)
      · have h := it_t c h
        refine s_iload_n C dX1_loadsFrom_39 rfl rfl ?_
        obtain ⟨rfl, rfl⟩ := pr_e h
        exact s_iret C M dX1_loadsFrom_40 rfl rfl (Nat.le_refl 0) (Nat.le_refl 0)
      · have h := it_f c h
        refine s_iload_n C dX1_loadsFrom_24 rfl rfl ?_
        refine s_aload_n C dX1_loadsFrom_25 rfl rfl ?_
        refine s_iload C dX1_loadsFrom_26 rfl ?_
        obtain ⟨r1, I1, hh, h⟩ := bd_e h
        refine s_cV0 (st := [.int x3]) C M.rg (Nat.le_trans (by decide) hd) mwX1_loadAt mlX1_48 dX1_loadsFrom_28 (wX1_loadAt (d := 1) (Nat.le_refl _) hx0 hh) hx0 rfl rfl (Nat.le_of_ble_eq_true rfl) ?_
        refine s_iadd C dX1_loadsFrom_31 ?_
        obtain ⟨v1, ev1, h⟩ := ltm_e h
        refine s_top_i ev1 ?_
        refine s_istore_n (ls' := [some (rfX X x0), none, some (.int x2), some (.int v1), some (.int x4)]) C dX1_loadsFrom_32 rfl (by decide) (Nat.le_of_ble_eq_true rfl) rfl rfl ?_
        obtain ⟨v2, ev2, h⟩ := ltm_e h
        refine s_iinc (v := v2) (ls' := [some (rfX X x0), none, some (.int x2), some (.int v1), some (.int v2)]) C dX1_loadsFrom_33 rfl (by decide) (Nat.le_of_ble_eq_true rfl) (by rw [ev2, ic_1]) rfl rfl ?_
        refine s_goto (tgt := 9) C dX1_loadsFrom_36 (by decide) ?_
        exact ih hx0 h M
theorem wX1_loadsFrom {E : Ev} {d : Nat} (hd : 2 ≤ d) {x0 : Nat} {x1 : Int32} {x2 : Int32} {I I' : Mm} {r : Int32} (hx0 : kd0 x0 = 1) (h : fX1_loadsFrom x0 x1 x2 I = some (r, I')) : SemM E d 0 0 mX1_loadsFrom [rfE E x0, .int x1, .int x2] S0 I (some (.int r)) S0 I' := by
  unfold fX1_loadsFrom at h
  refine SemM.ofX (E := E) (y := mX1_loadsFrom) (args := fun E => [rfE E x0, .int x1, .int x2]) (r := fun E => (some (.int r))) (fun E => [some (rfE E x0), some (.int x1), some (.int x2), none, none]) (by decide +kernel) (Nat.le_of_ble_eq_true rfl) rfl (fun X C M => ?_)
  refine s_iconst C dX1_loadsFrom_0 ic_0 ?_
  refine s_istore_n (ls' := [some (rfX X x0), some (.int x1), some (.int x2), some (.int 0), none]) C dX1_loadsFrom_1 rfl (by decide) (Nat.le_of_ble_eq_true rfl) rfl rfl ?_
  refine s_iload_n C dX1_loadsFrom_2 rfl rfl ?_
  refine s_iconst C dX1_loadsFrom_3 ic_0 ?_
  refine s_max C M.rg (Nat.le_trans (by decide) hd) mlX1_32 dX1_loadsFrom_4 w_max_s w_math_i w_max_c (Nat.le_of_ble_eq_true rfl) (Nat.le_refl 0) (Nat.le_refl 0) ?_
  obtain ⟨v1, ev1, h⟩ := ltm_e h
  refine s_top_i ev1 ?_
  refine s_istore (ls' := [some (rfX X x0), some (.int x1), some (.int x2), some (.int 0), some (.int v1)]) C dX1_loadsFrom_7 (by decide) (Nat.le_of_ble_eq_true rfl) rfl rfl ?_
  refine s_weak (ls' := [some (rfX X x0), none, some (.int x2), some (.int 0), some (.int v1)]) [true, false, true, true, true] rfl ?_
  exact wX1_loadsFrom_p9 hd C _ hx0 h M
theorem wX1_lowest_p4 {X : Cx} {d : Nat} (hd : 2 ≤ d) (C : CtxOK X mX1_lowest) : ∀ (n : Nat) {x0 : Nat} {x1 : Int32} {x2 : Int32} {I I' : Mm} {r : Int32} (hx0 : kd0 x0 = 1) (_ : fX1_lowest_p4 n x0 x1 x2 I = some (r, I')) (_ : MX X (xE X) d 0 0 (some (.int r)) S0 I'), WM X mX1_lowest 4 [some (rfX X x0), some (.int x1), some (.int x2)] [] S0 I 0 0 := by
  intro n
  induction n with
  | zero => intro x0 x1 x2 I I' r hx0 h M; exact absurd h (by simp [fX1_lowest_p4])
  | succ n ih =>
    intro x0 x1 x2 I I' r hx0 h M
    rw [fX1_lowest_p4] at h
    refine s_iload_n C dX1_lowest_4 rfl rfl ?_
    refine s_aload_n C dX1_lowest_5 rfl rfl ?_
    refine s_getI C dX1_lowest_6 hx0 foX1_21 rfl ?_
    refine s_icmp_ge (tgt := 51) C dX1_lowest_9 (by decide) (fun c => ?_) (fun c => ?_)
    · have h := it_t c h
      refine s_iload_n C dX1_lowest_51 rfl rfl ?_
      obtain ⟨rfl, rfl⟩ := pr_e h
      exact s_iret C M dX1_lowest_52 rfl rfl (Nat.le_refl 0) (Nat.le_refl 0)
    · have h := it_f c h
      refine s_aload_n C dX1_lowest_12 rfl rfl ?_
      refine s_iload_n C dX1_lowest_13 rfl rfl ?_
      refine s_iconst C dX1_lowest_14 ic_1 ?_
      refine s_isub C dX1_lowest_15 ?_
      obtain ⟨r1, I1, hh, h⟩ := bd_e h
      refine s_cV0 (st := []) C M.rg (Nat.le_trans (by decide) hd) mwX1_depthAt mlX1_29 dX1_lowest_16 (wX1_depthAt (d := 1) (Nat.le_refl _) hx0 hh) hx0 rfl rfl (Nat.le_of_ble_eq_true rfl) ?_
      refine s_aload_n C dX1_lowest_19 rfl rfl ?_
      refine s_iload_n C dX1_lowest_20 rfl rfl ?_
      obtain ⟨r2, I2, hh, h⟩ := bd_e h
      refine s_cV0 (st := [.int r1]) C M.rg (Nat.le_trans (by decide) hd) mwX1_depthAt mlX1_29 dX1_lowest_21 (wX1_depthAt (d := 1) (Nat.le_refl _) hx0 hh) hx0 rfl rfl (Nat.le_of_ble_eq_true rfl) ?_
      refine s_icmp_gt (tgt := 45) C dX1_lowest_24 (by decide) (fun c => ?_) (fun c => ?_)
      · have h := it_t c h
        obtain ⟨v1, ev1, h⟩ := ltm_e h
        refine s_iinc (v := v1) (ls' := [some (rfX X x0), some (.int x1), some (.int v1)]) C dX1_lowest_45 rfl (by decide) (Nat.le_of_ble_eq_true rfl) (by rw [ev1, ic_1]) rfl rfl ?_
        refine s_goto (tgt := 4) C dX1_lowest_48 (by decide) ?_
        exact ih hx0 h M
      · have h := it_f c h
        refine s_aload_n C dX1_lowest_27 rfl rfl ?_
        refine s_iload_n C dX1_lowest_28 rfl rfl ?_
        refine s_iconst C dX1_lowest_29 ic_1 ?_
        refine s_iadd C dX1_lowest_30 ?_
        obtain ⟨r3, I3, hh, h⟩ := bd_e h
        refine s_cV0 (st := []) C M.rg (Nat.le_trans (by decide) hd) mwX1_depthAt mlX1_29 dX1_lowest_31 (wX1_depthAt (d := 1) (Nat.le_refl _) hx0 hh) hx0 rfl rfl (Nat.le_of_ble_eq_true rfl) ?_
        refine s_aload_n C dX1_lowest_34 rfl rfl ?_
        refine s_iload_n C dX1_lowest_35 rfl rfl ?_
        obtain ⟨r4, I4, hh, h⟩ := bd_e h
        refine s_cV0 (st := [.int r3]) C M.rg (Nat.le_trans (by decide) hd) mwX1_depthAt mlX1_29 dX1_lowest_36 (wX1_depthAt (d := 1) (Nat.le_refl _) hx0 hh) hx0 rfl rfl (Nat.le_of_ble_eq_true rfl) ?_
        refine s_icmp_gt (tgt := 45) C dX1_lowest_39 (by decide) (fun c => ?_) (fun c => ?_)
        · have h := it_t c h
          obtain ⟨v1, ev1, h⟩ := ltm_e h
          refine s_iinc (v := v1) (ls' := [some (rfX X x0), some (.int x1), some (.int v1)]) C dX1_lowest_45 rfl (by decide) (Nat.le_of_ble_eq_true rfl) (by rw [ev1, ic_1]) rfl rfl ?_
          refine s_goto (tgt := 4) C dX1_lowest_48 (by decide) ?_
          exact ih hx0 h M
        · have h := it_f c h
          obtain ⟨v1, ev1, h⟩ := ltm_e h
          refine s_iinc (v := v1) (ls' := [some (rfX X x0), some (.int v1), some (.int x2)]) C dX1_lowest_42 rfl (by decide) (Nat.le_of_ble_eq_true rfl) (by rw [ev1, ic_1]) rfl rfl ?_
          obtain ⟨v2, ev2, h⟩ := ltm_e h
          refine s_iinc (v := v2) (ls' := [some (rfX X x0), some (.int v1), some (.int v2)]) C dX1_lowest_45 rfl (by decide) (Nat.le_of_ble_eq_true rfl) (by rw [ev2, ic_1]) rfl rfl ?_
          refine s_goto (tgt := 4) C dX1_lowest_48 (by decide) ?_
          exact ih hx0 h M
theorem wX1_lowest {E : Ev} {d : Nat} (hd : 2 ≤ d) {x0 : Nat} {I I' : Mm} {r : Int32} (hx0 : kd0 x0 = 1) (h : fX1_lowest x0 I = some (r, I')) : SemM E d 0 0 mX1_lowest [rfE E x0] S0 I (some (.int r)) S0 I' := by
  unfold fX1_lowest at h
  refine SemM.ofX (E := E) (y := mX1_lowest) (args := fun E => [rfE E x0]) (r := fun E => (some (.int r))) (fun E => [some (rfE E x0), none, none]) (by decide +kernel) (Nat.le_of_ble_eq_true rfl) rfl (fun X C M => ?_)
  refine s_iconst C dX1_lowest_0 ic_0 ?_
  refine s_istore_n (ls' := [some (rfX X x0), some (.int 0), none]) C dX1_lowest_1 rfl (by decide) (Nat.le_of_ble_eq_true rfl) rfl rfl ?_
  refine s_iconst C dX1_lowest_2 ic_0 ?_
  refine s_istore_n (ls' := [some (rfX X x0), some (.int 0), some (.int 0)]) C dX1_lowest_3 rfl (by decide) (Nat.le_of_ble_eq_true rfl) rfl rfl ?_
  exact wX1_lowest_p4 hd C _ hx0 h M
theorem wX1_topOf_p9 {X : Cx} {d : Nat} (hd : 2 ≤ d) (C : CtxOK X mX1_topOf) : ∀ (n : Nat) {x0 : Nat} {x2 : Int32} {x3 : Int32} {x4 : Int32} {I I' : Mm} {r : Int32} (hx0 : kd0 x0 = 1) (_ : fX1_topOf_p9 n x0 x2 x3 x4 I = some (r, I')) (_ : MX X (xE X) d 0 0 (some (.int r)) S0 I'), WM X mX1_topOf 9 [some (rfX X x0), none, some (.int x2), some (.int x3), some (.int x4)] [] S0 I 0 0 := by
  intro n
  induction n with
  | zero => intro x0 x2 x3 x4 I I' r hx0 h M; exact absurd h (by simp [fX1_topOf_p9])
  | succ n ih =>
    intro x0 x2 x3 x4 I I' r hx0 h M
    rw [fX1_topOf_p9] at h
    refine s_iload C dX1_topOf_9 rfl ?_
    refine s_iload_n C dX1_topOf_11 rfl rfl ?_
    refine s_icmp_gt (tgt := 52) C dX1_topOf_12 (by decide) (fun c => ?_) (fun c => ?_)
    · have h := it_t c h
      refine s_iload_n C dX1_topOf_52 rfl rfl ?_
      obtain ⟨rfl, rfl⟩ := pr_e h
      exact s_iret C M dX1_topOf_53 rfl rfl (Nat.le_refl 0) (Nat.le_refl 0)
    · have h := it_f c h
      refine s_iload C dX1_topOf_15 rfl ?_
      refine s_aload_n C dX1_topOf_17 rfl rfl ?_
      refine s_getI C dX1_topOf_18 hx0 foX1_21 rfl ?_
      refine s_icmp_ge (tgt := 52) C dX1_topOf_21 (by decide) (fun c => ?_) (fun c => ?_)
      · have h := it_t c h
        refine s_iload_n C dX1_topOf_52 rfl rfl ?_
        obtain ⟨rfl, rfl⟩ := pr_e h
        exact s_iret C M dX1_topOf_53 rfl rfl (Nat.le_refl 0) (Nat.le_refl 0)
      · have h := it_f c h
        refine s_iload_n C dX1_topOf_24 rfl rfl ?_
        refine s_iconst C dX1_topOf_25 ic_m1 ?_
        refine s_icmp_eq (tgt := 43) C dX1_topOf_26 (by decide) (fun c => ?_) (fun c => ?_)
        · have h := it_t c h
          refine s_iload C dX1_topOf_43 rfl ?_
          refine s_istore_n (ls' := [some (rfX X x0), none, some (.int x2), some (.int x4), some (.int x4)]) C dX1_topOf_45 rfl (by decide) (Nat.le_of_ble_eq_true rfl) rfl rfl ?_
          obtain ⟨v1, ev1, h⟩ := ltm_e h
          refine s_iinc (v := v1) (ls' := [some (rfX X x0), none, some (.int x2), some (.int x4), some (.int v1)]) C dX1_topOf_46 rfl (by decide) (Nat.le_of_ble_eq_true rfl) (by rw [ev1, ic_1]) rfl rfl ?_
          refine s_goto (tgt := 9) C dX1_topOf_49 (by decide) ?_
          exact ih hx0 h M
        · have h := it_f c h
          refine s_aload_n C dX1_topOf_29 rfl rfl ?_
          refine s_iload C dX1_topOf_30 rfl ?_
          obtain ⟨r1, I1, hh, h⟩ := bd_e h
          refine s_cV0 (st := []) C M.rg (Nat.le_trans (by decide) hd) mwX1_depthAt mlX1_29 dX1_topOf_32 (wX1_depthAt (d := 1) (Nat.le_refl _) hx0 hh) hx0 rfl rfl (Nat.le_of_ble_eq_true rfl) ?_
          refine s_aload_n C dX1_topOf_35 rfl rfl ?_
          refine s_iload_n C dX1_topOf_36 rfl rfl ?_
          obtain ⟨r2, I2, hh, h⟩ := bd_e h
          refine s_cV0 (st := [.int r1]) C M.rg (Nat.le_trans (by decide) hd) mwX1_depthAt mlX1_29 dX1_topOf_37 (wX1_depthAt (d := 1) (Nat.le_refl _) hx0 hh) hx0 rfl rfl (Nat.le_of_ble_eq_true rfl) ?_
          refine s_icmp_ge (tgt := 46) C dX1_topOf_40 (by decide) (fun c => ?_) (fun c => ?_)
          · have h := it_t c h
            obtain ⟨v1, ev1, h⟩ := ltm_e h
            refine s_iinc (v := v1) (ls' := [some (rfX X x0), none, some (.int x2), some (.int x3), some (.int v1)]) C dX1_topOf_46 rfl (by decide) (Nat.le_of_ble_eq_true rfl) (by rw [ev1, ic_1]) rfl rfl ?_
            refine s_goto (tgt := 9) C dX1_topOf_49 (by decide) ?_
            exact ih hx0 h M
          · have h := it_f c h
            refine s_iload C dX1_topOf_43 rfl ?_
            refine s_istore_n (ls' := [some (rfX X x0), none, some (.int x2), some (.int x4), some (.int x4)]) C dX1_topOf_45 rfl (by decide) (Nat.le_of_ble_eq_true rfl) rfl rfl ?_
            obtain ⟨v1, ev1, h⟩ := ltm_e h
            refine s_iinc (v := v1) (ls' := [some (rfX X x0), none, some (.int x2), some (.int x4), some (.int v1)]) C dX1_topOf_46 rfl (by decide) (Nat.le_of_ble_eq_true rfl) (by rw [ev1, ic_1]) rfl rfl ?_
            refine s_goto (tgt := 9) C dX1_topOf_49 (by decide) ?_
            exact ih hx0 h M
theorem wX1_topOf {E : Ev} {d : Nat} (hd : 2 ≤ d) {x0 : Nat} {x1 : Int32} {x2 : Int32} {I I' : Mm} {r : Int32} (hx0 : kd0 x0 = 1) (h : fX1_topOf x0 x1 x2 I = some (r, I')) : SemM E d 0 0 mX1_topOf [rfE E x0, .int x1, .int x2] S0 I (some (.int r)) S0 I' := by
  unfold fX1_topOf at h
  refine SemM.ofX (E := E) (y := mX1_topOf) (args := fun E => [rfE E x0, .int x1, .int x2]) (r := fun E => (some (.int r))) (fun E => [some (rfE E x0), some (.int x1), some (.int x2), none, none]) (by decide +kernel) (Nat.le_of_ble_eq_true rfl) rfl (fun X C M => ?_)
  refine s_iconst C dX1_topOf_0 ic_m1 ?_
  refine s_istore_n (ls' := [some (rfX X x0), some (.int x1), some (.int x2), some (.int (-1)), none]) C dX1_topOf_1 rfl (by decide) (Nat.le_of_ble_eq_true rfl) rfl rfl ?_
  refine s_iload_n C dX1_topOf_2 rfl rfl ?_
  refine s_iconst C dX1_topOf_3 ic_0 ?_
  refine s_max C M.rg (Nat.le_trans (by decide) hd) mlX1_32 dX1_topOf_4 w_max_s w_math_i w_max_c (Nat.le_of_ble_eq_true rfl) (Nat.le_refl 0) (Nat.le_refl 0) ?_
  obtain ⟨v1, ev1, h⟩ := ltm_e h
  refine s_top_i ev1 ?_
  refine s_istore (ls' := [some (rfX X x0), some (.int x1), some (.int x2), some (.int (-1)), some (.int v1)]) C dX1_topOf_7 (by decide) (Nat.le_of_ble_eq_true rfl) rfl rfl ?_
  refine s_weak (ls' := [some (rfX X x0), none, some (.int x2), some (.int (-1)), some (.int v1)]) [true, false, true, true, true] rfl ?_
  exact wX1_topOf_p9 hd C _ hx0 h M
theorem wX4_rickOf {E : Ev} {d : Nat} (hd : 5 ≤ d) {x1 : Int32} {x2 : Int32} {I I' : Mm} {r : Int32}  (h : fX4_rickOf x1 x2 I = some (r, I')) : SemM E d 0 0 mX4_rickOf [rfE E 0, .int x1, .int x2] S0 I (some (.int r)) S0 I' := by
  unfold fX4_rickOf at h
  refine SemM.ofX (E := E) (y := mX4_rickOf) (args := fun E => [rfE E 0, .int x1, .int x2]) (r := fun E => (some (.int r))) (fun E => [some (rfE E 0), some (.int x1), some (.int x2), none]) (by decide +kernel) (Nat.le_of_ble_eq_true rfl) rfl (fun X C M => ?_)
  refine s_aload_n C dX4_rickOf_0 rfl rfl ?_
  refine s_getR (b := 1) C dX4_rickOf_1 kk_0 foX4_10 rfl rk_0_0 ?_
  refine s_iload_n C dX4_rickOf_4 rfl rfl ?_
  obtain ⟨r1, I1, hh, h⟩ := bd_e h
  refine s_cV0 (st := []) C M.rg (Nat.le_trans (by decide) hd) mwX3_rickAt mlX4_71 dX4_rickOf_5 (wX3_rickAt (d := 1) (Nat.le_refl _) kk_1 hh) kk_1 rfl rfl (Nat.le_of_ble_eq_true rfl) ?_
  refine s_astore_no (ls' := [some (rfX X 0), some (.int x1), some (.int x2), some (rvE (xE X) r1)]) C dX4_rickOf_8 rfl (by decide) (Nat.le_of_ble_eq_true rfl) rfl rfl ?_
  refine s_aload_no C dX4_rickOf_9 rfl rfl ?_
  cases r1 with
  | none =>
    have h := on_n h
    refine s_ifnonnullN C dX4_rickOf_10 ?_
    refine s_bipush C dX4_rickOf_13 bi_m11 ?_
    obtain ⟨rfl, rfl⟩ := pr_e h
    exact s_iret C M dX4_rickOf_15 rfl rfl (Nat.le_refl 0) (Nat.le_refl 0)
  | some q1 =>
    obtain ⟨hq1, h⟩ := it_s (on_s h)
    refine s_ifnonnull (tgt := 16) C dX4_rickOf_10 (by decide) ?_
    refine s_iload_n C dX4_rickOf_16 rfl rfl ?_
    by_cases c1 : x2 = 0
    · have h := it_t c1 h
      refine s_tableIn (off := 51) (tgt := 68) C dX4_rickOf_17 (by rw [c1]; decide +kernel) (by rw [c1]; decide +kernel) (by rw [c1]; decide +kernel) (by decide) ?_
      refine s_aload_n C dX4_rickOf_68 rfl rfl ?_
      refine s_getI C dX4_rickOf_69 hq1 foX4_111 rfl ?_
      obtain ⟨rfl, rfl⟩ := pr_e h
      exact s_iret C M dX4_rickOf_72 rfl rfl (Nat.le_refl 0) (Nat.le_refl 0)
    have h := it_f c1 h
    by_cases c2 : x2 = 1
    · have h := it_t c2 h
      refine s_tableIn (off := 56) (tgt := 73) C dX4_rickOf_17 (by rw [c2]; decide +kernel) (by rw [c2]; decide +kernel) (by rw [c2]; decide +kernel) (by decide) ?_
      refine s_aload_n C dX4_rickOf_73 rfl rfl ?_
      refine s_iconst C dX4_rickOf_74 ic_0 ?_
      refine s_aload_n C dX4_rickOf_75 rfl rfl ?_
      refine s_getI C dX4_rickOf_76 hq1 foX4_111 rfl ?_
      refine s_iconst C dX4_rickOf_79 ic_1 ?_
      refine s_isub C dX4_rickOf_80 ?_
      obtain ⟨r2, I2, hh, h⟩ := bd_e h
      refine s_cV0 (st := []) C M.rg (Nat.le_trans (by decide) hd) mwX1_loadsFrom mlX4_92 dX4_rickOf_81 (wX1_loadsFrom (d := 2) (Nat.le_refl _) hq1 hh) hq1 rfl rfl (Nat.le_of_ble_eq_true rfl) ?_
      obtain ⟨rfl, rfl⟩ := pr_e h
      exact s_iret C M dX4_rickOf_84 rfl rfl (Nat.le_refl 0) (Nat.le_refl 0)
    have h := it_f c2 h
    by_cases c3 : x2 = 2
    · have h := it_t c3 h
      refine s_tableIn (off := 68) (tgt := 85) C dX4_rickOf_17 (by rw [c3]; decide +kernel) (by rw [c3]; decide +kernel) (by rw [c3]; decide +kernel) (by decide) ?_
      refine s_aload_n C dX4_rickOf_85 rfl rfl ?_
      refine s_aload_n C dX4_rickOf_86 rfl rfl ?_
      refine s_iconst C dX4_rickOf_87 ic_0 ?_
      refine s_aload_n C dX4_rickOf_88 rfl rfl ?_
      refine s_getI C dX4_rickOf_89 hq1 foX4_111 rfl ?_
      refine s_iconst C dX4_rickOf_92 ic_1 ?_
      refine s_isub C dX4_rickOf_93 ?_
      obtain ⟨r2, I2, hh, h⟩ := bd_e h
      refine s_cV0 (st := [rfX X q1]) C M.rg (Nat.le_trans (by decide) hd) mwX1_topOf mlX4_108 dX4_rickOf_94 (wX1_topOf (d := 2) (Nat.le_refl _) hq1 hh) hq1 rfl rfl (Nat.le_of_ble_eq_true rfl) ?_
      obtain ⟨r3, I3, hh, h⟩ := bd_e h
      refine s_cV0 (st := []) C M.rg (Nat.le_trans (by decide) hd) mwX1_weightAt mlX4_105 dX4_rickOf_97 (wX1_weightAt (d := 1) (Nat.le_refl _) hq1 hh) hq1 rfl rfl (Nat.le_of_ble_eq_true rfl) ?_
      obtain ⟨rfl, rfl⟩ := pr_e h
      exact s_iret C M dX4_rickOf_100 rfl rfl (Nat.le_refl 0) (Nat.le_refl 0)
    have h := it_f c3 h
    by_cases c4 : x2 = 3
    · have h := it_t c4 h
      refine s_tableIn (off := 84) (tgt := 101) C dX4_rickOf_17 (by rw [c4]; decide +kernel) (by rw [c4]; decide +kernel) (by rw [c4]; decide +kernel) (by decide) ?_
      refine s_aload_n C dX4_rickOf_101 rfl rfl ?_
      obtain ⟨r2, I2, hh, h⟩ := bd_e h
      refine s_cV0 (st := []) C M.rg (Nat.le_trans (by decide) hd) mwX1_greatestDepth mlX4_114 dX4_rickOf_102 (wX1_greatestDepth (d := 2) (Nat.le_refl _) hq1 hh) hq1 rfl rfl (Nat.le_of_ble_eq_true rfl) ?_
      obtain ⟨rfl, rfl⟩ := pr_e h
      exact s_iret C M dX4_rickOf_105 rfl rfl (Nat.le_refl 0) (Nat.le_refl 0)
    have h := it_f c4 h
    by_cases c5 : x2 = 4
    · have h := it_t c5 h
      refine s_tableIn (off := 89) (tgt := 106) C dX4_rickOf_17 (by rw [c5]; decide +kernel) (by rw [c5]; decide +kernel) (by rw [c5]; decide +kernel) (by decide) ?_
      refine s_aload_n C dX4_rickOf_106 rfl rfl ?_
      refine s_getI C dX4_rickOf_107 hq1 foX4_111 rfl ?_
      refine s_aload_n C dX4_rickOf_110 rfl rfl ?_
      refine s_getR (b := 1) C dX4_rickOf_111 kk_0 foX4_10 rfl rk_0_0 ?_
      refine s_getI C dX4_rickOf_114 kk_1 foX4_95 rfl ?_
      obtain ⟨r2, I2, hh, h⟩ := bd_e h
      refine s_cS0 (st := []) C M.rg (Nat.le_trans (by decide) hd) mwX4_depthFor mlX4_118 dX4_rickOf_117 (wX4_depthFor (d := 1) (Nat.le_refl _)  hh) rfl rfl (Nat.le_of_ble_eq_true rfl) ?_
      obtain ⟨rfl, rfl⟩ := pr_e h
      exact s_iret C M dX4_rickOf_120 rfl rfl (Nat.le_refl 0) (Nat.le_refl 0)
    have h := it_f c5 h
    by_cases c6 : x2 = 5
    · have h := it_t c6 h
      refine s_tableIn (off := 104) (tgt := 121) C dX4_rickOf_17 (by rw [c6]; decide +kernel) (by rw [c6]; decide +kernel) (by rw [c6]; decide +kernel) (by decide) ?_
      refine s_aload_n C dX4_rickOf_121 rfl rfl ?_
      refine s_getI C dX4_rickOf_122 hq1 foX4_121 rfl ?_
      obtain ⟨rfl, rfl⟩ := pr_e h
      exact s_iret C M dX4_rickOf_125 rfl rfl (Nat.le_refl 0) (Nat.le_refl 0)
    have h := it_f c6 h
    by_cases c7 : x2 = 6
    · have h := it_t c7 h
      refine s_tableIn (off := 109) (tgt := 126) C dX4_rickOf_17 (by rw [c7]; decide +kernel) (by rw [c7]; decide +kernel) (by rw [c7]; decide +kernel) (by decide) ?_
      refine s_aload_n C dX4_rickOf_126 rfl rfl ?_
      refine s_aload_n C dX4_rickOf_127 rfl rfl ?_
      refine s_getR (b := 1) C dX4_rickOf_128 kk_0 foX4_10 rfl rk_0_0 ?_
      refine s_getI C dX4_rickOf_131 kk_1 foX4_95 rfl ?_
      obtain ⟨r2, I2, hh, h⟩ := bd_e h
      refine s_cV0 (st := []) C M.rg (Nat.le_trans (by decide) hd) mwX1_leaning mlX4_124 dX4_rickOf_134 (wX1_leaning (d := 4) (Nat.le_refl _) hq1 hh) hq1 rfl rfl (Nat.le_of_ble_eq_true rfl) ?_
      obtain ⟨rfl, rfl⟩ := pr_e h
      exact s_iret C M dX4_rickOf_137 rfl rfl (Nat.le_refl 0) (Nat.le_refl 0)
    have h := it_f c7 h
    by_cases c8 : x2 = 7
    · have h := it_t c8 h
      refine s_tableIn (off := 121) (tgt := 138) C dX4_rickOf_17 (by rw [c8]; decide +kernel) (by rw [c8]; decide +kernel) (by rw [c8]; decide +kernel) (by decide) ?_
      refine s_aload_n C dX4_rickOf_138 rfl rfl ?_
      obtain ⟨r2, I2, hh, h⟩ := bd_e h
      refine s_cV0 (st := []) C M.rg (Nat.le_trans (by decide) hd) mwX1_depths mlX4_127 dX4_rickOf_139 (wX1_depths (d := 2) (Nat.le_refl _) hq1 hh) hq1 rfl rfl (Nat.le_of_ble_eq_true rfl) ?_
      obtain ⟨rfl, rfl⟩ := pr_e h
      exact s_iret C M dX4_rickOf_142 rfl rfl (Nat.le_refl 0) (Nat.le_refl 0)
    have h := it_f c8 h
    by_cases c9 : x2 = 8
    · have h := it_t c9 h
      refine s_tableIn (off := 126) (tgt := 143) C dX4_rickOf_17 (by rw [c9]; decide +kernel) (by rw [c9]; decide +kernel) (by rw [c9]; decide +kernel) (by decide) ?_
      refine s_aload_n C dX4_rickOf_143 rfl rfl ?_
      obtain ⟨r2, I2, hh, h⟩ := bd_e h
      refine s_cV0 (st := []) C M.rg (Nat.le_trans (by decide) hd) mwX1_lowest mlX4_130 dX4_rickOf_144 (wX1_lowest (d := 2) (Nat.le_refl _) hq1 hh) hq1 rfl rfl (Nat.le_of_ble_eq_true rfl) ?_
      obtain ⟨rfl, rfl⟩ := pr_e h
      exact s_iret C M dX4_rickOf_147 rfl rfl (Nat.le_refl 0) (Nat.le_refl 0)
    have h := it_f c9 h
    refine s_tableOut (tgt := 148) C dX4_rickOf_17 (by have := ne_i 0 (by decide +kernel) c1; have := ne_i 1 (by decide +kernel) c2; have := ne_i 2 (by decide +kernel) c3; have := ne_i 3 (by decide +kernel) c4; have := ne_i 4 (by decide +kernel) c5; have := ne_i 5 (by decide +kernel) c6; have := ne_i 6 (by decide +kernel) c7; have := ne_i 7 (by decide +kernel) c8; have := ne_i 8 (by decide +kernel) c9; omega) (by decide) ?_
    refine s_bipush C dX4_rickOf_148 bi_m12 ?_
    obtain ⟨rfl, rfl⟩ := pr_e h
    exact s_iret C M dX4_rickOf_150 rfl rfl (Nat.le_refl 0) (Nat.le_refl 0)
theorem wX2_codeAt {E : Ev} {d : Nat} (hd : 1 ≤ d) {x0 : Nat} {x1 : Int32} {I I' : Mm} {r : Int32} (hx0 : kd0 x0 = 2) (h : fX2_codeAt x0 x1 I = some (r, I')) : SemM E d 0 0 mX2_codeAt [rfE E x0, .int x1] S0 I (some (.int r)) S0 I' := by
  unfold fX2_codeAt at h
  refine SemM.ofX (E := E) (y := mX2_codeAt) (args := fun E => [rfE E x0, .int x1]) (r := fun E => (some (.int r))) (fun E => [some (rfE E x0), some (.int x1)]) (by decide +kernel) (Nat.le_of_ble_eq_true rfl) rfl (fun X C M => ?_)
  refine s_iload_n C dX2_codeAt_0 rfl rfl ?_
  refine s_if_lt (tgt := 27) C dX2_codeAt_1 (by decide) (fun c => ?_) (fun c => ?_)
  · have h := it_t c h
    refine s_bipush C dX2_codeAt_27 bi_m11 ?_
    obtain ⟨rfl, rfl⟩ := pr_e h
    exact s_iret C M dX2_codeAt_29 rfl rfl (Nat.le_refl 0) (Nat.le_refl 0)
  · have h := it_f c h
    refine s_iload_n C dX2_codeAt_4 rfl rfl ?_
    refine s_aload_n C dX2_codeAt_5 rfl rfl ?_
    refine s_getI C dX2_codeAt_6 hx0 foX2_15 rfl ?_
    refine s_icmp_ge (tgt := 27) C dX2_codeAt_9 (by decide) (fun c => ?_) (fun c => ?_)
    · have h := it_t c h
      refine s_bipush C dX2_codeAt_27 bi_m11 ?_
      obtain ⟨rfl, rfl⟩ := pr_e h
      exact s_iret C M dX2_codeAt_29 rfl rfl (Nat.le_refl 0) (Nat.le_refl 0)
    · have h := it_f c h
      refine s_iload_n C dX2_codeAt_12 rfl rfl ?_
      refine s_bipush C dX2_codeAt_13 bi_60 ?_
      refine s_icmp_ge (tgt := 27) C dX2_codeAt_15 (by decide) (fun c => ?_) (fun c => ?_)
      · have h := it_t c h
        refine s_bipush C dX2_codeAt_27 bi_m11 ?_
        obtain ⟨rfl, rfl⟩ := pr_e h
        exact s_iret C M dX2_codeAt_29 rfl rfl (Nat.le_refl 0) (Nat.le_refl 0)
      · have h := it_f c h
        refine s_aload_n C dX2_codeAt_18 rfl rfl ?_
        refine s_getR (b := (x0 + 1)) C dX2_codeAt_19 hx0 foX2_9 rfl (rr2 hx0) ?_
        refine s_iload_n C dX2_codeAt_22 rfl rfl ?_
        obtain ⟨hb, h⟩ := it_n h
        refine s_ald (q := x1.toNatClampNeg) C dX2_codeAt_23 (kd2 hx0) (by decide) rfl hb ?_
        refine s_goto (tgt := 29) C dX2_codeAt_24 (by decide) ?_
        obtain ⟨rfl, rfl⟩ := pr_e h
        exact s_iret C M dX2_codeAt_29 rfl rfl (Nat.le_refl 0) (Nat.le_refl 0)
theorem wX0_isCode {E : Ev} {d : Nat} (hd : 2 ≤ d) {x1 : Nat} {x2 : Int32} {I I' : Mm} {r : Int32} (hx1 : kd0 x1 = 2) (h : fX0_isCode x1 x2 I = some (r, I')) : SemM E d 0 0 mX0_isCode [rfE E 34, rfE E x1, .int x2] S0 I (some (.int r)) S0 I' := by
  unfold fX0_isCode at h
  refine SemM.ofX (E := E) (y := mX0_isCode) (args := fun E => [rfE E 34, rfE E x1, .int x2]) (r := fun E => (some (.int r))) (fun E => [some (rfE E 34), some (rfE E x1), some (.int x2)]) (by decide +kernel) (Nat.le_of_ble_eq_true rfl) rfl (fun X C M => ?_)
  refine s_aload_n C dX0_isCode_0 rfl rfl ?_
  refine s_aload_n C dX0_isCode_1 rfl rfl ?_
  refine s_getI C dX0_isCode_2 kk_34 foX0_22 rfl ?_
  obtain ⟨r1, I1, hh, h⟩ := bd_e h
  refine s_cV0 (st := []) C M.rg (Nat.le_trans (by decide) hd) mwX2_codeAt mlX0_38 dX0_isCode_5 (wX2_codeAt (d := 1) (Nat.le_refl _) hx1 hh) hx1 rfl rfl (Nat.le_of_ble_eq_true rfl) ?_
  refine s_iload_n C dX0_isCode_8 rfl rfl ?_
  refine s_icmp_eq (tgt := 14) C dX0_isCode_9 (by decide) (fun c => ?_) (fun c => ?_)
  · have h := it_t c h
    refine s_aload_n C dX0_isCode_14 rfl rfl ?_
    refine s_dup C dX0_isCode_15 rfl ?_
    refine s_getI C dX0_isCode_16 kk_34 foX0_22 rfl ?_
    refine s_iconst C dX0_isCode_19 ic_1 ?_
    refine s_iadd C dX0_isCode_20 ?_
    obtain ⟨I2, eI2, h⟩ := ltm_e h
    refine s_putI C dX0_isCode_21 kk_34 poX0_22 rfl eI2 ?_
    refine s_iconst C dX0_isCode_24 ic_1 ?_
    obtain ⟨rfl, rfl⟩ := pr_e h
    exact s_iret C M dX0_isCode_25 rfl (nz_b (by decide)) (Nat.le_refl 0) (Nat.le_refl 0)
  · have h := it_f c h
    refine s_iconst C dX0_isCode_12 ic_0 ?_
    obtain ⟨rfl, rfl⟩ := pr_e h
    exact s_iret C M dX0_isCode_13 rfl (nz_b (by decide)) (Nat.le_refl 0) (Nat.le_refl 0)
theorem wX0_isDigit {E : Ev} {d : Nat} (hd : 1 ≤ d) {x0 : Int32} {I I' : Mm} {r : Int32}  (h : fX0_isDigit x0 I = some (r, I')) : SemM E d 0 0 mX0_isDigit [.int x0] S0 I (some (.int r)) S0 I' := by
  unfold fX0_isDigit at h
  refine SemM.ofX (E := E) (y := mX0_isDigit) (args := fun E => [.int x0]) (r := fun E => (some (.int r))) (fun E => [some (.int x0)]) (by decide +kernel) (Nat.le_of_ble_eq_true rfl) rfl (fun X C M => ?_)
  refine s_iload_n C dX0_isDigit_0 rfl rfl ?_
  refine s_bipush C dX0_isDigit_1 bi_48 ?_
  refine s_icmp_lt (tgt := 16) C dX0_isDigit_3 (by decide) (fun c => ?_) (fun c => ?_)
  · have h := it_t c h
    refine s_iconst C dX0_isDigit_16 ic_0 ?_
    obtain ⟨rfl, rfl⟩ := pr_e h
    exact s_iret C M dX0_isDigit_17 rfl (nz_b (by decide)) (Nat.le_refl 0) (Nat.le_refl 0)
  · have h := it_f c h
    refine s_iload_n C dX0_isDigit_6 rfl rfl ?_
    refine s_bipush C dX0_isDigit_7 bi_57 ?_
    refine s_icmp_gt (tgt := 16) C dX0_isDigit_9 (by decide) (fun c => ?_) (fun c => ?_)
    · have h := it_t c h
      refine s_iconst C dX0_isDigit_16 ic_0 ?_
      obtain ⟨rfl, rfl⟩ := pr_e h
      exact s_iret C M dX0_isDigit_17 rfl (nz_b (by decide)) (Nat.le_refl 0) (Nat.le_refl 0)
    · have h := it_f c h
      refine s_iconst C dX0_isDigit_12 ic_1 ?_
      refine s_goto (tgt := 17) C dX0_isDigit_13 (by decide) ?_
      obtain ⟨rfl, rfl⟩ := pr_e h
      exact s_iret C M dX0_isDigit_17 rfl (nz_b (by decide)) (Nat.le_refl 0) (Nat.le_refl 0)
theorem wX0_isNumber_p61 {X : Cx} {d : Nat} (hd : 2 ≤ d) (C : CtxOK X mX0_isNumber) {x2 : Int32} {x4 : Int32} {x5 : Int32} {I I' : Mm} {r : Int32}  (h : fX0_isNumber_p61 x2 x4 x5 I = some (r, I')) (M : MX X (xE X) d 0 0 (some (.int r)) S0 I') : WM X mX0_isNumber 61 [some (rfX X 34), none, some (.int x2), none, some (.int x4), some (.int x5)] [] S0 I 0 0 := by
  unfold fX0_isNumber_p61 at h
  refine s_iload C dX0_isNumber_61 rfl ?_
  refine s_if_le (tgt := 106) C dX0_isNumber_63 (by decide) (fun c => ?_) (fun c => ?_)
  · have h := it_t c h
    refine s_iload C dX0_isNumber_106 rfl ?_
    refine s_if_le (tgt := 115) C dX0_isNumber_108 (by decide) (fun c => ?_) (fun c => ?_)
    · have h := it_t c h
      refine s_iconst C dX0_isNumber_115 ic_0 ?_
      obtain ⟨rfl, rfl⟩ := pr_e h
      exact s_iret C M dX0_isNumber_116 rfl (nz_b (by decide)) (Nat.le_refl 0) (Nat.le_refl 0)
    · have h := it_f c h
      refine s_iconst C dX0_isNumber_111 ic_1 ?_
      refine s_goto (tgt := 116) C dX0_isNumber_112 (by decide) ?_
      obtain ⟨rfl, rfl⟩ := pr_e h
      exact s_iret C M dX0_isNumber_116 rfl (nz_b (by decide)) (Nat.le_refl 0) (Nat.le_refl 0)
  · have h := it_f c h
    refine s_aload_n C dX0_isNumber_66 rfl rfl ?_
    refine s_getI C dX0_isNumber_67 kk_34 foX0_18 rfl ?_
    refine s_if_lt (tgt := 106) C dX0_isNumber_70 (by decide) (fun c => ?_) (fun c => ?_)
    · have h := it_t c h
      refine s_iload C dX0_isNumber_106 rfl ?_
      refine s_if_le (tgt := 115) C dX0_isNumber_108 (by decide) (fun c => ?_) (fun c => ?_)
      · have h := it_t c h
        refine s_iconst C dX0_isNumber_115 ic_0 ?_
        obtain ⟨rfl, rfl⟩ := pr_e h
        exact s_iret C M dX0_isNumber_116 rfl (nz_b (by decide)) (Nat.le_refl 0) (Nat.le_refl 0)
      · have h := it_f c h
        refine s_iconst C dX0_isNumber_111 ic_1 ?_
        refine s_goto (tgt := 116) C dX0_isNumber_112 (by decide) ?_
        obtain ⟨rfl, rfl⟩ := pr_e h
        exact s_iret C M dX0_isNumber_116 rfl (nz_b (by decide)) (Nat.le_refl 0) (Nat.le_refl 0)
    · have h := it_f c h
      refine s_aload_n C dX0_isNumber_73 rfl rfl ?_
      refine s_getI C dX0_isNumber_74 kk_34 foX0_18 rfl ?_
      refine s_bipush C dX0_isNumber_77 bi_20 ?_
      refine s_icmp_ge (tgt := 106) C dX0_isNumber_79 (by decide) (fun c => ?_) (fun c => ?_)
      · have h := it_t c h
        refine s_iload C dX0_isNumber_106 rfl ?_
        refine s_if_le (tgt := 115) C dX0_isNumber_108 (by decide) (fun c => ?_) (fun c => ?_)
        · have h := it_t c h
          refine s_iconst C dX0_isNumber_115 ic_0 ?_
          obtain ⟨rfl, rfl⟩ := pr_e h
          exact s_iret C M dX0_isNumber_116 rfl (nz_b (by decide)) (Nat.le_refl 0) (Nat.le_refl 0)
        · have h := it_f c h
          refine s_iconst C dX0_isNumber_111 ic_1 ?_
          refine s_goto (tgt := 116) C dX0_isNumber_112 (by decide) ?_
          obtain ⟨rfl, rfl⟩ := pr_e h
          exact s_iret C M dX0_isNumber_116 rfl (nz_b (by decide)) (Nat.le_refl 0) (Nat.le_refl 0)
      · have h := it_f c h
        refine s_iload_n C dX0_isNumber_82 rfl rfl ?_
        refine s_if_lt (tgt := 106) C dX0_isNumber_83 (by decide) (fun c => ?_) (fun c => ?_)
        · have h := it_t c h
          refine s_iload C dX0_isNumber_106 rfl ?_
          refine s_if_le (tgt := 115) C dX0_isNumber_108 (by decide) (fun c => ?_) (fun c => ?_)
          · have h := it_t c h
            refine s_iconst C dX0_isNumber_115 ic_0 ?_
            obtain ⟨rfl, rfl⟩ := pr_e h
            exact s_iret C M dX0_isNumber_116 rfl (nz_b (by decide)) (Nat.le_refl 0) (Nat.le_refl 0)
          · have h := it_f c h
            refine s_iconst C dX0_isNumber_111 ic_1 ?_
            refine s_goto (tgt := 116) C dX0_isNumber_112 (by decide) ?_
            obtain ⟨rfl, rfl⟩ := pr_e h
            exact s_iret C M dX0_isNumber_116 rfl (nz_b (by decide)) (Nat.le_refl 0) (Nat.le_refl 0)
        · have h := it_f c h
          refine s_iload_n C dX0_isNumber_86 rfl rfl ?_
          refine s_iconst C dX0_isNumber_87 ic_3 ?_
          refine s_icmp_ge (tgt := 106) C dX0_isNumber_88 (by decide) (fun c => ?_) (fun c => ?_)
          · have h := it_t c h
            refine s_iload C dX0_isNumber_106 rfl ?_
            refine s_if_le (tgt := 115) C dX0_isNumber_108 (by decide) (fun c => ?_) (fun c => ?_)
            · have h := it_t c h
              refine s_iconst C dX0_isNumber_115 ic_0 ?_
              obtain ⟨rfl, rfl⟩ := pr_e h
              exact s_iret C M dX0_isNumber_116 rfl (nz_b (by decide)) (Nat.le_refl 0) (Nat.le_refl 0)
            · have h := it_f c h
              refine s_iconst C dX0_isNumber_111 ic_1 ?_
              refine s_goto (tgt := 116) C dX0_isNumber_112 (by decide) ?_
              obtain ⟨rfl, rfl⟩ := pr_e h
              exact s_iret C M dX0_isNumber_116 rfl (nz_b (by decide)) (Nat.le_refl 0) (Nat.le_refl 0)
          · have h := it_f c h
            refine s_aload_n C dX0_isNumber_91 rfl rfl ?_
            refine s_getR (b := 36) C dX0_isNumber_92 kk_34 foX0_15 rfl rk_34_1 ?_
            refine s_aload_n C dX0_isNumber_95 rfl rfl ?_
            refine s_getI C dX0_isNumber_96 kk_34 foX0_18 rfl ?_
            refine s_iconst C dX0_isNumber_99 ic_3 ?_
            refine s_imul C dX0_isNumber_100 ?_
            refine s_iload_n C dX0_isNumber_101 rfl rfl ?_
            refine s_iadd C dX0_isNumber_102 ?_
            refine s_iload C dX0_isNumber_103 rfl ?_
            obtain ⟨hb, h⟩ := it_n h
            obtain ⟨I1, eI1, h⟩ := ltm_e h
            refine s_ast (q := (((I 34 2) * 3) + x2).toNatClampNeg) C dX0_isNumber_105 kk_36 (by decide) rfl hb eI1 ?_
            refine s_iload C dX0_isNumber_106 rfl ?_
            refine s_if_le (tgt := 115) C dX0_isNumber_108 (by decide) (fun c => ?_) (fun c => ?_)
            · have h := it_t c h
              refine s_iconst C dX0_isNumber_115 ic_0 ?_
              obtain ⟨rfl, rfl⟩ := pr_e h
              exact s_iret C M dX0_isNumber_116 rfl (nz_b (by decide)) (Nat.le_refl 0) (Nat.le_refl 0)
            · have h := it_f c h
              refine s_iconst C dX0_isNumber_111 ic_1 ?_
              refine s_goto (tgt := 116) C dX0_isNumber_112 (by decide) ?_
              obtain ⟨rfl, rfl⟩ := pr_e h
              exact s_iret C M dX0_isNumber_116 rfl (nz_b (by decide)) (Nat.le_refl 0) (Nat.le_refl 0)
theorem wX0_isNumber_p6 {X : Cx} {d : Nat} (hd : 2 ≤ d) (C : CtxOK X mX0_isNumber) : ∀ (n : Nat) {x1 : Nat} {x2 : Int32} {x3 : Int32} {x4 : Int32} {x5 : Int32} {I I' : Mm} {r : Int32} (hx1 : kd0 x1 = 2) (_ : fX0_isNumber_p6 n x1 x2 x3 x4 x5 I = some (r, I')) (_ : MX X (xE X) d 0 0 (some (.int r)) S0 I'), WM X mX0_isNumber 6 [some (rfX X 34), some (rfX X x1), some (.int x2), some (.int x3), some (.int x4), some (.int x5)] [] S0 I 0 0 := by
  intro n
  induction n with
  | zero => intro x1 x2 x3 x4 x5 I I' r hx1 h M; exact absurd h (by simp [fX0_isNumber_p6])
  | succ n ih =>
    intro x1 x2 x3 x4 x5 I I' r hx1 h M
    rw [fX0_isNumber_p6] at h
    refine s_iload C dX0_isNumber_6 rfl ?_
    refine s_iload_n C dX0_isNumber_8 rfl rfl ?_
    refine s_icmp_ge (tgt := 61) C dX0_isNumber_9 (by decide) (fun c => ?_) (fun c => ?_)
    · have h := it_t c h
      refine s_weak (ls' := [some (rfX X 34), none, some (.int x2), none, some (.int x4), some (.int x5)]) [true, false, true, false, true, true] rfl ?_
      exact wX0_isNumber_p61 hd C  h M
    · have h := it_f c h
      refine s_aload_n C dX0_isNumber_12 rfl rfl ?_
      refine s_aload_n C dX0_isNumber_13 rfl rfl ?_
      refine s_getI C dX0_isNumber_14 kk_34 foX0_22 rfl ?_
      obtain ⟨r1, I1, hh, h⟩ := bd_e h
      refine s_cV0 (st := []) C M.rg (Nat.le_trans (by decide) hd) mwX2_codeAt mlX0_38 dX0_isNumber_17 (wX2_codeAt (d := 1) (Nat.le_refl _) hx1 hh) hx1 rfl rfl (Nat.le_of_ble_eq_true rfl) ?_
      obtain ⟨r2, I2, hh, h⟩ := bd_e h
      refine s_cS0 (st := []) C M.rg (Nat.le_trans (by decide) hd) mwX0_isDigit mlX0_46 dX0_isNumber_20 (wX0_isDigit (d := 1) (Nat.le_refl _)  hh) rfl rfl (Nat.le_of_ble_eq_true rfl) ?_
      refine s_if_eq (tgt := 61) C dX0_isNumber_23 (by decide) (fun c => ?_) (fun c => ?_)
      · have h := it_t c h
        refine s_weak (ls' := [some (rfX X 34), none, some (.int x2), none, some (.int x4), some (.int x5)]) [true, false, true, false, true, true] rfl ?_
        exact wX0_isNumber_p61 hd C  h M
      · have h := it_f c h
        refine s_iload C dX0_isNumber_26 rfl ?_
        refine s_bipush C dX0_isNumber_28 bi_10 ?_
        refine s_imul C dX0_isNumber_30 ?_
        refine s_aload_n C dX0_isNumber_31 rfl rfl ?_
        refine s_aload_n C dX0_isNumber_32 rfl rfl ?_
        refine s_getI C dX0_isNumber_33 kk_34 foX0_22 rfl ?_
        obtain ⟨r3, I3, hh, h⟩ := bd_e h
        refine s_cV0 (st := [.int (x4 * 10)]) C M.rg (Nat.le_trans (by decide) hd) mwX2_codeAt mlX0_38 dX0_isNumber_36 (wX2_codeAt (d := 1) (Nat.le_refl _) hx1 hh) hx1 rfl rfl (Nat.le_of_ble_eq_true rfl) ?_
        refine s_iadd C dX0_isNumber_39 ?_
        refine s_bipush C dX0_isNumber_40 bi_48 ?_
        refine s_isub C dX0_isNumber_42 ?_
        obtain ⟨v1, ev1, h⟩ := ltm_e h
        refine s_top_i ev1 ?_
        refine s_istore (ls' := [some (rfX X 34), some (rfX X x1), some (.int x2), some (.int x3), some (.int v1), some (.int x5)]) C dX0_isNumber_43 (by decide) (Nat.le_of_ble_eq_true rfl) rfl rfl ?_
        refine s_aload_n C dX0_isNumber_45 rfl rfl ?_
        refine s_dup C dX0_isNumber_46 rfl ?_
        refine s_getI C dX0_isNumber_47 kk_34 foX0_22 rfl ?_
        refine s_iconst C dX0_isNumber_50 ic_1 ?_
        refine s_iadd C dX0_isNumber_51 ?_
        obtain ⟨I4, eI4, h⟩ := ltm_e h
        refine s_putI C dX0_isNumber_52 kk_34 poX0_22 rfl eI4 ?_
        obtain ⟨v2, ev2, h⟩ := ltm_e h
        refine s_iinc (v := v2) (ls' := [some (rfX X 34), some (rfX X x1), some (.int x2), some (.int x3), some (.int v1), some (.int v2)]) C dX0_isNumber_55 rfl (by decide) (Nat.le_of_ble_eq_true rfl) (by rw [ev2, ic_1]) rfl rfl ?_
        refine s_goto (tgt := 6) C dX0_isNumber_58 (by decide) ?_
        exact ih hx1 h M
theorem wX0_isNumber {E : Ev} {d : Nat} (hd : 2 ≤ d) {x1 : Nat} {x2 : Int32} {x3 : Int32} {I I' : Mm} {r : Int32} (hx1 : kd0 x1 = 2) (h : fX0_isNumber x1 x2 x3 I = some (r, I')) : SemM E d 0 0 mX0_isNumber [rfE E 34, rfE E x1, .int x2, .int x3] S0 I (some (.int r)) S0 I' := by
  unfold fX0_isNumber at h
  refine SemM.ofX (E := E) (y := mX0_isNumber) (args := fun E => [rfE E 34, rfE E x1, .int x2, .int x3]) (r := fun E => (some (.int r))) (fun E => [some (rfE E 34), some (rfE E x1), some (.int x2), some (.int x3), none, none]) (by decide +kernel) (Nat.le_of_ble_eq_true rfl) rfl (fun X C M => ?_)
  refine s_iconst C dX0_isNumber_0 ic_0 ?_
  refine s_istore (ls' := [some (rfX X 34), some (rfX X x1), some (.int x2), some (.int x3), some (.int 0), none]) C dX0_isNumber_1 (by decide) (Nat.le_of_ble_eq_true rfl) rfl rfl ?_
  refine s_iconst C dX0_isNumber_3 ic_0 ?_
  refine s_istore (ls' := [some (rfX X 34), some (rfX X x1), some (.int x2), some (.int x3), some (.int 0), some (.int 0)]) C dX0_isNumber_4 (by decide) (Nat.le_of_ble_eq_true rfl) rfl rfl ?_
  exact wX0_isNumber_p6 hd C _ hx1 h M
theorem wX0_isOrder_p35 {X : Cx} {d : Nat} (hd : 3 ≤ d) (C : CtxOK X mX0_isOrder) {x1 : Nat} {x2 : Int32} {I I' : Mm} {r : Int32} (hx1 : kd0 x1 = 2) (h : fX0_isOrder_p35 x1 x2 I = some (r, I')) (M : MX X (xE X) d 0 0 (some (.int r)) S0 I') : WM X mX0_isOrder 35 [some (rfX X 34), some (rfX X x1), some (.int x2)] [] S0 I 0 0 := by
  unfold fX0_isOrder_p35 at h
  refine s_iload_n C dX0_isOrder_35 rfl rfl ?_
  by_cases c1 : x2 = 37
  · have h := it_t c1 h
    refine s_lookup (off := 222) (tgt := 258) C dX0_isOrder_36 (by decide) (by rw [c1]; decide +kernel) (by decide) ?_
    refine s_aload_n C dX0_isOrder_258 rfl rfl ?_
    refine s_aload_n C dX0_isOrder_259 rfl rfl ?_
    refine s_iload_n C dX0_isOrder_260 rfl rfl ?_
    obtain ⟨r1, I1, hh, h⟩ := bd_e h
    refine s_cV0 (st := []) C M.rg (Nat.le_trans (by decide) hd) mwX0_isCode mlX0_34 dX0_isOrder_261 (wX0_isCode (d := 2) (Nat.le_refl _) hx1 hh) kk_34 rfl rfl (Nat.le_of_ble_eq_true rfl) ?_
    refine s_if_eq (tgt := 281) C dX0_isOrder_264 (by decide) (fun c => ?_) (fun c => ?_)
    · have h := it_t c h
      refine s_iconst C dX0_isOrder_281 ic_0 ?_
      obtain ⟨rfl, rfl⟩ := pr_e h
      exact s_iret C M dX0_isOrder_282 rfl (nz_b (by decide)) (Nat.le_refl 0) (Nat.le_refl 0)
    · have h := it_f c h
      refine s_aload_n C dX0_isOrder_267 rfl rfl ?_
      refine s_aload_n C dX0_isOrder_268 rfl rfl ?_
      refine s_iconst C dX0_isOrder_269 ic_0 ?_
      refine s_iconst C dX0_isOrder_270 ic_2 ?_
      obtain ⟨r2, I2, hh, h⟩ := bd_e h
      refine s_cV0 (st := []) C M.rg (Nat.le_trans (by decide) hd) mwX0_isNumber mlX0_42 dX0_isOrder_271 (wX0_isNumber (d := 2) (Nat.le_refl _) hx1 hh) kk_34 rfl rfl (Nat.le_of_ble_eq_true rfl) ?_
      refine s_if_eq (tgt := 281) C dX0_isOrder_274 (by decide) (fun c => ?_) (fun c => ?_)
      · have h := it_t c h
        refine s_iconst C dX0_isOrder_281 ic_0 ?_
        obtain ⟨rfl, rfl⟩ := pr_e h
        exact s_iret C M dX0_isOrder_282 rfl (nz_b (by decide)) (Nat.le_refl 0) (Nat.le_refl 0)
      · have h := it_f c h
        refine s_iconst C dX0_isOrder_277 ic_1 ?_
        refine s_goto (tgt := 282) C dX0_isOrder_278 (by decide) ?_
        obtain ⟨rfl, rfl⟩ := pr_e h
        exact s_iret C M dX0_isOrder_282 rfl (nz_b (by decide)) (Nat.le_refl 0) (Nat.le_refl 0)
  have h := it_f c1 h
  by_cases c2 : x2 = 43
  · have h := it_t c2 h
    refine s_lookup (off := 52) (tgt := 88) C dX0_isOrder_36 (by decide) (by rw [c2]; decide +kernel) (by decide) ?_
    refine s_aload_n C dX0_isOrder_88 rfl rfl ?_
    refine s_aload_n C dX0_isOrder_89 rfl rfl ?_
    refine s_iload_n C dX0_isOrder_90 rfl rfl ?_
    obtain ⟨r1, I1, hh, h⟩ := bd_e h
    refine s_cV0 (st := []) C M.rg (Nat.le_trans (by decide) hd) mwX0_isCode mlX0_34 dX0_isOrder_91 (wX0_isCode (d := 2) (Nat.le_refl _) hx1 hh) kk_34 rfl rfl (Nat.le_of_ble_eq_true rfl) ?_
    refine s_if_eq (tgt := 151) C dX0_isOrder_94 (by decide) (fun c => ?_) (fun c => ?_)
    · have h := it_t c h
      refine s_iconst C dX0_isOrder_151 ic_0 ?_
      obtain ⟨rfl, rfl⟩ := pr_e h
      exact s_iret C M dX0_isOrder_152 rfl (nz_b (by decide)) (Nat.le_refl 0) (Nat.le_refl 0)
    · have h := it_f c h
      refine s_aload_n C dX0_isOrder_97 rfl rfl ?_
      refine s_aload_n C dX0_isOrder_98 rfl rfl ?_
      refine s_iconst C dX0_isOrder_99 ic_0 ?_
      refine s_iconst C dX0_isOrder_100 ic_1 ?_
      obtain ⟨r2, I2, hh, h⟩ := bd_e h
      refine s_cV0 (st := []) C M.rg (Nat.le_trans (by decide) hd) mwX0_isNumber mlX0_42 dX0_isOrder_101 (wX0_isNumber (d := 2) (Nat.le_refl _) hx1 hh) kk_34 rfl rfl (Nat.le_of_ble_eq_true rfl) ?_
      refine s_if_eq (tgt := 151) C dX0_isOrder_104 (by decide) (fun c => ?_) (fun c => ?_)
      · have h := it_t c h
        refine s_iconst C dX0_isOrder_151 ic_0 ?_
        obtain ⟨rfl, rfl⟩ := pr_e h
        exact s_iret C M dX0_isOrder_152 rfl (nz_b (by decide)) (Nat.le_refl 0) (Nat.le_refl 0)
      · have h := it_f c h
        refine s_aload_n C dX0_isOrder_107 rfl rfl ?_
        refine s_aload_n C dX0_isOrder_108 rfl rfl ?_
        refine s_bipush C dX0_isOrder_109 bi_58 ?_
        obtain ⟨r3, I3, hh, h⟩ := bd_e h
        refine s_cV0 (st := []) C M.rg (Nat.le_trans (by decide) hd) mwX0_isCode mlX0_34 dX0_isOrder_111 (wX0_isCode (d := 2) (Nat.le_refl _) hx1 hh) kk_34 rfl rfl (Nat.le_of_ble_eq_true rfl) ?_
        refine s_if_eq (tgt := 151) C dX0_isOrder_114 (by decide) (fun c => ?_) (fun c => ?_)
        · have h := it_t c h
          refine s_iconst C dX0_isOrder_151 ic_0 ?_
          obtain ⟨rfl, rfl⟩ := pr_e h
          exact s_iret C M dX0_isOrder_152 rfl (nz_b (by decide)) (Nat.le_refl 0) (Nat.le_refl 0)
        · have h := it_f c h
          refine s_aload_n C dX0_isOrder_117 rfl rfl ?_
          refine s_aload_n C dX0_isOrder_118 rfl rfl ?_
          refine s_iconst C dX0_isOrder_119 ic_1 ?_
          refine s_iconst C dX0_isOrder_120 ic_3 ?_
          obtain ⟨r4, I4, hh, h⟩ := bd_e h
          refine s_cV0 (st := []) C M.rg (Nat.le_trans (by decide) hd) mwX0_isNumber mlX0_42 dX0_isOrder_121 (wX0_isNumber (d := 2) (Nat.le_refl _) hx1 hh) kk_34 rfl rfl (Nat.le_of_ble_eq_true rfl) ?_
          refine s_if_eq (tgt := 151) C dX0_isOrder_124 (by decide) (fun c => ?_) (fun c => ?_)
          · have h := it_t c h
            refine s_iconst C dX0_isOrder_151 ic_0 ?_
            obtain ⟨rfl, rfl⟩ := pr_e h
            exact s_iret C M dX0_isOrder_152 rfl (nz_b (by decide)) (Nat.le_refl 0) (Nat.le_refl 0)
          · have h := it_f c h
            refine s_aload_n C dX0_isOrder_127 rfl rfl ?_
            refine s_aload_n C dX0_isOrder_128 rfl rfl ?_
            refine s_bipush C dX0_isOrder_129 bi_42 ?_
            obtain ⟨r5, I5, hh, h⟩ := bd_e h
            refine s_cV0 (st := []) C M.rg (Nat.le_trans (by decide) hd) mwX0_isCode mlX0_34 dX0_isOrder_131 (wX0_isCode (d := 2) (Nat.le_refl _) hx1 hh) kk_34 rfl rfl (Nat.le_of_ble_eq_true rfl) ?_
            refine s_if_eq (tgt := 151) C dX0_isOrder_134 (by decide) (fun c => ?_) (fun c => ?_)
            · have h := it_t c h
              refine s_iconst C dX0_isOrder_151 ic_0 ?_
              obtain ⟨rfl, rfl⟩ := pr_e h
              exact s_iret C M dX0_isOrder_152 rfl (nz_b (by decide)) (Nat.le_refl 0) (Nat.le_refl 0)
            · have h := it_f c h
              refine s_aload_n C dX0_isOrder_137 rfl rfl ?_
              refine s_aload_n C dX0_isOrder_138 rfl rfl ?_
              refine s_iconst C dX0_isOrder_139 ic_2 ?_
              refine s_iconst C dX0_isOrder_140 ic_2 ?_
              obtain ⟨r6, I6, hh, h⟩ := bd_e h
              refine s_cV0 (st := []) C M.rg (Nat.le_trans (by decide) hd) mwX0_isNumber mlX0_42 dX0_isOrder_141 (wX0_isNumber (d := 2) (Nat.le_refl _) hx1 hh) kk_34 rfl rfl (Nat.le_of_ble_eq_true rfl) ?_
              refine s_if_eq (tgt := 151) C dX0_isOrder_144 (by decide) (fun c => ?_) (fun c => ?_)
              · have h := it_t c h
                refine s_iconst C dX0_isOrder_151 ic_0 ?_
                obtain ⟨rfl, rfl⟩ := pr_e h
                exact s_iret C M dX0_isOrder_152 rfl (nz_b (by decide)) (Nat.le_refl 0) (Nat.le_refl 0)
              · have h := it_f c h
                refine s_iconst C dX0_isOrder_147 ic_1 ?_
                refine s_goto (tgt := 152) C dX0_isOrder_148 (by decide) ?_
                obtain ⟨rfl, rfl⟩ := pr_e h
                exact s_iret C M dX0_isOrder_152 rfl (nz_b (by decide)) (Nat.le_refl 0) (Nat.le_refl 0)
  have h := it_f c2 h
  by_cases c3 : x2 = 45
  · have h := it_t c3 h
    refine s_lookup (off := 117) (tgt := 153) C dX0_isOrder_36 (by decide) (by rw [c3]; decide +kernel) (by decide) ?_
    refine s_aload_n C dX0_isOrder_153 rfl rfl ?_
    refine s_aload_n C dX0_isOrder_154 rfl rfl ?_
    refine s_iload_n C dX0_isOrder_155 rfl rfl ?_
    obtain ⟨r1, I1, hh, h⟩ := bd_e h
    refine s_cV0 (st := []) C M.rg (Nat.le_trans (by decide) hd) mwX0_isCode mlX0_34 dX0_isOrder_156 (wX0_isCode (d := 2) (Nat.le_refl _) hx1 hh) kk_34 rfl rfl (Nat.le_of_ble_eq_true rfl) ?_
    refine s_if_eq (tgt := 196) C dX0_isOrder_159 (by decide) (fun c => ?_) (fun c => ?_)
    · have h := it_t c h
      refine s_iconst C dX0_isOrder_196 ic_0 ?_
      obtain ⟨rfl, rfl⟩ := pr_e h
      exact s_iret C M dX0_isOrder_197 rfl (nz_b (by decide)) (Nat.le_refl 0) (Nat.le_refl 0)
    · have h := it_f c h
      refine s_aload_n C dX0_isOrder_162 rfl rfl ?_
      refine s_aload_n C dX0_isOrder_163 rfl rfl ?_
      refine s_iconst C dX0_isOrder_164 ic_0 ?_
      refine s_iconst C dX0_isOrder_165 ic_1 ?_
      obtain ⟨r2, I2, hh, h⟩ := bd_e h
      refine s_cV0 (st := []) C M.rg (Nat.le_trans (by decide) hd) mwX0_isNumber mlX0_42 dX0_isOrder_166 (wX0_isNumber (d := 2) (Nat.le_refl _) hx1 hh) kk_34 rfl rfl (Nat.le_of_ble_eq_true rfl) ?_
      refine s_if_eq (tgt := 196) C dX0_isOrder_169 (by decide) (fun c => ?_) (fun c => ?_)
      · have h := it_t c h
        refine s_iconst C dX0_isOrder_196 ic_0 ?_
        obtain ⟨rfl, rfl⟩ := pr_e h
        exact s_iret C M dX0_isOrder_197 rfl (nz_b (by decide)) (Nat.le_refl 0) (Nat.le_refl 0)
      · have h := it_f c h
        refine s_aload_n C dX0_isOrder_172 rfl rfl ?_
        refine s_aload_n C dX0_isOrder_173 rfl rfl ?_
        refine s_bipush C dX0_isOrder_174 bi_58 ?_
        obtain ⟨r3, I3, hh, h⟩ := bd_e h
        refine s_cV0 (st := []) C M.rg (Nat.le_trans (by decide) hd) mwX0_isCode mlX0_34 dX0_isOrder_176 (wX0_isCode (d := 2) (Nat.le_refl _) hx1 hh) kk_34 rfl rfl (Nat.le_of_ble_eq_true rfl) ?_
        refine s_if_eq (tgt := 196) C dX0_isOrder_179 (by decide) (fun c => ?_) (fun c => ?_)
        · have h := it_t c h
          refine s_iconst C dX0_isOrder_196 ic_0 ?_
          obtain ⟨rfl, rfl⟩ := pr_e h
          exact s_iret C M dX0_isOrder_197 rfl (nz_b (by decide)) (Nat.le_refl 0) (Nat.le_refl 0)
        · have h := it_f c h
          refine s_aload_n C dX0_isOrder_182 rfl rfl ?_
          refine s_aload_n C dX0_isOrder_183 rfl rfl ?_
          refine s_iconst C dX0_isOrder_184 ic_1 ?_
          refine s_iconst C dX0_isOrder_185 ic_3 ?_
          obtain ⟨r4, I4, hh, h⟩ := bd_e h
          refine s_cV0 (st := []) C M.rg (Nat.le_trans (by decide) hd) mwX0_isNumber mlX0_42 dX0_isOrder_186 (wX0_isNumber (d := 2) (Nat.le_refl _) hx1 hh) kk_34 rfl rfl (Nat.le_of_ble_eq_true rfl) ?_
          refine s_if_eq (tgt := 196) C dX0_isOrder_189 (by decide) (fun c => ?_) (fun c => ?_)
          · have h := it_t c h
            refine s_iconst C dX0_isOrder_196 ic_0 ?_
            obtain ⟨rfl, rfl⟩ := pr_e h
            exact s_iret C M dX0_isOrder_197 rfl (nz_b (by decide)) (Nat.le_refl 0) (Nat.le_refl 0)
          · have h := it_f c h
            refine s_iconst C dX0_isOrder_192 ic_1 ?_
            refine s_goto (tgt := 197) C dX0_isOrder_193 (by decide) ?_
            obtain ⟨rfl, rfl⟩ := pr_e h
            exact s_iret C M dX0_isOrder_197 rfl (nz_b (by decide)) (Nat.le_refl 0) (Nat.le_refl 0)
  have h := it_f c3 h
  by_cases c4 : x2 = 61
  · have h := it_t c4 h
    refine s_lookup (off := 162) (tgt := 198) C dX0_isOrder_36 (by decide) (by rw [c4]; decide +kernel) (by decide) ?_
    refine s_aload_n C dX0_isOrder_198 rfl rfl ?_
    refine s_aload_n C dX0_isOrder_199 rfl rfl ?_
    refine s_iload_n C dX0_isOrder_200 rfl rfl ?_
    obtain ⟨r1, I1, hh, h⟩ := bd_e h
    refine s_cV0 (st := []) C M.rg (Nat.le_trans (by decide) hd) mwX0_isCode mlX0_34 dX0_isOrder_201 (wX0_isCode (d := 2) (Nat.le_refl _) hx1 hh) kk_34 rfl rfl (Nat.le_of_ble_eq_true rfl) ?_
    refine s_if_eq (tgt := 221) C dX0_isOrder_204 (by decide) (fun c => ?_) (fun c => ?_)
    · have h := it_t c h
      refine s_iconst C dX0_isOrder_221 ic_0 ?_
      obtain ⟨rfl, rfl⟩ := pr_e h
      exact s_iret C M dX0_isOrder_222 rfl (nz_b (by decide)) (Nat.le_refl 0) (Nat.le_refl 0)
    · have h := it_f c h
      refine s_aload_n C dX0_isOrder_207 rfl rfl ?_
      refine s_aload_n C dX0_isOrder_208 rfl rfl ?_
      refine s_iconst C dX0_isOrder_209 ic_0 ?_
      refine s_iconst C dX0_isOrder_210 ic_1 ?_
      obtain ⟨r2, I2, hh, h⟩ := bd_e h
      refine s_cV0 (st := []) C M.rg (Nat.le_trans (by decide) hd) mwX0_isNumber mlX0_42 dX0_isOrder_211 (wX0_isNumber (d := 2) (Nat.le_refl _) hx1 hh) kk_34 rfl rfl (Nat.le_of_ble_eq_true rfl) ?_
      refine s_if_eq (tgt := 221) C dX0_isOrder_214 (by decide) (fun c => ?_) (fun c => ?_)
      · have h := it_t c h
        refine s_iconst C dX0_isOrder_221 ic_0 ?_
        obtain ⟨rfl, rfl⟩ := pr_e h
        exact s_iret C M dX0_isOrder_222 rfl (nz_b (by decide)) (Nat.le_refl 0) (Nat.le_refl 0)
      · have h := it_f c h
        refine s_iconst C dX0_isOrder_217 ic_1 ?_
        refine s_goto (tgt := 222) C dX0_isOrder_218 (by decide) ?_
        obtain ⟨rfl, rfl⟩ := pr_e h
        exact s_iret C M dX0_isOrder_222 rfl (nz_b (by decide)) (Nat.le_refl 0) (Nat.le_refl 0)
  have h := it_f c4 h
  by_cases c5 : x2 = 62
  · have h := it_t c5 h
    refine s_lookup (off := 187) (tgt := 223) C dX0_isOrder_36 (by decide) (by rw [c5]; decide +kernel) (by decide) ?_
    refine s_aload_n C dX0_isOrder_223 rfl rfl ?_
    refine s_aload_n C dX0_isOrder_224 rfl rfl ?_
    refine s_iload_n C dX0_isOrder_225 rfl rfl ?_
    obtain ⟨r1, I1, hh, h⟩ := bd_e h
    refine s_cV0 (st := []) C M.rg (Nat.le_trans (by decide) hd) mwX0_isCode mlX0_34 dX0_isOrder_226 (wX0_isCode (d := 2) (Nat.le_refl _) hx1 hh) kk_34 rfl rfl (Nat.le_of_ble_eq_true rfl) ?_
    refine s_if_eq (tgt := 256) C dX0_isOrder_229 (by decide) (fun c => ?_) (fun c => ?_)
    · have h := it_t c h
      refine s_iconst C dX0_isOrder_256 ic_0 ?_
      obtain ⟨rfl, rfl⟩ := pr_e h
      exact s_iret C M dX0_isOrder_257 rfl (nz_b (by decide)) (Nat.le_refl 0) (Nat.le_refl 0)
    · have h := it_f c h
      refine s_aload_n C dX0_isOrder_232 rfl rfl ?_
      refine s_aload_n C dX0_isOrder_233 rfl rfl ?_
      refine s_iconst C dX0_isOrder_234 ic_0 ?_
      refine s_iconst C dX0_isOrder_235 ic_1 ?_
      obtain ⟨r2, I2, hh, h⟩ := bd_e h
      refine s_cV0 (st := []) C M.rg (Nat.le_trans (by decide) hd) mwX0_isNumber mlX0_42 dX0_isOrder_236 (wX0_isNumber (d := 2) (Nat.le_refl _) hx1 hh) kk_34 rfl rfl (Nat.le_of_ble_eq_true rfl) ?_
      refine s_if_eq (tgt := 256) C dX0_isOrder_239 (by decide) (fun c => ?_) (fun c => ?_)
      · have h := it_t c h
        refine s_iconst C dX0_isOrder_256 ic_0 ?_
        obtain ⟨rfl, rfl⟩ := pr_e h
        exact s_iret C M dX0_isOrder_257 rfl (nz_b (by decide)) (Nat.le_refl 0) (Nat.le_refl 0)
      · have h := it_f c h
        refine s_aload_n C dX0_isOrder_242 rfl rfl ?_
        refine s_aload_n C dX0_isOrder_243 rfl rfl ?_
        refine s_iconst C dX0_isOrder_244 ic_1 ?_
        refine s_iconst C dX0_isOrder_245 ic_1 ?_
        obtain ⟨r3, I3, hh, h⟩ := bd_e h
        refine s_cV0 (st := []) C M.rg (Nat.le_trans (by decide) hd) mwX0_isNumber mlX0_42 dX0_isOrder_246 (wX0_isNumber (d := 2) (Nat.le_refl _) hx1 hh) kk_34 rfl rfl (Nat.le_of_ble_eq_true rfl) ?_
        refine s_if_eq (tgt := 256) C dX0_isOrder_249 (by decide) (fun c => ?_) (fun c => ?_)
        · have h := it_t c h
          refine s_iconst C dX0_isOrder_256 ic_0 ?_
          obtain ⟨rfl, rfl⟩ := pr_e h
          exact s_iret C M dX0_isOrder_257 rfl (nz_b (by decide)) (Nat.le_refl 0) (Nat.le_refl 0)
        · have h := it_f c h
          refine s_iconst C dX0_isOrder_252 ic_1 ?_
          refine s_goto (tgt := 257) C dX0_isOrder_253 (by decide) ?_
          obtain ⟨rfl, rfl⟩ := pr_e h
          exact s_iret C M dX0_isOrder_257 rfl (nz_b (by decide)) (Nat.le_refl 0) (Nat.le_refl 0)
  have h := it_f c5 h
  refine s_lookup (off := 247) (tgt := 283) C dX0_isOrder_36 (by decide) (by simp only [Op.lookupswitch.offset_cons, Op.lookupswitch.offset_nil]; rw [if_neg (Ne.symm (ne_i 37 (by decide +kernel) c1)), if_neg (Ne.symm (ne_i 43 (by decide +kernel) c2)), if_neg (Ne.symm (ne_i 45 (by decide +kernel) c3)), if_neg (Ne.symm (ne_i 61 (by decide +kernel) c4)), if_neg (Ne.symm (ne_i 62 (by decide +kernel) c5))]) (by decide) ?_
  refine s_iconst C dX0_isOrder_283 ic_0 ?_
  obtain ⟨rfl, rfl⟩ := pr_e h
  exact s_iret C M dX0_isOrder_284 rfl (nz_b (by decide)) (Nat.le_refl 0) (Nat.le_refl 0)
