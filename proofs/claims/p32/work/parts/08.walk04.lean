theorem wL_act_p22 {X : Cx} {d : Nat} (hd : 48 ≤ d) (C : CtxOK X mL_act) {x1 : Int32} {x2 : Int32} {s0 : Int32} {I I' : Mm} {r : Int32}  (h : fL_act_p22 x1 x2 s0 I = some (r, I')) (M : MX X (xE X) d 0 0 (some (.int r)) S0 I') : WM X mL_act 22 [some (rfX X 0), some (.int x1), some (.int x2), none, none, none] [.int s0] S0 I 0 0 := by
  unfold fL_act_p22 at h
  refine s_istore_n (ls' := [some (rfX X 0), some (.int x1), some (.int x2), some (.int s0), none, none]) C dL_act_22 rfl (by decide) (Nat.le_of_ble_eq_true rfl) rfl rfl ?_
  refine s_iload_n C dL_act_23 rfl rfl ?_
  refine s_iconst C dL_act_24 ic_4 ?_
  refine s_ishr C dL_act_25 ?_
  refine s_iconst C dL_act_26 ic_3 ?_
  refine s_irem C dL_act_27 (by decide) ?_
  refine s_if_ne (tgt := 41) C dL_act_28 (by decide) (fun c => ?_) (fun c => ?_)
  · have h := it_f c h
    refine s_bipush C dL_act_41 bi_100 ?_
    refine s_iload_n C dL_act_43 rfl rfl ?_
    refine s_iconst C dL_act_44 ic_3 ?_
    refine s_ishr C dL_act_45 ?_
    refine s_bipush C dL_act_46 bi_60 ?_
    refine s_irem C dL_act_48 (by decide) ?_
    refine s_iadd C dL_act_49 ?_
    exact wL_act_p50 hd C  h M
  · have h := it_t c h
    refine s_iload_n C dL_act_31 rfl rfl ?_
    refine s_iconst C dL_act_32 ic_3 ?_
    refine s_ishr C dL_act_33 ?_
    refine s_sipush C dL_act_34 si_1001 ?_
    refine s_irem C dL_act_37 (by decide) ?_
    refine s_goto (tgt := 50) C dL_act_38 (by decide) ?_
    exact wL_act_p50 hd C  h M
theorem wL_act {E : Ev} {d : Nat} (hd : 48 ≤ d) {x1 : Int32} {I I' : Mm} {r : Int32}  (h : fL_act x1 I = some (r, I')) : SemM E d 0 0 mL_act [rfE E 0, .int x1] S0 I (some (.int r)) S0 I' := by
  unfold fL_act at h
  refine SemM.ofX (E := E) (y := mL_act) (args := fun E => [rfE E 0, .int x1]) (r := fun E => (some (.int r))) (fun E => [some (rfE E 0), some (.int x1), none, none, none, none]) (by decide +kernel) (Nat.le_of_ble_eq_true rfl) rfl (fun X C M => ?_)
  refine s_iload_n C dL_act_0 rfl rfl ?_
  refine s_iconst C dL_act_1 ic_4 ?_
  refine s_ishr C dL_act_2 ?_
  refine s_ldc C dL_act_3 coL_9 ?_
  refine s_iand C dL_act_5 ?_
  obtain ⟨v1, ev1, h⟩ := ltm_e h
  refine s_top_i ev1 ?_
  refine s_istore_n (ls' := [some (rfX X 0), some (.int x1), some (.int v1), none, none, none]) C dL_act_6 rfl (by decide) (Nat.le_of_ble_eq_true rfl) rfl rfl ?_
  refine s_iload_n C dL_act_7 rfl rfl ?_
  refine s_iconst C dL_act_8 ic_3 ?_
  refine s_iand C dL_act_9 ?_
  refine s_if_ne (tgt := 21) C dL_act_10 (by decide) (fun c => ?_) (fun c => ?_)
  · have h := it_f c h
    refine s_iconst C dL_act_21 ic_0 ?_
    exact wL_act_p22 hd C  h M
  · have h := it_t c h
    refine s_iload_n C dL_act_13 rfl rfl ?_
    refine s_iconst C dL_act_14 ic_2 ?_
    refine s_ishr C dL_act_15 ?_
    refine s_iconst C dL_act_16 ic_4 ?_
    refine s_irem C dL_act_17 (by decide) ?_
    refine s_goto (tgt := 22) C dL_act_18 (by decide) ?_
    exact wL_act_p22 hd C  h M
theorem wX1_cartsUpTo_p8 {X : Cx} {d : Nat} (hd : 2 ≤ d) (C : CtxOK X mX1_cartsUpTo) : ∀ (n : Nat) {x0 : Nat} {x1 : Int32} {x2 : Int32} {x3 : Int32} {x4 : Int32} {x5 : Int32} {I I' : Mm} {r : Int32} (hx0 : kd0 x0 = 1) (_ : fX1_cartsUpTo_p8 n x0 x1 x2 x3 x4 x5 I = some (r, I')) (_ : MX X (xE X) d 0 0 (some (.int r)) S0 I'), WM X mX1_cartsUpTo 8 [some (rfX X x0), some (.int x1), some (.int x2), some (.int x3), some (.int x4), some (.int x5)] [] S0 I 0 0 := by
  intro n
  induction n with
  | zero => intro x0 x1 x2 x3 x4 x5 I I' r hx0 h M; exact absurd h (by simp [fX1_cartsUpTo_p8])
  | succ n ih =>
    intro x0 x1 x2 x3 x4 x5 I I' r hx0 h M
    rw [fX1_cartsUpTo_p8] at h
    refine s_iload C dX1_cartsUpTo_8 rfl ?_
    refine s_iload_n C dX1_cartsUpTo_10 rfl rfl ?_
    refine s_icmp_gt (tgt := 63) C dX1_cartsUpTo_11 (by decide) (fun c => ?_) (fun c => ?_)
    · have h := it_t c h
      refine s_iload_n C dX1_cartsUpTo_63 rfl rfl ?_
      obtain ⟨rfl, rfl⟩ := pr_e h
      exact s_iret C M dX1_cartsUpTo_64 rfl rfl (Nat.le_refl 0) (Nat.le_refl 0)
    · have h := it_f c h
      refine s_iload C dX1_cartsUpTo_14 rfl ?_
      refine s_aload_n C dX1_cartsUpTo_16 rfl rfl ?_
      refine s_getI C dX1_cartsUpTo_17 hx0 foX1_21 rfl ?_
      refine s_icmp_ge (tgt := 63) C dX1_cartsUpTo_20 (by decide) (fun c => ?_) (fun c => ?_)
      · have h := it_t c h
        refine s_iload_n C dX1_cartsUpTo_63 rfl rfl ?_
        obtain ⟨rfl, rfl⟩ := pr_e h
        exact s_iret C M dX1_cartsUpTo_64 rfl rfl (Nat.le_refl 0) (Nat.le_refl 0)
      · have h := it_f c h
        refine s_iload_n C dX1_cartsUpTo_23 rfl rfl ?_
        refine s_if_eq (tgt := 40) C dX1_cartsUpTo_24 (by decide) (fun c => ?_) (fun c => ?_)
        · have h := it_t c h
          obtain ⟨v1, ev1, h⟩ := ltm_e h
          refine s_iinc (v := v1) (ls' := [some (rfX X x0), some (.int x1), some (.int x2), some (.int v1), some (.int x4), some (.int x5)]) C dX1_cartsUpTo_40 rfl (by decide) (Nat.le_of_ble_eq_true rfl) (by rw [ev1, ic_1]) rfl rfl ?_
          refine s_iconst C dX1_cartsUpTo_43 ic_0 ?_
          refine s_istore (ls' := [some (rfX X x0), some (.int x1), some (.int x2), some (.int v1), some (.int 0), some (.int x5)]) C dX1_cartsUpTo_44 (by decide) (Nat.le_of_ble_eq_true rfl) rfl rfl ?_
          refine s_iload C dX1_cartsUpTo_46 rfl ?_
          refine s_aload_n C dX1_cartsUpTo_48 rfl rfl ?_
          refine s_iload C dX1_cartsUpTo_49 rfl ?_
          obtain ⟨r1, I1, hh, h⟩ := bd_e h
          refine s_cV0 (st := [.int 0]) C M.rg (Nat.le_trans (by decide) hd) mwX1_loadAt mlX1_48 dX1_cartsUpTo_51 (wX1_loadAt (d := 1) (Nat.le_refl _) hx0 hh) hx0 rfl rfl (Nat.le_of_ble_eq_true rfl) ?_
          refine s_iadd C dX1_cartsUpTo_54 ?_
          obtain ⟨v2, ev2, h⟩ := ltm_e h
          refine s_top_i ev2 ?_
          refine s_istore (ls' := [some (rfX X x0), some (.int x1), some (.int x2), some (.int v1), some (.int v2), some (.int x5)]) C dX1_cartsUpTo_55 (by decide) (Nat.le_of_ble_eq_true rfl) rfl rfl ?_
          obtain ⟨v3, ev3, h⟩ := ltm_e h
          refine s_iinc (v := v3) (ls' := [some (rfX X x0), some (.int x1), some (.int x2), some (.int v1), some (.int v2), some (.int v3)]) C dX1_cartsUpTo_57 rfl (by decide) (Nat.le_of_ble_eq_true rfl) (by rw [ev3, ic_1]) rfl rfl ?_
          refine s_goto (tgt := 8) C dX1_cartsUpTo_60 (by decide) ?_
          exact ih hx0 h M
        · have h := it_f c h
          refine s_iload C dX1_cartsUpTo_27 rfl ?_
          refine s_aload_n C dX1_cartsUpTo_29 rfl rfl ?_
          refine s_iload C dX1_cartsUpTo_30 rfl ?_
          obtain ⟨r1, I1, hh, h⟩ := bd_e h
          refine s_cV0 (st := [.int x4]) C M.rg (Nat.le_trans (by decide) hd) mwX1_loadAt mlX1_48 dX1_cartsUpTo_32 (wX1_loadAt (d := 1) (Nat.le_refl _) hx0 hh) hx0 rfl rfl (Nat.le_of_ble_eq_true rfl) ?_
          refine s_iadd C dX1_cartsUpTo_35 ?_
          refine s_iload_n C dX1_cartsUpTo_36 rfl rfl ?_
          refine s_icmp_le (tgt := 46) C dX1_cartsUpTo_37 (by decide) (fun c => ?_) (fun c => ?_)
          · have h := it_t c h
            refine s_iload C dX1_cartsUpTo_46 rfl ?_
            refine s_aload_n C dX1_cartsUpTo_48 rfl rfl ?_
            refine s_iload C dX1_cartsUpTo_49 rfl ?_
            obtain ⟨r2, I2, hh, h⟩ := bd_e h
            refine s_cV0 (st := [.int x4]) C M.rg (Nat.le_trans (by decide) hd) mwX1_loadAt mlX1_48 dX1_cartsUpTo_51 (wX1_loadAt (d := 1) (Nat.le_refl _) hx0 hh) hx0 rfl rfl (Nat.le_of_ble_eq_true rfl) ?_
            refine s_iadd C dX1_cartsUpTo_54 ?_
            obtain ⟨v1, ev1, h⟩ := ltm_e h
            refine s_top_i ev1 ?_
            refine s_istore (ls' := [some (rfX X x0), some (.int x1), some (.int x2), some (.int x3), some (.int v1), some (.int x5)]) C dX1_cartsUpTo_55 (by decide) (Nat.le_of_ble_eq_true rfl) rfl rfl ?_
            obtain ⟨v2, ev2, h⟩ := ltm_e h
            refine s_iinc (v := v2) (ls' := [some (rfX X x0), some (.int x1), some (.int x2), some (.int x3), some (.int v1), some (.int v2)]) C dX1_cartsUpTo_57 rfl (by decide) (Nat.le_of_ble_eq_true rfl) (by rw [ev2, ic_1]) rfl rfl ?_
            refine s_goto (tgt := 8) C dX1_cartsUpTo_60 (by decide) ?_
            exact ih hx0 h M
          · have h := it_f c h
            obtain ⟨v1, ev1, h⟩ := ltm_e h
            refine s_iinc (v := v1) (ls' := [some (rfX X x0), some (.int x1), some (.int x2), some (.int v1), some (.int x4), some (.int x5)]) C dX1_cartsUpTo_40 rfl (by decide) (Nat.le_of_ble_eq_true rfl) (by rw [ev1, ic_1]) rfl rfl ?_
            refine s_iconst C dX1_cartsUpTo_43 ic_0 ?_
            refine s_istore (ls' := [some (rfX X x0), some (.int x1), some (.int x2), some (.int v1), some (.int 0), some (.int x5)]) C dX1_cartsUpTo_44 (by decide) (Nat.le_of_ble_eq_true rfl) rfl rfl ?_
            refine s_iload C dX1_cartsUpTo_46 rfl ?_
            refine s_aload_n C dX1_cartsUpTo_48 rfl rfl ?_
            refine s_iload C dX1_cartsUpTo_49 rfl ?_
            obtain ⟨r2, I2, hh, h⟩ := bd_e h
            refine s_cV0 (st := [.int 0]) C M.rg (Nat.le_trans (by decide) hd) mwX1_loadAt mlX1_48 dX1_cartsUpTo_51 (wX1_loadAt (d := 1) (Nat.le_refl _) hx0 hh) hx0 rfl rfl (Nat.le_of_ble_eq_true rfl) ?_
            refine s_iadd C dX1_cartsUpTo_54 ?_
            obtain ⟨v2, ev2, h⟩ := ltm_e h
            refine s_top_i ev2 ?_
            refine s_istore (ls' := [some (rfX X x0), some (.int x1), some (.int x2), some (.int v1), some (.int v2), some (.int x5)]) C dX1_cartsUpTo_55 (by decide) (Nat.le_of_ble_eq_true rfl) rfl rfl ?_
            obtain ⟨v3, ev3, h⟩ := ltm_e h
            refine s_iinc (v := v3) (ls' := [some (rfX X x0), some (.int x1), some (.int x2), some (.int v1), some (.int v2), some (.int v3)]) C dX1_cartsUpTo_57 rfl (by decide) (Nat.le_of_ble_eq_true rfl) (by rw [ev3, ic_1]) rfl rfl ?_
            refine s_goto (tgt := 8) C dX1_cartsUpTo_60 (by decide) ?_
            exact ih hx0 h M
theorem wX1_cartsUpTo {E : Ev} {d : Nat} (hd : 2 ≤ d) {x0 : Nat} {x1 : Int32} {x2 : Int32} {I I' : Mm} {r : Int32} (hx0 : kd0 x0 = 1) (h : fX1_cartsUpTo x0 x1 x2 I = some (r, I')) : SemM E d 0 0 mX1_cartsUpTo [rfE E x0, .int x1, .int x2] S0 I (some (.int r)) S0 I' := by
  unfold fX1_cartsUpTo at h
  refine SemM.ofX (E := E) (y := mX1_cartsUpTo) (args := fun E => [rfE E x0, .int x1, .int x2]) (r := fun E => (some (.int r))) (fun E => [some (rfE E x0), some (.int x1), some (.int x2), none, none, none]) (by decide +kernel) (Nat.le_of_ble_eq_true rfl) rfl (fun X C M => ?_)
  refine s_iconst C dX1_cartsUpTo_0 ic_0 ?_
  refine s_istore_n (ls' := [some (rfX X x0), some (.int x1), some (.int x2), some (.int 0), none, none]) C dX1_cartsUpTo_1 rfl (by decide) (Nat.le_of_ble_eq_true rfl) rfl rfl ?_
  refine s_iconst C dX1_cartsUpTo_2 ic_0 ?_
  refine s_istore (ls' := [some (rfX X x0), some (.int x1), some (.int x2), some (.int 0), some (.int 0), none]) C dX1_cartsUpTo_3 (by decide) (Nat.le_of_ble_eq_true rfl) rfl rfl ?_
  refine s_iconst C dX1_cartsUpTo_5 ic_0 ?_
  refine s_istore (ls' := [some (rfX X x0), some (.int x1), some (.int x2), some (.int 0), some (.int 0), some (.int 0)]) C dX1_cartsUpTo_6 (by decide) (Nat.le_of_ble_eq_true rfl) rfl rfl ?_
  exact wX1_cartsUpTo_p8 hd C _ hx0 h M
theorem wX4_isBears {E : Ev} {d : Nat} (hd : 1 ≤ d) {x0 : Int32} {I I' : Mm} {r : Int32}  (h : fX4_isBears x0 I = some (r, I')) : SemM E d 0 0 mX4_isBears [.int x0] S0 I (some (.int r)) S0 I' := by
  unfold fX4_isBears at h
  refine SemM.ofX (E := E) (y := mX4_isBears) (args := fun E => [.int x0]) (r := fun E => (some (.int r))) (fun E => [some (.int x0)]) (by decide +kernel) (Nat.le_of_ble_eq_true rfl) rfl (fun X C M => ?_)
  refine s_iload_n C dX4_isBears_0 rfl rfl ?_
  refine s_bipush C dX4_isBears_1 bi_99 ?_
  refine s_icmp_lt (tgt := 17) C dX4_isBears_3 (by decide) (fun c => ?_) (fun c => ?_)
  · have h := it_t c h
    refine s_iconst C dX4_isBears_17 ic_0 ?_
    obtain ⟨rfl, rfl⟩ := pr_e h
    exact s_iret C M dX4_isBears_18 rfl (nz_b (by decide)) (Nat.le_refl 0) (Nat.le_refl 0)
  · have h := it_f c h
    refine s_iload_n C dX4_isBears_6 rfl rfl ?_
    refine s_sipush C dX4_isBears_7 si_999 ?_
    refine s_icmp_gt (tgt := 17) C dX4_isBears_10 (by decide) (fun c => ?_) (fun c => ?_)
    · have h := it_t c h
      refine s_iconst C dX4_isBears_17 ic_0 ?_
      obtain ⟨rfl, rfl⟩ := pr_e h
      exact s_iret C M dX4_isBears_18 rfl (nz_b (by decide)) (Nat.le_refl 0) (Nat.le_refl 0)
    · have h := it_f c h
      refine s_iconst C dX4_isBears_13 ic_1 ?_
      refine s_goto (tgt := 18) C dX4_isBears_14 (by decide) ?_
      obtain ⟨rfl, rfl⟩ := pr_e h
      exact s_iret C M dX4_isBears_18 rfl (nz_b (by decide)) (Nat.le_refl 0) (Nat.le_refl 0)
theorem wX4_cartOf {E : Ev} {d : Nat} (hd : 3 ≤ d) {x1 : Int32} {x2 : Int32} {x3 : Int32} {I I' : Mm} {r : Int32}  (h : fX4_cartOf x1 x2 x3 I = some (r, I')) : SemM E d 0 0 mX4_cartOf [rfE E 0, .int x1, .int x2, .int x3] S0 I (some (.int r)) S0 I' := by
  unfold fX4_cartOf at h
  refine SemM.ofX (E := E) (y := mX4_cartOf) (args := fun E => [rfE E 0, .int x1, .int x2, .int x3]) (r := fun E => (some (.int r))) (fun E => [some (rfE E 0), some (.int x1), some (.int x2), some (.int x3), none, none]) (by decide +kernel) (Nat.le_of_ble_eq_true rfl) rfl (fun X C M => ?_)
  refine s_aload_n C dX4_cartOf_0 rfl rfl ?_
  refine s_getR (b := 1) C dX4_cartOf_1 kk_0 foX4_10 rfl rk_0_0 ?_
  refine s_iload_n C dX4_cartOf_4 rfl rfl ?_
  obtain ⟨r1, I1, hh, h⟩ := bd_e h
  refine s_cV0 (st := []) C M.rg (Nat.le_trans (by decide) hd) mwX3_rickAt mlX4_71 dX4_cartOf_5 (wX3_rickAt (d := 1) (Nat.le_refl _) kk_1 hh) kk_1 rfl rfl (Nat.le_of_ble_eq_true rfl) ?_
  refine s_astore_o (ls' := [some (rfX X 0), some (.int x1), some (.int x2), some (.int x3), some (rvE (xE X) r1), none]) C dX4_cartOf_8 (by decide) (Nat.le_of_ble_eq_true rfl) rfl rfl ?_
  refine s_aload_o C dX4_cartOf_10 rfl ?_
  cases r1 with
  | none =>
    have h := on_n h
    refine s_ifnonnullN C dX4_cartOf_12 ?_
    refine s_bipush C dX4_cartOf_15 bi_m11 ?_
    obtain ⟨rfl, rfl⟩ := pr_e h
    exact s_iret C M dX4_cartOf_17 rfl rfl (Nat.le_refl 0) (Nat.le_refl 0)
  | some q1 =>
    obtain ⟨hq1, h⟩ := it_s (on_s h)
    refine s_ifnonnull (tgt := 18) C dX4_cartOf_12 (by decide) ?_
    refine s_aload C dX4_cartOf_18 rfl ?_
    refine s_iload_n C dX4_cartOf_20 rfl rfl ?_
    obtain ⟨r2, I2, hh, h⟩ := bd_e h
    refine s_cV0 (st := []) C M.rg (Nat.le_trans (by decide) hd) mwX1_find mlX4_75 dX4_cartOf_21 (wX1_find (d := 2) (Nat.le_refl _) hq1 hh) hq1 rfl rfl (Nat.le_of_ble_eq_true rfl) ?_
    refine s_istore (ls' := [some (rfX X 0), some (.int x1), some (.int x2), some (.int x3), some (rfX X q1), some (.int r2)]) C dX4_cartOf_24 (by decide) (Nat.le_of_ble_eq_true rfl) rfl rfl ?_
    refine s_iload C dX4_cartOf_26 rfl ?_
    refine s_iconst C dX4_cartOf_28 ic_m1 ?_
    refine s_icmp_ne (tgt := 35) C dX4_cartOf_29 (by decide) (fun c => ?_) (fun c => ?_)
    · have h := it_f c h
      refine s_iload_n C dX4_cartOf_35 rfl rfl ?_
      obtain ⟨r3, I3, hh, h⟩ := bd_e h
      refine s_cS0 (st := []) C M.rg (Nat.le_trans (by decide) hd) mwX4_isBears mlX4_155 dX4_cartOf_36 (wX4_isBears (d := 1) (Nat.le_refl _)  hh) rfl rfl (Nat.le_of_ble_eq_true rfl) ?_
      refine s_if_eq (tgt := 55) C dX4_cartOf_39 (by decide) (fun c => ?_) (fun c => ?_)
      · have h := it_t c h
        refine s_bipush C dX4_cartOf_55 bi_m12 ?_
        obtain ⟨rfl, rfl⟩ := pr_e h
        exact s_iret C M dX4_cartOf_57 rfl rfl (Nat.le_refl 0) (Nat.le_refl 0)
      · have h := it_f c h
        refine s_aload C dX4_cartOf_42 rfl ?_
        refine s_iload C dX4_cartOf_44 rfl ?_
        refine s_iload_n C dX4_cartOf_46 rfl rfl ?_
        obtain ⟨r4, I4, hh, h⟩ := bd_e h
        refine s_cV0 (st := []) C M.rg (Nat.le_trans (by decide) hd) mwX1_cartsUpTo mlX4_158 dX4_cartOf_47 (wX1_cartsUpTo (d := 2) (Nat.le_refl _) hq1 hh) hq1 rfl rfl (Nat.le_of_ble_eq_true rfl) ?_
        refine s_iconst C dX4_cartOf_50 ic_1 ?_
        refine s_isub C dX4_cartOf_51 ?_
        refine s_goto (tgt := 57) C dX4_cartOf_52 (by decide) ?_
        obtain ⟨rfl, rfl⟩ := pr_e h
        exact s_iret C M dX4_cartOf_57 rfl rfl (Nat.le_refl 0) (Nat.le_refl 0)
    · have h := it_t c h
      refine s_bipush C dX4_cartOf_32 bi_m11 ?_
      obtain ⟨rfl, rfl⟩ := pr_e h
      exact s_iret C M dX4_cartOf_34 rfl rfl (Nat.le_refl 0) (Nat.le_refl 0)
theorem wX4_carts {E : Ev} {d : Nat} (hd : 3 ≤ d) {x1 : Int32} {x2 : Int32} {I I' : Mm} {r : Int32}  (h : fX4_carts x1 x2 I = some (r, I')) : SemM E d 0 0 mX4_carts [rfE E 0, .int x1, .int x2] S0 I (some (.int r)) S0 I' := by
  unfold fX4_carts at h
  refine SemM.ofX (E := E) (y := mX4_carts) (args := fun E => [rfE E 0, .int x1, .int x2]) (r := fun E => (some (.int r))) (fun E => [some (rfE E 0), some (.int x1), some (.int x2), none]) (by decide +kernel) (Nat.le_of_ble_eq_true rfl) rfl (fun X C M => ?_)
  refine s_aload_n C dX4_carts_0 rfl rfl ?_
  refine s_getR (b := 1) C dX4_carts_1 kk_0 foX4_10 rfl rk_0_0 ?_
  refine s_iload_n C dX4_carts_4 rfl rfl ?_
  obtain ⟨r1, I1, hh, h⟩ := bd_e h
  refine s_cV0 (st := []) C M.rg (Nat.le_trans (by decide) hd) mwX3_rickAt mlX4_71 dX4_carts_5 (wX3_rickAt (d := 1) (Nat.le_refl _) kk_1 hh) kk_1 rfl rfl (Nat.le_of_ble_eq_true rfl) ?_
  refine s_astore_no (ls' := [some (rfX X 0), some (.int x1), some (.int x2), some (rvE (xE X) r1)]) C dX4_carts_8 rfl (by decide) (Nat.le_of_ble_eq_true rfl) rfl rfl ?_
  refine s_aload_no C dX4_carts_9 rfl rfl ?_
  cases r1 with
  | none =>
    have h := on_n h
    refine s_ifnonnullN C dX4_carts_10 ?_
    refine s_bipush C dX4_carts_13 bi_m11 ?_
    obtain ⟨rfl, rfl⟩ := pr_e h
    exact s_iret C M dX4_carts_15 rfl rfl (Nat.le_refl 0) (Nat.le_refl 0)
  | some q1 =>
    obtain ⟨hq1, h⟩ := it_s (on_s h)
    refine s_ifnonnull (tgt := 16) C dX4_carts_10 (by decide) ?_
    refine s_iload_n C dX4_carts_16 rfl rfl ?_
    obtain ⟨r2, I2, hh, h⟩ := bd_e h
    refine s_cS0 (st := []) C M.rg (Nat.le_trans (by decide) hd) mwX4_isBears mlX4_155 dX4_carts_17 (wX4_isBears (d := 1) (Nat.le_refl _)  hh) rfl rfl (Nat.le_of_ble_eq_true rfl) ?_
    refine s_if_eq (tgt := 37) C dX4_carts_20 (by decide) (fun c => ?_) (fun c => ?_)
    · have h := it_t c h
      refine s_bipush C dX4_carts_37 bi_m12 ?_
      obtain ⟨rfl, rfl⟩ := pr_e h
      exact s_iret C M dX4_carts_39 rfl rfl (Nat.le_refl 0) (Nat.le_refl 0)
    · have h := it_f c h
      refine s_aload_n C dX4_carts_23 rfl rfl ?_
      refine s_aload_n C dX4_carts_24 rfl rfl ?_
      refine s_getI C dX4_carts_25 hq1 foX4_111 rfl ?_
      refine s_iconst C dX4_carts_28 ic_1 ?_
      refine s_isub C dX4_carts_29 ?_
      refine s_iload_n C dX4_carts_30 rfl rfl ?_
      obtain ⟨r3, I3, hh, h⟩ := bd_e h
      refine s_cV0 (st := []) C M.rg (Nat.le_trans (by decide) hd) mwX1_cartsUpTo mlX4_158 dX4_carts_31 (wX1_cartsUpTo (d := 2) (Nat.le_refl _) hq1 hh) hq1 rfl rfl (Nat.le_of_ble_eq_true rfl) ?_
      refine s_goto (tgt := 39) C dX4_carts_34 (by decide) ?_
      obtain ⟨rfl, rfl⟩ := pr_e h
      exact s_iret C M dX4_carts_39 rfl rfl (Nat.le_refl 0) (Nat.le_refl 0)
theorem wX4_sheafOf {E : Ev} {d : Nat} (hd : 4 ≤ d) {x1 : Int32} {x2 : Int32} {x3 : Int32} {I I' : Mm} {r : Int32}  (h : fX4_sheafOf x1 x2 x3 I = some (r, I')) : SemM E d 0 0 mX4_sheafOf [rfE E 0, .int x1, .int x2, .int x3] S0 I (some (.int r)) S0 I' := by
  unfold fX4_sheafOf at h
  refine SemM.ofX (E := E) (y := mX4_sheafOf) (args := fun E => [rfE E 0, .int x1, .int x2, .int x3]) (r := fun E => (some (.int r))) (fun E => [some (rfE E 0), some (.int x1), some (.int x2), some (.int x3), none, none, none, none]) (by decide +kernel) (Nat.le_of_ble_eq_true rfl) rfl (fun X C M => ?_)
  refine s_aload_n C dX4_sheafOf_0 rfl rfl ?_
  refine s_getR (b := 1) C dX4_sheafOf_1 kk_0 foX4_10 rfl rk_0_0 ?_
  refine s_iload_n C dX4_sheafOf_4 rfl rfl ?_
  obtain ⟨r1, I1, hh, h⟩ := bd_e h
  refine s_cV0 (st := []) C M.rg (Nat.le_trans (by decide) hd) mwX3_rickAt mlX4_71 dX4_sheafOf_5 (wX3_rickAt (d := 1) (Nat.le_refl _) kk_1 hh) kk_1 rfl rfl (Nat.le_of_ble_eq_true rfl) ?_
  refine s_astore_o (ls' := [some (rfX X 0), some (.int x1), some (.int x2), some (.int x3), some (rvE (xE X) r1), none, none, none]) C dX4_sheafOf_8 (by decide) (Nat.le_of_ble_eq_true rfl) rfl rfl ?_
  refine s_aload_o C dX4_sheafOf_10 rfl ?_
  cases r1 with
  | none =>
    have h := on_n h
    refine s_ifnonnullN C dX4_sheafOf_12 ?_
    refine s_bipush C dX4_sheafOf_15 bi_m11 ?_
    obtain ⟨rfl, rfl⟩ := pr_e h
    exact s_iret C M dX4_sheafOf_17 rfl rfl (Nat.le_refl 0) (Nat.le_refl 0)
  | some q1 =>
    obtain ⟨hq1, h⟩ := it_s (on_s h)
    refine s_ifnonnull (tgt := 18) C dX4_sheafOf_12 (by decide) ?_
    refine s_aload C dX4_sheafOf_18 rfl ?_
    refine s_iload_n C dX4_sheafOf_20 rfl rfl ?_
    obtain ⟨r2, I2, hh, h⟩ := bd_e h
    refine s_cV0 (st := []) C M.rg (Nat.le_trans (by decide) hd) mwX1_find mlX4_75 dX4_sheafOf_21 (wX1_find (d := 2) (Nat.le_refl _) hq1 hh) hq1 rfl rfl (Nat.le_of_ble_eq_true rfl) ?_
    refine s_istore (ls' := [some (rfX X 0), some (.int x1), some (.int x2), some (.int x3), some (rfX X q1), some (.int r2), none, none]) C dX4_sheafOf_24 (by decide) (Nat.le_of_ble_eq_true rfl) rfl rfl ?_
    refine s_iload C dX4_sheafOf_26 rfl ?_
    refine s_iconst C dX4_sheafOf_28 ic_m1 ?_
    refine s_icmp_ne (tgt := 35) C dX4_sheafOf_29 (by decide) (fun c => ?_) (fun c => ?_)
    · have h := it_f c h
      refine s_aload C dX4_sheafOf_35 rfl ?_
      refine s_iload C dX4_sheafOf_37 rfl ?_
      obtain ⟨r3, I3, hh, h⟩ := bd_e h
      refine s_cV0 (st := []) C M.rg (Nat.le_trans (by decide) hd) mwX1_firstOf mlX4_80 dX4_sheafOf_39 (wX1_firstOf (d := 2) (Nat.le_refl _) hq1 hh) hq1 rfl rfl (Nat.le_of_ble_eq_true rfl) ?_
      refine s_istore (ls' := [some (rfX X 0), some (.int x1), some (.int x2), some (.int x3), some (rfX X q1), some (.int r2), some (.int r3), none]) C dX4_sheafOf_42 (by decide) (Nat.le_of_ble_eq_true rfl) rfl rfl ?_
      refine s_aload C dX4_sheafOf_44 rfl ?_
      refine s_iload C dX4_sheafOf_46 rfl ?_
      obtain ⟨r4, I4, hh, h⟩ := bd_e h
      refine s_cV0 (st := []) C M.rg (Nat.le_trans (by decide) hd) mwX1_lastOf mlX4_83 dX4_sheafOf_48 (wX1_lastOf (d := 2) (Nat.le_refl _) hq1 hh) hq1 rfl rfl (Nat.le_of_ble_eq_true rfl) ?_
      refine s_istore (ls' := [some (rfX X 0), some (.int x1), some (.int x2), some (.int x3), some (rfX X q1), some (.int r2), some (.int r3), some (.int r4)]) C dX4_sheafOf_51 (by decide) (Nat.le_of_ble_eq_true rfl) rfl rfl ?_
      refine s_iload_n C dX4_sheafOf_53 rfl rfl ?_
      by_cases c1 : x3 = 0
      · have h := it_t c1 h
        refine s_tableIn (off := 46) (tgt := 100) C dX4_sheafOf_54 (by rw [c1]; decide +kernel) (by rw [c1]; decide +kernel) (by rw [c1]; decide +kernel) (by decide) ?_
        refine s_aload C dX4_sheafOf_100 rfl ?_
        refine s_iload C dX4_sheafOf_102 rfl ?_
        obtain ⟨r5, I5, hh, h⟩ := bd_e h
        refine s_cV0 (st := []) C M.rg (Nat.le_trans (by decide) hd) mwX1_loadAt mlX4_86 dX4_sheafOf_104 (wX1_loadAt (d := 1) (Nat.le_refl _) hq1 hh) hq1 rfl rfl (Nat.le_of_ble_eq_true rfl) ?_
        obtain ⟨rfl, rfl⟩ := pr_e h
        exact s_iret C M dX4_sheafOf_107 rfl rfl (Nat.le_refl 0) (Nat.le_refl 0)
      have h := it_f c1 h
      by_cases c2 : x3 = 1
      · have h := it_t c2 h
        refine s_tableIn (off := 54) (tgt := 108) C dX4_sheafOf_54 (by rw [c2]; decide +kernel) (by rw [c2]; decide +kernel) (by rw [c2]; decide +kernel) (by decide) ?_
        refine s_aload C dX4_sheafOf_108 rfl ?_
        refine s_iload C dX4_sheafOf_110 rfl ?_
        obtain ⟨r5, I5, hh, h⟩ := bd_e h
        refine s_cV0 (st := []) C M.rg (Nat.le_trans (by decide) hd) mwX1_depthAt mlX4_89 dX4_sheafOf_112 (wX1_depthAt (d := 1) (Nat.le_refl _) hq1 hh) hq1 rfl rfl (Nat.le_of_ble_eq_true rfl) ?_
        obtain ⟨rfl, rfl⟩ := pr_e h
        exact s_iret C M dX4_sheafOf_115 rfl rfl (Nat.le_refl 0) (Nat.le_refl 0)
      have h := it_f c2 h
      by_cases c3 : x3 = 2
      · have h := it_t c3 h
        refine s_tableIn (off := 62) (tgt := 116) C dX4_sheafOf_54 (by rw [c3]; decide +kernel) (by rw [c3]; decide +kernel) (by rw [c3]; decide +kernel) (by decide) ?_
        refine s_iload C dX4_sheafOf_116 rfl ?_
        refine s_iload C dX4_sheafOf_118 rfl ?_
        refine s_isub C dX4_sheafOf_120 ?_
        refine s_iconst C dX4_sheafOf_121 ic_1 ?_
        refine s_iadd C dX4_sheafOf_122 ?_
        obtain ⟨rfl, rfl⟩ := pr_e h
        exact s_iret C M dX4_sheafOf_123 rfl rfl (Nat.le_refl 0) (Nat.le_refl 0)
      have h := it_f c3 h
      by_cases c4 : x3 = 3
      · have h := it_t c4 h
        refine s_tableIn (off := 70) (tgt := 124) C dX4_sheafOf_54 (by rw [c4]; decide +kernel) (by rw [c4]; decide +kernel) (by rw [c4]; decide +kernel) (by decide) ?_
        refine s_aload C dX4_sheafOf_124 rfl ?_
        refine s_iload C dX4_sheafOf_126 rfl ?_
        refine s_iload C dX4_sheafOf_128 rfl ?_
        obtain ⟨r5, I5, hh, h⟩ := bd_e h
        refine s_cV0 (st := []) C M.rg (Nat.le_trans (by decide) hd) mwX1_loadsFrom mlX4_92 dX4_sheafOf_130 (wX1_loadsFrom (d := 2) (Nat.le_refl _) hq1 hh) hq1 rfl rfl (Nat.le_of_ble_eq_true rfl) ?_
        obtain ⟨rfl, rfl⟩ := pr_e h
        exact s_iret C M dX4_sheafOf_133 rfl rfl (Nat.le_refl 0) (Nat.le_refl 0)
      have h := it_f c4 h
      by_cases c5 : x3 = 4
      · have h := it_t c5 h
        refine s_tableIn (off := 80) (tgt := 134) C dX4_sheafOf_54 (by rw [c5]; decide +kernel) (by rw [c5]; decide +kernel) (by rw [c5]; decide +kernel) (by decide) ?_
        refine s_aload C dX4_sheafOf_134 rfl ?_
        refine s_iload C dX4_sheafOf_136 rfl ?_
        refine s_aload_n C dX4_sheafOf_138 rfl rfl ?_
        refine s_getR (b := 1) C dX4_sheafOf_139 kk_0 foX4_10 rfl rk_0_0 ?_
        refine s_getI C dX4_sheafOf_142 kk_1 foX4_95 rfl ?_
        obtain ⟨r5, I5, hh, h⟩ := bd_e h
        refine s_cV0 (st := []) C M.rg (Nat.le_trans (by decide) hd) mwX1_leans mlX4_98 dX4_sheafOf_145 (wX1_leans (d := 3) (Nat.le_refl _) hq1 hh) hq1 rfl rfl (Nat.le_of_ble_eq_true rfl) ?_
        refine s_if_eq (tgt := 155) C dX4_sheafOf_148 (by decide) (fun c => ?_) (fun c => ?_)
        · have h := it_t c h
          refine s_iconst C dX4_sheafOf_155 ic_0 ?_
          obtain ⟨rfl, rfl⟩ := pr_e h
          exact s_iret C M dX4_sheafOf_156 rfl rfl (Nat.le_refl 0) (Nat.le_refl 0)
        · have h := it_f c h
          refine s_iconst C dX4_sheafOf_151 ic_1 ?_
          refine s_goto (tgt := 156) C dX4_sheafOf_152 (by decide) ?_
          obtain ⟨rfl, rfl⟩ := pr_e h
          exact s_iret C M dX4_sheafOf_156 rfl rfl (Nat.le_refl 0) (Nat.le_refl 0)
      have h := it_f c5 h
      by_cases c6 : x3 = 5
      · have h := it_t c6 h
        refine s_tableIn (off := 103) (tgt := 157) C dX4_sheafOf_54 (by rw [c6]; decide +kernel) (by rw [c6]; decide +kernel) (by rw [c6]; decide +kernel) (by decide) ?_
        refine s_aload C dX4_sheafOf_157 rfl ?_
        refine s_aload C dX4_sheafOf_159 rfl ?_
        refine s_iload C dX4_sheafOf_161 rfl ?_
        obtain ⟨r5, I5, hh, h⟩ := bd_e h
        refine s_cV0 (st := [rfX X q1]) C M.rg (Nat.le_trans (by decide) hd) mwX1_above mlX4_102 dX4_sheafOf_163 (wX1_above (d := 3) (Nat.le_refl _) hq1 hh) hq1 rfl rfl (Nat.le_of_ble_eq_true rfl) ?_
        obtain ⟨r6, I6, hh, h⟩ := bd_e h
        refine s_cV0 (st := []) C M.rg (Nat.le_trans (by decide) hd) mwX1_weightAt mlX4_105 dX4_sheafOf_166 (wX1_weightAt (d := 1) (Nat.le_refl _) hq1 hh) hq1 rfl rfl (Nat.le_of_ble_eq_true rfl) ?_
        obtain ⟨rfl, rfl⟩ := pr_e h
        exact s_iret C M dX4_sheafOf_169 rfl rfl (Nat.le_refl 0) (Nat.le_refl 0)
      have h := it_f c6 h
      by_cases c7 : x3 = 6
      · have h := it_t c7 h
        refine s_tableIn (off := 116) (tgt := 170) C dX4_sheafOf_54 (by rw [c7]; decide +kernel) (by rw [c7]; decide +kernel) (by rw [c7]; decide +kernel) (by decide) ?_
        refine s_aload C dX4_sheafOf_170 rfl ?_
        refine s_aload C dX4_sheafOf_172 rfl ?_
        refine s_iload C dX4_sheafOf_174 rfl ?_
        refine s_iload C dX4_sheafOf_176 rfl ?_
        refine s_iconst C dX4_sheafOf_178 ic_1 ?_
        refine s_isub C dX4_sheafOf_179 ?_
        obtain ⟨r5, I5, hh, h⟩ := bd_e h
        refine s_cV0 (st := [rfX X q1]) C M.rg (Nat.le_trans (by decide) hd) mwX1_topOf mlX4_108 dX4_sheafOf_180 (wX1_topOf (d := 2) (Nat.le_refl _) hq1 hh) hq1 rfl rfl (Nat.le_of_ble_eq_true rfl) ?_
        obtain ⟨r6, I6, hh, h⟩ := bd_e h
        refine s_cV0 (st := []) C M.rg (Nat.le_trans (by decide) hd) mwX1_weightAt mlX4_105 dX4_sheafOf_183 (wX1_weightAt (d := 1) (Nat.le_refl _) hq1 hh) hq1 rfl rfl (Nat.le_of_ble_eq_true rfl) ?_
        obtain ⟨rfl, rfl⟩ := pr_e h
        exact s_iret C M dX4_sheafOf_186 rfl rfl (Nat.le_refl 0) (Nat.le_refl 0)
      have h := it_f c7 h
      by_cases c8 : x3 = 7
      · have h := it_t c8 h
        refine s_tableIn (off := 133) (tgt := 187) C dX4_sheafOf_54 (by rw [c8]; decide +kernel) (by rw [c8]; decide +kernel) (by rw [c8]; decide +kernel) (by decide) ?_
        refine s_aload C dX4_sheafOf_187 rfl ?_
        refine s_aload C dX4_sheafOf_189 rfl ?_
        refine s_iload C dX4_sheafOf_191 rfl ?_
        refine s_iconst C dX4_sheafOf_193 ic_1 ?_
        refine s_iadd C dX4_sheafOf_194 ?_
        refine s_iload C dX4_sheafOf_195 rfl ?_
        obtain ⟨r5, I5, hh, h⟩ := bd_e h
        refine s_cV0 (st := [rfX X q1]) C M.rg (Nat.le_trans (by decide) hd) mwX1_topOf mlX4_108 dX4_sheafOf_197 (wX1_topOf (d := 2) (Nat.le_refl _) hq1 hh) hq1 rfl rfl (Nat.le_of_ble_eq_true rfl) ?_
        obtain ⟨r6, I6, hh, h⟩ := bd_e h
        refine s_cV0 (st := []) C M.rg (Nat.le_trans (by decide) hd) mwX1_weightAt mlX4_105 dX4_sheafOf_200 (wX1_weightAt (d := 1) (Nat.le_refl _) hq1 hh) hq1 rfl rfl (Nat.le_of_ble_eq_true rfl) ?_
        obtain ⟨rfl, rfl⟩ := pr_e h
        exact s_iret C M dX4_sheafOf_203 rfl rfl (Nat.le_refl 0) (Nat.le_refl 0)
      have h := it_f c8 h
      refine s_tableOut (tgt := 204) C dX4_sheafOf_54 (by have := ne_i 0 (by decide +kernel) c1; have := ne_i 1 (by decide +kernel) c2; have := ne_i 2 (by decide +kernel) c3; have := ne_i 3 (by decide +kernel) c4; have := ne_i 4 (by decide +kernel) c5; have := ne_i 5 (by decide +kernel) c6; have := ne_i 6 (by decide +kernel) c7; have := ne_i 7 (by decide +kernel) c8; omega) (by decide) ?_
      refine s_bipush C dX4_sheafOf_204 bi_m12 ?_
      obtain ⟨rfl, rfl⟩ := pr_e h
      exact s_iret C M dX4_sheafOf_206 rfl rfl (Nat.le_refl 0) (Nat.le_refl 0)
    · have h := it_t c h
      refine s_bipush C dX4_sheafOf_32 bi_m11 ?_
      obtain ⟨rfl, rfl⟩ := pr_e h
      exact s_iret C M dX4_sheafOf_34 rfl rfl (Nat.le_refl 0) (Nat.le_refl 0)
theorem wL_areCarts_p53 {X : Cx} {d : Nat} (hd : 6 ≤ d) (C : CtxOK X mL_areCarts) : ∀ (n : Nat) {x1 : Int32} {x2 : Int32} {x3 : Int32} {x4 : Int32} {x5 : Int32} {x6 : Int32} {x7 : Int32} {I I' : Mm} {r : Int32}  (_ : fL_areCarts_p53 n x1 x2 x3 x4 x5 x6 x7 I = some (r, I')) (_ : MX X (xE X) d 0 0 (some (.int r)) S0 I'), WM X mL_areCarts 53 [some (rfX X 0), some (.int x1), some (.int x2), some (.int x3), some (.int x4), some (.int x5), some (.int x6), some (.int x7), none, none] [] S0 I 0 0 := by
  intro n
  induction n with
  | zero => intro x1 x2 x3 x4 x5 x6 x7 I I' r  h M; exact absurd h (by simp [fL_areCarts_p53])
  | succ n ih =>
    intro x1 x2 x3 x4 x5 x6 x7 I I' r  h M
    rw [fL_areCarts_p53] at h
    refine s_iload C dL_areCarts_53 rfl ?_
    refine s_if_eq (tgt := 163) C dL_areCarts_55 (by decide) (fun c => ?_) (fun c => ?_)
    · have h := it_t c h
      refine s_iload C dL_areCarts_163 rfl ?_
      refine s_if_eq (tgt := 184) C dL_areCarts_165 (by decide) (fun c => ?_) (fun c => ?_)
      · have h := it_t c h
        refine s_iconst C dL_areCarts_184 ic_0 ?_
        obtain ⟨rfl, rfl⟩ := pr_e h
        exact s_iret C M dL_areCarts_185 rfl (nz_b (by decide)) (Nat.le_refl 0) (Nat.le_refl 0)
      · have h := it_f c h
        refine s_iload_n C dL_areCarts_168 rfl rfl ?_
        refine s_if_eq (tgt := 180) C dL_areCarts_169 (by decide) (fun c => ?_) (fun c => ?_)
        · have h := it_t c h
          refine s_iconst C dL_areCarts_180 ic_1 ?_
          refine s_goto (tgt := 185) C dL_areCarts_181 (by decide) ?_
          obtain ⟨rfl, rfl⟩ := pr_e h
          exact s_iret C M dL_areCarts_185 rfl (nz_b (by decide)) (Nat.le_refl 0) (Nat.le_refl 0)
        · have h := it_f c h
          refine s_iload_n C dL_areCarts_172 rfl rfl ?_
          refine s_iload C dL_areCarts_173 rfl ?_
          refine s_iconst C dL_areCarts_175 ic_1 ?_
          refine s_iadd C dL_areCarts_176 ?_
          refine s_icmp_ne (tgt := 184) C dL_areCarts_177 (by decide) (fun c => ?_) (fun c => ?_)
          · have h := it_f c h
            refine s_iconst C dL_areCarts_184 ic_0 ?_
            obtain ⟨rfl, rfl⟩ := pr_e h
            exact s_iret C M dL_areCarts_185 rfl (nz_b (by decide)) (Nat.le_refl 0) (Nat.le_refl 0)
          · have h := it_t c h
            refine s_iconst C dL_areCarts_180 ic_1 ?_
            refine s_goto (tgt := 185) C dL_areCarts_181 (by decide) ?_
            obtain ⟨rfl, rfl⟩ := pr_e h
            exact s_iret C M dL_areCarts_185 rfl (nz_b (by decide)) (Nat.le_refl 0) (Nat.le_refl 0)
    · have h := it_f c h
      refine s_iload C dL_areCarts_58 rfl ?_
      refine s_aload_n C dL_areCarts_60 rfl rfl ?_
      refine s_iload_n C dL_areCarts_61 rfl rfl ?_
      refine s_iconst C dL_areCarts_62 ic_0 ?_
      obtain ⟨r1, I1, hh, h⟩ := bd_e h
      refine s_cV0 (st := [.int x7]) C M.rg (Nat.le_trans (by decide) hd) mwX4_rickOf mlL_28 dL_areCarts_63 (wX4_rickOf (d := 5) (Nat.le_refl _)  hh) kk_0 rfl rfl (Nat.le_of_ble_eq_true rfl) ?_
      refine s_icmp_ge (tgt := 163) C dL_areCarts_66 (by decide) (fun c => ?_) (fun c => ?_)
      · have h := it_t c h
        refine s_iload C dL_areCarts_163 rfl ?_
        refine s_if_eq (tgt := 184) C dL_areCarts_165 (by decide) (fun c => ?_) (fun c => ?_)
        · have h := it_t c h
          refine s_iconst C dL_areCarts_184 ic_0 ?_
          obtain ⟨rfl, rfl⟩ := pr_e h
          exact s_iret C M dL_areCarts_185 rfl (nz_b (by decide)) (Nat.le_refl 0) (Nat.le_refl 0)
        · have h := it_f c h
          refine s_iload_n C dL_areCarts_168 rfl rfl ?_
          refine s_if_eq (tgt := 180) C dL_areCarts_169 (by decide) (fun c => ?_) (fun c => ?_)
          · have h := it_t c h
            refine s_iconst C dL_areCarts_180 ic_1 ?_
            refine s_goto (tgt := 185) C dL_areCarts_181 (by decide) ?_
            obtain ⟨rfl, rfl⟩ := pr_e h
            exact s_iret C M dL_areCarts_185 rfl (nz_b (by decide)) (Nat.le_refl 0) (Nat.le_refl 0)
          · have h := it_f c h
            refine s_iload_n C dL_areCarts_172 rfl rfl ?_
            refine s_iload C dL_areCarts_173 rfl ?_
            refine s_iconst C dL_areCarts_175 ic_1 ?_
            refine s_iadd C dL_areCarts_176 ?_
            refine s_icmp_ne (tgt := 184) C dL_areCarts_177 (by decide) (fun c => ?_) (fun c => ?_)
            · have h := it_f c h
              refine s_iconst C dL_areCarts_184 ic_0 ?_
              obtain ⟨rfl, rfl⟩ := pr_e h
              exact s_iret C M dL_areCarts_185 rfl (nz_b (by decide)) (Nat.le_refl 0) (Nat.le_refl 0)
            · have h := it_t c h
              refine s_iconst C dL_areCarts_180 ic_1 ?_
              refine s_goto (tgt := 185) C dL_areCarts_181 (by decide) ?_
              obtain ⟨rfl, rfl⟩ := pr_e h
              exact s_iret C M dL_areCarts_185 rfl (nz_b (by decide)) (Nat.le_refl 0) (Nat.le_refl 0)
      · have h := it_f c h
        refine s_aload_n C dL_areCarts_69 rfl rfl ?_
        refine s_iload_n C dL_areCarts_70 rfl rfl ?_
        refine s_aload_n C dL_areCarts_71 rfl rfl ?_
        refine s_iload_n C dL_areCarts_72 rfl rfl ?_
        refine s_iload C dL_areCarts_73 rfl ?_
        obtain ⟨r2, I2, hh, h⟩ := bd_e h
        refine s_cV0 (st := [.int x1, rfX X 0]) C M.rg (Nat.le_trans (by decide) hd) mwX4_at mlL_37 dL_areCarts_75 (wX4_at (d := 2) (Nat.le_refl _)  hh) kk_0 rfl rfl (Nat.le_of_ble_eq_true rfl) ?_
        refine s_iconst C dL_areCarts_78 ic_0 ?_
        obtain ⟨r3, I3, hh, h⟩ := bd_e h
        refine s_cV0 (st := []) C M.rg (Nat.le_trans (by decide) hd) mwX4_sheafOf mlL_85 dL_areCarts_79 (wX4_sheafOf (d := 4) (Nat.le_refl _)  hh) kk_0 rfl rfl (Nat.le_of_ble_eq_true rfl) ?_
        refine s_istore (ls' := [some (rfX X 0), some (.int x1), some (.int x2), some (.int x3), some (.int x4), some (.int x5), some (.int x6), some (.int x7), some (.int r3), none]) C dL_areCarts_82 (by decide) (Nat.le_of_ble_eq_true rfl) rfl rfl ?_
        refine s_iload C dL_areCarts_84 rfl ?_
        refine s_iload C dL_areCarts_86 rfl ?_
        refine s_iadd C dL_areCarts_88 ?_
        refine s_iload_n C dL_areCarts_89 rfl rfl ?_
        refine s_icmp_le (tgt := 97) C dL_areCarts_90 (by decide) (fun c => ?_) (fun c => ?_)
        · have h := it_t c h
          refine s_iconst C dL_areCarts_97 ic_0 ?_
          refine s_istore (ls' := [some (rfX X 0), some (.int x1), some (.int x2), some (.int x3), some (.int x4), some (.int x5), some (.int x6), some (.int x7), some (.int r3), some (.int 0)]) C dL_areCarts_98 (by decide) (Nat.le_of_ble_eq_true rfl) rfl rfl ?_
          refine s_iload C dL_areCarts_100 rfl ?_
          refine s_iload C dL_areCarts_102 rfl ?_
          refine s_if_eq (tgt := 111) C dL_areCarts_104 (by decide) (fun c => ?_) (fun c => ?_)
          · have h := it_t c h
            refine s_iconst C dL_areCarts_111 ic_0 ?_
            refine s_iadd C dL_areCarts_112 ?_
            obtain ⟨v1, ev1, h⟩ := ltm_e h
            refine s_top_i ev1 ?_
            refine s_istore (ls' := [some (rfX X 0), some (.int x1), some (.int x2), some (.int x3), some (.int v1), some (.int x5), some (.int x6), some (.int x7), some (.int r3), some (.int 0)]) C dL_areCarts_113 (by decide) (Nat.le_of_ble_eq_true rfl) rfl rfl ?_
            refine s_iload C dL_areCarts_115 rfl ?_
            refine s_if_eq (tgt := 125) C dL_areCarts_117 (by decide) (fun c => ?_) (fun c => ?_)
            · have h := it_t c h
              refine s_iload C dL_areCarts_125 rfl ?_
              refine s_iload C dL_areCarts_127 rfl ?_
              refine s_iadd C dL_areCarts_129 ?_
              obtain ⟨v2, ev2, h⟩ := ltm_e h
              refine s_top_i ev2 ?_
              refine s_istore (ls' := [some (rfX X 0), some (.int x1), some (.int x2), some (.int x3), some (.int v1), some (.int v2), some (.int x6), some (.int x7), some (.int r3), some (.int 0)]) C dL_areCarts_130 (by decide) (Nat.le_of_ble_eq_true rfl) rfl rfl ?_
              refine s_aload_n C dL_areCarts_132 rfl rfl ?_
              refine s_iload_n C dL_areCarts_133 rfl rfl ?_
              refine s_aload_n C dL_areCarts_134 rfl rfl ?_
              refine s_iload_n C dL_areCarts_135 rfl rfl ?_
              refine s_iload C dL_areCarts_136 rfl ?_
              obtain ⟨r4, I4, hh, h⟩ := bd_e h
              refine s_cV0 (st := [.int x1, rfX X 0]) C M.rg (Nat.le_trans (by decide) hd) mwX4_at mlL_37 dL_areCarts_138 (wX4_at (d := 2) (Nat.le_refl _)  hh) kk_0 rfl rfl (Nat.le_of_ble_eq_true rfl) ?_
              refine s_iload_n C dL_areCarts_141 rfl rfl ?_
              obtain ⟨r5, I5, hh, h⟩ := bd_e h
              refine s_cV0 (st := []) C M.rg (Nat.le_trans (by decide) hd) mwX4_cartOf mlL_143 dL_areCarts_142 (wX4_cartOf (d := 3) (Nat.le_refl _)  hh) kk_0 rfl rfl (Nat.le_of_ble_eq_true rfl) ?_
              refine s_iload C dL_areCarts_145 rfl ?_
              refine s_icmp_ne (tgt := 154) C dL_areCarts_147 (by decide) (fun c => ?_) (fun c => ?_)
              · have h := it_f c h
                refine s_iconst C dL_areCarts_154 ic_0 ?_
                refine s_istore (ls' := [some (rfX X 0), some (.int x1), some (.int x2), some (.int x3), some (.int v1), some (.int v2), some (.int 0), some (.int x7), some (.int r3), some (.int 0)]) C dL_areCarts_155 (by decide) (Nat.le_of_ble_eq_true rfl) rfl rfl ?_
                obtain ⟨v3, ev3, h⟩ := ltm_e h
                refine s_iinc (v := v3) (ls' := [some (rfX X 0), some (.int x1), some (.int x2), some (.int x3), some (.int v1), some (.int v2), some (.int 0), some (.int v3), some (.int r3), some (.int 0)]) C dL_areCarts_157 rfl (by decide) (Nat.le_of_ble_eq_true rfl) (by rw [ev3, ic_1]) rfl rfl ?_
                refine s_goto (tgt := 53) C dL_areCarts_160 (by decide) ?_
                refine s_weak (ls' := [some (rfX X 0), some (.int x1), some (.int x2), some (.int x3), some (.int v1), some (.int v2), some (.int 0), some (.int v3), none, none]) [true, true, true, true, true, true, true, true, false, false] rfl ?_
                exact ih  h M
              · have h := it_t c h
                refine s_iconst C dL_areCarts_150 ic_1 ?_
                refine s_goto (tgt := 155) C dL_areCarts_151 (by decide) ?_
                refine s_istore (ls' := [some (rfX X 0), some (.int x1), some (.int x2), some (.int x3), some (.int v1), some (.int v2), some (.int 1), some (.int x7), some (.int r3), some (.int 0)]) C dL_areCarts_155 (by decide) (Nat.le_of_ble_eq_true rfl) rfl rfl ?_
                obtain ⟨v3, ev3, h⟩ := ltm_e h
                refine s_iinc (v := v3) (ls' := [some (rfX X 0), some (.int x1), some (.int x2), some (.int x3), some (.int v1), some (.int v2), some (.int 1), some (.int v3), some (.int r3), some (.int 0)]) C dL_areCarts_157 rfl (by decide) (Nat.le_of_ble_eq_true rfl) (by rw [ev3, ic_1]) rfl rfl ?_
                refine s_goto (tgt := 53) C dL_areCarts_160 (by decide) ?_
                refine s_weak (ls' := [some (rfX X 0), some (.int x1), some (.int x2), some (.int x3), some (.int v1), some (.int v2), some (.int 1), some (.int v3), none, none]) [true, true, true, true, true, true, true, true, false, false] rfl ?_
                exact ih  h M
            · have h := it_f c h
              refine s_iload C dL_areCarts_120 rfl ?_
              refine s_goto (tgt := 130) C dL_areCarts_122 (by decide) ?_
              refine s_istore (ls' := [some (rfX X 0), some (.int x1), some (.int x2), some (.int x3), some (.int v1), some (.int r3), some (.int x6), some (.int x7), some (.int r3), some (.int 0)]) C dL_areCarts_130 (by decide) (Nat.le_of_ble_eq_true rfl) rfl rfl ?_
              refine s_aload_n C dL_areCarts_132 rfl rfl ?_
              refine s_iload_n C dL_areCarts_133 rfl rfl ?_
              refine s_aload_n C dL_areCarts_134 rfl rfl ?_
              refine s_iload_n C dL_areCarts_135 rfl rfl ?_
              refine s_iload C dL_areCarts_136 rfl ?_
              obtain ⟨r4, I4, hh, h⟩ := bd_e h
              refine s_cV0 (st := [.int x1, rfX X 0]) C M.rg (Nat.le_trans (by decide) hd) mwX4_at mlL_37 dL_areCarts_138 (wX4_at (d := 2) (Nat.le_refl _)  hh) kk_0 rfl rfl (Nat.le_of_ble_eq_true rfl) ?_
              refine s_iload_n C dL_areCarts_141 rfl rfl ?_
              obtain ⟨r5, I5, hh, h⟩ := bd_e h
              refine s_cV0 (st := []) C M.rg (Nat.le_trans (by decide) hd) mwX4_cartOf mlL_143 dL_areCarts_142 (wX4_cartOf (d := 3) (Nat.le_refl _)  hh) kk_0 rfl rfl (Nat.le_of_ble_eq_true rfl) ?_
              refine s_iload C dL_areCarts_145 rfl ?_
              refine s_icmp_ne (tgt := 154) C dL_areCarts_147 (by decide) (fun c => ?_) (fun c => ?_)
              · have h := it_f c h
                refine s_iconst C dL_areCarts_154 ic_0 ?_
                refine s_istore (ls' := [some (rfX X 0), some (.int x1), some (.int x2), some (.int x3), some (.int v1), some (.int r3), some (.int 0), some (.int x7), some (.int r3), some (.int 0)]) C dL_areCarts_155 (by decide) (Nat.le_of_ble_eq_true rfl) rfl rfl ?_
                obtain ⟨v2, ev2, h⟩ := ltm_e h
                refine s_iinc (v := v2) (ls' := [some (rfX X 0), some (.int x1), some (.int x2), some (.int x3), some (.int v1), some (.int r3), some (.int 0), some (.int v2), some (.int r3), some (.int 0)]) C dL_areCarts_157 rfl (by decide) (Nat.le_of_ble_eq_true rfl) (by rw [ev2, ic_1]) rfl rfl ?_
                refine s_goto (tgt := 53) C dL_areCarts_160 (by decide) ?_
                refine s_weak (ls' := [some (rfX X 0), some (.int x1), some (.int x2), some (.int x3), some (.int v1), some (.int r3), some (.int 0), some (.int v2), none, none]) [true, true, true, true, true, true, true, true, false, false] rfl ?_
                exact ih  h M
              · have h := it_t c h
                refine s_iconst C dL_areCarts_150 ic_1 ?_
                refine s_goto (tgt := 155) C dL_areCarts_151 (by decide) ?_
                refine s_istore (ls' := [some (rfX X 0), some (.int x1), some (.int x2), some (.int x3), some (.int v1), some (.int r3), some (.int 1), some (.int x7), some (.int r3), some (.int 0)]) C dL_areCarts_155 (by decide) (Nat.le_of_ble_eq_true rfl) rfl rfl ?_
                obtain ⟨v2, ev2, h⟩ := ltm_e h
                refine s_iinc (v := v2) (ls' := [some (rfX X 0), some (.int x1), some (.int x2), some (.int x3), some (.int v1), some (.int r3), some (.int 1), some (.int v2), some (.int r3), some (.int 0)]) C dL_areCarts_157 rfl (by decide) (Nat.le_of_ble_eq_true rfl) (by rw [ev2, ic_1]) rfl rfl ?_
                refine s_goto (tgt := 53) C dL_areCarts_160 (by decide) ?_
                refine s_weak (ls' := [some (rfX X 0), some (.int x1), some (.int x2), some (.int x3), some (.int v1), some (.int r3), some (.int 1), some (.int v2), none, none]) [true, true, true, true, true, true, true, true, false, false] rfl ?_
                exact ih  h M
          · have h := it_f c h
            refine s_iconst C dL_areCarts_107 ic_1 ?_
            refine s_goto (tgt := 112) C dL_areCarts_108 (by decide) ?_
            refine s_iadd C dL_areCarts_112 ?_
            obtain ⟨v1, ev1, h⟩ := ltm_e h
            refine s_top_i ev1 ?_
            refine s_istore (ls' := [some (rfX X 0), some (.int x1), some (.int x2), some (.int x3), some (.int v1), some (.int x5), some (.int x6), some (.int x7), some (.int r3), some (.int 0)]) C dL_areCarts_113 (by decide) (Nat.le_of_ble_eq_true rfl) rfl rfl ?_
            refine s_iload C dL_areCarts_115 rfl ?_
            refine s_if_eq (tgt := 125) C dL_areCarts_117 (by decide) (fun c => ?_) (fun c => ?_)
            · have h := it_t c h
              refine s_iload C dL_areCarts_125 rfl ?_
              refine s_iload C dL_areCarts_127 rfl ?_
              refine s_iadd C dL_areCarts_129 ?_
              obtain ⟨v2, ev2, h⟩ := ltm_e h
              refine s_top_i ev2 ?_
              refine s_istore (ls' := [some (rfX X 0), some (.int x1), some (.int x2), some (.int x3), some (.int v1), some (.int v2), some (.int x6), some (.int x7), some (.int r3), some (.int 0)]) C dL_areCarts_130 (by decide) (Nat.le_of_ble_eq_true rfl) rfl rfl ?_
              refine s_aload_n C dL_areCarts_132 rfl rfl ?_
              refine s_iload_n C dL_areCarts_133 rfl rfl ?_
              refine s_aload_n C dL_areCarts_134 rfl rfl ?_
              refine s_iload_n C dL_areCarts_135 rfl rfl ?_
              refine s_iload C dL_areCarts_136 rfl ?_
              obtain ⟨r4, I4, hh, h⟩ := bd_e h
              refine s_cV0 (st := [.int x1, rfX X 0]) C M.rg (Nat.le_trans (by decide) hd) mwX4_at mlL_37 dL_areCarts_138 (wX4_at (d := 2) (Nat.le_refl _)  hh) kk_0 rfl rfl (Nat.le_of_ble_eq_true rfl) ?_
              refine s_iload_n C dL_areCarts_141 rfl rfl ?_
              obtain ⟨r5, I5, hh, h⟩ := bd_e h
              refine s_cV0 (st := []) C M.rg (Nat.le_trans (by decide) hd) mwX4_cartOf mlL_143 dL_areCarts_142 (wX4_cartOf (d := 3) (Nat.le_refl _)  hh) kk_0 rfl rfl (Nat.le_of_ble_eq_true rfl) ?_
              refine s_iload C dL_areCarts_145 rfl ?_
              refine s_icmp_ne (tgt := 154) C dL_areCarts_147 (by decide) (fun c => ?_) (fun c => ?_)
              · have h := it_f c h
                refine s_iconst C dL_areCarts_154 ic_0 ?_
                refine s_istore (ls' := [some (rfX X 0), some (.int x1), some (.int x2), some (.int x3), some (.int v1), some (.int v2), some (.int 0), some (.int x7), some (.int r3), some (.int 0)]) C dL_areCarts_155 (by decide) (Nat.le_of_ble_eq_true rfl) rfl rfl ?_
                obtain ⟨v3, ev3, h⟩ := ltm_e h
                refine s_iinc (v := v3) (ls' := [some (rfX X 0), some (.int x1), some (.int x2), some (.int x3), some (.int v1), some (.int v2), some (.int 0), some (.int v3), some (.int r3), some (.int 0)]) C dL_areCarts_157 rfl (by decide) (Nat.le_of_ble_eq_true rfl) (by rw [ev3, ic_1]) rfl rfl ?_
                refine s_goto (tgt := 53) C dL_areCarts_160 (by decide) ?_
                refine s_weak (ls' := [some (rfX X 0), some (.int x1), some (.int x2), some (.int x3), some (.int v1), some (.int v2), some (.int 0), some (.int v3), none, none]) [true, true, true, true, true, true, true, true, false, false] rfl ?_
                exact ih  h M
              · have h := it_t c h
                refine s_iconst C dL_areCarts_150 ic_1 ?_
                refine s_goto (tgt := 155) C dL_areCarts_151 (by decide) ?_
                refine s_istore (ls' := [some (rfX X 0), some (.int x1), some (.int x2), some (.int x3), some (.int v1), some (.int v2), some (.int 1), some (.int x7), some (.int r3), some (.int 0)]) C dL_areCarts_155 (by decide) (Nat.le_of_ble_eq_true rfl) rfl rfl ?_
                obtain ⟨v3, ev3, h⟩ := ltm_e h
                refine s_iinc (v := v3) (ls' := [some (rfX X 0), some (.int x1), some (.int x2), some (.int x3), some (.int v1), some (.int v2), some (.int 1), some (.int v3), some (.int r3), some (.int 0)]) C dL_areCarts_157 rfl (by decide) (Nat.le_of_ble_eq_true rfl) (by rw [ev3, ic_1]) rfl rfl ?_
                refine s_goto (tgt := 53) C dL_areCarts_160 (by decide) ?_
                refine s_weak (ls' := [some (rfX X 0), some (.int x1), some (.int x2), some (.int x3), some (.int v1), some (.int v2), some (.int 1), some (.int v3), none, none]) [true, true, true, true, true, true, true, true, false, false] rfl ?_
                exact ih  h M
            · have h := it_f c h
              refine s_iload C dL_areCarts_120 rfl ?_
              refine s_goto (tgt := 130) C dL_areCarts_122 (by decide) ?_
              refine s_istore (ls' := [some (rfX X 0), some (.int x1), some (.int x2), some (.int x3), some (.int v1), some (.int r3), some (.int x6), some (.int x7), some (.int r3), some (.int 0)]) C dL_areCarts_130 (by decide) (Nat.le_of_ble_eq_true rfl) rfl rfl ?_
              refine s_aload_n C dL_areCarts_132 rfl rfl ?_
              refine s_iload_n C dL_areCarts_133 rfl rfl ?_
              refine s_aload_n C dL_areCarts_134 rfl rfl ?_
              refine s_iload_n C dL_areCarts_135 rfl rfl ?_
              refine s_iload C dL_areCarts_136 rfl ?_
              obtain ⟨r4, I4, hh, h⟩ := bd_e h
              refine s_cV0 (st := [.int x1, rfX X 0]) C M.rg (Nat.le_trans (by decide) hd) mwX4_at mlL_37 dL_areCarts_138 (wX4_at (d := 2) (Nat.le_refl _)  hh) kk_0 rfl rfl (Nat.le_of_ble_eq_true rfl) ?_
              refine s_iload_n C dL_areCarts_141 rfl rfl ?_
              obtain ⟨r5, I5, hh, h⟩ := bd_e h
              refine s_cV0 (st := []) C M.rg (Nat.le_trans (by decide) hd) mwX4_cartOf mlL_143 dL_areCarts_142 (wX4_cartOf (d := 3) (Nat.le_refl _)  hh) kk_0 rfl rfl (Nat.le_of_ble_eq_true rfl) ?_
              refine s_iload C dL_areCarts_145 rfl ?_
              refine s_icmp_ne (tgt := 154) C dL_areCarts_147 (by decide) (fun c => ?_) (fun c => ?_)
              · have h := it_f c h
                refine s_iconst C dL_areCarts_154 ic_0 ?_
                refine s_istore (ls' := [some (rfX X 0), some (.int x1), some (.int x2), some (.int x3), some (.int v1), some (.int r3), some (.int 0), some (.int x7), some (.int r3), some (.int 0)]) C dL_areCarts_155 (by decide) (Nat.le_of_ble_eq_true rfl) rfl rfl ?_
                obtain ⟨v2, ev2, h⟩ := ltm_e h
                refine s_iinc (v := v2) (ls' := [some (rfX X 0), some (.int x1), some (.int x2), some (.int x3), some (.int v1), some (.int r3), some (.int 0), some (.int v2), some (.int r3), some (.int 0)]) C dL_areCarts_157 rfl (by decide) (Nat.le_of_ble_eq_true rfl) (by rw [ev2, ic_1]) rfl rfl ?_
                refine s_goto (tgt := 53) C dL_areCarts_160 (by decide) ?_
                refine s_weak (ls' := [some (rfX X 0), some (.int x1), some (.int x2), some (.int x3), some (.int v1), some (.int r3), some (.int 0), some (.int v2), none, none]) [true, true, true, true, true, true, true, true, false, false] rfl ?_
                exact ih  h M
              · have h := it_t c h
                refine s_iconst C dL_areCarts_150 ic_1 ?_
                refine s_goto (tgt := 155) C dL_areCarts_151 (by decide) ?_
                refine s_istore (ls' := [some (rfX X 0), some (.int x1), some (.int x2), some (.int x3), some (.int v1), some (.int r3), some (.int 1), some (.int x7), some (.int r3), some (.int 0)]) C dL_areCarts_155 (by decide) (Nat.le_of_ble_eq_true rfl) rfl rfl ?_
                obtain ⟨v2, ev2, h⟩ := ltm_e h
                refine s_iinc (v := v2) (ls' := [some (rfX X 0), some (.int x1), some (.int x2), some (.int x3), some (.int v1), some (.int r3), some (.int 1), some (.int v2), some (.int r3), some (.int 0)]) C dL_areCarts_157 rfl (by decide) (Nat.le_of_ble_eq_true rfl) (by rw [ev2, ic_1]) rfl rfl ?_
                refine s_goto (tgt := 53) C dL_areCarts_160 (by decide) ?_
                refine s_weak (ls' := [some (rfX X 0), some (.int x1), some (.int x2), some (.int x3), some (.int v1), some (.int r3), some (.int 1), some (.int v2), none, none]) [true, true, true, true, true, true, true, true, false, false] rfl ?_
                exact ih  h M
        · have h := it_f c h
          refine s_iconst C dL_areCarts_93 ic_1 ?_
          refine s_goto (tgt := 98) C dL_areCarts_94 (by decide) ?_
          refine s_istore (ls' := [some (rfX X 0), some (.int x1), some (.int x2), some (.int x3), some (.int x4), some (.int x5), some (.int x6), some (.int x7), some (.int r3), some (.int 1)]) C dL_areCarts_98 (by decide) (Nat.le_of_ble_eq_true rfl) rfl rfl ?_
          refine s_iload C dL_areCarts_100 rfl ?_
          refine s_iload C dL_areCarts_102 rfl ?_
          refine s_if_eq (tgt := 111) C dL_areCarts_104 (by decide) (fun c => ?_) (fun c => ?_)
          · have h := it_t c h
            refine s_iconst C dL_areCarts_111 ic_0 ?_
            refine s_iadd C dL_areCarts_112 ?_
            obtain ⟨v1, ev1, h⟩ := ltm_e h
            refine s_top_i ev1 ?_
            refine s_istore (ls' := [some (rfX X 0), some (.int x1), some (.int x2), some (.int x3), some (.int v1), some (.int x5), some (.int x6), some (.int x7), some (.int r3), some (.int 1)]) C dL_areCarts_113 (by decide) (Nat.le_of_ble_eq_true rfl) rfl rfl ?_
            refine s_iload C dL_areCarts_115 rfl ?_
            refine s_if_eq (tgt := 125) C dL_areCarts_117 (by decide) (fun c => ?_) (fun c => ?_)
            · have h := it_t c h
              refine s_iload C dL_areCarts_125 rfl ?_
              refine s_iload C dL_areCarts_127 rfl ?_
              refine s_iadd C dL_areCarts_129 ?_
              obtain ⟨v2, ev2, h⟩ := ltm_e h
              refine s_top_i ev2 ?_
              refine s_istore (ls' := [some (rfX X 0), some (.int x1), some (.int x2), some (.int x3), some (.int v1), some (.int v2), some (.int x6), some (.int x7), some (.int r3), some (.int 1)]) C dL_areCarts_130 (by decide) (Nat.le_of_ble_eq_true rfl) rfl rfl ?_
              refine s_aload_n C dL_areCarts_132 rfl rfl ?_
              refine s_iload_n C dL_areCarts_133 rfl rfl ?_
              refine s_aload_n C dL_areCarts_134 rfl rfl ?_
              refine s_iload_n C dL_areCarts_135 rfl rfl ?_
              refine s_iload C dL_areCarts_136 rfl ?_
              obtain ⟨r4, I4, hh, h⟩ := bd_e h
              refine s_cV0 (st := [.int x1, rfX X 0]) C M.rg (Nat.le_trans (by decide) hd) mwX4_at mlL_37 dL_areCarts_138 (wX4_at (d := 2) (Nat.le_refl _)  hh) kk_0 rfl rfl (Nat.le_of_ble_eq_true rfl) ?_
              refine s_iload_n C dL_areCarts_141 rfl rfl ?_
              obtain ⟨r5, I5, hh, h⟩ := bd_e h
              refine s_cV0 (st := []) C M.rg (Nat.le_trans (by decide) hd) mwX4_cartOf mlL_143 dL_areCarts_142 (wX4_cartOf (d := 3) (Nat.le_refl _)  hh) kk_0 rfl rfl (Nat.le_of_ble_eq_true rfl) ?_
              refine s_iload C dL_areCarts_145 rfl ?_
              refine s_icmp_ne (tgt := 154) C dL_areCarts_147 (by decide) (fun c => ?_) (fun c => ?_)
              · have h := it_f c h
                refine s_iconst C dL_areCarts_154 ic_0 ?_
                refine s_istore (ls' := [some (rfX X 0), some (.int x1), some (.int x2), some (.int x3), some (.int v1), some (.int v2), some (.int 0), some (.int x7), some (.int r3), some (.int 1)]) C dL_areCarts_155 (by decide) (Nat.le_of_ble_eq_true rfl) rfl rfl ?_
                obtain ⟨v3, ev3, h⟩ := ltm_e h
                refine s_iinc (v := v3) (ls' := [some (rfX X 0), some (.int x1), some (.int x2), some (.int x3), some (.int v1), some (.int v2), some (.int 0), some (.int v3), some (.int r3), some (.int 1)]) C dL_areCarts_157 rfl (by decide) (Nat.le_of_ble_eq_true rfl) (by rw [ev3, ic_1]) rfl rfl ?_
                refine s_goto (tgt := 53) C dL_areCarts_160 (by decide) ?_
                refine s_weak (ls' := [some (rfX X 0), some (.int x1), some (.int x2), some (.int x3), some (.int v1), some (.int v2), some (.int 0), some (.int v3), none, none]) [true, true, true, true, true, true, true, true, false, false] rfl ?_
                exact ih  h M
              · have h := it_t c h
                refine s_iconst C dL_areCarts_150 ic_1 ?_
                refine s_goto (tgt := 155) C dL_areCarts_151 (by decide) ?_
                refine s_istore (ls' := [some (rfX X 0), some (.int x1), some (.int x2), some (.int x3), some (.int v1), some (.int v2), some (.int 1), some (.int x7), some (.int r3), some (.int 1)]) C dL_areCarts_155 (by decide) (Nat.le_of_ble_eq_true rfl) rfl rfl ?_
                obtain ⟨v3, ev3, h⟩ := ltm_e h
                refine s_iinc (v := v3) (ls' := [some (rfX X 0), some (.int x1), some (.int x2), some (.int x3), some (.int v1), some (.int v2), some (.int 1), some (.int v3), some (.int r3), some (.int 1)]) C dL_areCarts_157 rfl (by decide) (Nat.le_of_ble_eq_true rfl) (by rw [ev3, ic_1]) rfl rfl ?_
                refine s_goto (tgt := 53) C dL_areCarts_160 (by decide) ?_
                refine s_weak (ls' := [some (rfX X 0), some (.int x1), some (.int x2), some (.int x3), some (.int v1), some (.int v2), some (.int 1), some (.int v3), none, none]) [true, true, true, true, true, true, true, true, false, false] rfl ?_
                exact ih  h M
            · have h := it_f c h
              refine s_iload C dL_areCarts_120 rfl ?_
              refine s_goto (tgt := 130) C dL_areCarts_122 (by decide) ?_
              refine s_istore (ls' := [some (rfX X 0), some (.int x1), some (.int x2), some (.int x3), some (.int v1), some (.int r3), some (.int x6), some (.int x7), some (.int r3), some (.int 1)]) C dL_areCarts_130 (by decide) (Nat.le_of_ble_eq_true rfl) rfl rfl ?_
              refine s_aload_n C dL_areCarts_132 rfl rfl ?_
              refine s_iload_n C dL_areCarts_133 rfl rfl ?_
              refine s_aload_n C dL_areCarts_134 rfl rfl ?_
              refine s_iload_n C dL_areCarts_135 rfl rfl ?_
              refine s_iload C dL_areCarts_136 rfl ?_
              obtain ⟨r4, I4, hh, h⟩ := bd_e h
              refine s_cV0 (st := [.int x1, rfX X 0]) C M.rg (Nat.le_trans (by decide) hd) mwX4_at mlL_37 dL_areCarts_138 (wX4_at (d := 2) (Nat.le_refl _)  hh) kk_0 rfl rfl (Nat.le_of_ble_eq_true rfl) ?_
              refine s_iload_n C dL_areCarts_141 rfl rfl ?_
              obtain ⟨r5, I5, hh, h⟩ := bd_e h
              refine s_cV0 (st := []) C M.rg (Nat.le_trans (by decide) hd) mwX4_cartOf mlL_143 dL_areCarts_142 (wX4_cartOf (d := 3) (Nat.le_refl _)  hh) kk_0 rfl rfl (Nat.le_of_ble_eq_true rfl) ?_
              refine s_iload C dL_areCarts_145 rfl ?_
              refine s_icmp_ne (tgt := 154) C dL_areCarts_147 (by decide) (fun c => ?_) (fun c => ?_)
              · have h := it_f c h
                refine s_iconst C dL_areCarts_154 ic_0 ?_
                refine s_istore (ls' := [some (rfX X 0), some (.int x1), some (.int x2), some (.int x3), some (.int v1), some (.int r3), some (.int 0), some (.int x7), some (.int r3), some (.int 1)]) C dL_areCarts_155 (by decide) (Nat.le_of_ble_eq_true rfl) rfl rfl ?_
                obtain ⟨v2, ev2, h⟩ := ltm_e h
                refine s_iinc (v := v2) (ls' := [some (rfX X 0), some (.int x1), some (.int x2), some (.int x3), some (.int v1), some (.int r3), some (.int 0), some (.int v2), some (.int r3), some (.int 1)]) C dL_areCarts_157 rfl (by decide) (Nat.le_of_ble_eq_true rfl) (by rw [ev2, ic_1]) rfl rfl ?_
                refine s_goto (tgt := 53) C dL_areCarts_160 (by decide) ?_
                refine s_weak (ls' := [some (rfX X 0), some (.int x1), some (.int x2), some (.int x3), some (.int v1), some (.int r3), some (.int 0), some (.int v2), none, none]) [true, true, true, true, true, true, true, true, false, false] rfl ?_
                exact ih  h M
              · have h := it_t c h
                refine s_iconst C dL_areCarts_150 ic_1 ?_
                refine s_goto (tgt := 155) C dL_areCarts_151 (by decide) ?_
                refine s_istore (ls' := [some (rfX X 0), some (.int x1), some (.int x2), some (.int x3), some (.int v1), some (.int r3), some (.int 1), some (.int x7), some (.int r3), some (.int 1)]) C dL_areCarts_155 (by decide) (Nat.le_of_ble_eq_true rfl) rfl rfl ?_
                obtain ⟨v2, ev2, h⟩ := ltm_e h
                refine s_iinc (v := v2) (ls' := [some (rfX X 0), some (.int x1), some (.int x2), some (.int x3), some (.int v1), some (.int r3), some (.int 1), some (.int v2), some (.int r3), some (.int 1)]) C dL_areCarts_157 rfl (by decide) (Nat.le_of_ble_eq_true rfl) (by rw [ev2, ic_1]) rfl rfl ?_
                refine s_goto (tgt := 53) C dL_areCarts_160 (by decide) ?_
                refine s_weak (ls' := [some (rfX X 0), some (.int x1), some (.int x2), some (.int x3), some (.int v1), some (.int r3), some (.int 1), some (.int v2), none, none]) [true, true, true, true, true, true, true, true, false, false] rfl ?_
                exact ih  h M
          · have h := it_f c h
            refine s_iconst C dL_areCarts_107 ic_1 ?_
            refine s_goto (tgt := 112) C dL_areCarts_108 (by decide) ?_
            refine s_iadd C dL_areCarts_112 ?_
            obtain ⟨v1, ev1, h⟩ := ltm_e h
            refine s_top_i ev1 ?_
            refine s_istore (ls' := [some (rfX X 0), some (.int x1), some (.int x2), some (.int x3), some (.int v1), some (.int x5), some (.int x6), some (.int x7), some (.int r3), some (.int 1)]) C dL_areCarts_113 (by decide) (Nat.le_of_ble_eq_true rfl) rfl rfl ?_
            refine s_iload C dL_areCarts_115 rfl ?_
            refine s_if_eq (tgt := 125) C dL_areCarts_117 (by decide) (fun c => ?_) (fun c => ?_)
            · have h := it_t c h
              refine s_iload C dL_areCarts_125 rfl ?_
              refine s_iload C dL_areCarts_127 rfl ?_
              refine s_iadd C dL_areCarts_129 ?_
              obtain ⟨v2, ev2, h⟩ := ltm_e h
              refine s_top_i ev2 ?_
              refine s_istore (ls' := [some (rfX X 0), some (.int x1), some (.int x2), some (.int x3), some (.int v1), some (.int v2), some (.int x6), some (.int x7), some (.int r3), some (.int 1)]) C dL_areCarts_130 (by decide) (Nat.le_of_ble_eq_true rfl) rfl rfl ?_
              refine s_aload_n C dL_areCarts_132 rfl rfl ?_
              refine s_iload_n C dL_areCarts_133 rfl rfl ?_
              refine s_aload_n C dL_areCarts_134 rfl rfl ?_
              refine s_iload_n C dL_areCarts_135 rfl rfl ?_
              refine s_iload C dL_areCarts_136 rfl ?_
              obtain ⟨r4, I4, hh, h⟩ := bd_e h
              refine s_cV0 (st := [.int x1, rfX X 0]) C M.rg (Nat.le_trans (by decide) hd) mwX4_at mlL_37 dL_areCarts_138 (wX4_at (d := 2) (Nat.le_refl _)  hh) kk_0 rfl rfl (Nat.le_of_ble_eq_true rfl) ?_
              refine s_iload_n C dL_areCarts_141 rfl rfl ?_
              obtain ⟨r5, I5, hh, h⟩ := bd_e h
              refine s_cV0 (st := []) C M.rg (Nat.le_trans (by decide) hd) mwX4_cartOf mlL_143 dL_areCarts_142 (wX4_cartOf (d := 3) (Nat.le_refl _)  hh) kk_0 rfl rfl (Nat.le_of_ble_eq_true rfl) ?_
              refine s_iload C dL_areCarts_145 rfl ?_
              refine s_icmp_ne (tgt := 154) C dL_areCarts_147 (by decide) (fun c => ?_) (fun c => ?_)
              · have h := it_f c h
                refine s_iconst C dL_areCarts_154 ic_0 ?_
                refine s_istore (ls' := [some (rfX X 0), some (.int x1), some (.int x2), some (.int x3), some (.int v1), some (.int v2), some (.int 0), some (.int x7), some (.int r3), some (.int 1)]) C dL_areCarts_155 (by decide) (Nat.le_of_ble_eq_true rfl) rfl rfl ?_
                obtain ⟨v3, ev3, h⟩ := ltm_e h
                refine s_iinc (v := v3) (ls' := [some (rfX X 0), some (.int x1), some (.int x2), some (.int x3), some (.int v1), some (.int v2), some (.int 0), some (.int v3), some (.int r3), some (.int 1)]) C dL_areCarts_157 rfl (by decide) (Nat.le_of_ble_eq_true rfl) (by rw [ev3, ic_1]) rfl rfl ?_
                refine s_goto (tgt := 53) C dL_areCarts_160 (by decide) ?_
                refine s_weak (ls' := [some (rfX X 0), some (.int x1), some (.int x2), some (.int x3), some (.int v1), some (.int v2), some (.int 0), some (.int v3), none, none]) [true, true, true, true, true, true, true, true, false, false] rfl ?_
                exact ih  h M
              · have h := it_t c h
                refine s_iconst C dL_areCarts_150 ic_1 ?_
                refine s_goto (tgt := 155) C dL_areCarts_151 (by decide) ?_
                refine s_istore (ls' := [some (rfX X 0), some (.int x1), some (.int x2), some (.int x3), some (.int v1), some (.int v2), some (.int 1), some (.int x7), some (.int r3), some (.int 1)]) C dL_areCarts_155 (by decide) (Nat.le_of_ble_eq_true rfl) rfl rfl ?_
                obtain ⟨v3, ev3, h⟩ := ltm_e h
                refine s_iinc (v := v3) (ls' := [some (rfX X 0), some (.int x1), some (.int x2), some (.int x3), some (.int v1), some (.int v2), some (.int 1), some (.int v3), some (.int r3), some (.int 1)]) C dL_areCarts_157 rfl (by decide) (Nat.le_of_ble_eq_true rfl) (by rw [ev3, ic_1]) rfl rfl ?_
                refine s_goto (tgt := 53) C dL_areCarts_160 (by decide) ?_
                refine s_weak (ls' := [some (rfX X 0), some (.int x1), some (.int x2), some (.int x3), some (.int v1), some (.int v2), some (.int 1), some (.int v3), none, none]) [true, true, true, true, true, true, true, true, false, false] rfl ?_
                exact ih  h M
            · have h := it_f c h
              refine s_iload C dL_areCarts_120 rfl ?_
              refine s_goto (tgt := 130) C dL_areCarts_122 (by decide) ?_
              refine s_istore (ls' := [some (rfX X 0), some (.int x1), some (.int x2), some (.int x3), some (.int v1), some (.int r3), some (.int x6), some (.int x7), some (.int r3), some (.int 1)]) C dL_areCarts_130 (by decide) (Nat.le_of_ble_eq_true rfl) rfl rfl ?_
              refine s_aload_n C dL_areCarts_132 rfl rfl ?_
              refine s_iload_n C dL_areCarts_133 rfl rfl ?_
              refine s_aload_n C dL_areCarts_134 rfl rfl ?_
              refine s_iload_n C dL_areCarts_135 rfl rfl ?_
              refine s_iload C dL_areCarts_136 rfl ?_
              obtain ⟨r4, I4, hh, h⟩ := bd_e h
              refine s_cV0 (st := [.int x1, rfX X 0]) C M.rg (Nat.le_trans (by decide) hd) mwX4_at mlL_37 dL_areCarts_138 (wX4_at (d := 2) (Nat.le_refl _)  hh) kk_0 rfl rfl (Nat.le_of_ble_eq_true rfl) ?_
              refine s_iload_n C dL_areCarts_141 rfl rfl ?_
              obtain ⟨r5, I5, hh, h⟩ := bd_e h
              refine s_cV0 (st := []) C M.rg (Nat.le_trans (by decide) hd) mwX4_cartOf mlL_143 dL_areCarts_142 (wX4_cartOf (d := 3) (Nat.le_refl _)  hh) kk_0 rfl rfl (Nat.le_of_ble_eq_true rfl) ?_
              refine s_iload C dL_areCarts_145 rfl ?_
              refine s_icmp_ne (tgt := 154) C dL_areCarts_147 (by decide) (fun c => ?_) (fun c => ?_)
              · have h := it_f c h
                refine s_iconst C dL_areCarts_154 ic_0 ?_
                refine s_istore (ls' := [some (rfX X 0), some (.int x1), some (.int x2), some (.int x3), some (.int v1), some (.int r3), some (.int 0), some (.int x7), some (.int r3), some (.int 1)]) C dL_areCarts_155 (by decide) (Nat.le_of_ble_eq_true rfl) rfl rfl ?_
                obtain ⟨v2, ev2, h⟩ := ltm_e h
                refine s_iinc (v := v2) (ls' := [some (rfX X 0), some (.int x1), some (.int x2), some (.int x3), some (.int v1), some (.int r3), some (.int 0), some (.int v2), some (.int r3), some (.int 1)]) C dL_areCarts_157 rfl (by decide) (Nat.le_of_ble_eq_true rfl) (by rw [ev2, ic_1]) rfl rfl ?_
                refine s_goto (tgt := 53) C dL_areCarts_160 (by decide) ?_
                refine s_weak (ls' := [some (rfX X 0), some (.int x1), some (.int x2), some (.int x3), some (.int v1), some (.int r3), some (.int 0), some (.int v2), none, none]) [true, true, true, true, true, true, true, true, false, false] rfl ?_
                exact ih  h M
              · have h := it_t c h
                refine s_iconst C dL_areCarts_150 ic_1 ?_
                refine s_goto (tgt := 155) C dL_areCarts_151 (by decide) ?_
                refine s_istore (ls' := [some (rfX X 0), some (.int x1), some (.int x2), some (.int x3), some (.int v1), some (.int r3), some (.int 1), some (.int x7), some (.int r3), some (.int 1)]) C dL_areCarts_155 (by decide) (Nat.le_of_ble_eq_true rfl) rfl rfl ?_
                obtain ⟨v2, ev2, h⟩ := ltm_e h
                refine s_iinc (v := v2) (ls' := [some (rfX X 0), some (.int x1), some (.int x2), some (.int x3), some (.int v1), some (.int r3), some (.int 1), some (.int v2), some (.int r3), some (.int 1)]) C dL_areCarts_157 rfl (by decide) (Nat.le_of_ble_eq_true rfl) (by rw [ev2, ic_1]) rfl rfl ?_
                refine s_goto (tgt := 53) C dL_areCarts_160 (by decide) ?_
                refine s_weak (ls' := [some (rfX X 0), some (.int x1), some (.int x2), some (.int x3), some (.int v1), some (.int r3), some (.int 1), some (.int v2), none, none]) [true, true, true, true, true, true, true, true, false, false] rfl ?_
                exact ih  h M
