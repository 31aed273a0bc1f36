theorem wX1_above {E : Ev} {d : Nat} (hd : 3 ≤ d) {x0 : Nat} {x1 : Int32} {I I' : Mm} {r : Int32} (hx0 : kd0 x0 = 1) (h : fX1_above x0 x1 I = some (r, I')) : SemM E d 0 0 mX1_above [rfE E x0, .int x1] S0 I (some (.int r)) S0 I' := by
  unfold fX1_above at h
  refine SemM.ofX (E := E) (y := mX1_above) (args := fun E => [rfE E x0, .int x1]) (r := fun E => (some (.int r))) (fun E => [some (rfE E x0), some (.int x1), none, none, none]) (by decide +kernel) (Nat.le_of_ble_eq_true rfl) rfl (fun X C M => ?_)
  refine s_aload_n C dX1_above_0 rfl rfl ?_
  refine s_iload_n C dX1_above_1 rfl rfl ?_
  obtain ⟨r1, I1, hh, h⟩ := bd_e h
  refine s_cV0 (st := []) C M.rg (Nat.le_trans (by decide) hd) mwX1_firstOf mlX1_38 dX1_above_2 (wX1_firstOf (d := 2) (Nat.le_refl _) hx0 hh) hx0 rfl rfl (Nat.le_of_ble_eq_true rfl) ?_
  refine s_iconst C dX1_above_5 ic_1 ?_
  refine s_isub C dX1_above_6 ?_
  obtain ⟨v1, ev1, h⟩ := ltm_e h
  refine s_top_i ev1 ?_
  refine s_istore_n (ls' := [some (rfX X x0), some (.int x1), some (.int v1), none, none]) C dX1_above_7 rfl (by decide) (Nat.le_of_ble_eq_true rfl) rfl rfl ?_
  refine s_aload_n C dX1_above_8 rfl rfl ?_
  refine s_iload_n C dX1_above_9 rfl rfl ?_
  obtain ⟨r2, I2, hh, h⟩ := bd_e h
  refine s_cV0 (st := []) C M.rg (Nat.le_trans (by decide) hd) mwX1_lastOf mlX1_41 dX1_above_10 (wX1_lastOf (d := 2) (Nat.le_refl _) hx0 hh) hx0 rfl rfl (Nat.le_of_ble_eq_true rfl) ?_
  refine s_iconst C dX1_above_13 ic_1 ?_
  refine s_iadd C dX1_above_14 ?_
  obtain ⟨v2, ev2, h⟩ := ltm_e h
  refine s_top_i ev2 ?_
  refine s_istore_n (ls' := [some (rfX X x0), some (.int x1), some (.int v1), some (.int v2), none]) C dX1_above_15 rfl (by decide) (Nat.le_of_ble_eq_true rfl) rfl rfl ?_
  refine s_aload_n C dX1_above_16 rfl rfl ?_
  refine s_iload_n C dX1_above_17 rfl rfl ?_
  obtain ⟨r3, I3, hh, h⟩ := bd_e h
  refine s_cV0 (st := []) C M.rg (Nat.le_trans (by decide) hd) mwX1_depthAt mlX1_29 dX1_above_18 (wX1_depthAt (d := 1) (Nat.le_refl _) hx0 hh) hx0 rfl rfl (Nat.le_of_ble_eq_true rfl) ?_
  refine s_aload_n C dX1_above_21 rfl rfl ?_
  refine s_iload_n C dX1_above_22 rfl rfl ?_
  obtain ⟨r4, I4, hh, h⟩ := bd_e h
  refine s_cV0 (st := [.int r3]) C M.rg (Nat.le_trans (by decide) hd) mwX1_depthAt mlX1_29 dX1_above_23 (wX1_depthAt (d := 1) (Nat.le_refl _) hx0 hh) hx0 rfl rfl (Nat.le_of_ble_eq_true rfl) ?_
  refine s_icmp_le (tgt := 33) C dX1_above_26 (by decide) (fun c => ?_) (fun c => ?_)
  · have h := it_t c h
    refine s_iload_n C dX1_above_33 rfl rfl ?_
    refine s_istore (ls' := [some (rfX X x0), some (.int x1), some (.int v1), some (.int v2), some (.int v2)]) C dX1_above_34 (by decide) (Nat.le_of_ble_eq_true rfl) rfl rfl ?_
    refine s_aload_n C dX1_above_36 rfl rfl ?_
    refine s_iload C dX1_above_37 rfl ?_
    obtain ⟨r5, I5, hh, h⟩ := bd_e h
    refine s_cV0 (st := []) C M.rg (Nat.le_trans (by decide) hd) mwX1_isPlace mlX1_44 dX1_above_39 (wX1_isPlace (d := 1) (Nat.le_refl _) hx0 hh) hx0 rfl rfl (Nat.le_of_ble_eq_true rfl) ?_
    refine s_if_eq (tgt := 50) C dX1_above_42 (by decide) (fun c => ?_) (fun c => ?_)
    · have h := it_t c h
      refine s_iconst C dX1_above_50 ic_m1 ?_
      obtain ⟨rfl, rfl⟩ := pr_e h
      exact s_iret C M dX1_above_51 rfl rfl (Nat.le_refl 0) (Nat.le_refl 0)
    · have h := it_f c h
      refine s_iload C dX1_above_45 rfl ?_
      refine s_goto (tgt := 51) C dX1_above_47 (by decide) ?_
      obtain ⟨rfl, rfl⟩ := pr_e h
      exact s_iret C M dX1_above_51 rfl rfl (Nat.le_refl 0) (Nat.le_refl 0)
  · have h := it_f c h
    refine s_iload_n C dX1_above_29 rfl rfl ?_
    refine s_goto (tgt := 34) C dX1_above_30 (by decide) ?_
    refine s_istore (ls' := [some (rfX X x0), some (.int x1), some (.int v1), some (.int v2), some (.int v1)]) C dX1_above_34 (by decide) (Nat.le_of_ble_eq_true rfl) rfl rfl ?_
    refine s_aload_n C dX1_above_36 rfl rfl ?_
    refine s_iload C dX1_above_37 rfl ?_
    obtain ⟨r5, I5, hh, h⟩ := bd_e h
    refine s_cV0 (st := []) C M.rg (Nat.le_trans (by decide) hd) mwX1_isPlace mlX1_44 dX1_above_39 (wX1_isPlace (d := 1) (Nat.le_refl _) hx0 hh) hx0 rfl rfl (Nat.le_of_ble_eq_true rfl) ?_
    refine s_if_eq (tgt := 50) C dX1_above_42 (by decide) (fun c => ?_) (fun c => ?_)
    · have h := it_t c h
      refine s_iconst C dX1_above_50 ic_m1 ?_
      obtain ⟨rfl, rfl⟩ := pr_e h
      exact s_iret C M dX1_above_51 rfl rfl (Nat.le_refl 0) (Nat.le_refl 0)
    · have h := it_f c h
      refine s_iload C dX1_above_45 rfl ?_
      refine s_goto (tgt := 51) C dX1_above_47 (by decide) ?_
      obtain ⟨rfl, rfl⟩ := pr_e h
      exact s_iret C M dX1_above_51 rfl rfl (Nat.le_refl 0) (Nat.le_refl 0)
theorem wX1_leans {E : Ev} {d : Nat} (hd : 3 ≤ d) {x0 : Nat} {x1 : Int32} {x2 : Int32} {I I' : Mm} {r : Int32} (hx0 : kd0 x0 = 1) (h : fX1_leans x0 x1 x2 I = some (r, I')) : SemM E d 0 0 mX1_leans [rfE E x0, .int x1, .int x2] S0 I (some (.int r)) S0 I' := by
  unfold fX1_leans at h
  refine SemM.ofX (E := E) (y := mX1_leans) (args := fun E => [rfE E x0, .int x1, .int x2]) (r := fun E => (some (.int r))) (fun E => [some (rfE E x0), some (.int x1), some (.int x2), none, none, none]) (by decide +kernel) (Nat.le_of_ble_eq_true rfl) rfl (fun X C M => ?_)
  refine s_aload_n C dX1_leans_0 rfl rfl ?_
  refine s_iload_n C dX1_leans_1 rfl rfl ?_
  obtain ⟨r1, I1, hh, h⟩ := bd_e h
  refine s_cV0 (st := []) C M.rg (Nat.le_trans (by decide) hd) mwX1_firstOf mlX1_38 dX1_leans_2 (wX1_firstOf (d := 2) (Nat.le_refl _) hx0 hh) hx0 rfl rfl (Nat.le_of_ble_eq_true rfl) ?_
  refine s_istore_n (ls' := [some (rfX X x0), some (.int x1), some (.int x2), some (.int r1), none, none]) C dX1_leans_5 rfl (by decide) (Nat.le_of_ble_eq_true rfl) rfl rfl ?_
  refine s_aload_n C dX1_leans_6 rfl rfl ?_
  refine s_iload_n C dX1_leans_7 rfl rfl ?_
  obtain ⟨r2, I2, hh, h⟩ := bd_e h
  refine s_cV0 (st := []) C M.rg (Nat.le_trans (by decide) hd) mwX1_lastOf mlX1_41 dX1_leans_8 (wX1_lastOf (d := 2) (Nat.le_refl _) hx0 hh) hx0 rfl rfl (Nat.le_of_ble_eq_true rfl) ?_
  refine s_istore (ls' := [some (rfX X x0), some (.int x1), some (.int x2), some (.int r1), some (.int r2), none]) C dX1_leans_11 (by decide) (Nat.le_of_ble_eq_true rfl) rfl rfl ?_
  refine s_iload_n C dX1_leans_13 rfl rfl ?_
  refine s_iload_n C dX1_leans_14 rfl rfl ?_
  refine s_isub C dX1_leans_15 ?_
  refine s_iload C dX1_leans_16 rfl ?_
  refine s_iload_n C dX1_leans_18 rfl rfl ?_
  refine s_isub C dX1_leans_19 ?_
  refine s_max C M.rg (Nat.le_trans (by decide) hd) mlX1_32 dX1_leans_20 w_max_s w_math_i w_max_c (Nat.le_of_ble_eq_true rfl) (Nat.le_refl 0) (Nat.le_refl 0) ?_
  obtain ⟨v1, ev1, h⟩ := ltm_e h
  refine s_top_i ev1 ?_
  refine s_istore (ls' := [some (rfX X x0), some (.int x1), some (.int x2), some (.int r1), some (.int r2), some (.int v1)]) C dX1_leans_23 (by decide) (Nat.le_of_ble_eq_true rfl) rfl rfl ?_
  refine s_bipush C dX1_leans_25 bi_100 ?_
  refine s_iload C dX1_leans_27 rfl ?_
  refine s_imul C dX1_leans_29 ?_
  refine s_iload_n C dX1_leans_30 rfl rfl ?_
  refine s_iload C dX1_leans_31 rfl ?_
  refine s_iload_n C dX1_leans_33 rfl rfl ?_
  refine s_isub C dX1_leans_34 ?_
  refine s_iconst C dX1_leans_35 ic_1 ?_
  refine s_iadd C dX1_leans_36 ?_
  refine s_imul C dX1_leans_37 ?_
  refine s_icmp_le (tgt := 45) C dX1_leans_38 (by decide) (fun c => ?_) (fun c => ?_)
  · have h := it_t c h
    refine s_iconst C dX1_leans_45 ic_0 ?_
    obtain ⟨rfl, rfl⟩ := pr_e h
    exact s_iret C M dX1_leans_46 rfl (nz_b (by decide)) (Nat.le_refl 0) (Nat.le_refl 0)
  · have h := it_f c h
    refine s_iconst C dX1_leans_41 ic_1 ?_
    refine s_goto (tgt := 46) C dX1_leans_42 (by decide) ?_
    obtain ⟨rfl, rfl⟩ := pr_e h
    exact s_iret C M dX1_leans_46 rfl (nz_b (by decide)) (Nat.le_refl 0) (Nat.le_refl 0)
theorem wX1_setDepth {E : Ev} {d : Nat} (hd : 1 ≤ d) {x0 : Nat} {x1 : Int32} {x2 : Int32} {I I' : Mm} {r : Unit} (hx0 : kd0 x0 = 1) (h : fX1_setDepth x0 x1 x2 I = some (r, I')) : SemM E d 0 0 mX1_setDepth [rfE E x0, .int x1, .int x2] S0 I none S0 I' := by
  unfold fX1_setDepth at h
  refine SemM.ofX (E := E) (y := mX1_setDepth) (args := fun E => [rfE E x0, .int x1, .int x2]) (r := fun E => none) (fun E => [some (rfE E x0), some (.int x1), some (.int x2)]) (by decide +kernel) (Nat.le_of_ble_eq_true rfl) rfl (fun X C M => ?_)
  refine s_iload_n C dX1_setDepth_0 rfl rfl ?_
  refine s_if_lt (tgt := 17) C dX1_setDepth_1 (by decide) (fun c => ?_) (fun c => ?_)
  · have h := it_t c h
    obtain ⟨rfl, rfl⟩ := pr_e h
    exact s_vret C M dX1_setDepth_17 rfl (Nat.le_refl 0) (Nat.le_refl 0)
  · have h := it_f c h
    refine s_iload_n C dX1_setDepth_4 rfl rfl ?_
    refine s_bipush C dX1_setDepth_5 bi_30 ?_
    refine s_icmp_ge (tgt := 17) C dX1_setDepth_7 (by decide) (fun c => ?_) (fun c => ?_)
    · have h := it_t c h
      obtain ⟨rfl, rfl⟩ := pr_e h
      exact s_vret C M dX1_setDepth_17 rfl (Nat.le_refl 0) (Nat.le_refl 0)
    · have h := it_f c h
      refine s_aload_n C dX1_setDepth_10 rfl rfl ?_
      refine s_getR (b := (x0 + 3)) C dX1_setDepth_11 hx0 foX1_18 rfl (rr1 hx0).2.2 ?_
      refine s_iload_n C dX1_setDepth_14 rfl rfl ?_
      refine s_iload_n C dX1_setDepth_15 rfl rfl ?_
      obtain ⟨hb, h⟩ := it_n h
      obtain ⟨I1, eI1, h⟩ := ltm_e h
      refine s_ast (q := x1.toNatClampNeg) C dX1_setDepth_16 (kd1 hx0).2.2 (by decide) rfl hb eI1 ?_
      obtain ⟨rfl, rfl⟩ := pr_e h
      exact s_vret C M dX1_setDepth_17 rfl (Nat.le_refl 0) (Nat.le_refl 0)
theorem wX1_spread : ∀ (n : Nat) {E : Ev} {d : Nat} (_ : 2 + n ≤ d) {x0 : Nat} {x1 : Int32} {x2 : Int32} {x3 : Int32} {I I' : Mm} {r : Int32} (hx0 : kd0 x0 = 1) (_ : fX1_spread n x0 x1 x2 x3 I = some (r, I')), SemM E d 0 0 mX1_spread [rfE E x0, .int x1, .int x2, .int x3] S0 I (some (.int r)) S0 I' := by
  intro n
  induction n with
  | zero => intro E d hd x0 x1 x2 x3 I I' r hx0 h; exact absurd h (by simp [fX1_spread])
  | succ n ih =>
    intro E d hd x0 x1 x2 x3 I I' r hx0 h
    rw [fX1_spread] at h
    refine SemM.ofX (E := E) (y := mX1_spread) (args := fun E => [rfE E x0, .int x1, .int x2, .int x3]) (r := fun E => (some (.int r))) (fun E => [some (rfE E x0), some (.int x1), some (.int x2), some (.int x3), none, none]) (by decide +kernel) (Nat.le_of_ble_eq_true rfl) rfl (fun X C M => ?_)
    refine s_iload_n C dX1_spread_0 rfl rfl ?_
    refine s_iload_n C dX1_spread_1 rfl rfl ?_
    refine s_icmp_gt (tgt := 11) C dX1_spread_2 (by decide) (fun c => ?_) (fun c => ?_)
    · have h := it_t c h
      refine s_iconst C dX1_spread_11 ic_0 ?_
      obtain ⟨rfl, rfl⟩ := pr_e h
      exact s_iret C M dX1_spread_12 rfl rfl (Nat.le_refl 0) (Nat.le_refl 0)
    · have h := it_f c h
      refine s_iload_n C dX1_spread_5 rfl rfl ?_
      refine s_bipush C dX1_spread_6 bi_30 ?_
      refine s_icmp_le (tgt := 13) C dX1_spread_8 (by decide) (fun c => ?_) (fun c => ?_)
      · have h := it_t c h
        refine s_iload_n C dX1_spread_13 rfl rfl ?_
        refine s_iload_n C dX1_spread_14 rfl rfl ?_
        refine s_iadd C dX1_spread_15 ?_
        refine s_iconst C dX1_spread_16 ic_2 ?_
        refine s_idiv C dX1_spread_17 (by decide) ?_
        obtain ⟨v1, ev1, h⟩ := ltm_e h
        refine s_top_i ev1 ?_
        refine s_istore (ls' := [some (rfX X x0), some (.int x1), some (.int x2), some (.int x3), some (.int v1), none]) C dX1_spread_18 (by decide) (Nat.le_of_ble_eq_true rfl) rfl rfl ?_
        refine s_aload_n C dX1_spread_20 rfl rfl ?_
        refine s_iload C dX1_spread_21 rfl ?_
        obtain ⟨r1, I1, hh, h⟩ := bd_e h
        refine s_cV0 (st := []) C M.rg (Nat.le_trans (by omega) hd) mwX1_depthAt mlX1_29 dX1_spread_23 (wX1_depthAt (d := 1) (Nat.le_refl _) hx0 hh) hx0 rfl rfl (Nat.le_of_ble_eq_true rfl) ?_
        refine s_iload_n C dX1_spread_26 rfl rfl ?_
        refine s_icmp_ne (tgt := 34) C dX1_spread_27 (by decide) (fun c => ?_) (fun c => ?_)
        · have h := it_f c h
          refine s_iconst C dX1_spread_34 ic_1 ?_
          refine s_istore (ls' := [some (rfX X x0), some (.int x1), some (.int x2), some (.int x3), some (.int v1), some (.int 1)]) C dX1_spread_35 (by decide) (Nat.le_of_ble_eq_true rfl) rfl rfl ?_
          refine s_aload_n C dX1_spread_37 rfl rfl ?_
          refine s_iload C dX1_spread_38 rfl ?_
          refine s_iload_n C dX1_spread_40 rfl rfl ?_
          obtain ⟨r2, I2, hh, h⟩ := bd_e h
          refine s_cV0 (st := []) C M.rg (Nat.le_trans (by omega) hd) mwX1_setDepth mlX1_76 dX1_spread_41 (wX1_setDepth (d := 1) (Nat.le_refl _) hx0 hh) hx0 rfl rfl (Nat.le_of_ble_eq_true rfl) ?_
          refine s_iload C dX1_spread_44 rfl ?_
          refine s_aload_n C dX1_spread_46 rfl rfl ?_
          refine s_iload_n C dX1_spread_47 rfl rfl ?_
          refine s_iload C dX1_spread_48 rfl ?_
          refine s_iconst C dX1_spread_50 ic_1 ?_
          refine s_isub C dX1_spread_51 ?_
          refine s_iload_n C dX1_spread_52 rfl rfl ?_
          refine s_iconst C dX1_spread_53 ic_1 ?_
          refine s_iadd C dX1_spread_54 ?_
          obtain ⟨r3, I3, hh, h⟩ := bd_e h
          refine s_cS0 (st := [.int 1]) C M.rg (Nat.le_trans (by omega) hd) mwX1_spread mlX1_82 dX1_spread_55 (ih (d := 2 + n) (Nat.le_refl _) hx0 hh) rfl rfl (Nat.le_of_ble_eq_true rfl) ?_
          refine s_iadd C dX1_spread_58 ?_
          refine s_aload_n C dX1_spread_59 rfl rfl ?_
          refine s_iload C dX1_spread_60 rfl ?_
          refine s_iconst C dX1_spread_62 ic_1 ?_
          refine s_iadd C dX1_spread_63 ?_
          refine s_iload_n C dX1_spread_64 rfl rfl ?_
          refine s_iload_n C dX1_spread_65 rfl rfl ?_
          refine s_iconst C dX1_spread_66 ic_1 ?_
          refine s_iadd C dX1_spread_67 ?_
          obtain ⟨r4, I4, hh, h⟩ := bd_e h
          refine s_cS0 (st := [.int (1 + r3)]) C M.rg (Nat.le_trans (by omega) hd) mwX1_spread mlX1_82 dX1_spread_68 (ih (d := 2 + n) (Nat.le_refl _) hx0 hh) rfl rfl (Nat.le_of_ble_eq_true rfl) ?_
          refine s_iadd C dX1_spread_71 ?_
          obtain ⟨rfl, rfl⟩ := pr_e h
          exact s_iret C M dX1_spread_72 rfl rfl (Nat.le_refl 0) (Nat.le_refl 0)
        · have h := it_t c h
          refine s_iconst C dX1_spread_30 ic_0 ?_
          refine s_goto (tgt := 35) C dX1_spread_31 (by decide) ?_
          refine s_istore (ls' := [some (rfX X x0), some (.int x1), some (.int x2), some (.int x3), some (.int v1), some (.int 0)]) C dX1_spread_35 (by decide) (Nat.le_of_ble_eq_true rfl) rfl rfl ?_
          refine s_aload_n C dX1_spread_37 rfl rfl ?_
          refine s_iload C dX1_spread_38 rfl ?_
          refine s_iload_n C dX1_spread_40 rfl rfl ?_
          obtain ⟨r2, I2, hh, h⟩ := bd_e h
          refine s_cV0 (st := []) C M.rg (Nat.le_trans (by omega) hd) mwX1_setDepth mlX1_76 dX1_spread_41 (wX1_setDepth (d := 1) (Nat.le_refl _) hx0 hh) hx0 rfl rfl (Nat.le_of_ble_eq_true rfl) ?_
          refine s_iload C dX1_spread_44 rfl ?_
          refine s_aload_n C dX1_spread_46 rfl rfl ?_
          refine s_iload_n C dX1_spread_47 rfl rfl ?_
          refine s_iload C dX1_spread_48 rfl ?_
          refine s_iconst C dX1_spread_50 ic_1 ?_
          refine s_isub C dX1_spread_51 ?_
          refine s_iload_n C dX1_spread_52 rfl rfl ?_
          refine s_iconst C dX1_spread_53 ic_1 ?_
          refine s_iadd C dX1_spread_54 ?_
          obtain ⟨r3, I3, hh, h⟩ := bd_e h
          refine s_cS0 (st := [.int 0]) C M.rg (Nat.le_trans (by omega) hd) mwX1_spread mlX1_82 dX1_spread_55 (ih (d := 2 + n) (Nat.le_refl _) hx0 hh) rfl rfl (Nat.le_of_ble_eq_true rfl) ?_
          refine s_iadd C dX1_spread_58 ?_
          refine s_aload_n C dX1_spread_59 rfl rfl ?_
          refine s_iload C dX1_spread_60 rfl ?_
          refine s_iconst C dX1_spread_62 ic_1 ?_
          refine s_iadd C dX1_spread_63 ?_
          refine s_iload_n C dX1_spread_64 rfl rfl ?_
          refine s_iload_n C dX1_spread_65 rfl rfl ?_
          refine s_iconst C dX1_spread_66 ic_1 ?_
          refine s_iadd C dX1_spread_67 ?_
          obtain ⟨r4, I4, hh, h⟩ := bd_e h
          refine s_cS0 (st := [.int (0 + r3)]) C M.rg (Nat.le_trans (by omega) hd) mwX1_spread mlX1_82 dX1_spread_68 (ih (d := 2 + n) (Nat.le_refl _) hx0 hh) rfl rfl (Nat.le_of_ble_eq_true rfl) ?_
          refine s_iadd C dX1_spread_71 ?_
          obtain ⟨rfl, rfl⟩ := pr_e h
          exact s_iret C M dX1_spread_72 rfl rfl (Nat.le_refl 0) (Nat.le_refl 0)
      · have h := it_f c h
        refine s_iconst C dX1_spread_11 ic_0 ?_
        obtain ⟨rfl, rfl⟩ := pr_e h
        exact s_iret C M dX1_spread_12 rfl rfl (Nat.le_refl 0) (Nat.le_refl 0)
theorem wX1_buildPartAbove_p9 {X : Cx} {d : Nat} (hd : 43 ≤ d) (C : CtxOK X mX1_buildPartAbove) : ∀ (n : Nat) {x0 : Nat} {x2 : Int32} {x3 : Int32} {x4 : Int32} {I I' : Mm} {r : Int32} (hx0 : kd0 x0 = 1) (_ : fX1_buildPartAbove_p9 n x0 x2 x3 x4 I = some (r, I')) (_ : MX X (xE X) d 0 0 (some (.int r)) S0 I'), WM X mX1_buildPartAbove 9 [some (rfX X x0), none, some (.int x2), some (.int x3), some (.int x4), none, none] [] S0 I 0 0 := by
  intro n
  induction n with
  | zero => intro x0 x2 x3 x4 I I' r hx0 h M; exact absurd h (by simp [fX1_buildPartAbove_p9])
  | succ n ih =>
    intro x0 x2 x3 x4 I I' r hx0 h M
    rw [fX1_buildPartAbove_p9] at h
    refine s_iload C dX1_buildPartAbove_9 rfl ?_
    refine s_bipush C dX1_buildPartAbove_11 bi_30 ?_
    refine s_icmp_ge (tgt := 81) C dX1_buildPartAbove_13 (by decide) (fun c => ?_) (fun c => ?_)
    · have h := it_t c h
      refine s_iconst C dX1_buildPartAbove_81 ic_0 ?_
      obtain ⟨rfl, rfl⟩ := pr_e h
      exact s_iret C M dX1_buildPartAbove_82 rfl rfl (Nat.le_refl 0) (Nat.le_refl 0)
    · have h := it_f c h
      refine s_aload_n C dX1_buildPartAbove_16 rfl rfl ?_
      refine s_iload_n C dX1_buildPartAbove_17 rfl rfl ?_
      obtain ⟨r1, I1, hh, h⟩ := bd_e h
      refine s_cV0 (st := []) C M.rg (Nat.le_trans (by decide) hd) mwX1_isPlace mlX1_44 dX1_buildPartAbove_18 (wX1_isPlace (d := 1) (Nat.le_refl _) hx0 hh) hx0 rfl rfl (Nat.le_of_ble_eq_true rfl) ?_
      refine s_if_eq (tgt := 81) C dX1_buildPartAbove_21 (by decide) (fun c => ?_) (fun c => ?_)
      · have h := it_t c h
        refine s_iconst C dX1_buildPartAbove_81 ic_0 ?_
        obtain ⟨rfl, rfl⟩ := pr_e h
        exact s_iret C M dX1_buildPartAbove_82 rfl rfl (Nat.le_refl 0) (Nat.le_refl 0)
      · have h := it_f c h
        refine s_aload_n C dX1_buildPartAbove_24 rfl rfl ?_
        refine s_iload_n C dX1_buildPartAbove_25 rfl rfl ?_
        refine s_iload_n C dX1_buildPartAbove_26 rfl rfl ?_
        obtain ⟨r2, I2, hh, h⟩ := bd_e h
        refine s_cV0 (st := []) C M.rg (Nat.le_trans (by decide) hd) mwX1_leans mlX1_51 dX1_buildPartAbove_27 (wX1_leans (d := 3) (Nat.le_refl _) hx0 hh) hx0 rfl rfl (Nat.le_of_ble_eq_true rfl) ?_
        refine s_if_eq (tgt := 69) C dX1_buildPartAbove_30 (by decide) (fun c => ?_) (fun c => ?_)
        · have h := it_t c h
          refine s_aload_n C dX1_buildPartAbove_69 rfl rfl ?_
          refine s_iload_n C dX1_buildPartAbove_70 rfl rfl ?_
          obtain ⟨r3, I3, hh, h⟩ := bd_e h
          refine s_cV0 (st := []) C M.rg (Nat.le_trans (by decide) hd) mwX1_above mlX1_79 dX1_buildPartAbove_71 (wX1_above (d := 3) (Nat.le_refl _) hx0 hh) hx0 rfl rfl (Nat.le_of_ble_eq_true rfl) ?_
          refine s_istore_n (ls' := [some (rfX X x0), none, some (.int x2), some (.int r3), some (.int x4), none, none]) C dX1_buildPartAbove_74 rfl (by decide) (Nat.le_of_ble_eq_true rfl) rfl rfl ?_
          obtain ⟨v1, ev1, h⟩ := ltm_e h
          refine s_iinc (v := v1) (ls' := [some (rfX X x0), none, some (.int x2), some (.int r3), some (.int v1), none, none]) C dX1_buildPartAbove_75 rfl (by decide) (Nat.le_of_ble_eq_true rfl) (by rw [ev1, ic_1]) rfl rfl ?_
          refine s_goto (tgt := 9) C dX1_buildPartAbove_78 (by decide) ?_
          exact ih hx0 h M
        · have h := it_f c h
          refine s_aload_n C dX1_buildPartAbove_33 rfl rfl ?_
          refine s_iload_n C dX1_buildPartAbove_34 rfl rfl ?_
          obtain ⟨r3, I3, hh, h⟩ := bd_e h
          refine s_cV0 (st := []) C M.rg (Nat.le_trans (by decide) hd) mwX1_firstOf mlX1_38 dX1_buildPartAbove_35 (wX1_firstOf (d := 2) (Nat.le_refl _) hx0 hh) hx0 rfl rfl (Nat.le_of_ble_eq_true rfl) ?_
          refine s_istore (ls' := [some (rfX X x0), none, some (.int x2), some (.int x3), some (.int x4), some (.int r3), none]) C dX1_buildPartAbove_38 (by decide) (Nat.le_of_ble_eq_true rfl) rfl rfl ?_
          refine s_aload_n C dX1_buildPartAbove_40 rfl rfl ?_
          refine s_iload_n C dX1_buildPartAbove_41 rfl rfl ?_
          obtain ⟨r4, I4, hh, h⟩ := bd_e h
          refine s_cV0 (st := []) C M.rg (Nat.le_trans (by decide) hd) mwX1_lastOf mlX1_41 dX1_buildPartAbove_42 (wX1_lastOf (d := 2) (Nat.le_refl _) hx0 hh) hx0 rfl rfl (Nat.le_of_ble_eq_true rfl) ?_
          refine s_istore (ls' := [some (rfX X x0), none, some (.int x2), some (.int x3), some (.int x4), some (.int r3), some (.int r4)]) C dX1_buildPartAbove_45 (by decide) (Nat.le_of_ble_eq_true rfl) rfl rfl ?_
          refine s_aload_n C dX1_buildPartAbove_47 rfl rfl ?_
          refine s_iload C dX1_buildPartAbove_48 rfl ?_
          refine s_iload C dX1_buildPartAbove_50 rfl ?_
          refine s_aload_n C dX1_buildPartAbove_52 rfl rfl ?_
          refine s_iload_n C dX1_buildPartAbove_53 rfl rfl ?_
          obtain ⟨r5, I5, hh, h⟩ := bd_e h
          refine s_cV0 (st := [.int r4, .int r3, rfX X x0]) C M.rg (Nat.le_trans (by decide) hd) mwX1_depthAt mlX1_29 dX1_buildPartAbove_54 (wX1_depthAt (d := 1) (Nat.le_refl _) hx0 hh) hx0 rfl rfl (Nat.le_of_ble_eq_true rfl) ?_
          obtain ⟨r6, I6, hh, h⟩ := bd_e h
          refine s_cS0 (st := []) C M.rg (Nat.le_trans (by decide) hd) mwX1_spread mlX1_82 dX1_buildPartAbove_57 (wX1_spread _ (d := 42) (Nat.le_refl _) hx0 hh) rfl rfl (Nat.le_of_ble_eq_true rfl) ?_
          refine s_pop C dX1_buildPartAbove_60 rfl ?_
          refine s_iload C dX1_buildPartAbove_61 rfl ?_
          refine s_iload C dX1_buildPartAbove_63 rfl ?_
          refine s_isub C dX1_buildPartAbove_65 ?_
          refine s_iconst C dX1_buildPartAbove_66 ic_1 ?_
          refine s_iadd C dX1_buildPartAbove_67 ?_
          obtain ⟨rfl, rfl⟩ := pr_e h
          exact s_iret C M dX1_buildPartAbove_68 rfl rfl (Nat.le_refl 0) (Nat.le_refl 0)
theorem wX1_buildPartAbove {E : Ev} {d : Nat} (hd : 43 ≤ d) {x0 : Nat} {x1 : Int32} {x2 : Int32} {I I' : Mm} {r : Int32} (hx0 : kd0 x0 = 1) (h : fX1_buildPartAbove x0 x1 x2 I = some (r, I')) : SemM E d 0 0 mX1_buildPartAbove [rfE E x0, .int x1, .int x2] S0 I (some (.int r)) S0 I' := by
  unfold fX1_buildPartAbove at h
  refine SemM.ofX (E := E) (y := mX1_buildPartAbove) (args := fun E => [rfE E x0, .int x1, .int x2]) (r := fun E => (some (.int r))) (fun E => [some (rfE E x0), some (.int x1), some (.int x2), none, none, none, none]) (by decide +kernel) (Nat.le_of_ble_eq_true rfl) rfl (fun X C M => ?_)
  refine s_aload_n C dX1_buildPartAbove_0 rfl rfl ?_
  refine s_iload_n C dX1_buildPartAbove_1 rfl rfl ?_
  obtain ⟨r1, I1, hh, h⟩ := bd_e h
  refine s_cV0 (st := []) C M.rg (Nat.le_trans (by decide) hd) mwX1_above mlX1_79 dX1_buildPartAbove_2 (wX1_above (d := 3) (Nat.le_refl _) hx0 hh) hx0 rfl rfl (Nat.le_of_ble_eq_true rfl) ?_
  refine s_istore_n (ls' := [some (rfX X x0), some (.int x1), some (.int x2), some (.int r1), none, none, none]) C dX1_buildPartAbove_5 rfl (by decide) (Nat.le_of_ble_eq_true rfl) rfl rfl ?_
  refine s_iconst C dX1_buildPartAbove_6 ic_0 ?_
  refine s_istore (ls' := [some (rfX X x0), some (.int x1), some (.int x2), some (.int r1), some (.int 0), none, none]) C dX1_buildPartAbove_7 (by decide) (Nat.le_of_ble_eq_true rfl) rfl rfl ?_
  refine s_weak (ls' := [some (rfX X x0), none, some (.int x2), some (.int r1), some (.int 0), none, none]) [true, false, true, true, true, false, false] rfl ?_
  exact wX1_buildPartAbove_p9 hd C _ hx0 h M
theorem wX1_buildWhole {E : Ev} {d : Nat} (hd : 43 ≤ d) {x0 : Nat} {I I' : Mm} {r : Int32} (hx0 : kd0 x0 = 1) (h : fX1_buildWhole x0 I = some (r, I')) : SemM E d 0 0 mX1_buildWhole [rfE E x0] S0 I (some (.int r)) S0 I' := by
  unfold fX1_buildWhole at h
  refine SemM.ofX (E := E) (y := mX1_buildWhole) (args := fun E => [rfE E x0]) (r := fun E => (some (.int r))) (fun E => [some (rfE E x0)]) (by decide +kernel) (Nat.le_of_ble_eq_true rfl) rfl (fun X C M => ?_)
  refine s_aload_n C dX1_buildWhole_0 rfl rfl ?_
  refine s_aload_n C dX1_buildWhole_1 rfl rfl ?_
  refine s_getI C dX1_buildWhole_2 hx0 foX1_21 rfl ?_
  obtain ⟨I1, eI1, h⟩ := ltm_e h
  refine s_putI C dX1_buildWhole_5 hx0 poX1_86 rfl eI1 ?_
  refine s_aload_n C dX1_buildWhole_8 rfl rfl ?_
  refine s_iconst C dX1_buildWhole_9 ic_0 ?_
  refine s_aload_n C dX1_buildWhole_10 rfl rfl ?_
  refine s_getI C dX1_buildWhole_11 hx0 foX1_21 rfl ?_
  refine s_iconst C dX1_buildWhole_14 ic_1 ?_
  refine s_isub C dX1_buildWhole_15 ?_
  refine s_iconst C dX1_buildWhole_16 ic_0 ?_
  obtain ⟨r1, I2, hh, h⟩ := bd_e h
  refine s_cS0 (st := []) C M.rg (Nat.le_trans (by decide) hd) mwX1_spread mlX1_82 dX1_buildWhole_17 (wX1_spread _ (d := 42) (Nat.le_refl _) hx0 hh) rfl rfl (Nat.le_of_ble_eq_true rfl) ?_
  obtain ⟨rfl, rfl⟩ := pr_e h
  exact s_iret C M dX1_buildWhole_20 rfl rfl (Nat.le_refl 0) (Nat.le_refl 0)
theorem wX1_loadAt {E : Ev} {d : Nat} (hd : 1 ≤ d) {x0 : Nat} {x1 : Int32} {I I' : Mm} {r : Int32} (hx0 : kd0 x0 = 1) (h : fX1_loadAt x0 x1 I = some (r, I')) : SemM E d 0 0 mX1_loadAt [rfE E x0, .int x1] S0 I (some (.int r)) S0 I' := by
  unfold fX1_loadAt at h
  refine SemM.ofX (E := E) (y := mX1_loadAt) (args := fun E => [rfE E x0, .int x1]) (r := fun E => (some (.int r))) (fun E => [some (rfE E x0), some (.int x1)]) (by decide +kernel) (Nat.le_of_ble_eq_true rfl) rfl (fun X C M => ?_)
  refine s_iload_n C dX1_loadAt_0 rfl rfl ?_
  refine s_if_lt (tgt := 27) C dX1_loadAt_1 (by decide) (fun c => ?_) (fun c => ?_)
  · have h := it_t c h
    refine s_iconst C dX1_loadAt_27 ic_0 ?_
    obtain ⟨rfl, rfl⟩ := pr_e h
    exact s_iret C M dX1_loadAt_28 rfl rfl (Nat.le_refl 0) (Nat.le_refl 0)
  · have h := it_f c h
    refine s_iload_n C dX1_loadAt_4 rfl rfl ?_
    refine s_aload_n C dX1_loadAt_5 rfl rfl ?_
    refine s_getI C dX1_loadAt_6 hx0 foX1_21 rfl ?_
    refine s_icmp_ge (tgt := 27) C dX1_loadAt_9 (by decide) (fun c => ?_) (fun c => ?_)
    · have h := it_t c h
      refine s_iconst C dX1_loadAt_27 ic_0 ?_
      obtain ⟨rfl, rfl⟩ := pr_e h
      exact s_iret C M dX1_loadAt_28 rfl rfl (Nat.le_refl 0) (Nat.le_refl 0)
    · have h := it_f c h
      refine s_iload_n C dX1_loadAt_12 rfl rfl ?_
      refine s_bipush C dX1_loadAt_13 bi_30 ?_
      refine s_icmp_ge (tgt := 27) C dX1_loadAt_15 (by decide) (fun c => ?_) (fun c => ?_)
      · have h := it_t c h
        refine s_iconst C dX1_loadAt_27 ic_0 ?_
        obtain ⟨rfl, rfl⟩ := pr_e h
        exact s_iret C M dX1_loadAt_28 rfl rfl (Nat.le_refl 0) (Nat.le_refl 0)
      · have h := it_f c h
        refine s_aload_n C dX1_loadAt_18 rfl rfl ?_
        refine s_getR (b := (x0 + 2)) C dX1_loadAt_19 hx0 foX1_15 rfl (rr1 hx0).2.1 ?_
        refine s_iload_n C dX1_loadAt_22 rfl rfl ?_
        obtain ⟨hb, h⟩ := it_n h
        refine s_ald (q := x1.toNatClampNeg) C dX1_loadAt_23 (kd1 hx0).2.1 (by decide) rfl hb ?_
        refine s_goto (tgt := 28) C dX1_loadAt_24 (by decide) ?_
        obtain ⟨rfl, rfl⟩ := pr_e h
        exact s_iret C M dX1_loadAt_28 rfl rfl (Nat.le_refl 0) (Nat.le_refl 0)
theorem wX1_cartsUpTo_p8 {X : Cx} {d : Nat} (hd : 2 ≤ d) (C : CtxOK X mX1_cartsUpTo) : ∀ (n : Nat) {x0 : Nat} {x1 : Int32} {x2 : Int32} {x3 : Int32} {x4 : Int32} {x5 : Int32} {I I' : Mm} {r : Int32} (hx0 : kd0 x0 = 1) (_ : fX1_cartsUpTo_p8 n x0 x1 x2 x3 x4 x5 I = some (r, I')) (_ : MX X (xE X) d 0 0 (some (.int r)) S0 I'), WM X mX1_cartsUpTo 8 [some (rfX X x0), some (.int x1), some (.int x2), some (.int x3), some (.int x4), some (.int x5)] [] S0 I 0 0 := by
  intro n
  induction n with
  | zero => intro x0 x1 x2 x3 x4 x5 I I' r hx0 h M; exact absurd h (by simp [fX1_cartsUpTo_p8])
  | succ n ih =>
    intro x0 x1 x2 x3 x4 x5 I I' r hx0 h M
    rw [fX1_cartsUpTo_p8] at h
    refine s_iload C dX1_cartsUpTo_8 rfl ?_
    refine s_iload_n C dX1_cartsUpTo_10 rfl rfl ?_
    refine s_icmp_gt (tgt := 63) C dX1_cartsUpTo_11 (by decide) (fun c => ?_) (fun c => ?_)
    · have h := it_t c h
      refine s_iload_n C dX1_cartsUpTo_63 rfl rfl ?_
      obtain ⟨rfl, rfl⟩ := pr_e h
      exact s_iret C M dX1_cartsUpTo_64 rfl rfl (Nat.le_refl 0) (Nat.le_refl 0)
    · have h := it_f c h
      refine s_iload C dX1_cartsUpTo_14 rfl ?_
      refine s_aload_n C dX1_cartsUpTo_16 rfl rfl ?_
      refine s_getI C dX1_cartsUpTo_17 hx0 foX1_21 rfl ?_
      refine s_icmp_ge (tgt := 63) C dX1_cartsUpTo_20 (by decide) (fun c => ?_) (fun c => ?_)
      · have h := it_t c h
        refine s_iload_n C dX1_cartsUpTo_63 rfl rfl ?_
        obtain ⟨rfl, rfl⟩ := pr_e h
        exact s_iret C M dX1_cartsUpTo_64 rfl rfl (Nat.le_refl 0) (Nat.le_refl 0)
      · have h := it_f c h
        refine s_iload_n C dX1_cartsUpTo_23 rfl rfl ?_
        refine s_if_eq (tgt := 40) C dX1_cartsUpTo_24 (by decide) (fun c => ?_) (fun c => ?_)
        · have h := it_t c h
          obtain ⟨v1, ev1, h⟩ := ltm_e h
          refine s_iinc (v := v1) (ls' := [some (rfX X x0), some (.int x1), some (.int x2), some (.int v1), some (.int x4), some (.int x5)]) C dX1_cartsUpTo_40 rfl (by decide) (Nat.le_of_ble_eq_true rfl) (by rw [ev1, ic_1]) rfl rfl ?_
          refine s_iconst C dX1_cartsUpTo_43 ic_0 ?_
          refine s_istore (ls' := [some (rfX X x0), some (.int x1), some (.int x2), some (.int v1), some (.int 0), some (.int x5)]) C dX1_cartsUpTo_44 (by decide) (Nat.le_of_ble_eq_true rfl) rfl rfl ?_
          refine s_iload C dX1_cartsUpTo_46 rfl ?_
          refine s_aload_n C dX1_cartsUpTo_48 rfl rfl ?_
          refine s_iload C dX1_cartsUpTo_49 rfl ?_
          obtain ⟨r1, I1, hh, h⟩ := bd_e h
          refine s_cV0 (st := [.int 0]) C M.rg (Nat.le_trans (by decide) hd) mwX1_loadAt mlX1_48 dX1_cartsUpTo_51 (wX1_loadAt (d := 1) (Nat.le_refl _) hx0 hh) hx0 rfl rfl (Nat.le_of_ble_eq_true rfl) ?_
          refine s_iadd C dX1_cartsUpTo_54 ?_
          obtain ⟨v2, ev2, h⟩ := ltm_e h
          refine s_top_i ev2 ?_
          refine s_istore (ls' := [some (rfX X x0), some (.int x1), some (.int x2), some (.int v1), some (.int v2), some (.int x5)]) C dX1_cartsUpTo_55 (by decide) (Nat.le_of_ble_eq_true rfl) rfl rfl ?_
          obtain ⟨v3, ev3, h⟩ := ltm_e h
          refine s_iinc (v := v3) (ls' := [some (rfX X x0), some (.int x1), some (.int x2), some (.int v1), some (.int v2), some (.int v3)]) C dX1_cartsUpTo_57 rfl (by decide) (Nat.le_of_ble_eq_true rfl) (by rw [ev3, ic_1]) rfl rfl ?_
          refine s_goto (tgt := 8) C dX1_cartsUpTo_60 (by decide) ?_
          exact ih hx0 h M
        · have h := it_f c h
          refine s_iload C dX1_cartsUpTo_27 rfl ?_
          refine s_aload_n C dX1_cartsUpTo_29 rfl rfl ?_
          refine s_iload C dX1_cartsUpTo_30 rfl ?_
          obtain ⟨r1, I1, hh, h⟩ := bd_e h
          refine s_cV0 (st := [.int x4]) C M.rg (Nat.le_trans (by decide) hd) mwX1_loadAt mlX1_48 dX1_cartsUpTo_32 (wX1_loadAt (d := 1) (Nat.le_refl _) hx0 hh) hx0 rfl rfl (Nat.le_of_ble_eq_true rfl) ?_
          refine s_iadd C dX1_cartsUpTo_35 ?_
          refine s_iload_n C dX1_cartsUpTo_36 rfl rfl ?_
          refine s_icmp_le (tgt := 46) C dX1_cartsUpTo_37 (by decide) (fun c => ?_) (fun c => ?_)
          · have h := it_t c h
            refine s_iload C dX1_cartsUpTo_46 rfl ?_
            refine s_aload_n C dX1_cartsUpTo_48 rfl rfl ?_
            refine s_iload C dX1_cartsUpTo_49 rfl ?_
            obtain ⟨r2, I2, hh, h⟩ := bd_e h
            refine s_cV0 (st := [.int x4]) C M.rg (Nat.le_trans (by decide) hd) mwX1_loadAt mlX1_48 dX1_cartsUpTo_51 (wX1_loadAt (d := 1) (Nat.le_refl _) hx0 hh) hx0 rfl rfl (Nat.le_of_ble_eq_true rfl) ?_
            refine s_iadd C dX1_cartsUpTo_54 ?_
            obtain ⟨v1, ev1, h⟩ := ltm_e h
            refine s_top_i ev1 ?_
            refine s_istore (ls' := [some (rfX X x0), some (.int x1), some (.int x2), some (.int x3), some (.int v1), some (.int x5)]) C dX1_cartsUpTo_55 (by decide) (Nat.le_of_ble_eq_true rfl) rfl rfl ?_
            obtain ⟨v2, ev2, h⟩ := ltm_e h
            refine s_iinc (v := v2) (ls' := [some (rfX X x0), some (.int x1), some (.int x2), some (.int x3), some (.int v1), some (.int v2)]) C dX1_cartsUpTo_57 rfl (by decide) (Nat.le_of_ble_eq_true rfl) (by rw [ev2, ic_1]) rfl rfl ?_
            refine s_goto (tgt := 8) C dX1_cartsUpTo_60 (by decide) ?_
            exact ih hx0 h M
          · have h := it_f c h
            obtain ⟨v1, ev1, h⟩ := ltm_e h
            refine s_iinc (v := v1) (ls' := [some (rfX X x0), some (.int x1), some (.int x2), some (.int v1), some (.int x4), some (.int x5)]) C dX1_cartsUpTo_40 rfl (by decide) (Nat.le_of_ble_eq_true rfl) (by rw [ev1, ic_1]) rfl rfl ?_
            refine s_iconst C dX1_cartsUpTo_43 ic_0 ?_
            refine s_istore (ls' := [some (rfX X x0), some (.int x1), some (.int x2), some (.int v1), some (.int 0), some (.int x5)]) C dX1_cartsUpTo_44 (by decide) (Nat.le_of_ble_eq_true rfl) rfl rfl ?_
            refine s_iload C dX1_cartsUpTo_46 rfl ?_
            refine s_aload_n C dX1_cartsUpTo_48 rfl rfl ?_
            refine s_iload C dX1_cartsUpTo_49 rfl ?_
            obtain ⟨r2, I2, hh, h⟩ := bd_e h
            refine s_cV0 (st := [.int 0]) C M.rg (Nat.le_trans (by decide) hd) mwX1_loadAt mlX1_48 dX1_cartsUpTo_51 (wX1_loadAt (d := 1) (Nat.le_refl _) hx0 hh) hx0 rfl rfl (Nat.le_of_ble_eq_true rfl) ?_
            refine s_iadd C dX1_cartsUpTo_54 ?_
            obtain ⟨v2, ev2, h⟩ := ltm_e h
            refine s_top_i ev2 ?_
            refine s_istore (ls' := [some (rfX X x0), some (.int x1), some (.int x2), some (.int v1), some (.int v2), some (.int x5)]) C dX1_cartsUpTo_55 (by decide) (Nat.le_of_ble_eq_true rfl) rfl rfl ?_
            obtain ⟨v3, ev3, h⟩ := ltm_e h
            refine s_iinc (v := v3) (ls' := [some (rfX X x0), some (.int x1), some (.int x2), some (.int v1), some (.int v2), some (.int v3)]) C dX1_cartsUpTo_57 rfl (by decide) (Nat.le_of_ble_eq_true rfl) (by rw [ev3, ic_1]) rfl rfl ?_
            refine s_goto (tgt := 8) C dX1_cartsUpTo_60 (by decide) ?_
            exact ih hx0 h M
theorem wX1_cartsUpTo {E : Ev} {d : Nat} (hd : 2 ≤ d) {x0 : Nat} {x1 : Int32} {x2 : Int32} {I I' : Mm} {r : Int32} (hx0 : kd0 x0 = 1) (h : fX1_cartsUpTo x0 x1 x2 I = some (r, I')) : SemM E d 0 0 mX1_cartsUpTo [rfE E x0, .int x1, .int x2] S0 I (some (.int r)) S0 I' := by
  unfold fX1_cartsUpTo at h
  refine SemM.ofX (E := E) (y := mX1_cartsUpTo) (args := fun E => [rfE E x0, .int x1, .int x2]) (r := fun E => (some (.int r))) (fun E => [some (rfE E x0), some (.int x1), some (.int x2), none, none, none]) (by decide +kernel) (Nat.le_of_ble_eq_true rfl) rfl (fun X C M => ?_)
  refine s_iconst C dX1_cartsUpTo_0 ic_0 ?_
  refine s_istore_n (ls' := [some (rfX X x0), some (.int x1), some (.int x2), some (.int 0), none, none]) C dX1_cartsUpTo_1 rfl (by decide) (Nat.le_of_ble_eq_true rfl) rfl rfl ?_
  refine s_iconst C dX1_cartsUpTo_2 ic_0 ?_
  refine s_istore (ls' := [some (rfX X x0), some (.int x1), some (.int x2), some (.int 0), some (.int 0), none]) C dX1_cartsUpTo_3 (by decide) (Nat.le_of_ble_eq_true rfl) rfl rfl ?_
  refine s_iconst C dX1_cartsUpTo_5 ic_0 ?_
  refine s_istore (ls' := [some (rfX X x0), some (.int x1), some (.int x2), some (.int 0), some (.int 0), some (.int 0)]) C dX1_cartsUpTo_6 (by decide) (Nat.le_of_ble_eq_true rfl) rfl rfl ?_
  exact wX1_cartsUpTo_p8 hd C _ hx0 h M
theorem wX1_copyFrom {E : Ev} {d : Nat} (hd : 1 ≤ d) {x0 : Nat} {x1 : Nat} {I I' : Mm} {r : Unit} (hx0 : kd0 x0 = 1) (hx1 : kd0 x1 = 1) (h : fX1_copyFrom x0 x1 I = some (r, I')) : SemM E d 0 0 mX1_copyFrom [rfE E x0, rfE E x1] S0 I none S0 I' := by
  unfold fX1_copyFrom at h
  refine SemM.ofX (E := E) (y := mX1_copyFrom) (args := fun E => [rfE E x0, rfE E x1]) (r := fun E => none) (fun E => [some (rfE E x0), some (rfE E x1)]) (by decide +kernel) (Nat.le_of_ble_eq_true rfl) rfl (fun X C M => ?_)
  refine s_aload_n C dX1_copyFrom_0 rfl rfl ?_
  refine s_getR (b := (x1 + 1)) C dX1_copyFrom_1 hx1 foX1_9 rfl (rr1 hx1).1 ?_
  refine s_iconst C dX1_copyFrom_4 ic_0 ?_
  refine s_aload_n C dX1_copyFrom_5 rfl rfl ?_
  refine s_getR (b := (x0 + 1)) C dX1_copyFrom_6 hx0 foX1_9 rfl (rr1 hx0).1 ?_
  refine s_iconst C dX1_copyFrom_9 ic_0 ?_
  refine s_bipush C dX1_copyFrom_10 bi_30 ?_
  obtain ⟨I1, eI1, h⟩ := ltm_e h
  refine s_copy C M.rg (Nat.le_trans (by decide) hd) mlX1_89 dX1_copyFrom_12 (kd1 hx1).1 (kd1 hx0).1 eI1 (Nat.le_of_ble_eq_true rfl) ?_
  refine s_aload_n C dX1_copyFrom_15 rfl rfl ?_
  refine s_getR (b := (x1 + 2)) C dX1_copyFrom_16 hx1 foX1_15 rfl (rr1 hx1).2.1 ?_
  refine s_iconst C dX1_copyFrom_19 ic_0 ?_
  refine s_aload_n C dX1_copyFrom_20 rfl rfl ?_
  refine s_getR (b := (x0 + 2)) C dX1_copyFrom_21 hx0 foX1_15 rfl (rr1 hx0).2.1 ?_
  refine s_iconst C dX1_copyFrom_24 ic_0 ?_
  refine s_bipush C dX1_copyFrom_25 bi_30 ?_
  obtain ⟨I2, eI2, h⟩ := ltm_e h
  refine s_copy C M.rg (Nat.le_trans (by decide) hd) mlX1_89 dX1_copyFrom_27 (kd1 hx1).2.1 (kd1 hx0).2.1 eI2 (Nat.le_of_ble_eq_true rfl) ?_
  refine s_aload_n C dX1_copyFrom_30 rfl rfl ?_
  refine s_getR (b := (x1 + 3)) C dX1_copyFrom_31 hx1 foX1_18 rfl (rr1 hx1).2.2 ?_
  refine s_iconst C dX1_copyFrom_34 ic_0 ?_
  refine s_aload_n C dX1_copyFrom_35 rfl rfl ?_
  refine s_getR (b := (x0 + 3)) C dX1_copyFrom_36 hx0 foX1_18 rfl (rr1 hx0).2.2 ?_
  refine s_iconst C dX1_copyFrom_39 ic_0 ?_
  refine s_bipush C dX1_copyFrom_40 bi_30 ?_
  obtain ⟨I3, eI3, h⟩ := ltm_e h
  refine s_copy C M.rg (Nat.le_trans (by decide) hd) mlX1_89 dX1_copyFrom_42 (kd1 hx1).2.2 (kd1 hx0).2.2 eI3 (Nat.le_of_ble_eq_true rfl) ?_
  refine s_aload_n C dX1_copyFrom_45 rfl rfl ?_
  refine s_aload_n C dX1_copyFrom_46 rfl rfl ?_
  refine s_getI C dX1_copyFrom_47 hx1 foX1_21 rfl ?_
  obtain ⟨I4, eI4, h⟩ := ltm_e h
  refine s_putI C dX1_copyFrom_50 hx0 poX1_21 rfl eI4 ?_
  refine s_aload_n C dX1_copyFrom_53 rfl rfl ?_
  refine s_aload_n C dX1_copyFrom_54 rfl rfl ?_
  refine s_getI C dX1_copyFrom_55 hx1 foX1_86 rfl ?_
  obtain ⟨I5, eI5, h⟩ := ltm_e h
  refine s_putI C dX1_copyFrom_58 hx0 poX1_86 rfl eI5 ?_
  obtain ⟨rfl, rfl⟩ := pr_e h
  exact s_vret C M dX1_copyFrom_61 rfl (Nat.le_refl 0) (Nat.le_refl 0)
theorem wX1_depths_p4 {X : Cx} {d : Nat} (hd : 2 ≤ d) (C : CtxOK X mX1_depths) : ∀ (n : Nat) {x0 : Nat} {x1 : Int32} {x2 : Int32} {I I' : Mm} {r : Int32} (hx0 : kd0 x0 = 1) (_ : fX1_depths_p4 n x0 x1 x2 I = some (r, I')) (_ : MX X (xE X) d 0 0 (some (.int r)) S0 I'), WM X mX1_depths 4 [some (rfX X x0), some (.int x1), some (.int x2)] [] S0 I 0 0 := by
  intro n
  induction n with
  | zero => intro x0 x1 x2 I I' r hx0 h M; exact absurd h (by simp [fX1_depths_p4])
  | succ n ih =>
    intro x0 x1 x2 I I' r hx0 h M
    rw [fX1_depths_p4] at h
    refine s_iload_n C dX1_depths_4 rfl rfl ?_
    refine s_aload_n C dX1_depths_5 rfl rfl ?_
    refine s_getI C dX1_depths_6 hx0 foX1_21 rfl ?_
    refine s_icmp_ge (tgt := 26) C dX1_depths_9 (by decide) (fun c => ?_) (fun c => ?_)
    · have h := it_t c h
      refine s_iload_n C dX1_depths_26 rfl rfl ?_
      obtain ⟨rfl, rfl⟩ := pr_e h
      exact s_iret C M dX1_depths_27 rfl rfl (Nat.le_refl 0) (Nat.le_refl 0)
    · have h := it_f c h
      refine s_iload_n C dX1_depths_12 rfl rfl ?_
      refine s_aload_n C dX1_depths_13 rfl rfl ?_
      refine s_iload_n C dX1_depths_14 rfl rfl ?_
      obtain ⟨r1, I1, hh, h⟩ := bd_e h
      refine s_cV0 (st := [.int x1]) C M.rg (Nat.le_trans (by decide) hd) mwX1_depthAt mlX1_29 dX1_depths_15 (wX1_depthAt (d := 1) (Nat.le_refl _) hx0 hh) hx0 rfl rfl (Nat.le_of_ble_eq_true rfl) ?_
      refine s_iadd C dX1_depths_18 ?_
      obtain ⟨v1, ev1, h⟩ := ltm_e h
      refine s_top_i ev1 ?_
      refine s_istore_n (ls' := [some (rfX X x0), some (.int v1), some (.int x2)]) C dX1_depths_19 rfl (by decide) (Nat.le_of_ble_eq_true rfl) rfl rfl ?_
      obtain ⟨v2, ev2, h⟩ := ltm_e h
      refine s_iinc (v := v2) (ls' := [some (rfX X x0), some (.int v1), some (.int v2)]) C dX1_depths_20 rfl (by decide) (Nat.le_of_ble_eq_true rfl) (by rw [ev2, ic_1]) rfl rfl ?_
      refine s_goto (tgt := 4) C dX1_depths_23 (by decide) ?_
      exact ih hx0 h M
theorem wX1_depths {E : Ev} {d : Nat} (hd : 2 ≤ d) {x0 : Nat} {I I' : Mm} {r : Int32} (hx0 : kd0 x0 = 1) (h : fX1_depths x0 I = some (r, I')) : SemM E d 0 0 mX1_depths [rfE E x0] S0 I (some (.int r)) S0 I' := by
  unfold fX1_depths at h
  refine SemM.ofX (E := E) (y := mX1_depths) (args := fun E => [rfE E x0]) (r := fun E => (some (.int r))) (fun E => [some (rfE E x0), none, none]) (by decide +kernel) (Nat.le_of_ble_eq_true rfl) rfl (fun X C M => ?_)
  refine s_iconst C dX1_depths_0 ic_0 ?_
  refine s_istore_n (ls' := [some (rfX X x0), some (.int 0), none]) C dX1_depths_1 rfl (by decide) (Nat.le_of_ble_eq_true rfl) rfl rfl ?_
  refine s_iconst C dX1_depths_2 ic_0 ?_
  refine s_istore_n (ls' := [some (rfX X x0), some (.int 0), some (.int 0)]) C dX1_depths_3 rfl (by decide) (Nat.le_of_ble_eq_true rfl) rfl rfl ?_
  exact wX1_depths_p4 hd C _ hx0 h M
theorem wX1_weightAt {E : Ev} {d : Nat} (hd : 1 ≤ d) {x0 : Nat} {x1 : Int32} {I I' : Mm} {r : Int32} (hx0 : kd0 x0 = 1) (h : fX1_weightAt x0 x1 I = some (r, I')) : SemM E d 0 0 mX1_weightAt [rfE E x0, .int x1] S0 I (some (.int r)) S0 I' := by
  unfold fX1_weightAt at h
  refine SemM.ofX (E := E) (y := mX1_weightAt) (args := fun E => [rfE E x0, .int x1]) (r := fun E => (some (.int r))) (fun E => [some (rfE E x0), some (.int x1)]) (by decide +kernel) (Nat.le_of_ble_eq_true rfl) rfl (fun X C M => ?_)
  refine s_iload_n C dX1_weightAt_0 rfl rfl ?_
  refine s_if_lt (tgt := 27) C dX1_weightAt_1 (by decide) (fun c => ?_) (fun c => ?_)
  · have h := it_t c h
    refine s_bipush C dX1_weightAt_27 bi_m15 ?_
    obtain ⟨rfl, rfl⟩ := pr_e h
    exact s_iret C M dX1_weightAt_29 rfl rfl (Nat.le_refl 0) (Nat.le_refl 0)
  · have h := it_f c h
    refine s_iload_n C dX1_weightAt_4 rfl rfl ?_
    refine s_aload_n C dX1_weightAt_5 rfl rfl ?_
    refine s_getI C dX1_weightAt_6 hx0 foX1_21 rfl ?_
    refine s_icmp_ge (tgt := 27) C dX1_weightAt_9 (by decide) (fun c => ?_) (fun c => ?_)
    · have h := it_t c h
      refine s_bipush C dX1_weightAt_27 bi_m15 ?_
      obtain ⟨rfl, rfl⟩ := pr_e h
      exact s_iret C M dX1_weightAt_29 rfl rfl (Nat.le_refl 0) (Nat.le_refl 0)
    · have h := it_f c h
      refine s_iload_n C dX1_weightAt_12 rfl rfl ?_
      refine s_bipush C dX1_weightAt_13 bi_30 ?_
      refine s_icmp_ge (tgt := 27) C dX1_weightAt_15 (by decide) (fun c => ?_) (fun c => ?_)
      · have h := it_t c h
        refine s_bipush C dX1_weightAt_27 bi_m15 ?_
        obtain ⟨rfl, rfl⟩ := pr_e h
        exact s_iret C M dX1_weightAt_29 rfl rfl (Nat.le_refl 0) (Nat.le_refl 0)
      · have h := it_f c h
        refine s_aload_n C dX1_weightAt_18 rfl rfl ?_
        refine s_getR (b := (x0 + 1)) C dX1_weightAt_19 hx0 foX1_9 rfl (rr1 hx0).1 ?_
        refine s_iload_n C dX1_weightAt_22 rfl rfl ?_
        obtain ⟨hb, h⟩ := it_n h
        refine s_ald (q := x1.toNatClampNeg) C dX1_weightAt_23 (kd1 hx0).1 (by decide) rfl hb ?_
        refine s_goto (tgt := 29) C dX1_weightAt_24 (by decide) ?_
        obtain ⟨rfl, rfl⟩ := pr_e h
        exact s_iret C M dX1_weightAt_29 rfl rfl (Nat.le_refl 0) (Nat.le_refl 0)
theorem wX1_find_p2 {X : Cx} {d : Nat} (hd : 2 ≤ d) (C : CtxOK X mX1_find) : ∀ (n : Nat) {x0 : Nat} {x1 : Int32} {x2 : Int32} {I I' : Mm} {r : Int32} (hx0 : kd0 x0 = 1) (_ : fX1_find_p2 n x0 x1 x2 I = some (r, I')) (_ : MX X (xE X) d 0 0 (some (.int r)) S0 I'), WM X mX1_find 2 [some (rfX X x0), some (.int x1), some (.int x2)] [] S0 I 0 0 := by
  intro n
  induction n with
  | zero => intro x0 x1 x2 I I' r hx0 h M; exact absurd h (by simp [fX1_find_p2])
  | succ n ih =>
    intro x0 x1 x2 I I' r hx0 h M
    rw [fX1_find_p2] at h
    refine s_iload_n C dX1_find_2 rfl rfl ?_
    refine s_aload_n C dX1_find_3 rfl rfl ?_
    refine s_getI C dX1_find_4 hx0 foX1_21 rfl ?_
    refine s_icmp_ge (tgt := 27) C dX1_find_7 (by decide) (fun c => ?_) (fun c => ?_)
    · have h := it_t c h
      refine s_iconst C dX1_find_27 ic_m1 ?_
      obtain ⟨rfl, rfl⟩ := pr_e h
      exact s_iret C M dX1_find_28 rfl rfl (Nat.le_refl 0) (Nat.le_refl 0)
    · have h := it_f c h
      refine s_aload_n C dX1_find_10 rfl rfl ?_
      refine s_iload_n C dX1_find_11 rfl rfl ?_
      obtain ⟨r1, I1, hh, h⟩ := bd_e h
      refine s_cV0 (st := []) C M.rg (Nat.le_trans (by decide) hd) mwX1_weightAt mlX1_25 dX1_find_12 (wX1_weightAt (d := 1) (Nat.le_refl _) hx0 hh) hx0 rfl rfl (Nat.le_of_ble_eq_true rfl) ?_
      refine s_iload_n C dX1_find_15 rfl rfl ?_
      refine s_icmp_ne (tgt := 21) C dX1_find_16 (by decide) (fun c => ?_) (fun c => ?_)
      · have h := it_f c h
        obtain ⟨v1, ev1, h⟩ := ltm_e h
        refine s_iinc (v := v1) (ls' := [some (rfX X x0), some (.int x1), some (.int v1)]) C dX1_find_21 rfl (by decide) (Nat.le_of_ble_eq_true rfl) (by rw [ev1, ic_1]) rfl rfl ?_
        refine s_goto (tgt := 2) C dX1_find_24 (by decide) ?_
        exact ih hx0 h M
      · have h := it_t c h
        refine s_iload_n C dX1_find_19 rfl rfl ?_
        obtain ⟨rfl, rfl⟩ := pr_e h
        exact s_iret C M dX1_find_20 rfl rfl (Nat.le_refl 0) (Nat.le_refl 0)
theorem wX1_find {E : Ev} {d : Nat} (hd : 2 ≤ d) {x0 : Nat} {x1 : Int32} {I I' : Mm} {r : Int32} (hx0 : kd0 x0 = 1) (h : fX1_find x0 x1 I = some (r, I')) : SemM E d 0 0 mX1_find [rfE E x0, .int x1] S0 I (some (.int r)) S0 I' := by
  unfold fX1_find at h
  refine SemM.ofX (E := E) (y := mX1_find) (args := fun E => [rfE E x0, .int x1]) (r := fun E => (some (.int r))) (fun E => [some (rfE E x0), some (.int x1), none]) (by decide +kernel) (Nat.le_of_ble_eq_true rfl) rfl (fun X C M => ?_)
  refine s_iconst C dX1_find_0 ic_0 ?_
  refine s_istore_n (ls' := [some (rfX X x0), some (.int x1), some (.int 0)]) C dX1_find_1 rfl (by decide) (Nat.le_of_ble_eq_true rfl) rfl rfl ?_
  exact wX1_find_p2 hd C _ hx0 h M
theorem wX1_greatestDepth_p4 {X : Cx} {d : Nat} (hd : 2 ≤ d) (C : CtxOK X mX1_greatestDepth) : ∀ (n : Nat) {x0 : Nat} {x1 : Int32} {x2 : Int32} {I I' : Mm} {r : Int32} (hx0 : kd0 x0 = 1) (_ : fX1_greatestDepth_p4 n x0 x1 x2 I = some (r, I')) (_ : MX X (xE X) d 0 0 (some (.int r)) S0 I'), WM X mX1_greatestDepth 4 [some (rfX X x0), some (.int x1), some (.int x2)] [] S0 I 0 0 := by
  intro n
  induction n with
  | zero => intro x0 x1 x2 I I' r hx0 h M; exact absurd h (by simp [fX1_greatestDepth_p4])
  | succ n ih =>
    intro x0 x1 x2 I I' r hx0 h M
    rw [fX1_greatestDepth_p4] at h
    refine s_iload_n C dX1_greatestDepth_4 rfl rfl ?_
    refine s_aload_n C dX1_greatestDepth_5 rfl rfl ?_
    refine s_getI C dX1_greatestDepth_6 hx0 foX1_21 rfl ?_
    refine s_icmp_ge (tgt := 28) C dX1_greatestDepth_9 (by decide) (fun c => ?_) (fun c => ?_)
    · have h := it_t c h
      refine s_iload_n C dX1_greatestDepth_28 rfl rfl ?_
      obtain ⟨rfl, rfl⟩ := pr_e h
      exact s_iret C M dX1_greatestDepth_29 rfl rfl (Nat.le_refl 0) (Nat.le_refl 0)
    · have h := it_f c h
      refine s_iload_n C dX1_greatestDepth_12 rfl rfl ?_
      refine s_aload_n C dX1_greatestDepth_13 rfl rfl ?_
      refine s_iload_n C dX1_greatestDepth_14 rfl rfl ?_
      obtain ⟨r1, I1, hh, h⟩ := bd_e h
      refine s_cV0 (st := [.int x1]) C M.rg (Nat.le_trans (by decide) hd) mwX1_depthAt mlX1_29 dX1_greatestDepth_15 (wX1_depthAt (d := 1) (Nat.le_refl _) hx0 hh) hx0 rfl rfl (Nat.le_of_ble_eq_true rfl) ?_
      refine s_max C M.rg (Nat.le_trans (by decide) hd) mlX1_32 dX1_greatestDepth_18 w_max_s w_math_i w_max_c (Nat.le_of_ble_eq_true rfl) (Nat.le_refl 0) (Nat.le_refl 0) ?_
      obtain ⟨v1, ev1, h⟩ := ltm_e h
      refine s_top_i ev1 ?_
      refine s_istore_n (ls' := [some (rfX X x0), some (.int v1), some (.int x2)]) C dX1_greatestDepth_21 rfl (by decide) (Nat.le_of_ble_eq_true rfl) rfl rfl ?_
      obtain ⟨v2, ev2, h⟩ := ltm_e h
      refine s_iinc (v := v2) (ls' := [some (rfX X x0), some (.int v1), some (.int v2)]) C dX1_greatestDepth_22 rfl (by decide) (Nat.le_of_ble_eq_true rfl) (by rw [ev2, ic_1]) rfl rfl ?_
      refine s_goto (tgt := 4) C dX1_greatestDepth_25 (by decide) ?_
      exact ih hx0 h M
theorem wX1_greatestDepth {E : Ev} {d : Nat} (hd : 2 ≤ d) {x0 : Nat} {I I' : Mm} {r : Int32} (hx0 : kd0 x0 = 1) (h : fX1_greatestDepth x0 I = some (r, I')) : SemM E d 0 0 mX1_greatestDepth [rfE E x0] S0 I (some (.int r)) S0 I' := by
  unfold fX1_greatestDepth at h
  refine SemM.ofX (E := E) (y := mX1_greatestDepth) (args := fun E => [rfE E x0]) (r := fun E => (some (.int r))) (fun E => [some (rfE E x0), none, none]) (by decide +kernel) (Nat.le_of_ble_eq_true rfl) rfl (fun X C M => ?_)
  refine s_iconst C dX1_greatestDepth_0 ic_m1 ?_
  refine s_istore_n (ls' := [some (rfX X x0), some (.int (-1)), none]) C dX1_greatestDepth_1 rfl (by decide) (Nat.le_of_ble_eq_true rfl) rfl rfl ?_
  refine s_iconst C dX1_greatestDepth_2 ic_0 ?_
  refine s_istore_n (ls' := [some (rfX X x0), some (.int (-1)), some (.int 0)]) C dX1_greatestDepth_3 rfl (by decide) (Nat.le_of_ble_eq_true rfl) rfl rfl ?_
  exact wX1_greatestDepth_p4 hd C _ hx0 h M
theorem wX1_isInOrder_p2 {X : Cx} {d : Nat} (hd : 2 ≤ d) (C : CtxOK X mX1_isInOrder) : ∀ (n : Nat) {x0 : Nat} {x1 : Int32} {I I' : Mm} {r : Int32} (hx0 : kd0 x0 = 1) (_ : fX1_isInOrder_p2 n x0 x1 I = some (r, I')) (_ : MX X (xE X) d 0 0 (some (.int r)) S0 I'), WM X mX1_isInOrder 2 [some (rfX X x0), some (.int x1)] [] S0 I 0 0 := by
  intro n
  induction n with
  | zero => intro x0 x1 I I' r hx0 h M; exact absurd h (by simp [fX1_isInOrder_p2])
  | succ n ih =>
    intro x0 x1 I I' r hx0 h M
    rw [fX1_isInOrder_p2] at h
    refine s_iload_n C dX1_isInOrder_2 rfl rfl ?_
    refine s_aload_n C dX1_isInOrder_3 rfl rfl ?_
    refine s_getI C dX1_isInOrder_4 hx0 foX1_21 rfl ?_
    refine s_icmp_ge (tgt := 33) C dX1_isInOrder_7 (by decide) (fun c => ?_) (fun c => ?_)
    · have h := it_t c h
      refine s_iconst C dX1_isInOrder_33 ic_1 ?_
      obtain ⟨rfl, rfl⟩ := pr_e h
      exact s_iret C M dX1_isInOrder_34 rfl (nz_b (by decide)) (Nat.le_refl 0) (Nat.le_refl 0)
    · have h := it_f c h
      refine s_aload_n C dX1_isInOrder_10 rfl rfl ?_
      refine s_iload_n C dX1_isInOrder_11 rfl rfl ?_
      refine s_iconst C dX1_isInOrder_12 ic_1 ?_
      refine s_isub C dX1_isInOrder_13 ?_
      obtain ⟨r1, I1, hh, h⟩ := bd_e h
      refine s_cV0 (st := []) C M.rg (Nat.le_trans (by decide) hd) mwX1_weightAt mlX1_25 dX1_isInOrder_14 (wX1_weightAt (d := 1) (Nat.le_refl _) hx0 hh) hx0 rfl rfl (Nat.le_of_ble_eq_true rfl) ?_
      refine s_aload_n C dX1_isInOrder_17 rfl rfl ?_
      refine s_iload_n C dX1_isInOrder_18 rfl rfl ?_
      obtain ⟨r2, I2, hh, h⟩ := bd_e h
      refine s_cV0 (st := [.int r1]) C M.rg (Nat.le_trans (by decide) hd) mwX1_weightAt mlX1_25 dX1_isInOrder_19 (wX1_weightAt (d := 1) (Nat.le_refl _) hx0 hh) hx0 rfl rfl (Nat.le_of_ble_eq_true rfl) ?_
      refine s_icmp_lt (tgt := 27) C dX1_isInOrder_22 (by decide) (fun c => ?_) (fun c => ?_)
      · have h := it_t c h
        obtain ⟨v1, ev1, h⟩ := ltm_e h
        refine s_iinc (v := v1) (ls' := [some (rfX X x0), some (.int v1)]) C dX1_isInOrder_27 rfl (by decide) (Nat.le_of_ble_eq_true rfl) (by rw [ev1, ic_1]) rfl rfl ?_
        refine s_goto (tgt := 2) C dX1_isInOrder_30 (by decide) ?_
        exact ih hx0 h M
      · have h := it_f c h
        refine s_iconst C dX1_isInOrder_25 ic_0 ?_
        obtain ⟨rfl, rfl⟩ := pr_e h
        exact s_iret C M dX1_isInOrder_26 rfl (nz_b (by decide)) (Nat.le_refl 0) (Nat.le_refl 0)
theorem wX1_isInOrder {E : Ev} {d : Nat} (hd : 2 ≤ d) {x0 : Nat} {I I' : Mm} {r : Int32} (hx0 : kd0 x0 = 1) (h : fX1_isInOrder x0 I = some (r, I')) : SemM E d 0 0 mX1_isInOrder [rfE E x0] S0 I (some (.int r)) S0 I' := by
  unfold fX1_isInOrder at h
  refine SemM.ofX (E := E) (y := mX1_isInOrder) (args := fun E => [rfE E x0]) (r := fun E => (some (.int r))) (fun E => [some (rfE E x0), none]) (by decide +kernel) (Nat.le_of_ble_eq_true rfl) rfl (fun X C M => ?_)
  refine s_iconst C dX1_isInOrder_0 ic_1 ?_
  refine s_istore_n (ls' := [some (rfX X x0), some (.int 1)]) C dX1_isInOrder_1 rfl (by decide) (Nat.le_of_ble_eq_true rfl) rfl rfl ?_
  exact wX1_isInOrder_p2 hd C _ hx0 h M
theorem wX1_lighterOneByOne_p4 {X : Cx} {d : Nat} (hd : 2 ≤ d) (C : CtxOK X mX1_lighterOneByOne) : ∀ (n : Nat) {x0 : Nat} {x1 : Int32} {x2 : Int32} {x3 : Int32} {I I' : Mm} {r : Int32} (hx0 : kd0 x0 = 1) (_ : fX1_lighterOneByOne_p4 n x0 x1 x2 x3 I = some (r, I')) (_ : MX X (xE X) d 0 0 (some (.int r)) S0 I'), WM X mX1_lighterOneByOne 4 [some (rfX X x0), some (.int x1), some (.int x2), some (.int x3)] [] S0 I 0 0 := by
  intro n
  induction n with
  | zero => intro x0 x1 x2 x3 I I' r hx0 h M; exact absurd h (by simp [fX1_lighterOneByOne_p4])
  | succ n ih =>
    intro x0 x1 x2 x3 I I' r hx0 h M
    rw [fX1_lighterOneByOne_p4] at h
    refine s_iload_n C dX1_lighterOneByOne_4 rfl rfl ?_
    refine s_aload_n C dX1_lighterOneByOne_5 rfl rfl ?_
    refine s_getI C dX1_lighterOneByOne_6 hx0 foX1_21 rfl ?_
    refine s_icmp_ge (tgt := 30) C dX1_lighterOneByOne_9 (by decide) (fun c => ?_) (fun c => ?_)
    · have h := it_t c h
      refine s_iload_n C dX1_lighterOneByOne_30 rfl rfl ?_
      obtain ⟨rfl, rfl⟩ := pr_e h
      exact s_iret C M dX1_lighterOneByOne_31 rfl rfl (Nat.le_refl 0) (Nat.le_refl 0)
    · have h := it_f c h
      refine s_aload_n C dX1_lighterOneByOne_12 rfl rfl ?_
      refine s_iload_n C dX1_lighterOneByOne_13 rfl rfl ?_
      obtain ⟨r1, I1, hh, h⟩ := bd_e h
      refine s_cV0 (st := []) C M.rg (Nat.le_trans (by decide) hd) mwX1_weightAt mlX1_25 dX1_lighterOneByOne_14 (wX1_weightAt (d := 1) (Nat.le_refl _) hx0 hh) hx0 rfl rfl (Nat.le_of_ble_eq_true rfl) ?_
      refine s_iload_n C dX1_lighterOneByOne_17 rfl rfl ?_
      refine s_icmp_ge (tgt := 24) C dX1_lighterOneByOne_18 (by decide) (fun c => ?_) (fun c => ?_)
      · have h := it_t c h
        obtain ⟨v1, ev1, h⟩ := ltm_e h
        refine s_iinc (v := v1) (ls' := [some (rfX X x0), some (.int x1), some (.int x2), some (.int v1)]) C dX1_lighterOneByOne_24 rfl (by decide) (Nat.le_of_ble_eq_true rfl) (by rw [ev1, ic_1]) rfl rfl ?_
        refine s_goto (tgt := 4) C dX1_lighterOneByOne_27 (by decide) ?_
        exact ih hx0 h M
      · have h := it_f c h
        obtain ⟨v1, ev1, h⟩ := ltm_e h
        refine s_iinc (v := v1) (ls' := [some (rfX X x0), some (.int x1), some (.int v1), some (.int x3)]) C dX1_lighterOneByOne_21 rfl (by decide) (Nat.le_of_ble_eq_true rfl) (by rw [ev1, ic_1]) rfl rfl ?_
        obtain ⟨v2, ev2, h⟩ := ltm_e h
        refine s_iinc (v := v2) (ls' := [some (rfX X x0), some (.int x1), some (.int v1), some (.int v2)]) C dX1_lighterOneByOne_24 rfl (by decide) (Nat.le_of_ble_eq_true rfl) (by rw [ev2, ic_1]) rfl rfl ?_
        refine s_goto (tgt := 4) C dX1_lighterOneByOne_27 (by decide) ?_
        exact ih hx0 h M
theorem wX1_lighterOneByOne {E : Ev} {d : Nat} (hd : 2 ≤ d) {x0 : Nat} {x1 : Int32} {I I' : Mm} {r : Int32} (hx0 : kd0 x0 = 1) (h : fX1_lighterOneByOne x0 x1 I = some (r, I')) : SemM E d 0 0 mX1_lighterOneByOne [rfE E x0, .int x1] S0 I (some (.int r)) S0 I' := by
  unfold fX1_lighterOneByOne at h
  refine SemM.ofX (E := E) (y := mX1_lighterOneByOne) (args := fun E => [rfE E x0, .int x1]) (r := fun E => (some (.int r))) (fun E => [some (rfE E x0), some (.int x1), none, none]) (by decide +kernel) (Nat.le_of_ble_eq_true rfl) rfl (fun X C M => ?_)
  refine s_iconst C dX1_lighterOneByOne_0 ic_0 ?_
  refine s_istore_n (ls' := [some (rfX X x0), some (.int x1), some (.int 0), none]) C dX1_lighterOneByOne_1 rfl (by decide) (Nat.le_of_ble_eq_true rfl) rfl rfl ?_
  refine s_iconst C dX1_lighterOneByOne_2 ic_0 ?_
  refine s_istore_n (ls' := [some (rfX X x0), some (.int x1), some (.int 0), some (.int 0)]) C dX1_lighterOneByOne_3 rfl (by decide) (Nat.le_of_ble_eq_true rfl) rfl rfl ?_
  exact wX1_lighterOneByOne_p4 hd C _ hx0 h M
theorem wX1_set {E : Ev} {d : Nat} (hd : 1 ≤ d) {x0 : Nat} {x1 : Int32} {x2 : Int32} {x3 : Int32} {x4 : Int32} {I I' : Mm} {r : Unit} (hx0 : kd0 x0 = 1) (h : fX1_set x0 x1 x2 x3 x4 I = some (r, I')) : SemM E d 0 0 mX1_set [rfE E x0, .int x1, .int x2, .int x3, .int x4] S0 I none S0 I' := by
  unfold fX1_set at h
  refine SemM.ofX (E := E) (y := mX1_set) (args := fun E => [rfE E x0, .int x1, .int x2, .int x3, .int x4]) (r := fun E => none) (fun E => [some (rfE E x0), some (.int x1), some (.int x2), some (.int x3), some (.int x4)]) (by decide +kernel) (Nat.le_of_ble_eq_true rfl) rfl (fun X C M => ?_)
  refine s_iload_n C dX1_set_0 rfl rfl ?_
  refine s_if_lt (tgt := 32) C dX1_set_1 (by decide) (fun c => ?_) (fun c => ?_)
  · have h := it_t c h
    obtain ⟨rfl, rfl⟩ := pr_e h
    exact s_vret C M dX1_set_32 rfl (Nat.le_refl 0) (Nat.le_refl 0)
  · have h := it_f c h
    refine s_iload_n C dX1_set_4 rfl rfl ?_
    refine s_bipush C dX1_set_5 bi_30 ?_
    refine s_icmp_ge (tgt := 32) C dX1_set_7 (by decide) (fun c => ?_) (fun c => ?_)
    · have h := it_t c h
      obtain ⟨rfl, rfl⟩ := pr_e h
      exact s_vret C M dX1_set_32 rfl (Nat.le_refl 0) (Nat.le_refl 0)
    · have h := it_f c h
      refine s_aload_n C dX1_set_10 rfl rfl ?_
      refine s_getR (b := (x0 + 1)) C dX1_set_11 hx0 foX1_9 rfl (rr1 hx0).1 ?_
      refine s_iload_n C dX1_set_14 rfl rfl ?_
      refine s_iload_n C dX1_set_15 rfl rfl ?_
      obtain ⟨hb, h⟩ := it_n h
      obtain ⟨I1, eI1, h⟩ := ltm_e h
      refine s_ast (q := x1.toNatClampNeg) C dX1_set_16 (kd1 hx0).1 (by decide) rfl hb eI1 ?_
      refine s_aload_n C dX1_set_17 rfl rfl ?_
      refine s_getR (b := (x0 + 2)) C dX1_set_18 hx0 foX1_15 rfl (rr1 hx0).2.1 ?_
      refine s_iload_n C dX1_set_21 rfl rfl ?_
      refine s_iload_n C dX1_set_22 rfl rfl ?_
      obtain ⟨hb, h⟩ := it_n h
      obtain ⟨I2, eI2, h⟩ := ltm_e h
      refine s_ast (q := x1.toNatClampNeg) C dX1_set_23 (kd1 hx0).2.1 (by decide) rfl hb eI2 ?_
      refine s_aload_n C dX1_set_24 rfl rfl ?_
      refine s_getR (b := (x0 + 3)) C dX1_set_25 hx0 foX1_18 rfl (rr1 hx0).2.2 ?_
      refine s_iload_n C dX1_set_28 rfl rfl ?_
      refine s_iload C dX1_set_29 rfl ?_
      obtain ⟨hb, h⟩ := it_n h
      obtain ⟨I3, eI3, h⟩ := ltm_e h
      refine s_ast (q := x1.toNatClampNeg) C dX1_set_31 (kd1 hx0).2.2 (by decide) rfl hb eI3 ?_
      obtain ⟨rfl, rfl⟩ := pr_e h
      exact s_vret C M dX1_set_32 rfl (Nat.le_refl 0) (Nat.le_refl 0)
theorem wX1_lay_p49 {X : Cx} {d : Nat} (hd : 3 ≤ d) (C : CtxOK X mX1_lay) : ∀ (n : Nat) {x0 : Nat} {x1 : Int32} {x2 : Int32} {x3 : Int32} {x4 : Int32} {x5 : Int32} {I I' : Mm} {r : Int32} (hx0 : kd0 x0 = 1) (_ : fX1_lay_p49 n x0 x1 x2 x3 x4 x5 I = some (r, I')) (_ : MX X (xE X) d 0 0 (some (.int r)) S0 I'), WM X mX1_lay 49 [some (rfX X x0), some (.int x1), some (.int x2), some (.int x3), some (.int x4), some (.int x5)] [] S0 I 0 0 := by
  intro n
  induction n with
  | zero => intro x0 x1 x2 x3 x4 x5 I I' r hx0 h M; exact absurd h (by simp [fX1_lay_p49])
  | succ n ih =>
    intro x0 x1 x2 x3 x4 x5 I I' r hx0 h M
    rw [fX1_lay_p49] at h
    refine s_iload C dX1_lay_49 rfl ?_
    refine s_iload_n C dX1_lay_51 rfl rfl ?_
    refine s_icmp_le (tgt := 91) C dX1_lay_52 (by decide) (fun c => ?_) (fun c => ?_)
    · have h := it_t c h
      refine s_aload_n C dX1_lay_91 rfl rfl ?_
      refine s_iload_n C dX1_lay_92 rfl rfl ?_
      refine s_iload_n C dX1_lay_93 rfl rfl ?_
      refine s_iload_n C dX1_lay_94 rfl rfl ?_
      refine s_iload C dX1_lay_95 rfl ?_
      obtain ⟨r1, I1, hh, h⟩ := bd_e h
      refine s_cV0 (st := []) C M.rg (Nat.le_trans (by decide) hd) mwX1_set mlX1_68 dX1_lay_97 (wX1_set (d := 1) (Nat.le_refl _) hx0 hh) hx0 rfl rfl (Nat.le_of_ble_eq_true rfl) ?_
      refine s_aload_n C dX1_lay_100 rfl rfl ?_
      refine s_dup C dX1_lay_101 rfl ?_
      refine s_getI C dX1_lay_102 hx0 foX1_21 rfl ?_
      refine s_iconst C dX1_lay_105 ic_1 ?_
      refine s_iadd C dX1_lay_106 ?_
      obtain ⟨I2, eI2, h⟩ := ltm_e h
      refine s_putI C dX1_lay_107 hx0 poX1_21 rfl eI2 ?_
      refine s_iload_n C dX1_lay_110 rfl rfl ?_
      obtain ⟨rfl, rfl⟩ := pr_e h
      exact s_iret C M dX1_lay_111 rfl rfl (Nat.le_refl 0) (Nat.le_refl 0)
    · have h := it_f c h
      refine s_aload_n C dX1_lay_55 rfl rfl ?_
      refine s_iload C dX1_lay_56 rfl ?_
      refine s_aload_n C dX1_lay_58 rfl rfl ?_
      refine s_iload C dX1_lay_59 rfl ?_
      refine s_iconst C dX1_lay_61 ic_1 ?_
      refine s_isub C dX1_lay_62 ?_
      obtain ⟨r1, I1, hh, h⟩ := bd_e h
      refine s_cV0 (st := [.int x5, rfX X x0]) C M.rg (Nat.le_trans (by decide) hd) mwX1_weightAt mlX1_25 dX1_lay_63 (wX1_weightAt (d := 1) (Nat.le_refl _) hx0 hh) hx0 rfl rfl (Nat.le_of_ble_eq_true rfl) ?_
      refine s_aload_n C dX1_lay_66 rfl rfl ?_
      refine s_iload C dX1_lay_67 rfl ?_
      refine s_iconst C dX1_lay_69 ic_1 ?_
      refine s_isub C dX1_lay_70 ?_
      obtain ⟨r2, I2, hh, h⟩ := bd_e h
      refine s_cV0 (st := [.int r1, .int x5, rfX X x0]) C M.rg (Nat.le_trans (by decide) hd) mwX1_loadAt mlX1_48 dX1_lay_71 (wX1_loadAt (d := 1) (Nat.le_refl _) hx0 hh) hx0 rfl rfl (Nat.le_of_ble_eq_true rfl) ?_
      refine s_aload_n C dX1_lay_74 rfl rfl ?_
      refine s_iload C dX1_lay_75 rfl ?_
      refine s_iconst C dX1_lay_77 ic_1 ?_
      refine s_isub C dX1_lay_78 ?_
      obtain ⟨r3, I3, hh, h⟩ := bd_e h
      refine s_cV0 (st := [.int r2, .int r1, .int x5, rfX X x0]) C M.rg (Nat.le_trans (by decide) hd) mwX1_depthAt mlX1_29 dX1_lay_79 (wX1_depthAt (d := 1) (Nat.le_refl _) hx0 hh) hx0 rfl rfl (Nat.le_of_ble_eq_true rfl) ?_
      obtain ⟨r4, I4, hh, h⟩ := bd_e h
      refine s_cV0 (st := []) C M.rg (Nat.le_trans (by decide) hd) mwX1_set mlX1_68 dX1_lay_82 (wX1_set (d := 1) (Nat.le_refl _) hx0 hh) hx0 rfl rfl (Nat.le_of_ble_eq_true rfl) ?_
      obtain ⟨v1, ev1, h⟩ := ltm_e h
      refine s_iinc (v := v1) (ls' := [some (rfX X x0), some (.int x1), some (.int x2), some (.int x3), some (.int x4), some (.int v1)]) C dX1_lay_85 rfl (by decide) (Nat.le_of_ble_eq_true rfl) (by rw [ev1, ic_m1]) rfl rfl ?_
      refine s_goto (tgt := 49) C dX1_lay_88 (by decide) ?_
      exact ih hx0 h M
