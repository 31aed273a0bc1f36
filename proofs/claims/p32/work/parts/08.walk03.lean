theorem wX0_isOrder {E : Ev} {d : Nat} (hd : 3 ≤ d) {x1 : Nat} {I I' : Mm} {r : Int32} (hx1 : kd0 x1 = 2) (h : fX0_isOrder x1 I = some (r, I')) : SemM E d 0 0 mX0_isOrder [rfE E 34, rfE E x1] S0 I (some (.int r)) S0 I' := by
  unfold fX0_isOrder at h
  refine SemM.ofX (E := E) (y := mX0_isOrder) (args := fun E => [rfE E 34, rfE E x1]) (r := fun E => (some (.int r))) (fun E => [some (rfE E 34), some (rfE E x1), none]) (by decide +kernel) (Nat.le_of_ble_eq_true rfl) rfl (fun X C M => ?_)
  refine s_aload_n C dX0_isOrder_0 rfl rfl ?_
  refine s_aload_n C dX0_isOrder_1 rfl rfl ?_
  refine s_getI C dX0_isOrder_2 kk_34 foX0_22 rfl ?_
  obtain ⟨r1, I1, hh, h⟩ := bd_e h
  refine s_cV0 (st := []) C M.rg (Nat.le_trans (by decide) hd) mwX2_codeAt mlX0_38 dX0_isOrder_5 (wX2_codeAt (d := 1) (Nat.le_refl _) hx1 hh) hx1 rfl rfl (Nat.le_of_ble_eq_true rfl) ?_
  refine s_istore_n (ls' := [some (rfX X 34), some (rfX X x1), some (.int r1)]) C dX0_isOrder_8 rfl (by decide) (Nat.le_of_ble_eq_true rfl) rfl rfl ?_
  refine s_aload_n C dX0_isOrder_9 rfl rfl ?_
  refine s_getI C dX0_isOrder_10 kk_34 foX0_18 rfl ?_
  refine s_bipush C dX0_isOrder_13 bi_20 ?_
  refine s_icmp_ge (tgt := 35) C dX0_isOrder_15 (by decide) (fun c => ?_) (fun c => ?_)
  · have h := it_t c h
    exact wX0_isOrder_p35 hd C hx1 h M
  · have h := it_f c h
    refine s_aload_n C dX0_isOrder_18 rfl rfl ?_
    refine s_getI C dX0_isOrder_19 kk_34 foX0_18 rfl ?_
    refine s_if_lt (tgt := 35) C dX0_isOrder_22 (by decide) (fun c => ?_) (fun c => ?_)
    · have h := it_t c h
      exact wX0_isOrder_p35 hd C hx1 h M
    · have h := it_f c h
      refine s_aload_n C dX0_isOrder_25 rfl rfl ?_
      refine s_getR (b := 35) C dX0_isOrder_26 kk_34 foX0_9 rfl rk_34_0 ?_
      refine s_aload_n C dX0_isOrder_29 rfl rfl ?_
      refine s_getI C dX0_isOrder_30 kk_34 foX0_18 rfl ?_
      refine s_iload_n C dX0_isOrder_33 rfl rfl ?_
      obtain ⟨hb, h⟩ := it_n h
      obtain ⟨I2, eI2, h⟩ := ltm_e h
      refine s_ast (q := (I1 34 2).toNatClampNeg) C dX0_isOrder_34 kk_35 (by decide) rfl hb eI2 ?_
      exact wX0_isOrder_p35 hd C hx1 h M
theorem wX0_read_p14 {X : Cx} {d : Nat} (hd : 4 ≤ d) (C : CtxOK X mX0_read) : ∀ (n : Nat) {x1 : Nat} {x2 : Int32} {x3 : Int32} {I I' : Mm} {r : Int32} (hx1 : kd0 x1 = 2) (_ : fX0_read_p14 n x1 x2 x3 I = some (r, I')) (_ : MX X (xE X) d 0 0 (some (.int r)) S0 I'), WM X mX0_read 14 [some (rfX X 34), some (rfX X x1), some (.int x2), some (.int x3)] [] S0 I 0 0 := by
  intro n
  induction n with
  | zero => intro x1 x2 x3 I I' r hx1 h M; exact absurd h (by simp [fX0_read_p14])
  | succ n ih =>
    intro x1 x2 x3 I I' r hx1 h M
    rw [fX0_read_p14] at h
    refine s_iload_n C dX0_read_14 rfl rfl ?_
    refine s_bipush C dX0_read_15 bi_20 ?_
    refine s_icmp_gt (tgt := 97) C dX0_read_17 (by decide) (fun c => ?_) (fun c => ?_)
    · have h := it_t c h
      refine s_aload_n C dX0_read_97 rfl rfl ?_
      refine s_getI C dX0_read_98 kk_34 foX0_18 rfl ?_
      obtain ⟨rfl, rfl⟩ := pr_e h
      exact s_iret C M dX0_read_101 rfl rfl (Nat.le_refl 0) (Nat.le_refl 0)
    · have h := it_f c h
      refine s_iload_n C dX0_read_20 rfl rfl ?_
      refine s_if_eq (tgt := 97) C dX0_read_21 (by decide) (fun c => ?_) (fun c => ?_)
      · have h := it_t c h
        refine s_aload_n C dX0_read_97 rfl rfl ?_
        refine s_getI C dX0_read_98 kk_34 foX0_18 rfl ?_
        obtain ⟨rfl, rfl⟩ := pr_e h
        exact s_iret C M dX0_read_101 rfl rfl (Nat.le_refl 0) (Nat.le_refl 0)
      · have h := it_f c h
        refine s_aload_n C dX0_read_24 rfl rfl ?_
        refine s_aload_n C dX0_read_25 rfl rfl ?_
        obtain ⟨r1, I1, hh, h⟩ := bd_e h
        refine s_cV0 (st := []) C M.rg (Nat.le_trans (by decide) hd) mwX0_isOrder mlX0_25 dX0_read_26 (wX0_isOrder (d := 3) (Nat.le_refl _) hx1 hh) kk_34 rfl rfl (Nat.le_of_ble_eq_true rfl) ?_
        refine s_if_ne (tgt := 41) C dX0_read_29 (by decide) (fun c => ?_) (fun c => ?_)
        · have h := it_f c h
          refine s_aload_n C dX0_read_41 rfl rfl ?_
          refine s_dup C dX0_read_42 rfl ?_
          refine s_getI C dX0_read_43 kk_34 foX0_18 rfl ?_
          refine s_iconst C dX0_read_46 ic_1 ?_
          refine s_iadd C dX0_read_47 ?_
          obtain ⟨I2, eI2, h⟩ := ltm_e h
          refine s_putI C dX0_read_48 kk_34 poX0_18 rfl eI2 ?_
          refine s_aload_n C dX0_read_51 rfl rfl ?_
          refine s_getI C dX0_read_52 kk_34 foX0_22 rfl ?_
          refine s_aload_n C dX0_read_55 rfl rfl ?_
          refine s_getI C dX0_read_56 hx1 foX0_29 rfl ?_
          refine s_icmp_ge (tgt := 66) C dX0_read_59 (by decide) (fun c => ?_) (fun c => ?_)
          · have h := it_t c h
            refine s_iconst C dX0_read_66 ic_0 ?_
            refine s_istore_n (ls' := [some (rfX X 34), some (rfX X x1), some (.int 0), some (.int x3)]) C dX0_read_67 rfl (by decide) (Nat.le_of_ble_eq_true rfl) rfl rfl ?_
            refine s_iload_n C dX0_read_68 rfl rfl ?_
            refine s_if_eq (tgt := 91) C dX0_read_69 (by decide) (fun c => ?_) (fun c => ?_)
            · have h := it_t c h
              obtain ⟨v1, ev1, h⟩ := ltm_e h
              refine s_iinc (v := v1) (ls' := [some (rfX X 34), some (rfX X x1), some (.int 0), some (.int v1)]) C dX0_read_91 rfl (by decide) (Nat.le_of_ble_eq_true rfl) (by rw [ev1, ic_1]) rfl rfl ?_
              refine s_goto (tgt := 14) C dX0_read_94 (by decide) ?_
              exact ih hx1 h M
            · have h := it_f c h
              refine s_aload_n C dX0_read_72 rfl rfl ?_
              refine s_aload_n C dX0_read_73 rfl rfl ?_
              refine s_bipush C dX0_read_74 bi_59 ?_
              obtain ⟨r2, I3, hh, h⟩ := bd_e h
              refine s_cV0 (st := []) C M.rg (Nat.le_trans (by decide) hd) mwX0_isCode mlX0_34 dX0_read_76 (wX0_isCode (d := 2) (Nat.le_refl _) hx1 hh) kk_34 rfl rfl (Nat.le_of_ble_eq_true rfl) ?_
              refine s_if_ne (tgt := 91) C dX0_read_79 (by decide) (fun c => ?_) (fun c => ?_)
              · have h := it_f c h
                obtain ⟨v1, ev1, h⟩ := ltm_e h
                refine s_iinc (v := v1) (ls' := [some (rfX X 34), some (rfX X x1), some (.int 0), some (.int v1)]) C dX0_read_91 rfl (by decide) (Nat.le_of_ble_eq_true rfl) (by rw [ev1, ic_1]) rfl rfl ?_
                refine s_goto (tgt := 14) C dX0_read_94 (by decide) ?_
                exact ih hx1 h M
              · have h := it_t c h
                refine s_sipush C dX0_read_82 si_m1000 ?_
                refine s_aload_n C dX0_read_85 rfl rfl ?_
                refine s_getI C dX0_read_86 kk_34 foX0_22 rfl ?_
                refine s_isub C dX0_read_89 ?_
                obtain ⟨rfl, rfl⟩ := pr_e h
                exact s_iret C M dX0_read_90 rfl rfl (Nat.le_refl 0) (Nat.le_refl 0)
          · have h := it_f c h
            refine s_iconst C dX0_read_62 ic_1 ?_
            refine s_goto (tgt := 67) C dX0_read_63 (by decide) ?_
            refine s_istore_n (ls' := [some (rfX X 34), some (rfX X x1), some (.int 1), some (.int x3)]) C dX0_read_67 rfl (by decide) (Nat.le_of_ble_eq_true rfl) rfl rfl ?_
            refine s_iload_n C dX0_read_68 rfl rfl ?_
            refine s_if_eq (tgt := 91) C dX0_read_69 (by decide) (fun c => ?_) (fun c => ?_)
            · have h := it_t c h
              obtain ⟨v1, ev1, h⟩ := ltm_e h
              refine s_iinc (v := v1) (ls' := [some (rfX X 34), some (rfX X x1), some (.int 1), some (.int v1)]) C dX0_read_91 rfl (by decide) (Nat.le_of_ble_eq_true rfl) (by rw [ev1, ic_1]) rfl rfl ?_
              refine s_goto (tgt := 14) C dX0_read_94 (by decide) ?_
              exact ih hx1 h M
            · have h := it_f c h
              refine s_aload_n C dX0_read_72 rfl rfl ?_
              refine s_aload_n C dX0_read_73 rfl rfl ?_
              refine s_bipush C dX0_read_74 bi_59 ?_
              obtain ⟨r2, I3, hh, h⟩ := bd_e h
              refine s_cV0 (st := []) C M.rg (Nat.le_trans (by decide) hd) mwX0_isCode mlX0_34 dX0_read_76 (wX0_isCode (d := 2) (Nat.le_refl _) hx1 hh) kk_34 rfl rfl (Nat.le_of_ble_eq_true rfl) ?_
              refine s_if_ne (tgt := 91) C dX0_read_79 (by decide) (fun c => ?_) (fun c => ?_)
              · have h := it_f c h
                obtain ⟨v1, ev1, h⟩ := ltm_e h
                refine s_iinc (v := v1) (ls' := [some (rfX X 34), some (rfX X x1), some (.int 1), some (.int v1)]) C dX0_read_91 rfl (by decide) (Nat.le_of_ble_eq_true rfl) (by rw [ev1, ic_1]) rfl rfl ?_
                refine s_goto (tgt := 14) C dX0_read_94 (by decide) ?_
                exact ih hx1 h M
              · have h := it_t c h
                refine s_sipush C dX0_read_82 si_m1000 ?_
                refine s_aload_n C dX0_read_85 rfl rfl ?_
                refine s_getI C dX0_read_86 kk_34 foX0_22 rfl ?_
                refine s_isub C dX0_read_89 ?_
                obtain ⟨rfl, rfl⟩ := pr_e h
                exact s_iret C M dX0_read_90 rfl rfl (Nat.le_refl 0) (Nat.le_refl 0)
        · have h := it_t c h
          refine s_sipush C dX0_read_32 si_m1000 ?_
          refine s_aload_n C dX0_read_35 rfl rfl ?_
          refine s_getI C dX0_read_36 kk_34 foX0_22 rfl ?_
          refine s_isub C dX0_read_39 ?_
          obtain ⟨rfl, rfl⟩ := pr_e h
          exact s_iret C M dX0_read_40 rfl rfl (Nat.le_refl 0) (Nat.le_refl 0)
theorem wX0_read {E : Ev} {d : Nat} (hd : 4 ≤ d) {x1 : Nat} {I I' : Mm} {r : Int32} (hx1 : kd0 x1 = 2) (h : fX0_read x1 I = some (r, I')) : SemM E d 0 0 mX0_read [rfE E 34, rfE E x1] S0 I (some (.int r)) S0 I' := by
  unfold fX0_read at h
  refine SemM.ofX (E := E) (y := mX0_read) (args := fun E => [rfE E 34, rfE E x1]) (r := fun E => (some (.int r))) (fun E => [some (rfE E 34), some (rfE E x1), none, none]) (by decide +kernel) (Nat.le_of_ble_eq_true rfl) rfl (fun X C M => ?_)
  refine s_aload_n C dX0_read_0 rfl rfl ?_
  refine s_iconst C dX0_read_1 ic_0 ?_
  obtain ⟨I1, eI1, h⟩ := ltm_e h
  refine s_putI C dX0_read_2 kk_34 poX0_18 rfl eI1 ?_
  refine s_aload_n C dX0_read_5 rfl rfl ?_
  refine s_iconst C dX0_read_6 ic_0 ?_
  obtain ⟨I2, eI2, h⟩ := ltm_e h
  refine s_putI C dX0_read_7 kk_34 poX0_22 rfl eI2 ?_
  refine s_iconst C dX0_read_10 ic_1 ?_
  refine s_istore_n (ls' := [some (rfX X 34), some (rfX X x1), some (.int 1), none]) C dX0_read_11 rfl (by decide) (Nat.le_of_ble_eq_true rfl) rfl rfl ?_
  refine s_iconst C dX0_read_12 ic_0 ?_
  refine s_istore_n (ls' := [some (rfX X 34), some (rfX X x1), some (.int 1), some (.int 0)]) C dX0_read_13 rfl (by decide) (Nat.le_of_ble_eq_true rfl) rfl rfl ?_
  exact wX0_read_p14 hd C _ hx1 h M
theorem wX2_clear {E : Ev} {d : Nat} (hd : 1 ≤ d) {x0 : Nat} {I I' : Mm} {r : Unit} (hx0 : kd0 x0 = 2) (h : fX2_clear x0 I = some (r, I')) : SemM E d 0 0 mX2_clear [rfE E x0] S0 I none S0 I' := by
  unfold fX2_clear at h
  refine SemM.ofX (E := E) (y := mX2_clear) (args := fun E => [rfE E x0]) (r := fun E => none) (fun E => [some (rfE E x0)]) (by decide +kernel) (Nat.le_of_ble_eq_true rfl) rfl (fun X C M => ?_)
  refine s_aload_n C dX2_clear_0 rfl rfl ?_
  refine s_iconst C dX2_clear_1 ic_0 ?_
  obtain ⟨I1, eI1, h⟩ := ltm_e h
  refine s_putI C dX2_clear_2 hx0 poX2_15 rfl eI1 ?_
  obtain ⟨rfl, rfl⟩ := pr_e h
  exact s_vret C M dX2_clear_5 rfl (Nat.le_refl 0) (Nat.le_refl 0)
theorem wX0_numberOf {E : Ev} {d : Nat} (hd : 1 ≤ d) {x1 : Int32} {x2 : Int32} {I I' : Mm} {r : Int32}  (h : fX0_numberOf x1 x2 I = some (r, I')) : SemM E d 0 0 mX0_numberOf [rfE E 34, .int x1, .int x2] S0 I (some (.int r)) S0 I' := by
  unfold fX0_numberOf at h
  refine SemM.ofX (E := E) (y := mX0_numberOf) (args := fun E => [rfE E 34, .int x1, .int x2]) (r := fun E => (some (.int r))) (fun E => [some (rfE E 34), some (.int x1), some (.int x2), none]) (by decide +kernel) (Nat.le_of_ble_eq_true rfl) rfl (fun X C M => ?_)
  refine s_iload_n C dX0_numberOf_0 rfl rfl ?_
  refine s_iconst C dX0_numberOf_1 ic_3 ?_
  refine s_imul C dX0_numberOf_2 ?_
  refine s_iload_n C dX0_numberOf_3 rfl rfl ?_
  refine s_iadd C dX0_numberOf_4 ?_
  obtain ⟨v1, ev1, h⟩ := ltm_e h
  refine s_top_i ev1 ?_
  refine s_istore_n (ls' := [some (rfX X 34), some (.int x1), some (.int x2), some (.int v1)]) C dX0_numberOf_5 rfl (by decide) (Nat.le_of_ble_eq_true rfl) rfl rfl ?_
  refine s_iload_n C dX0_numberOf_6 rfl rfl ?_
  refine s_if_lt (tgt := 34) C dX0_numberOf_7 (by decide) (fun c => ?_) (fun c => ?_)
  · have h := it_t c h
    refine s_bipush C dX0_numberOf_34 bi_m11 ?_
    obtain ⟨rfl, rfl⟩ := pr_e h
    exact s_iret C M dX0_numberOf_36 rfl rfl (Nat.le_refl 0) (Nat.le_refl 0)
  · have h := it_f c h
    refine s_iload_n C dX0_numberOf_10 rfl rfl ?_
    refine s_bipush C dX0_numberOf_11 bi_20 ?_
    refine s_icmp_ge (tgt := 34) C dX0_numberOf_13 (by decide) (fun c => ?_) (fun c => ?_)
    · have h := it_t c h
      refine s_bipush C dX0_numberOf_34 bi_m11 ?_
      obtain ⟨rfl, rfl⟩ := pr_e h
      exact s_iret C M dX0_numberOf_36 rfl rfl (Nat.le_refl 0) (Nat.le_refl 0)
    · have h := it_f c h
      refine s_iload_n C dX0_numberOf_16 rfl rfl ?_
      refine s_if_lt (tgt := 34) C dX0_numberOf_17 (by decide) (fun c => ?_) (fun c => ?_)
      · have h := it_t c h
        refine s_bipush C dX0_numberOf_34 bi_m11 ?_
        obtain ⟨rfl, rfl⟩ := pr_e h
        exact s_iret C M dX0_numberOf_36 rfl rfl (Nat.le_refl 0) (Nat.le_refl 0)
      · have h := it_f c h
        refine s_iload_n C dX0_numberOf_20 rfl rfl ?_
        refine s_iconst C dX0_numberOf_21 ic_3 ?_
        refine s_icmp_ge (tgt := 34) C dX0_numberOf_22 (by decide) (fun c => ?_) (fun c => ?_)
        · have h := it_t c h
          refine s_bipush C dX0_numberOf_34 bi_m11 ?_
          obtain ⟨rfl, rfl⟩ := pr_e h
          exact s_iret C M dX0_numberOf_36 rfl rfl (Nat.le_refl 0) (Nat.le_refl 0)
        · have h := it_f c h
          refine s_aload_n C dX0_numberOf_25 rfl rfl ?_
          refine s_getR (b := 36) C dX0_numberOf_26 kk_34 foX0_15 rfl rk_34_1 ?_
          refine s_iload_n C dX0_numberOf_29 rfl rfl ?_
          obtain ⟨hb, h⟩ := it_n h
          refine s_ald (q := v1.toNatClampNeg) C dX0_numberOf_30 kk_36 (by decide) rfl hb ?_
          refine s_goto (tgt := 36) C dX0_numberOf_31 (by decide) ?_
          obtain ⟨rfl, rfl⟩ := pr_e h
          exact s_iret C M dX0_numberOf_36 rfl rfl (Nat.le_refl 0) (Nat.le_refl 0)
theorem wX0_signOf {E : Ev} {d : Nat} (hd : 1 ≤ d) {x1 : Int32} {I I' : Mm} {r : Int32}  (h : fX0_signOf x1 I = some (r, I')) : SemM E d 0 0 mX0_signOf [rfE E 34, .int x1] S0 I (some (.int r)) S0 I' := by
  unfold fX0_signOf at h
  refine SemM.ofX (E := E) (y := mX0_signOf) (args := fun E => [rfE E 34, .int x1]) (r := fun E => (some (.int r))) (fun E => [some (rfE E 34), some (.int x1)]) (by decide +kernel) (Nat.le_of_ble_eq_true rfl) rfl (fun X C M => ?_)
  refine s_iload_n C dX0_signOf_0 rfl rfl ?_
  refine s_if_lt (tgt := 19) C dX0_signOf_1 (by decide) (fun c => ?_) (fun c => ?_)
  · have h := it_t c h
    refine s_bipush C dX0_signOf_19 bi_m11 ?_
    obtain ⟨rfl, rfl⟩ := pr_e h
    exact s_iret C M dX0_signOf_21 rfl rfl (Nat.le_refl 0) (Nat.le_refl 0)
  · have h := it_f c h
    refine s_iload_n C dX0_signOf_4 rfl rfl ?_
    refine s_bipush C dX0_signOf_5 bi_20 ?_
    refine s_icmp_ge (tgt := 19) C dX0_signOf_7 (by decide) (fun c => ?_) (fun c => ?_)
    · have h := it_t c h
      refine s_bipush C dX0_signOf_19 bi_m11 ?_
      obtain ⟨rfl, rfl⟩ := pr_e h
      exact s_iret C M dX0_signOf_21 rfl rfl (Nat.le_refl 0) (Nat.le_refl 0)
    · have h := it_f c h
      refine s_aload_n C dX0_signOf_10 rfl rfl ?_
      refine s_getR (b := 35) C dX0_signOf_11 kk_34 foX0_9 rfl rk_34_0 ?_
      refine s_iload_n C dX0_signOf_14 rfl rfl ?_
      obtain ⟨hb, h⟩ := it_n h
      refine s_ald (q := x1.toNatClampNeg) C dX0_signOf_15 kk_35 (by decide) rfl hb ?_
      refine s_goto (tgt := 21) C dX0_signOf_16 (by decide) ?_
      obtain ⟨rfl, rfl⟩ := pr_e h
      exact s_iret C M dX0_signOf_21 rfl rfl (Nat.le_refl 0) (Nat.le_refl 0)
theorem wX1_raise_p2 {X : Cx} {d : Nat} (hd : 2 ≤ d) (C : CtxOK X mX1_raise) : ∀ (n : Nat) {x0 : Nat} {x2 : Int32} {x3 : Int32} {I I' : Mm} {r : Unit} (hx0 : kd0 x0 = 1) (_ : fX1_raise_p2 n x0 x2 x3 I = some (r, I')) (_ : MX X (xE X) d 0 0 none S0 I'), WM X mX1_raise 2 [some (rfX X x0), none, some (.int x2), some (.int x3)] [] S0 I 0 0 := by
  intro n
  induction n with
  | zero => intro x0 x2 x3 I I' r hx0 h M; exact absurd h (by simp [fX1_raise_p2])
  | succ n ih =>
    intro x0 x2 x3 I I' r hx0 h M
    rw [fX1_raise_p2] at h
    refine s_iload_n C dX1_raise_2 rfl rfl ?_
    refine s_iload_n C dX1_raise_3 rfl rfl ?_
    refine s_icmp_gt (tgt := 33) C dX1_raise_4 (by decide) (fun c => ?_) (fun c => ?_)
    · have h := it_t c h
      obtain ⟨rfl, rfl⟩ := pr_e h
      exact s_vret C M dX1_raise_33 rfl (Nat.le_refl 0) (Nat.le_refl 0)
    · have h := it_f c h
      refine s_iload_n C dX1_raise_7 rfl rfl ?_
      refine s_aload_n C dX1_raise_8 rfl rfl ?_
      refine s_getI C dX1_raise_9 hx0 foX1_21 rfl ?_
      refine s_icmp_ge (tgt := 33) C dX1_raise_12 (by decide) (fun c => ?_) (fun c => ?_)
      · have h := it_t c h
        obtain ⟨rfl, rfl⟩ := pr_e h
        exact s_vret C M dX1_raise_33 rfl (Nat.le_refl 0) (Nat.le_refl 0)
      · have h := it_f c h
        refine s_aload_n C dX1_raise_15 rfl rfl ?_
        refine s_iload_n C dX1_raise_16 rfl rfl ?_
        refine s_aload_n C dX1_raise_17 rfl rfl ?_
        refine s_iload_n C dX1_raise_18 rfl rfl ?_
        obtain ⟨r1, I1, hh, h⟩ := bd_e h
        refine s_cV0 (st := [.int x3, rfX X x0]) C M.rg (Nat.le_trans (by decide) hd) mwX1_depthAt mlX1_29 dX1_raise_19 (wX1_depthAt (d := 1) (Nat.le_refl _) hx0 hh) hx0 rfl rfl (Nat.le_of_ble_eq_true rfl) ?_
        refine s_iconst C dX1_raise_22 ic_1 ?_
        refine s_isub C dX1_raise_23 ?_
        obtain ⟨r2, I2, hh, h⟩ := bd_e h
        refine s_cV0 (st := []) C M.rg (Nat.le_trans (by decide) hd) mwX1_setDepth mlX1_76 dX1_raise_24 (wX1_setDepth (d := 1) (Nat.le_refl _) hx0 hh) hx0 rfl rfl (Nat.le_of_ble_eq_true rfl) ?_
        obtain ⟨v1, ev1, h⟩ := ltm_e h
        refine s_iinc (v := v1) (ls' := [some (rfX X x0), none, some (.int x2), some (.int v1)]) C dX1_raise_27 rfl (by decide) (Nat.le_of_ble_eq_true rfl) (by rw [ev1, ic_1]) rfl rfl ?_
        refine s_goto (tgt := 2) C dX1_raise_30 (by decide) ?_
        exact ih hx0 h M
theorem wX1_raise {E : Ev} {d : Nat} (hd : 2 ≤ d) {x0 : Nat} {x1 : Int32} {x2 : Int32} {I I' : Mm} {r : Unit} (hx0 : kd0 x0 = 1) (h : fX1_raise x0 x1 x2 I = some (r, I')) : SemM E d 0 0 mX1_raise [rfE E x0, .int x1, .int x2] S0 I none S0 I' := by
  unfold fX1_raise at h
  refine SemM.ofX (E := E) (y := mX1_raise) (args := fun E => [rfE E x0, .int x1, .int x2]) (r := fun E => none) (fun E => [some (rfE E x0), some (.int x1), some (.int x2), none]) (by decide +kernel) (Nat.le_of_ble_eq_true rfl) rfl (fun X C M => ?_)
  refine s_iload_n C dX1_raise_0 rfl rfl ?_
  refine s_istore_n (ls' := [some (rfX X x0), some (.int x1), some (.int x2), some (.int x1)]) C dX1_raise_1 rfl (by decide) (Nat.le_of_ble_eq_true rfl) rfl rfl ?_
  refine s_weak (ls' := [some (rfX X x0), none, some (.int x2), some (.int x1)]) [true, false, true, true] rfl ?_
  exact wX1_raise_p2 hd C _ hx0 h M
theorem wX1_lift_p73 {X : Cx} {d : Nat} (hd : 3 ≤ d) (C : CtxOK X mX1_lift) : ∀ (n : Nat) {x0 : Nat} {x4 : Int32} {I I' : Mm} {r : Unit} (hx0 : kd0 x0 = 1) (_ : fX1_lift_p73 n x0 x4 I = some (r, I')) (_ : MX X (xE X) d 0 0 none S0 I'), WM X mX1_lift 73 [some (rfX X x0), none, none, none, some (.int x4)] [] S0 I 0 0 := by
  intro n
  induction n with
  | zero => intro x0 x4 I I' r hx0 h M; exact absurd h (by simp [fX1_lift_p73])
  | succ n ih =>
    intro x0 x4 I I' r hx0 h M
    rw [fX1_lift_p73] at h
    refine s_iload C dX1_lift_73 rfl ?_
    refine s_aload_n C dX1_lift_75 rfl rfl ?_
    refine s_getI C dX1_lift_76 hx0 foX1_21 rfl ?_
    refine s_iconst C dX1_lift_79 ic_1 ?_
    refine s_isub C dX1_lift_80 ?_
    refine s_icmp_ge (tgt := 120) C dX1_lift_81 (by decide) (fun c => ?_) (fun c => ?_)
    · have h := it_t c h
      refine s_aload_n C dX1_lift_120 rfl rfl ?_
      refine s_dup C dX1_lift_121 rfl ?_
      refine s_getI C dX1_lift_122 hx0 foX1_21 rfl ?_
      refine s_iconst C dX1_lift_125 ic_1 ?_
      refine s_isub C dX1_lift_126 ?_
      obtain ⟨I1, eI1, h⟩ := ltm_e h
      refine s_putI C dX1_lift_127 hx0 poX1_21 rfl eI1 ?_
      obtain ⟨rfl, rfl⟩ := pr_e h
      exact s_vret C M dX1_lift_130 rfl (Nat.le_refl 0) (Nat.le_refl 0)
    · have h := it_f c h
      refine s_aload_n C dX1_lift_84 rfl rfl ?_
      refine s_iload C dX1_lift_85 rfl ?_
      refine s_aload_n C dX1_lift_87 rfl rfl ?_
      refine s_iload C dX1_lift_88 rfl ?_
      refine s_iconst C dX1_lift_90 ic_1 ?_
      refine s_iadd C dX1_lift_91 ?_
      obtain ⟨r1, I1, hh, h⟩ := bd_e h
      refine s_cV0 (st := [.int x4, rfX X x0]) C M.rg (Nat.le_trans (by decide) hd) mwX1_weightAt mlX1_25 dX1_lift_92 (wX1_weightAt (d := 1) (Nat.le_refl _) hx0 hh) hx0 rfl rfl (Nat.le_of_ble_eq_true rfl) ?_
      refine s_aload_n C dX1_lift_95 rfl rfl ?_
      refine s_iload C dX1_lift_96 rfl ?_
      refine s_iconst C dX1_lift_98 ic_1 ?_
      refine s_iadd C dX1_lift_99 ?_
      obtain ⟨r2, I2, hh, h⟩ := bd_e h
      refine s_cV0 (st := [.int r1, .int x4, rfX X x0]) C M.rg (Nat.le_trans (by decide) hd) mwX1_loadAt mlX1_48 dX1_lift_100 (wX1_loadAt (d := 1) (Nat.le_refl _) hx0 hh) hx0 rfl rfl (Nat.le_of_ble_eq_true rfl) ?_
      refine s_aload_n C dX1_lift_103 rfl rfl ?_
      refine s_iload C dX1_lift_104 rfl ?_
      refine s_iconst C dX1_lift_106 ic_1 ?_
      refine s_iadd C dX1_lift_107 ?_
      obtain ⟨r3, I3, hh, h⟩ := bd_e h
      refine s_cV0 (st := [.int r2, .int r1, .int x4, rfX X x0]) C M.rg (Nat.le_trans (by decide) hd) mwX1_depthAt mlX1_29 dX1_lift_108 (wX1_depthAt (d := 1) (Nat.le_refl _) hx0 hh) hx0 rfl rfl (Nat.le_of_ble_eq_true rfl) ?_
      obtain ⟨r4, I4, hh, h⟩ := bd_e h
      refine s_cV0 (st := []) C M.rg (Nat.le_trans (by decide) hd) mwX1_set mlX1_68 dX1_lift_111 (wX1_set (d := 1) (Nat.le_refl _) hx0 hh) hx0 rfl rfl (Nat.le_of_ble_eq_true rfl) ?_
      obtain ⟨v1, ev1, h⟩ := ltm_e h
      refine s_iinc (v := v1) (ls' := [some (rfX X x0), none, none, none, some (.int v1)]) C dX1_lift_114 rfl (by decide) (Nat.le_of_ble_eq_true rfl) (by rw [ev1, ic_1]) rfl rfl ?_
      refine s_goto (tgt := 73) C dX1_lift_117 (by decide) ?_
      exact ih hx0 h M
theorem wX1_lift_p70 {X : Cx} {d : Nat} (hd : 3 ≤ d) (C : CtxOK X mX1_lift) {x0 : Nat} {x1 : Int32} {I I' : Mm} {r : Unit} (hx0 : kd0 x0 = 1) (h : fX1_lift_p70 x0 x1 I = some (r, I')) (M : MX X (xE X) d 0 0 none S0 I') : WM X mX1_lift 70 [some (rfX X x0), some (.int x1), none, none, none] [] S0 I 0 0 := by
  unfold fX1_lift_p70 at h
  refine s_iload_n C dX1_lift_70 rfl rfl ?_
  refine s_istore (ls' := [some (rfX X x0), some (.int x1), none, none, some (.int x1)]) C dX1_lift_71 (by decide) (Nat.le_of_ble_eq_true rfl) rfl rfl ?_
  refine s_weak (ls' := [some (rfX X x0), none, none, none, some (.int x1)]) [true, false, false, false, true] rfl ?_
  exact wX1_lift_p73 hd C _ hx0 h M
theorem wX1_lift_p64 {X : Cx} {d : Nat} (hd : 3 ≤ d) (C : CtxOK X mX1_lift) {x0 : Nat} {x1 : Int32} {x2 : Int32} {x3 : Int32} {I I' : Mm} {r : Unit} (hx0 : kd0 x0 = 1) (h : fX1_lift_p64 x0 x1 x2 x3 I = some (r, I')) (M : MX X (xE X) d 0 0 none S0 I') : WM X mX1_lift 64 [some (rfX X x0), some (.int x1), some (.int x2), some (.int x3), none] [] S0 I 0 0 := by
  unfold fX1_lift_p64 at h
  refine s_aload_n C dX1_lift_64 rfl rfl ?_
  refine s_iload_n C dX1_lift_65 rfl rfl ?_
  refine s_iload_n C dX1_lift_66 rfl rfl ?_
  obtain ⟨r1, I1, hh, h⟩ := bd_e h
  refine s_cV0 (st := []) C M.rg (Nat.le_trans (by decide) hd) mwX1_raise mlX1_72 dX1_lift_67 (wX1_raise (d := 2) (Nat.le_refl _) hx0 hh) hx0 rfl rfl (Nat.le_of_ble_eq_true rfl) ?_
  refine s_weak (ls' := [some (rfX X x0), some (.int x1), none, none, none]) [true, true, false, false, false] rfl ?_
  exact wX1_lift_p70 hd C hx0 h M
theorem wX1_lift {E : Ev} {d : Nat} (hd : 3 ≤ d) {x0 : Nat} {x1 : Int32} {I I' : Mm} {r : Unit} (hx0 : kd0 x0 = 1) (h : fX1_lift x0 x1 I = some (r, I')) : SemM E d 0 0 mX1_lift [rfE E x0, .int x1] S0 I none S0 I' := by
  unfold fX1_lift at h
  refine SemM.ofX (E := E) (y := mX1_lift) (args := fun E => [rfE E x0, .int x1]) (r := fun E => none) (fun E => [some (rfE E x0), some (.int x1), none, none, none]) (by decide +kernel) (Nat.le_of_ble_eq_true rfl) rfl (fun X C M => ?_)
  refine s_aload_n C dX1_lift_0 rfl rfl ?_
  refine s_iload_n C dX1_lift_1 rfl rfl ?_
  obtain ⟨r1, I1, hh, h⟩ := bd_e h
  refine s_cV0 (st := []) C M.rg (Nat.le_trans (by decide) hd) mwX1_isPlace mlX1_44 dX1_lift_2 (wX1_isPlace (d := 1) (Nat.le_refl _) hx0 hh) hx0 rfl rfl (Nat.le_of_ble_eq_true rfl) ?_
  refine s_if_ne (tgt := 9) C dX1_lift_5 (by decide) (fun c => ?_) (fun c => ?_)
  · have h := it_f c h
    refine s_aload_n C dX1_lift_9 rfl rfl ?_
    refine s_iload_n C dX1_lift_10 rfl rfl ?_
    obtain ⟨r2, I2, hh, h⟩ := bd_e h
    refine s_cV0 (st := []) C M.rg (Nat.le_trans (by decide) hd) mwX1_firstOf mlX1_38 dX1_lift_11 (wX1_firstOf (d := 2) (Nat.le_refl _) hx0 hh) hx0 rfl rfl (Nat.le_of_ble_eq_true rfl) ?_
    refine s_istore_n (ls' := [some (rfX X x0), some (.int x1), some (.int r2), none, none]) C dX1_lift_14 rfl (by decide) (Nat.le_of_ble_eq_true rfl) rfl rfl ?_
    refine s_aload_n C dX1_lift_15 rfl rfl ?_
    refine s_iload_n C dX1_lift_16 rfl rfl ?_
    obtain ⟨r3, I3, hh, h⟩ := bd_e h
    refine s_cV0 (st := []) C M.rg (Nat.le_trans (by decide) hd) mwX1_lastOf mlX1_41 dX1_lift_17 (wX1_lastOf (d := 2) (Nat.le_refl _) hx0 hh) hx0 rfl rfl (Nat.le_of_ble_eq_true rfl) ?_
    refine s_istore_n (ls' := [some (rfX X x0), some (.int x1), some (.int r2), some (.int r3), none]) C dX1_lift_20 rfl (by decide) (Nat.le_of_ble_eq_true rfl) rfl rfl ?_
    refine s_iload_n C dX1_lift_21 rfl rfl ?_
    refine s_iload_n C dX1_lift_22 rfl rfl ?_
    refine s_icmp_ge (tgt := 64) C dX1_lift_23 (by decide) (fun c => ?_) (fun c => ?_)
    · have h := it_t c h
      exact wX1_lift_p64 hd C hx0 h M
    · have h := it_f c h
      refine s_iload_n C dX1_lift_26 rfl rfl ?_
      refine s_iload_n C dX1_lift_27 rfl rfl ?_
      refine s_icmp_ge (tgt := 64) C dX1_lift_28 (by decide) (fun c => ?_) (fun c => ?_)
      · have h := it_t c h
        exact wX1_lift_p64 hd C hx0 h M
      · have h := it_f c h
        refine s_iload_n C dX1_lift_31 rfl rfl ?_
        refine s_iconst C dX1_lift_32 ic_1 ?_
        refine s_iadd C dX1_lift_33 ?_
        obtain ⟨v1, ev1, h⟩ := ltm_e h
        refine s_top_i ev1 ?_
        refine s_istore (ls' := [some (rfX X x0), some (.int x1), some (.int r2), some (.int r3), some (.int v1)]) C dX1_lift_34 (by decide) (Nat.le_of_ble_eq_true rfl) rfl rfl ?_
        refine s_aload_n C dX1_lift_36 rfl rfl ?_
        refine s_iload C dX1_lift_37 rfl ?_
        refine s_iconst C dX1_lift_39 ic_1 ?_
        refine s_iadd C dX1_lift_40 ?_
        refine s_aload_n C dX1_lift_41 rfl rfl ?_
        refine s_iload C dX1_lift_42 rfl ?_
        obtain ⟨r4, I4, hh, h⟩ := bd_e h
        refine s_cV0 (st := [.int (v1 + 1), rfX X x0]) C M.rg (Nat.le_trans (by decide) hd) mwX1_lastOf mlX1_41 dX1_lift_44 (wX1_lastOf (d := 2) (Nat.le_refl _) hx0 hh) hx0 rfl rfl (Nat.le_of_ble_eq_true rfl) ?_
        obtain ⟨r5, I5, hh, h⟩ := bd_e h
        refine s_cV0 (st := []) C M.rg (Nat.le_trans (by decide) hd) mwX1_raise mlX1_72 dX1_lift_47 (wX1_raise (d := 2) (Nat.le_refl _) hx0 hh) hx0 rfl rfl (Nat.le_of_ble_eq_true rfl) ?_
        refine s_aload_n C dX1_lift_50 rfl rfl ?_
        refine s_iload C dX1_lift_51 rfl ?_
        refine s_aload_n C dX1_lift_53 rfl rfl ?_
        refine s_iload_n C dX1_lift_54 rfl rfl ?_
        obtain ⟨r6, I6, hh, h⟩ := bd_e h
        refine s_cV0 (st := [.int v1, rfX X x0]) C M.rg (Nat.le_trans (by decide) hd) mwX1_depthAt mlX1_29 dX1_lift_55 (wX1_depthAt (d := 1) (Nat.le_refl _) hx0 hh) hx0 rfl rfl (Nat.le_of_ble_eq_true rfl) ?_
        obtain ⟨r7, I7, hh, h⟩ := bd_e h
        refine s_cV0 (st := []) C M.rg (Nat.le_trans (by decide) hd) mwX1_setDepth mlX1_76 dX1_lift_58 (wX1_setDepth (d := 1) (Nat.le_refl _) hx0 hh) hx0 rfl rfl (Nat.le_of_ble_eq_true rfl) ?_
        refine s_goto (tgt := 70) C dX1_lift_61 (by decide) ?_
        refine s_weak (ls' := [some (rfX X x0), some (.int x1), none, none, none]) [true, true, false, false, false] rfl ?_
        exact wX1_lift_p70 hd C hx0 h M
  · have h := it_t c h
    obtain ⟨rfl, rfl⟩ := pr_e h
    exact s_vret C M dX1_lift_8 rfl (Nat.le_refl 0) (Nat.le_refl 0)
theorem wX4_takeNow {E : Ev} {d : Nat} (hd : 45 ≤ d) {x1 : Int32} {x2 : Int32} {I I' : Mm} {r : Int32}  (h : fX4_takeNow x1 x2 I = some (r, I')) : SemM E d 0 0 mX4_takeNow [rfE E 0, .int x1, .int x2] S0 I (some (.int r)) S0 I' := by
  unfold fX4_takeNow at h
  refine SemM.ofX (E := E) (y := mX4_takeNow) (args := fun E => [rfE E 0, .int x1, .int x2]) (r := fun E => (some (.int r))) (fun E => [some (rfE E 0), some (.int x1), some (.int x2), none, none, none]) (by decide +kernel) (Nat.le_of_ble_eq_true rfl) rfl (fun X C M => ?_)
  refine s_aload_n C dX4_takeNow_0 rfl rfl ?_
  refine s_getR (b := 1) C dX4_takeNow_1 kk_0 foX4_10 rfl rk_0_0 ?_
  refine s_iload_n C dX4_takeNow_4 rfl rfl ?_
  obtain ⟨r1, I1, hh, h⟩ := bd_e h
  refine s_cV0 (st := []) C M.rg (Nat.le_trans (by decide) hd) mwX3_rickAt mlX4_71 dX4_takeNow_5 (wX3_rickAt (d := 1) (Nat.le_refl _) kk_1 hh) kk_1 rfl rfl (Nat.le_of_ble_eq_true rfl) ?_
  refine s_astore_no (ls' := [some (rfX X 0), some (.int x1), some (.int x2), some (rvE (xE X) r1), none, none]) C dX4_takeNow_8 rfl (by decide) (Nat.le_of_ble_eq_true rfl) rfl rfl ?_
  refine s_aload_no C dX4_takeNow_9 rfl rfl ?_
  cases r1 with
  | none =>
    have h := on_n h
    refine s_ifnonnullN C dX4_takeNow_10 ?_
    refine s_bipush C dX4_takeNow_13 bi_m11 ?_
    obtain ⟨rfl, rfl⟩ := pr_e h
    exact s_iret C M dX4_takeNow_15 rfl rfl (Nat.le_refl 0) (Nat.le_refl 0)
  | some q1 =>
    obtain ⟨hq1, h⟩ := it_s (on_s h)
    refine s_ifnonnull (tgt := 16) C dX4_takeNow_10 (by decide) ?_
    refine s_aload_n C dX4_takeNow_16 rfl rfl ?_
    refine s_iload_n C dX4_takeNow_17 rfl rfl ?_
    obtain ⟨r2, I2, hh, h⟩ := bd_e h
    refine s_cV0 (st := []) C M.rg (Nat.le_trans (by decide) hd) mwX1_find mlX4_75 dX4_takeNow_18 (wX1_find (d := 2) (Nat.le_refl _) hq1 hh) hq1 rfl rfl (Nat.le_of_ble_eq_true rfl) ?_
    refine s_istore (ls' := [some (rfX X 0), some (.int x1), some (.int x2), some (rfX X q1), some (.int r2), none]) C dX4_takeNow_21 (by decide) (Nat.le_of_ble_eq_true rfl) rfl rfl ?_
    refine s_iload C dX4_takeNow_23 rfl ?_
    refine s_iconst C dX4_takeNow_25 ic_m1 ?_
    refine s_icmp_ne (tgt := 32) C dX4_takeNow_26 (by decide) (fun c => ?_) (fun c => ?_)
    · have h := it_f c h
      refine s_aload_n C dX4_takeNow_32 rfl rfl ?_
      refine s_iload C dX4_takeNow_33 rfl ?_
      obtain ⟨r3, I3, hh, h⟩ := bd_e h
      refine s_cV0 (st := []) C M.rg (Nat.le_trans (by decide) hd) mwX1_loadAt mlX4_86 dX4_takeNow_35 (wX1_loadAt (d := 1) (Nat.le_refl _) hq1 hh) hq1 rfl rfl (Nat.le_of_ble_eq_true rfl) ?_
      refine s_istore (ls' := [some (rfX X 0), some (.int x1), some (.int x2), some (rfX X q1), some (.int r2), some (.int r3)]) C dX4_takeNow_38 (by decide) (Nat.le_of_ble_eq_true rfl) rfl rfl ?_
      refine s_aload_n C dX4_takeNow_40 rfl rfl ?_
      refine s_iload C dX4_takeNow_41 rfl ?_
      obtain ⟨r4, I4, hh, h⟩ := bd_e h
      refine s_cV0 (st := []) C M.rg (Nat.le_trans (by decide) hd) mwX1_lift mlX4_256 dX4_takeNow_43 (wX1_lift (d := 3) (Nat.le_refl _) hq1 hh) hq1 rfl rfl (Nat.le_of_ble_eq_true rfl) ?_
      refine s_aload_n C dX4_takeNow_46 rfl rfl ?_
      refine s_getR (b := 1) C dX4_takeNow_47 kk_0 foX4_10 rfl rk_0_0 ?_
      refine s_dup C dX4_takeNow_50 rfl ?_
      refine s_getI C dX4_takeNow_51 kk_1 foX4_212 rfl ?_
      refine s_iconst C dX4_takeNow_54 ic_1 ?_
      refine s_iadd C dX4_takeNow_55 ?_
      obtain ⟨I5, eI5, h⟩ := ltm_e h
      refine s_putI C dX4_takeNow_56 kk_1 poX4_212 rfl eI5 ?_
      refine s_bipush C dX4_takeNow_59 bi_100 ?_
      refine s_aload_n C dX4_takeNow_61 rfl rfl ?_
      refine s_getI C dX4_takeNow_62 hq1 foX4_111 rfl ?_
      refine s_imul C dX4_takeNow_65 ?_
      refine s_aload_n C dX4_takeNow_66 rfl rfl ?_
      refine s_getR (b := 1) C dX4_takeNow_67 kk_0 foX4_10 rfl rk_0_0 ?_
      refine s_getI C dX4_takeNow_70 kk_1 foX4_95 rfl ?_
      refine s_aload_n C dX4_takeNow_73 rfl rfl ?_
      refine s_getI C dX4_takeNow_74 hq1 foX4_121 rfl ?_
      refine s_imul C dX4_takeNow_77 ?_
      refine s_icmp_ge (tgt := 87) C dX4_takeNow_78 (by decide) (fun c => ?_) (fun c => ?_)
      · have h := it_t c h
        refine s_iload C dX4_takeNow_87 rfl ?_
        obtain ⟨rfl, rfl⟩ := pr_e h
        exact s_iret C M dX4_takeNow_89 rfl rfl (Nat.le_refl 0) (Nat.le_refl 0)
      · have h := it_f c h
        refine s_aload_n C dX4_takeNow_81 rfl rfl ?_
        refine s_aload_n C dX4_takeNow_82 rfl rfl ?_
        obtain ⟨r5, I6, hh, h⟩ := bd_e h
        refine s_cV0 (st := []) C M.rg (Nat.le_trans (by decide) hd) mwX4_buildWhole mlX4_260 dX4_takeNow_83 (wX4_buildWhole (d := 44) (Nat.le_refl _) hq1 hh) kk_0 rfl rfl (Nat.le_of_ble_eq_true rfl) ?_
        refine s_pop C dX4_takeNow_86 rfl ?_
        refine s_iload C dX4_takeNow_87 rfl ?_
        obtain ⟨rfl, rfl⟩ := pr_e h
        exact s_iret C M dX4_takeNow_89 rfl rfl (Nat.le_refl 0) (Nat.le_refl 0)
    · have h := it_t c h
      refine s_bipush C dX4_takeNow_29 bi_m11 ?_
      obtain ⟨rfl, rfl⟩ := pr_e h
      exact s_iret C M dX4_takeNow_31 rfl rfl (Nat.le_refl 0) (Nat.le_refl 0)
theorem wX4_carryOut {E : Ev} {d : Nat} (hd : 46 ≤ d) {x1 : Int32} {I I' : Mm} {r : Int32}  (h : fX4_carryOut x1 I = some (r, I')) : SemM E d 0 0 mX4_carryOut [rfE E 0, .int x1] S0 I (some (.int r)) S0 I' := by
  unfold fX4_carryOut at h
  refine SemM.ofX (E := E) (y := mX4_carryOut) (args := fun E => [rfE E 0, .int x1]) (r := fun E => (some (.int r))) (fun E => [some (rfE E 0), some (.int x1), none, none]) (by decide +kernel) (Nat.le_of_ble_eq_true rfl) rfl (fun X C M => ?_)
  refine s_aload_n C dX4_carryOut_0 rfl rfl ?_
  refine s_getR (b := 34) C dX4_carryOut_1 kk_0 foX4_36 rfl rk_0_8 ?_
  refine s_iload_n C dX4_carryOut_4 rfl rfl ?_
  refine s_iconst C dX4_carryOut_5 ic_0 ?_
  obtain ⟨r1, I1, hh, h⟩ := bd_e h
  refine s_cV0 (st := []) C M.rg (Nat.le_trans (by decide) hd) mwX0_numberOf mlX4_266 dX4_carryOut_6 (wX0_numberOf (d := 1) (Nat.le_refl _)  hh) kk_34 rfl rfl (Nat.le_of_ble_eq_true rfl) ?_
  refine s_istore_n (ls' := [some (rfX X 0), some (.int x1), some (.int r1), none]) C dX4_carryOut_9 rfl (by decide) (Nat.le_of_ble_eq_true rfl) rfl rfl ?_
  refine s_aload_n C dX4_carryOut_10 rfl rfl ?_
  refine s_getR (b := 34) C dX4_carryOut_11 kk_0 foX4_36 rfl rk_0_8 ?_
  refine s_iload_n C dX4_carryOut_14 rfl rfl ?_
  refine s_iconst C dX4_carryOut_15 ic_1 ?_
  obtain ⟨r2, I2, hh, h⟩ := bd_e h
  refine s_cV0 (st := []) C M.rg (Nat.le_trans (by decide) hd) mwX0_numberOf mlX4_266 dX4_carryOut_16 (wX0_numberOf (d := 1) (Nat.le_refl _)  hh) kk_34 rfl rfl (Nat.le_of_ble_eq_true rfl) ?_
  refine s_istore_n (ls' := [some (rfX X 0), some (.int x1), some (.int r1), some (.int r2)]) C dX4_carryOut_19 rfl (by decide) (Nat.le_of_ble_eq_true rfl) rfl rfl ?_
  refine s_aload_n C dX4_carryOut_20 rfl rfl ?_
  refine s_getR (b := 34) C dX4_carryOut_21 kk_0 foX4_36 rfl rk_0_8 ?_
  refine s_iload_n C dX4_carryOut_24 rfl rfl ?_
  obtain ⟨r3, I3, hh, h⟩ := bd_e h
  refine s_cV0 (st := []) C M.rg (Nat.le_trans (by decide) hd) mwX0_signOf mlX4_269 dX4_carryOut_25 (wX0_signOf (d := 1) (Nat.le_refl _)  hh) kk_34 rfl rfl (Nat.le_of_ble_eq_true rfl) ?_
  by_cases c1 : r3 = 43
  · have h := it_t c1 h
    refine s_lookup (off := 44) (tgt := 72) C dX4_carryOut_28 (by decide) (by rw [c1]; decide +kernel) (by decide) ?_
    refine s_aload_n C dX4_carryOut_72 rfl rfl ?_
    refine s_iload_n C dX4_carryOut_73 rfl rfl ?_
    refine s_iload_n C dX4_carryOut_74 rfl rfl ?_
    refine s_aload_n C dX4_carryOut_75 rfl rfl ?_
    refine s_getR (b := 34) C dX4_carryOut_76 kk_0 foX4_36 rfl rk_0_8 ?_
    refine s_iload_n C dX4_carryOut_79 rfl rfl ?_
    refine s_iconst C dX4_carryOut_80 ic_2 ?_
    obtain ⟨r4, I4, hh, h⟩ := bd_e h
    refine s_cV0 (st := [.int r2, .int r1, rfX X 0]) C M.rg (Nat.le_trans (by decide) hd) mwX0_numberOf mlX4_266 dX4_carryOut_81 (wX0_numberOf (d := 1) (Nat.le_refl _)  hh) kk_34 rfl rfl (Nat.le_of_ble_eq_true rfl) ?_
    obtain ⟨r5, I5, hh, h⟩ := bd_e h
    refine s_cV0 (st := []) C M.rg (Nat.le_trans (by decide) hd) mwX4_putNow mlX4_50 dX4_carryOut_84 (wX4_putNow (d := 44) (Nat.le_refl _)  hh) kk_0 rfl rfl (Nat.le_of_ble_eq_true rfl) ?_
    obtain ⟨rfl, rfl⟩ := pr_e h
    exact s_iret C M dX4_carryOut_87 rfl rfl (Nat.le_refl 0) (Nat.le_refl 0)
  have h := it_f c1 h
  by_cases c2 : r3 = 45
  · have h := it_t c2 h
    refine s_lookup (off := 60) (tgt := 88) C dX4_carryOut_28 (by decide) (by rw [c2]; decide +kernel) (by decide) ?_
    refine s_aload_n C dX4_carryOut_88 rfl rfl ?_
    refine s_iload_n C dX4_carryOut_89 rfl rfl ?_
    refine s_iload_n C dX4_carryOut_90 rfl rfl ?_
    obtain ⟨r4, I4, hh, h⟩ := bd_e h
    refine s_cV0 (st := []) C M.rg (Nat.le_trans (by decide) hd) mwX4_takeNow mlX4_58 dX4_carryOut_91 (wX4_takeNow (d := 45) (Nat.le_refl _)  hh) kk_0 rfl rfl (Nat.le_of_ble_eq_true rfl) ?_
    obtain ⟨rfl, rfl⟩ := pr_e h
    exact s_iret C M dX4_carryOut_94 rfl rfl (Nat.le_refl 0) (Nat.le_refl 0)
  have h := it_f c2 h
  by_cases c3 : r3 = 61
  · have h := it_t c3 h
    refine s_lookup (off := 67) (tgt := 95) C dX4_carryOut_28 (by decide) (by rw [c3]; decide +kernel) (by decide) ?_
    refine s_aload_n C dX4_carryOut_95 rfl rfl ?_
    refine s_iload_n C dX4_carryOut_96 rfl rfl ?_
    obtain ⟨r4, I4, hh, h⟩ := bd_e h
    refine s_cV0 (st := []) C M.rg (Nat.le_trans (by decide) hd) mwX4_buildNow mlX4_62 dX4_carryOut_97 (wX4_buildNow (d := 45) (Nat.le_refl _)  hh) kk_0 rfl rfl (Nat.le_of_ble_eq_true rfl) ?_
    obtain ⟨rfl, rfl⟩ := pr_e h
    exact s_iret C M dX4_carryOut_100 rfl rfl (Nat.le_refl 0) (Nat.le_refl 0)
  have h := it_f c3 h
  by_cases c4 : r3 = 62
  · have h := it_t c4 h
    refine s_lookup (off := 73) (tgt := 101) C dX4_carryOut_28 (by decide) (by rw [c4]; decide +kernel) (by decide) ?_
    refine s_aload_n C dX4_carryOut_101 rfl rfl ?_
    refine s_iload_n C dX4_carryOut_102 rfl rfl ?_
    refine s_iload_n C dX4_carryOut_103 rfl rfl ?_
    obtain ⟨r4, I4, hh, h⟩ := bd_e h
    refine s_cV0 (st := []) C M.rg (Nat.le_trans (by decide) hd) mwX4_pourNow mlX4_65 dX4_carryOut_104 (wX4_pourNow (d := 45) (Nat.le_refl _)  hh) kk_0 rfl rfl (Nat.le_of_ble_eq_true rfl) ?_
    obtain ⟨rfl, rfl⟩ := pr_e h
    exact s_iret C M dX4_carryOut_107 rfl rfl (Nat.le_refl 0) (Nat.le_refl 0)
  have h := it_f c4 h
  refine s_lookup (off := 80) (tgt := 108) C dX4_carryOut_28 (by decide) (by simp only [Op.lookupswitch.offset_cons, Op.lookupswitch.offset_nil]; rw [if_neg (Ne.symm (ne_i 43 (by decide +kernel) c1)), if_neg (Ne.symm (ne_i 45 (by decide +kernel) c2)), if_neg (Ne.symm (ne_i 61 (by decide +kernel) c3)), if_neg (Ne.symm (ne_i 62 (by decide +kernel) c4))]) (by decide) ?_
  refine s_aload_n C dX4_carryOut_108 rfl rfl ?_
  refine s_iload_n C dX4_carryOut_109 rfl rfl ?_
  obtain ⟨r4, I4, hh, h⟩ := bd_e h
  refine s_cV0 (st := []) C M.rg (Nat.le_trans (by decide) hd) mwX4_limitNow mlX4_68 dX4_carryOut_110 (wX4_limitNow (d := 2) (Nat.le_refl _)  hh) kk_0 rfl rfl (Nat.le_of_ble_eq_true rfl) ?_
  obtain ⟨rfl, rfl⟩ := pr_e h
  exact s_iret C M dX4_carryOut_113 rfl rfl (Nat.le_refl 0) (Nat.le_refl 0)
theorem wX4_giveBack {E : Ev} {d : Nat} (hd : 3 ≤ d)  {I I' : Mm} {r : Unit}  (h : fX4_giveBack  I = some (r, I')) : SemM E d 0 0 mX4_giveBack [rfE E 0] S0 I none S0 I' := by
  unfold fX4_giveBack at h
  refine SemM.ofX (E := E) (y := mX4_giveBack) (args := fun E => [rfE E 0]) (r := fun E => none) (fun E => [some (rfE E 0), none]) (by decide +kernel) (Nat.le_of_ble_eq_true rfl) rfl (fun X C M => ?_)
  refine s_aload_n C dX4_giveBack_0 rfl rfl ?_
  obtain ⟨r1, I1, hh, h⟩ := bd_e h
  refine s_cV0 (st := []) C M.rg (Nat.le_trans (by decide) hd) mwX4_beforeNow mlX4_272 dX4_giveBack_1 (wX4_beforeNow (d := 1) (Nat.le_refl _)  hh) kk_0 rfl rfl (Nat.le_of_ble_eq_true rfl) ?_
  refine s_astore_no (ls' := [some (rfX X 0), some (rvE (xE X) r1)]) C dX4_giveBack_4 rfl (by decide) (Nat.le_of_ble_eq_true rfl) rfl rfl ?_
  refine s_aload_no C dX4_giveBack_5 rfl rfl ?_
  cases r1 with
  | none =>
    have h := on_n h
    refine s_ifnullN (tgt := 17) C dX4_giveBack_6 (by decide) ?_
    obtain ⟨rfl, rfl⟩ := pr_e h
    exact s_vret C M dX4_giveBack_17 rfl (Nat.le_refl 0) (Nat.le_refl 0)
  | some q1 =>
    obtain ⟨hq1, h⟩ := it_s (on_s h)
    refine s_ifnull C dX4_giveBack_6 ?_
    refine s_aload_n C dX4_giveBack_9 rfl rfl ?_
    refine s_getR (b := 1) C dX4_giveBack_10 kk_0 foX4_10 rfl rk_0_0 ?_
    refine s_aload_n C dX4_giveBack_13 rfl rfl ?_
    obtain ⟨r2, I2, hh, h⟩ := bd_e h
    refine s_cV0 (st := []) C M.rg (Nat.le_trans (by decide) hd) mwX3_copyFrom mlX4_237 dX4_giveBack_14 (wX3_copyFrom (d := 2) (Nat.le_refl _) kk_1 hq1 hh) kk_1 rfl rfl (Nat.le_of_ble_eq_true rfl) ?_
    obtain ⟨rfl, rfl⟩ := pr_e h
    exact s_vret C M dX4_giveBack_17 rfl (Nat.le_refl 0) (Nat.le_refl 0)
theorem wX4_run_p31 {X : Cx} {d : Nat} (hd : 47 ≤ d) (C : CtxOK X mX4_run) : ∀ (n : Nat) {x1 : Int32} {x2 : Int32} {I I' : Mm} {r : Int32}  (_ : fX4_run_p31 n x1 x2 I = some (r, I')) (_ : MX X (xE X) d 0 0 (some (.int r)) S0 I'), WM X mX4_run 31 [some (rfX X 0), some (.int x1), some (.int x2)] [] S0 I 0 0 := by
  intro n
  induction n with
  | zero => intro x1 x2 I I' r  h M; exact absurd h (by simp [fX4_run_p31])
  | succ n ih =>
    intro x1 x2 I I' r  h M
    rw [fX4_run_p31] at h
    refine s_iload_n C dX4_run_31 rfl rfl ?_
    refine s_iload_n C dX4_run_32 rfl rfl ?_
    refine s_icmp_ge (tgt := 68) C dX4_run_33 (by decide) (fun c => ?_) (fun c => ?_)
    · have h := it_t c h
      refine s_aload_n C dX4_run_68 rfl rfl ?_
      refine s_iload_n C dX4_run_69 rfl rfl ?_
      obtain ⟨r1, I1, hh, h⟩ := bd_e h
      refine s_cV0 (st := []) C M.rg (Nat.le_trans (by decide) hd) mwX4_keep mlX4_54 dX4_run_70 (wX4_keep (d := 1) (Nat.le_refl _)  hh) kk_0 rfl rfl (Nat.le_of_ble_eq_true rfl) ?_
      obtain ⟨rfl, rfl⟩ := pr_e h
      exact s_iret C M dX4_run_73 rfl rfl (Nat.le_refl 0) (Nat.le_refl 0)
    · have h := it_f c h
      refine s_iload_n C dX4_run_36 rfl rfl ?_
      refine s_bipush C dX4_run_37 bi_20 ?_
      refine s_icmp_ge (tgt := 68) C dX4_run_39 (by decide) (fun c => ?_) (fun c => ?_)
      · have h := it_t c h
        refine s_aload_n C dX4_run_68 rfl rfl ?_
        refine s_iload_n C dX4_run_69 rfl rfl ?_
        obtain ⟨r1, I1, hh, h⟩ := bd_e h
        refine s_cV0 (st := []) C M.rg (Nat.le_trans (by decide) hd) mwX4_keep mlX4_54 dX4_run_70 (wX4_keep (d := 1) (Nat.le_refl _)  hh) kk_0 rfl rfl (Nat.le_of_ble_eq_true rfl) ?_
        obtain ⟨rfl, rfl⟩ := pr_e h
        exact s_iret C M dX4_run_73 rfl rfl (Nat.le_refl 0) (Nat.le_refl 0)
      · have h := it_f c h
        refine s_aload_n C dX4_run_42 rfl rfl ?_
        refine s_iload_n C dX4_run_43 rfl rfl ?_
        obtain ⟨r1, I1, hh, h⟩ := bd_e h
        refine s_cV0 (st := []) C M.rg (Nat.le_trans (by decide) hd) mwX4_carryOut mlX4_190 dX4_run_44 (wX4_carryOut (d := 46) (Nat.le_refl _)  hh) kk_0 rfl rfl (Nat.le_of_ble_eq_true rfl) ?_
        refine s_if_ge (tgt := 62) C dX4_run_47 (by decide) (fun c => ?_) (fun c => ?_)
        · have h := it_t c h
          obtain ⟨v1, ev1, h⟩ := ltm_e h
          refine s_iinc (v := v1) (ls' := [some (rfX X 0), some (.int x1), some (.int v1)]) C dX4_run_62 rfl (by decide) (Nat.le_of_ble_eq_true rfl) (by rw [ev1, ic_1]) rfl rfl ?_
          refine s_goto (tgt := 31) C dX4_run_65 (by decide) ?_
          exact ih  h M
        · have h := it_f c h
          refine s_aload_n C dX4_run_50 rfl rfl ?_
          obtain ⟨r2, I2, hh, h⟩ := bd_e h
          refine s_cV0 (st := []) C M.rg (Nat.le_trans (by decide) hd) mwX4_giveBack mlX4_193 dX4_run_51 (wX4_giveBack (d := 3) (Nat.le_refl _)  hh) kk_0 rfl rfl (Nat.le_of_ble_eq_true rfl) ?_
          refine s_aload_n C dX4_run_54 rfl rfl ?_
          refine s_bipush C dX4_run_55 bi_6 ?_
          refine s_iload_n C dX4_run_57 rfl rfl ?_
          obtain ⟨r3, I3, hh, h⟩ := bd_e h
          refine s_cV0 (st := []) C M.rg (Nat.le_trans (by decide) hd) mwX4_refuse mlX4_196 dX4_run_58 (wX4_refuse (d := 1) (Nat.le_refl _)  hh) kk_0 rfl rfl (Nat.le_of_ble_eq_true rfl) ?_
          obtain ⟨rfl, rfl⟩ := pr_e h
          exact s_iret C M dX4_run_61 rfl rfl (Nat.le_refl 0) (Nat.le_refl 0)
theorem wX4_run {E : Ev} {d : Nat} (hd : 47 ≤ d)  {I I' : Mm} {r : Int32}  (h : fX4_run  I = some (r, I')) : SemM E d 0 0 mX4_run [rfE E 0] S0 I (some (.int r)) S0 I' := by
  unfold fX4_run at h
  refine SemM.ofX (E := E) (y := mX4_run) (args := fun E => [rfE E 0]) (r := fun E => (some (.int r))) (fun E => [some (rfE E 0), none, none]) (by decide +kernel) (Nat.le_of_ble_eq_true rfl) rfl (fun X C M => ?_)
  refine s_aload_n C dX4_run_0 rfl rfl ?_
  refine s_getR (b := 34) C dX4_run_1 kk_0 foX4_36 rfl rk_0_8 ?_
  refine s_aload_n C dX4_run_4 rfl rfl ?_
  refine s_getR (b := 30) C dX4_run_5 kk_0 foX4_26 rfl rk_0_6 ?_
  obtain ⟨r1, I1, hh, h⟩ := bd_e h
  refine s_cV0 (st := []) C M.rg (Nat.le_trans (by decide) hd) mwX0_read mlX4_183 dX4_run_8 (wX0_read (d := 4) (Nat.le_refl _) kk_30 hh) kk_34 rfl rfl (Nat.le_of_ble_eq_true rfl) ?_
  refine s_istore_n (ls' := [some (rfX X 0), some (.int r1), none]) C dX4_run_11 rfl (by decide) (Nat.le_of_ble_eq_true rfl) rfl rfl ?_
  refine s_aload_n C dX4_run_12 rfl rfl ?_
  refine s_getR (b := 30) C dX4_run_13 kk_0 foX4_26 rfl rk_0_6 ?_
  obtain ⟨r2, I2, hh, h⟩ := bd_e h
  refine s_cV0 (st := []) C M.rg (Nat.le_trans (by decide) hd) mwX2_clear mlX4_187 dX4_run_16 (wX2_clear (d := 1) (Nat.le_refl _) kk_30 hh) kk_30 rfl rfl (Nat.le_of_ble_eq_true rfl) ?_
  refine s_iload_n C dX4_run_19 rfl rfl ?_
  refine s_if_ge (tgt := 25) C dX4_run_20 (by decide) (fun c => ?_) (fun c => ?_)
  · have h := it_t c h
    refine s_aload_n C dX4_run_25 rfl rfl ?_
    obtain ⟨r3, I3, hh, h⟩ := bd_e h
    refine s_cV0 (st := []) C M.rg (Nat.le_trans (by decide) hd) mwX4_hold mlX4_47 dX4_run_26 (wX4_hold (d := 3) (Nat.le_refl _)  hh) kk_0 rfl rfl (Nat.le_of_ble_eq_true rfl) ?_
    refine s_iconst C dX4_run_29 ic_0 ?_
    refine s_istore_n (ls' := [some (rfX X 0), some (.int r1), some (.int 0)]) C dX4_run_30 rfl (by decide) (Nat.le_of_ble_eq_true rfl) rfl rfl ?_
    exact wX4_run_p31 hd C _  h M
  · have h := it_f c h
    refine s_iload_n C dX4_run_23 rfl rfl ?_
    obtain ⟨rfl, rfl⟩ := pr_e h
    exact s_iret C M dX4_run_24 rfl rfl (Nat.le_refl 0) (Nat.le_refl 0)
theorem wX4_save {E : Ev} {d : Nat} (hd : 3 ≤ d)  {I I' : Mm} {r : Int32}  (h : fX4_save  I = some (r, I')) : SemM E d 0 0 mX4_save [rfE E 0] S0 I (some (.int r)) S0 I' := by
  unfold fX4_save at h
  refine SemM.ofX (E := E) (y := mX4_save) (args := fun E => [rfE E 0]) (r := fun E => (some (.int r))) (fun E => [some (rfE E 0)]) (by decide +kernel) (Nat.le_of_ble_eq_true rfl) rfl (fun X C M => ?_)
  refine s_aload_n C dX4_save_0 rfl rfl ?_
  refine s_getR (b := 15) C dX4_save_1 kk_0 foX4_16 rfl rk_0_1 ?_
  refine s_aload_n C dX4_save_4 rfl rfl ?_
  refine s_getR (b := 1) C dX4_save_5 kk_0 foX4_10 rfl rk_0_0 ?_
  obtain ⟨r1, I1, hh, h⟩ := bd_e h
  refine s_cV0 (st := []) C M.rg (Nat.le_trans (by decide) hd) mwX3_copyFrom mlX4_237 dX4_save_8 (wX3_copyFrom (d := 2) (Nat.le_refl _) kk_15 kk_1 hh) kk_15 rfl rfl (Nat.le_of_ble_eq_true rfl) ?_
  refine s_aload_n C dX4_save_11 rfl rfl ?_
  refine s_iconst C dX4_save_12 ic_1 ?_
  obtain ⟨I2, eI2, h⟩ := ltm_e h
  refine s_putZ C dX4_save_13 kk_0 poX4_241 rfl (by decide) eI2 ?_
  refine s_aload_n C dX4_save_16 rfl rfl ?_
  refine s_getR (b := 1) C dX4_save_17 kk_0 foX4_10 rfl rk_0_0 ?_
  obtain ⟨r2, I3, hh, h⟩ := bd_e h
  refine s_cV0 (st := []) C M.rg (Nat.le_trans (by decide) hd) mwX3_sheaves mlX4_149 dX4_save_20 (wX3_sheaves (d := 2) (Nat.le_refl _) kk_1 hh) kk_1 rfl rfl (Nat.le_of_ble_eq_true rfl) ?_
  obtain ⟨rfl, rfl⟩ := pr_e h
  exact s_iret C M dX4_save_23 rfl rfl (Nat.le_refl 0) (Nat.le_refl 0)
theorem wX4_take {E : Ev} {d : Nat} (hd : 46 ≤ d) {x1 : Int32} {x2 : Int32} {I I' : Mm} {r : Int32}  (h : fX4_take x1 x2 I = some (r, I')) : SemM E d 0 0 mX4_take [rfE E 0, .int x1, .int x2] S0 I (some (.int r)) S0 I' := by
  unfold fX4_take at h
  refine SemM.ofX (E := E) (y := mX4_take) (args := fun E => [rfE E 0, .int x1, .int x2]) (r := fun E => (some (.int r))) (fun E => [some (rfE E 0), some (.int x1), some (.int x2)]) (by decide +kernel) (Nat.le_of_ble_eq_true rfl) rfl (fun X C M => ?_)
  refine s_aload_n C dX4_take_0 rfl rfl ?_
  obtain ⟨r1, I1, hh, h⟩ := bd_e h
  refine s_cV0 (st := []) C M.rg (Nat.le_trans (by decide) hd) mwX4_hold mlX4_47 dX4_take_1 (wX4_hold (d := 3) (Nat.le_refl _)  hh) kk_0 rfl rfl (Nat.le_of_ble_eq_true rfl) ?_
  refine s_aload_n C dX4_take_4 rfl rfl ?_
  refine s_aload_n C dX4_take_5 rfl rfl ?_
  refine s_iload_n C dX4_take_6 rfl rfl ?_
  refine s_iload_n C dX4_take_7 rfl rfl ?_
  obtain ⟨r2, I2, hh, h⟩ := bd_e h
  refine s_cV0 (st := [rfX X 0]) C M.rg (Nat.le_trans (by decide) hd) mwX4_takeNow mlX4_58 dX4_take_8 (wX4_takeNow (d := 45) (Nat.le_refl _)  hh) kk_0 rfl rfl (Nat.le_of_ble_eq_true rfl) ?_
  obtain ⟨r3, I3, hh, h⟩ := bd_e h
  refine s_cV0 (st := []) C M.rg (Nat.le_trans (by decide) hd) mwX4_keep mlX4_54 dX4_take_11 (wX4_keep (d := 1) (Nat.le_refl _)  hh) kk_0 rfl rfl (Nat.le_of_ble_eq_true rfl) ?_
  obtain ⟨rfl, rfl⟩ := pr_e h
  exact s_iret C M dX4_take_14 rfl rfl (Nat.le_refl 0) (Nat.le_refl 0)
theorem wX4_undo {E : Ev} {d : Nat} (hd : 4 ≤ d)  {I I' : Mm} {r : Int32}  (h : fX4_undo  I = some (r, I')) : SemM E d 0 0 mX4_undo [rfE E 0] S0 I (some (.int r)) S0 I' := by
  unfold fX4_undo at h
  refine SemM.ofX (E := E) (y := mX4_undo) (args := fun E => [rfE E 0]) (r := fun E => (some (.int r))) (fun E => [some (rfE E 0)]) (by decide +kernel) (Nat.le_of_ble_eq_true rfl) rfl (fun X C M => ?_)
  refine s_aload_n C dX4_undo_0 rfl rfl ?_
  refine s_getI C dX4_undo_1 kk_0 foX4_227 rfl ?_
  refine s_if_gt (tgt := 10) C dX4_undo_4 (by decide) (fun c => ?_) (fun c => ?_)
  · have h := it_t c h
    refine s_aload_n C dX4_undo_10 rfl rfl ?_
    refine s_aload_n C dX4_undo_11 rfl rfl ?_
    refine s_getI C dX4_undo_12 kk_0 foX4_234 rfl ?_
    refine s_bipush C dX4_undo_15 bi_8 ?_
    refine s_iadd C dX4_undo_17 ?_
    refine s_bipush C dX4_undo_18 bi_9 ?_
    refine s_irem C dX4_undo_20 (by decide) ?_
    obtain ⟨I1, eI1, h⟩ := ltm_e h
    refine s_putI C dX4_undo_21 kk_0 poX4_234 rfl eI1 ?_
    refine s_aload_n C dX4_undo_24 rfl rfl ?_
    refine s_dup C dX4_undo_25 rfl ?_
    refine s_getI C dX4_undo_26 kk_0 foX4_227 rfl ?_
    refine s_iconst C dX4_undo_29 ic_1 ?_
    refine s_isub C dX4_undo_30 ?_
    obtain ⟨I2, eI2, h⟩ := ltm_e h
    refine s_putI C dX4_undo_31 kk_0 poX4_227 rfl eI2 ?_
    refine s_aload_n C dX4_undo_34 rfl rfl ?_
    obtain ⟨r1, I3, hh, h⟩ := bd_e h
    refine s_cV0 (st := []) C M.rg (Nat.le_trans (by decide) hd) mwX4_giveBack mlX4_193 dX4_undo_35 (wX4_giveBack (d := 3) (Nat.le_refl _)  hh) kk_0 rfl rfl (Nat.le_of_ble_eq_true rfl) ?_
    refine s_aload_n C dX4_undo_38 rfl rfl ?_
    refine s_getI C dX4_undo_39 kk_0 foX4_227 rfl ?_
    obtain ⟨rfl, rfl⟩ := pr_e h
    exact s_iret C M dX4_undo_42 rfl rfl (Nat.le_refl 0) (Nat.le_refl 0)
  · have h := it_f c h
    refine s_bipush C dX4_undo_7 bi_m15 ?_
    obtain ⟨rfl, rfl⟩ := pr_e h
    exact s_iret C M dX4_undo_9 rfl rfl (Nat.le_refl 0) (Nat.le_refl 0)
theorem wL_act_p146 {X : Cx} {d : Nat} (hd : 48 ≤ d) (C : CtxOK X mL_act) {x2 : Int32} {x3 : Int32} {I I' : Mm} {r : Int32}  (h : fL_act_p146 x2 x3 I = some (r, I')) (M : MX X (xE X) d 0 0 (some (.int r)) S0 I') : WM X mL_act 146 [some (rfX X 0), none, some (.int x2), some (.int x3), none, none] [] S0 I 0 0 := by
  unfold fL_act_p146 at h
  refine s_aload_n C dL_act_146 rfl rfl ?_
  refine s_iload_n C dL_act_147 rfl rfl ?_
  refine s_sipush C dL_act_148 si_999 ?_
  refine s_aload_n C dL_act_151 rfl rfl ?_
  refine s_iload_n C dL_act_152 rfl rfl ?_
  refine s_iconst C dL_act_153 ic_0 ?_
  obtain ⟨r1, I1, hh, h⟩ := bd_e h
  refine s_cV0 (st := [.int 999, .int x3, rfX X 0]) C M.rg (Nat.le_trans (by decide) hd) mwX4_rickOf mlL_28 dL_act_154 (wX4_rickOf (d := 5) (Nat.le_refl _)  hh) kk_0 rfl rfl (Nat.le_of_ble_eq_true rfl) ?_
  refine s_bipush C dL_act_157 bi_20 ?_
  refine s_imul C dL_act_159 ?_
  refine s_sipush C dL_act_160 si_200 ?_
  refine s_iadd C dL_act_163 ?_
  refine s_min C M.rg (Nat.le_trans (by decide) hd) mlL_32 dL_act_164 w_min_s w_math_i w_min_c (Nat.le_of_ble_eq_true rfl) (Nat.le_refl 0) (Nat.le_refl 0) ?_
  refine s_iconst C dL_act_167 ic_1 ?_
  refine s_iload_n C dL_act_168 rfl rfl ?_
  refine s_iconst C dL_act_169 ic_5 ?_
  refine s_ishr C dL_act_170 ?_
  refine s_bipush C dL_act_171 bi_99 ?_
  refine s_irem C dL_act_173 (by decide) ?_
  refine s_iadd C dL_act_174 ?_
  obtain ⟨r2, I2, hh, h⟩ := bd_e h
  refine s_cV0 (st := []) C M.rg (Nat.le_trans (by decide) hd) mwX4_put mlL_24 dL_act_175 (wX4_put (d := 45) (Nat.le_refl _)  hh) kk_0 rfl rfl (Nat.le_of_ble_eq_true rfl) ?_
  obtain ⟨rfl, rfl⟩ := pr_e h
  exact s_iret C M dL_act_178 rfl rfl (Nat.le_refl 0) (Nat.le_refl 0)
theorem wL_act_p179 {X : Cx} {d : Nat} (hd : 48 ≤ d) (C : CtxOK X mL_act) {x2 : Int32} {x3 : Int32} {I I' : Mm} {r : Int32}  (h : fL_act_p179 x2 x3 I = some (r, I')) (M : MX X (xE X) d 0 0 (some (.int r)) S0 I') : WM X mL_act 179 [some (rfX X 0), none, some (.int x2), some (.int x3), none, none] [] S0 I 0 0 := by
  unfold fL_act_p179 at h
  refine s_aload_n C dL_act_179 rfl rfl ?_
  refine s_iload_n C dL_act_180 rfl rfl ?_
  refine s_iconst C dL_act_181 ic_0 ?_
  obtain ⟨r1, I1, hh, h⟩ := bd_e h
  refine s_cV0 (st := []) C M.rg (Nat.le_trans (by decide) hd) mwX4_rickOf mlL_28 dL_act_182 (wX4_rickOf (d := 5) (Nat.le_refl _)  hh) kk_0 rfl rfl (Nat.le_of_ble_eq_true rfl) ?_
  refine s_if_le (tgt := 201) C dL_act_185 (by decide) (fun c => ?_) (fun c => ?_)
  · have h := it_t c h
    refine s_iconst C dL_act_201 ic_0 ?_
    refine s_istore (ls' := [some (rfX X 0), none, some (.int x2), some (.int x3), none, some (.int 0)]) C dL_act_202 (by decide) (Nat.le_of_ble_eq_true rfl) rfl rfl ?_
    refine s_aload_n C dL_act_204 rfl rfl ?_
    refine s_iload_n C dL_act_205 rfl rfl ?_
    refine s_aload_n C dL_act_206 rfl rfl ?_
    refine s_iload_n C dL_act_207 rfl rfl ?_
    refine s_iload C dL_act_208 rfl ?_
    obtain ⟨r2, I2, hh, h⟩ := bd_e h
    refine s_cV0 (st := [.int x3, rfX X 0]) C M.rg (Nat.le_trans (by decide) hd) mwX4_at mlL_37 dL_act_210 (wX4_at (d := 2) (Nat.le_refl _)  hh) kk_0 rfl rfl (Nat.le_of_ble_eq_true rfl) ?_
    obtain ⟨r3, I3, hh, h⟩ := bd_e h
    refine s_cV0 (st := []) C M.rg (Nat.le_trans (by decide) hd) mwX4_take mlL_40 dL_act_213 (wX4_take (d := 46) (Nat.le_refl _)  hh) kk_0 rfl rfl (Nat.le_of_ble_eq_true rfl) ?_
    obtain ⟨rfl, rfl⟩ := pr_e h
    exact s_iret C M dL_act_216 rfl rfl (Nat.le_refl 0) (Nat.le_refl 0)
  · have h := it_f c h
    refine s_iload_n C dL_act_188 rfl rfl ?_
    refine s_iconst C dL_act_189 ic_4 ?_
    refine s_ishr C dL_act_190 ?_
    refine s_aload_n C dL_act_191 rfl rfl ?_
    refine s_iload_n C dL_act_192 rfl rfl ?_
    refine s_iconst C dL_act_193 ic_0 ?_
    obtain ⟨r2, I2, hh, h⟩ := bd_e h
    refine s_cV0 (st := [.int (x2 >>> ((4 : Int32) &&& 31))]) C M.rg (Nat.le_trans (by decide) hd) mwX4_rickOf mlL_28 dL_act_194 (wX4_rickOf (d := 5) (Nat.le_refl _)  hh) kk_0 rfl rfl (Nat.le_of_ble_eq_true rfl) ?_
    obtain ⟨hb, h⟩ := it_n h
    refine s_irem C dL_act_197 hb ?_
    refine s_goto (tgt := 202) C dL_act_198 (by decide) ?_
    obtain ⟨v1, ev1, h⟩ := ltm_e h
    refine s_top_i ev1 ?_
    refine s_istore (ls' := [some (rfX X 0), none, some (.int x2), some (.int x3), none, some (.int v1)]) C dL_act_202 (by decide) (Nat.le_of_ble_eq_true rfl) rfl rfl ?_
    refine s_aload_n C dL_act_204 rfl rfl ?_
    refine s_iload_n C dL_act_205 rfl rfl ?_
    refine s_aload_n C dL_act_206 rfl rfl ?_
    refine s_iload_n C dL_act_207 rfl rfl ?_
    refine s_iload C dL_act_208 rfl ?_
    obtain ⟨r3, I3, hh, h⟩ := bd_e h
    refine s_cV0 (st := [.int x3, rfX X 0]) C M.rg (Nat.le_trans (by decide) hd) mwX4_at mlL_37 dL_act_210 (wX4_at (d := 2) (Nat.le_refl _)  hh) kk_0 rfl rfl (Nat.le_of_ble_eq_true rfl) ?_
    obtain ⟨r4, I4, hh, h⟩ := bd_e h
    refine s_cV0 (st := []) C M.rg (Nat.le_trans (by decide) hd) mwX4_take mlL_40 dL_act_213 (wX4_take (d := 46) (Nat.le_refl _)  hh) kk_0 rfl rfl (Nat.le_of_ble_eq_true rfl) ?_
    obtain ⟨rfl, rfl⟩ := pr_e h
    exact s_iret C M dL_act_216 rfl rfl (Nat.le_refl 0) (Nat.le_refl 0)
theorem wL_act_p50 {X : Cx} {d : Nat} (hd : 48 ≤ d) (C : CtxOK X mL_act) {x1 : Int32} {x2 : Int32} {x3 : Int32} {s0 : Int32} {I I' : Mm} {r : Int32}  (h : fL_act_p50 x1 x2 x3 s0 I = some (r, I')) (M : MX X (xE X) d 0 0 (some (.int r)) S0 I') : WM X mL_act 50 [some (rfX X 0), some (.int x1), some (.int x2), some (.int x3), none, none] [.int s0] S0 I 0 0 := by
  unfold fL_act_p50 at h
  refine s_istore (ls' := [some (rfX X 0), some (.int x1), some (.int x2), some (.int x3), some (.int s0), none]) C dL_act_50 (by decide) (Nat.le_of_ble_eq_true rfl) rfl rfl ?_
  refine s_iload_n C dL_act_52 rfl rfl ?_
  refine s_bipush C dL_act_53 bi_15 ?_
  refine s_iand C dL_act_55 ?_
  by_cases c1 : (x1 &&& 15) = 0
  · have h := it_t c1 h
    refine s_tableIn (off := 76) (tgt := 132) C dL_act_56 (by rw [c1]; decide +kernel) (by rw [c1]; decide +kernel) (by rw [c1]; decide +kernel) (by decide) ?_
    refine s_aload_n C dL_act_132 rfl rfl ?_
    refine s_iload_n C dL_act_133 rfl rfl ?_
    refine s_iload C dL_act_134 rfl ?_
    refine s_iload_n C dL_act_136 rfl rfl ?_
    refine s_iconst C dL_act_137 ic_5 ?_
    refine s_ishr C dL_act_138 ?_
    refine s_bipush C dL_act_139 bi_101 ?_
    refine s_irem C dL_act_141 (by decide) ?_
    obtain ⟨r1, I1, hh, h⟩ := bd_e h
    refine s_cV0 (st := []) C M.rg (Nat.le_trans (by decide) hd) mwX4_put mlL_24 dL_act_142 (wX4_put (d := 45) (Nat.le_refl _)  hh) kk_0 rfl rfl (Nat.le_of_ble_eq_true rfl) ?_
    obtain ⟨rfl, rfl⟩ := pr_e h
    exact s_iret C M dL_act_145 rfl rfl (Nat.le_refl 0) (Nat.le_refl 0)
  have h := it_f c1 h
  by_cases c2 : (x1 &&& 15) = 1
  · have h := it_t c2 h
    refine s_tableIn (off := 76) (tgt := 132) C dL_act_56 (by rw [c2]; decide +kernel) (by rw [c2]; decide +kernel) (by rw [c2]; decide +kernel) (by decide) ?_
    refine s_aload_n C dL_act_132 rfl rfl ?_
    refine s_iload_n C dL_act_133 rfl rfl ?_
    refine s_iload C dL_act_134 rfl ?_
    refine s_iload_n C dL_act_136 rfl rfl ?_
    refine s_iconst C dL_act_137 ic_5 ?_
    refine s_ishr C dL_act_138 ?_
    refine s_bipush C dL_act_139 bi_101 ?_
    refine s_irem C dL_act_141 (by decide) ?_
    obtain ⟨r1, I1, hh, h⟩ := bd_e h
    refine s_cV0 (st := []) C M.rg (Nat.le_trans (by decide) hd) mwX4_put mlL_24 dL_act_142 (wX4_put (d := 45) (Nat.le_refl _)  hh) kk_0 rfl rfl (Nat.le_of_ble_eq_true rfl) ?_
    obtain ⟨rfl, rfl⟩ := pr_e h
    exact s_iret C M dL_act_145 rfl rfl (Nat.le_refl 0) (Nat.le_refl 0)
  have h := it_f c2 h
  by_cases c3 : (x1 &&& 15) = 2
  · have h := it_t c3 h
    refine s_tableIn (off := 76) (tgt := 132) C dL_act_56 (by rw [c3]; decide +kernel) (by rw [c3]; decide +kernel) (by rw [c3]; decide +kernel) (by decide) ?_
    refine s_aload_n C dL_act_132 rfl rfl ?_
    refine s_iload_n C dL_act_133 rfl rfl ?_
    refine s_iload C dL_act_134 rfl ?_
    refine s_iload_n C dL_act_136 rfl rfl ?_
    refine s_iconst C dL_act_137 ic_5 ?_
    refine s_ishr C dL_act_138 ?_
    refine s_bipush C dL_act_139 bi_101 ?_
    refine s_irem C dL_act_141 (by decide) ?_
    obtain ⟨r1, I1, hh, h⟩ := bd_e h
    refine s_cV0 (st := []) C M.rg (Nat.le_trans (by decide) hd) mwX4_put mlL_24 dL_act_142 (wX4_put (d := 45) (Nat.le_refl _)  hh) kk_0 rfl rfl (Nat.le_of_ble_eq_true rfl) ?_
    obtain ⟨rfl, rfl⟩ := pr_e h
    exact s_iret C M dL_act_145 rfl rfl (Nat.le_refl 0) (Nat.le_refl 0)
  have h := it_f c3 h
  by_cases c4 : (x1 &&& 15) = 3
  · have h := it_t c4 h
    refine s_tableIn (off := 76) (tgt := 132) C dL_act_56 (by rw [c4]; decide +kernel) (by rw [c4]; decide +kernel) (by rw [c4]; decide +kernel) (by decide) ?_
    refine s_aload_n C dL_act_132 rfl rfl ?_
    refine s_iload_n C dL_act_133 rfl rfl ?_
    refine s_iload C dL_act_134 rfl ?_
    refine s_iload_n C dL_act_136 rfl rfl ?_
    refine s_iconst C dL_act_137 ic_5 ?_
    refine s_ishr C dL_act_138 ?_
    refine s_bipush C dL_act_139 bi_101 ?_
    refine s_irem C dL_act_141 (by decide) ?_
    obtain ⟨r1, I1, hh, h⟩ := bd_e h
    refine s_cV0 (st := []) C M.rg (Nat.le_trans (by decide) hd) mwX4_put mlL_24 dL_act_142 (wX4_put (d := 45) (Nat.le_refl _)  hh) kk_0 rfl rfl (Nat.le_of_ble_eq_true rfl) ?_
    obtain ⟨rfl, rfl⟩ := pr_e h
    exact s_iret C M dL_act_145 rfl rfl (Nat.le_refl 0) (Nat.le_refl 0)
  have h := it_f c4 h
  by_cases c5 : (x1 &&& 15) = 4
  · have h := it_t c5 h
    refine s_tableIn (off := 76) (tgt := 132) C dL_act_56 (by rw [c5]; decide +kernel) (by rw [c5]; decide +kernel) (by rw [c5]; decide +kernel) (by decide) ?_
    refine s_aload_n C dL_act_132 rfl rfl ?_
    refine s_iload_n C dL_act_133 rfl rfl ?_
    refine s_iload C dL_act_134 rfl ?_
    refine s_iload_n C dL_act_136 rfl rfl ?_
    refine s_iconst C dL_act_137 ic_5 ?_
    refine s_ishr C dL_act_138 ?_
    refine s_bipush C dL_act_139 bi_101 ?_
    refine s_irem C dL_act_141 (by decide) ?_
    obtain ⟨r1, I1, hh, h⟩ := bd_e h
    refine s_cV0 (st := []) C M.rg (Nat.le_trans (by decide) hd) mwX4_put mlL_24 dL_act_142 (wX4_put (d := 45) (Nat.le_refl _)  hh) kk_0 rfl rfl (Nat.le_of_ble_eq_true rfl) ?_
    obtain ⟨rfl, rfl⟩ := pr_e h
    exact s_iret C M dL_act_145 rfl rfl (Nat.le_refl 0) (Nat.le_refl 0)
  have h := it_f c5 h
  by_cases c6 : (x1 &&& 15) = 5
  · have h := it_t c6 h
    refine s_tableIn (off := 90) (tgt := 146) C dL_act_56 (by rw [c6]; decide +kernel) (by rw [c6]; decide +kernel) (by rw [c6]; decide +kernel) (by decide) ?_
    refine s_weak (ls' := [some (rfX X 0), none, some (.int x2), some (.int x3), none, none]) [true, false, true, true, false, false] rfl ?_
    exact wL_act_p146 hd C  h M
  have h := it_f c6 h
  by_cases c7 : (x1 &&& 15) = 6
  · have h := it_t c7 h
    refine s_tableIn (off := 90) (tgt := 146) C dL_act_56 (by rw [c7]; decide +kernel) (by rw [c7]; decide +kernel) (by rw [c7]; decide +kernel) (by decide) ?_
    refine s_weak (ls' := [some (rfX X 0), none, some (.int x2), some (.int x3), none, none]) [true, false, true, true, false, false] rfl ?_
    exact wL_act_p146 hd C  h M
  have h := it_f c7 h
  by_cases c8 : (x1 &&& 15) = 7
  · have h := it_t c8 h
    refine s_tableIn (off := 123) (tgt := 179) C dL_act_56 (by rw [c8]; decide +kernel) (by rw [c8]; decide +kernel) (by rw [c8]; decide +kernel) (by decide) ?_
    refine s_weak (ls' := [some (rfX X 0), none, some (.int x2), some (.int x3), none, none]) [true, false, true, true, false, false] rfl ?_
    exact wL_act_p179 hd C  h M
  have h := it_f c8 h
  by_cases c9 : (x1 &&& 15) = 8
  · have h := it_t c9 h
    refine s_tableIn (off := 123) (tgt := 179) C dL_act_56 (by rw [c9]; decide +kernel) (by rw [c9]; decide +kernel) (by rw [c9]; decide +kernel) (by decide) ?_
    refine s_weak (ls' := [some (rfX X 0), none, some (.int x2), some (.int x3), none, none]) [true, false, true, true, false, false] rfl ?_
    exact wL_act_p179 hd C  h M
  have h := it_f c9 h
  by_cases c10 : (x1 &&& 15) = 9
  · have h := it_t c10 h
    refine s_tableIn (off := 161) (tgt := 217) C dL_act_56 (by rw [c10]; decide +kernel) (by rw [c10]; decide +kernel) (by rw [c10]; decide +kernel) (by decide) ?_
    refine s_aload_n C dL_act_217 rfl rfl ?_
    refine s_iload_n C dL_act_218 rfl rfl ?_
    refine s_iload C dL_act_219 rfl ?_
    obtain ⟨r1, I1, hh, h⟩ := bd_e h
    refine s_cV0 (st := []) C M.rg (Nat.le_trans (by decide) hd) mwX4_take mlL_40 dL_act_221 (wX4_take (d := 46) (Nat.le_refl _)  hh) kk_0 rfl rfl (Nat.le_of_ble_eq_true rfl) ?_
    obtain ⟨rfl, rfl⟩ := pr_e h
    exact s_iret C M dL_act_224 rfl rfl (Nat.le_refl 0) (Nat.le_refl 0)
  have h := it_f c10 h
  by_cases c11 : (x1 &&& 15) = 10
  · have h := it_t c11 h
    refine s_tableIn (off := 169) (tgt := 225) C dL_act_56 (by rw [c11]; decide +kernel) (by rw [c11]; decide +kernel) (by rw [c11]; decide +kernel) (by decide) ?_
    refine s_iload_n C dL_act_225 rfl rfl ?_
    refine s_bipush C dL_act_226 bi_12 ?_
    refine s_iand C dL_act_228 ?_
    refine s_if_ne (tgt := 240) C dL_act_229 (by decide) (fun c => ?_) (fun c => ?_)
    · have h := it_f c h
      refine s_aload_n C dL_act_240 rfl rfl ?_
      refine s_iconst C dL_act_241 ic_1 ?_
      refine s_iload C dL_act_242 rfl ?_
      refine s_iconst C dL_act_244 ic_5 ?_
      obtain ⟨r1, I1, hh, h⟩ := bd_e h
      refine s_cV0 (st := []) C M.rg (Nat.le_trans (by decide) hd) mwX4_put mlL_24 dL_act_245 (wX4_put (d := 45) (Nat.le_refl _)  hh) kk_0 rfl rfl (Nat.le_of_ble_eq_true rfl) ?_
      obtain ⟨rfl, rfl⟩ := pr_e h
      exact s_iret C M dL_act_248 rfl rfl (Nat.le_refl 0) (Nat.le_refl 0)
    · have h := it_t c h
      refine s_aload_n C dL_act_232 rfl rfl ?_
      refine s_iload_n C dL_act_233 rfl rfl ?_
      obtain ⟨r1, I1, hh, h⟩ := bd_e h
      refine s_cV0 (st := []) C M.rg (Nat.le_trans (by decide) hd) mwX4_build mlL_43 dL_act_234 (wX4_build (d := 46) (Nat.le_refl _)  hh) kk_0 rfl rfl (Nat.le_of_ble_eq_true rfl) ?_
      refine s_goto (tgt := 248) C dL_act_237 (by decide) ?_
      obtain ⟨rfl, rfl⟩ := pr_e h
      exact s_iret C M dL_act_248 rfl rfl (Nat.le_refl 0) (Nat.le_refl 0)
  have h := it_f c11 h
  by_cases c12 : (x1 &&& 15) = 11
  · have h := it_t c12 h
    refine s_tableIn (off := 193) (tgt := 249) C dL_act_56 (by rw [c12]; decide +kernel) (by rw [c12]; decide +kernel) (by rw [c12]; decide +kernel) (by decide) ?_
    refine s_iload_n C dL_act_249 rfl rfl ?_
    refine s_bipush C dL_act_250 bi_28 ?_
    refine s_iand C dL_act_252 ?_
    refine s_if_ne (tgt := 274) C dL_act_253 (by decide) (fun c => ?_) (fun c => ?_)
    · have h := it_f c h
      refine s_aload_n C dL_act_274 rfl rfl ?_
      refine s_iconst C dL_act_275 ic_2 ?_
      refine s_iload C dL_act_276 rfl ?_
      refine s_bipush C dL_act_278 bi_9 ?_
      obtain ⟨r1, I1, hh, h⟩ := bd_e h
      refine s_cV0 (st := []) C M.rg (Nat.le_trans (by decide) hd) mwX4_put mlL_24 dL_act_280 (wX4_put (d := 45) (Nat.le_refl _)  hh) kk_0 rfl rfl (Nat.le_of_ble_eq_true rfl) ?_
      obtain ⟨rfl, rfl⟩ := pr_e h
      exact s_iret C M dL_act_283 rfl rfl (Nat.le_refl 0) (Nat.le_refl 0)
    · have h := it_t c h
      refine s_aload_n C dL_act_256 rfl rfl ?_
      refine s_iload_n C dL_act_257 rfl rfl ?_
      refine s_iconst C dL_act_258 ic_5 ?_
      refine s_ishr C dL_act_259 ?_
      refine s_iconst C dL_act_260 ic_3 ?_
      refine s_irem C dL_act_261 (by decide) ?_
      refine s_iload_n C dL_act_262 rfl rfl ?_
      refine s_bipush C dL_act_263 bi_7 ?_
      refine s_ishr C dL_act_265 ?_
      refine s_iconst C dL_act_266 ic_3 ?_
      refine s_irem C dL_act_267 (by decide) ?_
      obtain ⟨r1, I1, hh, h⟩ := bd_e h
      refine s_cV0 (st := []) C M.rg (Nat.le_trans (by decide) hd) mwX4_pour mlL_46 dL_act_268 (wX4_pour (d := 46) (Nat.le_refl _)  hh) kk_0 rfl rfl (Nat.le_of_ble_eq_true rfl) ?_
      refine s_goto (tgt := 283) C dL_act_271 (by decide) ?_
      obtain ⟨rfl, rfl⟩ := pr_e h
      exact s_iret C M dL_act_283 rfl rfl (Nat.le_refl 0) (Nat.le_refl 0)
  have h := it_f c12 h
  by_cases c13 : (x1 &&& 15) = 12
  · have h := it_t c13 h
    refine s_tableIn (off := 228) (tgt := 284) C dL_act_56 (by rw [c13]; decide +kernel) (by rw [c13]; decide +kernel) (by rw [c13]; decide +kernel) (by decide) ?_
    refine s_aload_n C dL_act_284 rfl rfl ?_
    refine s_bipush C dL_act_285 bi_54 ?_
    refine s_iload_n C dL_act_287 rfl rfl ?_
    refine s_iconst C dL_act_288 ic_4 ?_
    refine s_ishr C dL_act_289 ?_
    refine s_bipush C dL_act_290 bi_38 ?_
    refine s_irem C dL_act_292 (by decide) ?_
    refine s_iadd C dL_act_293 ?_
    obtain ⟨r1, I1, hh, h⟩ := bd_e h
    refine s_cV0 (st := []) C M.rg (Nat.le_trans (by decide) hd) mwX4_limit mlL_49 dL_act_294 (wX4_limit (d := 4) (Nat.le_refl _)  hh) kk_0 rfl rfl (Nat.le_of_ble_eq_true rfl) ?_
    obtain ⟨rfl, rfl⟩ := pr_e h
    exact s_iret C M dL_act_297 rfl rfl (Nat.le_refl 0) (Nat.le_refl 0)
  have h := it_f c13 h
  by_cases c14 : (x1 &&& 15) = 13
  · have h := it_t c14 h
    refine s_tableIn (off := 242) (tgt := 298) C dL_act_56 (by rw [c14]; decide +kernel) (by rw [c14]; decide +kernel) (by rw [c14]; decide +kernel) (by decide) ?_
    refine s_aload_n C dL_act_298 rfl rfl ?_
    refine s_txs C dL_act_299 fl_L52 ?_
    refine s_iload_n C dL_act_302 rfl rfl ?_
    refine s_txs C dL_act_303 fl_L52 ?_
    refine s_txl C dL_act_306 ?_
    refine s_irem C dL_act_307 (by decide) ?_
    obtain ⟨hb, h⟩ := it_n h
    have kq1 := ck_lt hb
    refine s_txa C dL_act_308 hb ?_
    obtain ⟨r1, I1, hh, h⟩ := bd_e h
    refine s_cS0 (st := []) C M.rg (Nat.le_trans (by decide) hd) mwL_write mlL_58 dL_act_309 (wL_write (d := 9) (Nat.le_refl _) kq1 hh) rfl rfl (Nat.le_of_ble_eq_true rfl) ?_
    obtain ⟨r2, I2, hh, h⟩ := bd_e h
    refine s_cV0 (st := []) C M.rg (Nat.le_trans (by decide) hd) mwX4_run mlL_62 dL_act_312 (wX4_run (d := 47) (Nat.le_refl _)  hh) kk_0 rfl rfl (Nat.le_of_ble_eq_true rfl) ?_
    obtain ⟨rfl, rfl⟩ := pr_e h
    exact s_iret C M dL_act_315 rfl rfl (Nat.le_refl 0) (Nat.le_refl 0)
  have h := it_f c14 h
  by_cases c15 : (x1 &&& 15) = 14
  · have h := it_t c15 h
    refine s_tableIn (off := 242) (tgt := 298) C dL_act_56 (by rw [c15]; decide +kernel) (by rw [c15]; decide +kernel) (by rw [c15]; decide +kernel) (by decide) ?_
    refine s_aload_n C dL_act_298 rfl rfl ?_
    refine s_txs C dL_act_299 fl_L52 ?_
    refine s_iload_n C dL_act_302 rfl rfl ?_
    refine s_txs C dL_act_303 fl_L52 ?_
    refine s_txl C dL_act_306 ?_
    refine s_irem C dL_act_307 (by decide) ?_
    obtain ⟨hb, h⟩ := it_n h
    have kq1 := ck_lt hb
    refine s_txa C dL_act_308 hb ?_
    obtain ⟨r1, I1, hh, h⟩ := bd_e h
    refine s_cS0 (st := []) C M.rg (Nat.le_trans (by decide) hd) mwL_write mlL_58 dL_act_309 (wL_write (d := 9) (Nat.le_refl _) kq1 hh) rfl rfl (Nat.le_of_ble_eq_true rfl) ?_
    obtain ⟨r2, I2, hh, h⟩ := bd_e h
    refine s_cV0 (st := []) C M.rg (Nat.le_trans (by decide) hd) mwX4_run mlL_62 dL_act_312 (wX4_run (d := 47) (Nat.le_refl _)  hh) kk_0 rfl rfl (Nat.le_of_ble_eq_true rfl) ?_
    obtain ⟨rfl, rfl⟩ := pr_e h
    exact s_iret C M dL_act_315 rfl rfl (Nat.le_refl 0) (Nat.le_refl 0)
  have h := it_f c15 h
  refine s_tableOut (tgt := 316) C dL_act_56 (by have := ne_i 0 (by decide +kernel) c1; have := ne_i 1 (by decide +kernel) c2; have := ne_i 2 (by decide +kernel) c3; have := ne_i 3 (by decide +kernel) c4; have := ne_i 4 (by decide +kernel) c5; have := ne_i 5 (by decide +kernel) c6; have := ne_i 6 (by decide +kernel) c7; have := ne_i 7 (by decide +kernel) c8; have := ne_i 8 (by decide +kernel) c9; have := ne_i 9 (by decide +kernel) c10; have := ne_i 10 (by decide +kernel) c11; have := ne_i 11 (by decide +kernel) c12; have := ne_i 12 (by decide +kernel) c13; have := ne_i 13 (by decide +kernel) c14; have := ne_i 14 (by decide +kernel) c15; omega) (by decide) ?_
  refine s_iload_n C dL_act_316 rfl rfl ?_
  refine s_iconst C dL_act_317 ic_3 ?_
  refine s_iand C dL_act_318 ?_
  refine s_if_ne (tgt := 329) C dL_act_319 (by decide) (fun c => ?_) (fun c => ?_)
  · have h := it_f c h
    refine s_iload_n C dL_act_329 rfl rfl ?_
    refine s_iconst C dL_act_330 ic_3 ?_
    refine s_iand C dL_act_331 ?_
    refine s_iconst C dL_act_332 ic_1 ?_
    refine s_icmp_ne (tgt := 343) C dL_act_333 (by decide) (fun c => ?_) (fun c => ?_)
    · have h := it_f c h
      refine s_aload_n C dL_act_343 rfl rfl ?_
      obtain ⟨r1, I1, hh, h⟩ := bd_e h
      refine s_cV0 (st := []) C M.rg (Nat.le_trans (by decide) hd) mwX4_undo mlL_71 dL_act_344 (wX4_undo (d := 4) (Nat.le_refl _)  hh) kk_0 rfl rfl (Nat.le_of_ble_eq_true rfl) ?_
      obtain ⟨rfl, rfl⟩ := pr_e h
      exact s_iret C M dL_act_347 rfl rfl (Nat.le_refl 0) (Nat.le_refl 0)
    · have h := it_t c h
      refine s_aload_n C dL_act_336 rfl rfl ?_
      obtain ⟨r1, I1, hh, h⟩ := bd_e h
      refine s_cV0 (st := []) C M.rg (Nat.le_trans (by decide) hd) mwX4_restore mlL_68 dL_act_337 (wX4_restore (d := 3) (Nat.le_refl _)  hh) kk_0 rfl rfl (Nat.le_of_ble_eq_true rfl) ?_
      refine s_goto (tgt := 347) C dL_act_340 (by decide) ?_
      obtain ⟨rfl, rfl⟩ := pr_e h
      exact s_iret C M dL_act_347 rfl rfl (Nat.le_refl 0) (Nat.le_refl 0)
  · have h := it_t c h
    refine s_aload_n C dL_act_322 rfl rfl ?_
    obtain ⟨r1, I1, hh, h⟩ := bd_e h
    refine s_cV0 (st := []) C M.rg (Nat.le_trans (by decide) hd) mwX4_save mlL_65 dL_act_323 (wX4_save (d := 3) (Nat.le_refl _)  hh) kk_0 rfl rfl (Nat.le_of_ble_eq_true rfl) ?_
    refine s_goto (tgt := 347) C dL_act_326 (by decide) ?_
    obtain ⟨rfl, rfl⟩ := pr_e h
    exact s_iret C M dL_act_347 rfl rfl (Nat.le_refl 0) (Nat.le_refl 0)
