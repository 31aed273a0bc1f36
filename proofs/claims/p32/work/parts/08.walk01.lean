theorem wX1_lighterOneByOne {E : Ev} {d : Nat} (hd : 2 ≤ d) {x0 : Nat} {x1 : Int32} {I I' : Mm} {r : Int32} (hx0 : kd0 x0 = 1) (h : fX1_lighterOneByOne x0 x1 I = some (r, I')) : SemM E d 0 0 mX1_lighterOneByOne [rfE E x0, .int x1] S0 I (some (.int r)) S0 I' := by
  unfold fX1_lighterOneByOne at h
  refine SemM.ofX (E := E) (y := mX1_lighterOneByOne) (args := fun E => [rfE E x0, .int x1]) (r := fun E => (some (.int r))) (fun E => [some (rfE E x0), some (.int x1), none, none]) (by decide +kernel) (Nat.le_of_ble_eq_true rfl) rfl (fun X C M => ?_)
  refine s_iconst C dX1_lighterOneByOne_0 ic_0 ?_
  refine s_istore_n (ls' := [some (rfX X x0), some (.int x1), some (.int 0), none]) C dX1_lighterOneByOne_1 rfl (by decide) (Nat.le_of_ble_eq_true rfl) rfl rfl ?_
  refine s_iconst C dX1_lighterOneByOne_2 ic_0 ?_
  refine s_istore_n (ls' := [some (rfX X x0), some (.int x1), some (.int 0), some (.int 0)]) C dX1_lighterOneByOne_3 rfl (by decide) (Nat.le_of_ble_eq_true rfl) rfl rfl ?_
  exact wX1_lighterOneByOne_p4 hd C _ hx0 h M
theorem wX1_loadAt {E : Ev} {d : Nat} (hd : 1 ≤ d) {x0 : Nat} {x1 : Int32} {I I' : Mm} {r : Int32} (hx0 : kd0 x0 = 1) (h : fX1_loadAt x0 x1 I = some (r, I')) : SemM E d 0 0 mX1_loadAt [rfE E x0, .int x1] S0 I (some (.int r)) S0 I' := by
  unfold fX1_loadAt at h
  refine SemM.ofX (E := E) (y := mX1_loadAt) (args := fun E => [rfE E x0, .int x1]) (r := fun E => (some (.int r))) (fun E => [some (rfE E x0), some (.int x1)]) (by decide +kernel) (Nat.le_of_ble_eq_true rfl) rfl (fun X C M => ?_)
  refine s_iload_n C dX1_loadAt_0 rfl rfl ?_
  refine s_if_lt (tgt := 27) C dX1_loadAt_1 (by decide) (fun c => ?_) (fun c => ?_)
  · have h := it_t c h
    refine s_iconst C dX1_loadAt_27 ic_0 ?_
    obtain ⟨rfl, rfl⟩ := pr_e h
    exact s_iret C M dX1_loadAt_28 rfl rfl (Nat.le_refl 0) (Nat.le_refl 0)
  · have h := it_f c h
    refine s_iload_n C dX1_loadAt_4 rfl rfl ?_
    refine s_aload_n C dX1_loadAt_5 rfl rfl ?_
    refine s_getI C dX1_loadAt_6 hx0 foX1_21 rfl ?_
    refine s_icmp_ge (tgt := 27) C dX1_loadAt_9 (by decide) (fun c => ?_) (fun c => ?_)
    · have h := it_t c h
      refine s_iconst C dX1_loadAt_27 ic_0 ?_
      obtain ⟨rfl, rfl⟩ := pr_e h
      exact s_iret C M dX1_loadAt_28 rfl rfl (Nat.le_refl 0) (Nat.le_refl 0)
    · have h := it_f c h
      refine s_iload_n C dX1_loadAt_12 rfl rfl ?_
      refine s_bipush C dX1_loadAt_13 bi_30 ?_
      refine s_icmp_ge (tgt := 27) C dX1_loadAt_15 (by decide) (fun c => ?_) (fun c => ?_)
      · have h := it_t c h
        refine s_iconst C dX1_loadAt_27 ic_0 ?_
        obtain ⟨rfl, rfl⟩ := pr_e h
        exact s_iret C M dX1_loadAt_28 rfl rfl (Nat.le_refl 0) (Nat.le_refl 0)
      · have h := it_f c h
        refine s_aload_n C dX1_loadAt_18 rfl rfl ?_
        refine s_getR (b := (x0 + 2)) C dX1_loadAt_19 hx0 foX1_15 rfl (rr1 hx0).2.1 ?_
        refine s_iload_n C dX1_loadAt_22 rfl rfl ?_
        obtain ⟨hb, h⟩ := it_n h
        refine s_ald (q := x1.toNatClampNeg) C dX1_loadAt_23 (kd1 hx0).2.1 (by decide) rfl hb ?_
        refine s_goto (tgt := 28) C dX1_loadAt_24 (by decide) ?_
        obtain ⟨rfl, rfl⟩ := pr_e h
        exact s_iret C M dX1_loadAt_28 rfl rfl (Nat.le_refl 0) (Nat.le_refl 0)
theorem wX1_set {E : Ev} {d : Nat} (hd : 1 ≤ d) {x0 : Nat} {x1 : Int32} {x2 : Int32} {x3 : Int32} {x4 : Int32} {I I' : Mm} {r : Unit} (hx0 : kd0 x0 = 1) (h : fX1_set x0 x1 x2 x3 x4 I = some (r, I')) : SemM E d 0 0 mX1_set [rfE E x0, .int x1, .int x2, .int x3, .int x4] S0 I none S0 I' := by
  unfold fX1_set at h
  refine SemM.ofX (E := E) (y := mX1_set) (args := fun E => [rfE E x0, .int x1, .int x2, .int x3, .int x4]) (r := fun E => none) (fun E => [some (rfE E x0), some (.int x1), some (.int x2), some (.int x3), some (.int x4)]) (by decide +kernel) (Nat.le_of_ble_eq_true rfl) rfl (fun X C M => ?_)
  refine s_iload_n C dX1_set_0 rfl rfl ?_
  refine s_if_lt (tgt := 32) C dX1_set_1 (by decide) (fun c => ?_) (fun c => ?_)
  · have h := it_t c h
    obtain ⟨rfl, rfl⟩ := pr_e h
    exact s_vret C M dX1_set_32 rfl (Nat.le_refl 0) (Nat.le_refl 0)
  · have h := it_f c h
    refine s_iload_n C dX1_set_4 rfl rfl ?_
    refine s_bipush C dX1_set_5 bi_30 ?_
    refine s_icmp_ge (tgt := 32) C dX1_set_7 (by decide) (fun c => ?_) (fun c => ?_)
    · have h := it_t c h
      obtain ⟨rfl, rfl⟩ := pr_e h
      exact s_vret C M dX1_set_32 rfl (Nat.le_refl 0) (Nat.le_refl 0)
    · have h := it_f c h
      refine s_aload_n C dX1_set_10 rfl rfl ?_
      refine s_getR (b := (x0 + 1)) C dX1_set_11 hx0 foX1_9 rfl (rr1 hx0).1 ?_
      refine s_iload_n C dX1_set_14 rfl rfl ?_
      refine s_iload_n C dX1_set_15 rfl rfl ?_
      obtain ⟨hb, h⟩ := it_n h
      obtain ⟨I1, eI1, h⟩ := ltm_e h
      refine s_ast (q := x1.toNatClampNeg) C dX1_set_16 (kd1 hx0).1 (by decide) rfl hb eI1 ?_
      refine s_aload_n C dX1_set_17 rfl rfl ?_
      refine s_getR (b := (x0 + 2)) C dX1_set_18 hx0 foX1_15 rfl (rr1 hx0).2.1 ?_
      refine s_iload_n C dX1_set_21 rfl rfl ?_
      refine s_iload_n C dX1_set_22 rfl rfl ?_
      obtain ⟨hb, h⟩ := it_n h
      obtain ⟨I2, eI2, h⟩ := ltm_e h
      refine s_ast (q := x1.toNatClampNeg) C dX1_set_23 (kd1 hx0).2.1 (by decide) rfl hb eI2 ?_
      refine s_aload_n C dX1_set_24 rfl rfl ?_
      refine s_getR (b := (x0 + 3)) C dX1_set_25 hx0 foX1_18 rfl (rr1 hx0).2.2 ?_
      refine s_iload_n C dX1_set_28 rfl rfl ?_
      refine s_iload C dX1_set_29 rfl ?_
      obtain ⟨hb, h⟩ := it_n h
      obtain ⟨I3, eI3, h⟩ := ltm_e h
      refine s_ast (q := x1.toNatClampNeg) C dX1_set_31 (kd1 hx0).2.2 (by decide) rfl hb eI3 ?_
      obtain ⟨rfl, rfl⟩ := pr_e h
      exact s_vret C M dX1_set_32 rfl (Nat.le_refl 0) (Nat.le_refl 0)
theorem wX1_lay_p49 {X : Cx} {d : Nat} (hd : 3 ≤ d) (C : CtxOK X mX1_lay) : ∀ (n : Nat) {x0 : Nat} {x1 : Int32} {x2 : Int32} {x3 : Int32} {x4 : Int32} {x5 : Int32} {I I' : Mm} {r : Int32} (hx0 : kd0 x0 = 1) (_ : fX1_lay_p49 n x0 x1 x2 x3 x4 x5 I = some (r, I')) (_ : MX X (xE X) d 0 0 (some (.int r)) S0 I'), WM X mX1_lay 49 [some (rfX X x0), some (.int x1), some (.int x2), some (.int x3), some (.int x4), some (.int x5)] [] S0 I 0 0 := by
  intro n
  induction n with
  | zero => intro x0 x1 x2 x3 x4 x5 I I' r hx0 h M; exact absurd h (by simp [fX1_lay_p49])
  | succ n ih =>
    intro x0 x1 x2 x3 x4 x5 I I' r hx0 h M
    rw [fX1_lay_p49] at h
    refine s_iload C dX1_lay_49 rfl ?_
    refine s_iload_n C dX1_lay_51 rfl rfl ?_
    refine s_icmp_le (tgt := 91) C dX1_lay_52 (by decide) (fun c => ?_) (fun c => ?_)
    · have h := it_t c h
      refine s_aload_n C dX1_lay_91 rfl rfl ?_
      refine s_iload_n C dX1_lay_92 rfl rfl ?_
      refine s_iload_n C dX1_lay_93 rfl rfl ?_
      refine s_iload_n C dX1_lay_94 rfl rfl ?_
      refine s_iload C dX1_lay_95 rfl ?_
      obtain ⟨r1, I1, hh, h⟩ := bd_e h
      refine s_cV0 (st := []) C M.rg (Nat.le_trans (by decide) hd) mwX1_set mlX1_68 dX1_lay_97 (wX1_set (d := 1) (Nat.le_refl _) hx0 hh) hx0 rfl rfl (Nat.le_of_ble_eq_true rfl) ?_
      refine s_aload_n C dX1_lay_100 rfl rfl ?_
      refine s_dup C dX1_lay_101 rfl ?_
      refine s_getI C dX1_lay_102 hx0 foX1_21 rfl ?_
      refine s_iconst C dX1_lay_105 ic_1 ?_
      refine s_iadd C dX1_lay_106 ?_
      obtain ⟨I2, eI2, h⟩ := ltm_e h
      refine s_putI C dX1_lay_107 hx0 poX1_21 rfl eI2 ?_
      refine s_iload_n C dX1_lay_110 rfl rfl ?_
      obtain ⟨rfl, rfl⟩ := pr_e h
      exact s_iret C M dX1_lay_111 rfl rfl (Nat.le_refl 0) (Nat.le_refl 0)
    · have h := it_f c h
      refine s_aload_n C dX1_lay_55 rfl rfl ?_
      refine s_iload C dX1_lay_56 rfl ?_
      refine s_aload_n C dX1_lay_58 rfl rfl ?_
      refine s_iload C dX1_lay_59 rfl ?_
      refine s_iconst C dX1_lay_61 ic_1 ?_
      refine s_isub C dX1_lay_62 ?_
      obtain ⟨r1, I1, hh, h⟩ := bd_e h
      refine s_cV0 (st := [.int x5, rfX X x0]) C M.rg (Nat.le_trans (by decide) hd) mwX1_weightAt mlX1_25 dX1_lay_63 (wX1_weightAt (d := 1) (Nat.le_refl _) hx0 hh) hx0 rfl rfl (Nat.le_of_ble_eq_true rfl) ?_
      refine s_aload_n C dX1_lay_66 rfl rfl ?_
      refine s_iload C dX1_lay_67 rfl ?_
      refine s_iconst C dX1_lay_69 ic_1 ?_
      refine s_isub C dX1_lay_70 ?_
      obtain ⟨r2, I2, hh, h⟩ := bd_e h
      refine s_cV0 (st := [.int r1, .int x5, rfX X x0]) C M.rg (Nat.le_trans (by decide) hd) mwX1_loadAt mlX1_48 dX1_lay_71 (wX1_loadAt (d := 1) (Nat.le_refl _) hx0 hh) hx0 rfl rfl (Nat.le_of_ble_eq_true rfl) ?_
      refine s_aload_n C dX1_lay_74 rfl rfl ?_
      refine s_iload C dX1_lay_75 rfl ?_
      refine s_iconst C dX1_lay_77 ic_1 ?_
      refine s_isub C dX1_lay_78 ?_
      obtain ⟨r3, I3, hh, h⟩ := bd_e h
      refine s_cV0 (st := [.int r2, .int r1, .int x5, rfX X x0]) C M.rg (Nat.le_trans (by decide) hd) mwX1_depthAt mlX1_29 dX1_lay_79 (wX1_depthAt (d := 1) (Nat.le_refl _) hx0 hh) hx0 rfl rfl (Nat.le_of_ble_eq_true rfl) ?_
      obtain ⟨r4, I4, hh, h⟩ := bd_e h
      refine s_cV0 (st := []) C M.rg (Nat.le_trans (by decide) hd) mwX1_set mlX1_68 dX1_lay_82 (wX1_set (d := 1) (Nat.le_refl _) hx0 hh) hx0 rfl rfl (Nat.le_of_ble_eq_true rfl) ?_
      obtain ⟨v1, ev1, h⟩ := ltm_e h
      refine s_iinc (v := v1) (ls' := [some (rfX X x0), some (.int x1), some (.int x2), some (.int x3), some (.int x4), some (.int v1)]) C dX1_lay_85 rfl (by decide) (Nat.le_of_ble_eq_true rfl) (by rw [ev1, ic_m1]) rfl rfl ?_
      refine s_goto (tgt := 49) C dX1_lay_88 (by decide) ?_
      exact ih hx0 h M
theorem wX1_lay {E : Ev} {d : Nat} (hd : 3 ≤ d) {x0 : Nat} {x1 : Int32} {x2 : Int32} {I I' : Mm} {r : Int32} (hx0 : kd0 x0 = 1) (h : fX1_lay x0 x1 x2 I = some (r, I')) : SemM E d 0 0 mX1_lay [rfE E x0, .int x1, .int x2] S0 I (some (.int r)) S0 I' := by
  unfold fX1_lay at h
  refine SemM.ofX (E := E) (y := mX1_lay) (args := fun E => [rfE E x0, .int x1, .int x2]) (r := fun E => (some (.int r))) (fun E => [some (rfE E x0), some (.int x1), some (.int x2), none, none, none]) (by decide +kernel) (Nat.le_of_ble_eq_true rfl) rfl (fun X C M => ?_)
  refine s_aload_n C dX1_lay_0 rfl rfl ?_
  refine s_getI C dX1_lay_1 hx0 foX1_21 rfl ?_
  refine s_if_lt (tgt := 16) C dX1_lay_4 (by decide) (fun c => ?_) (fun c => ?_)
  · have h := it_t c h
    refine s_iconst C dX1_lay_16 ic_m1 ?_
    obtain ⟨rfl, rfl⟩ := pr_e h
    exact s_iret C M dX1_lay_17 rfl rfl (Nat.le_refl 0) (Nat.le_refl 0)
  · have h := it_f c h
    refine s_aload_n C dX1_lay_7 rfl rfl ?_
    refine s_getI C dX1_lay_8 hx0 foX1_21 rfl ?_
    refine s_bipush C dX1_lay_11 bi_30 ?_
    refine s_icmp_lt (tgt := 18) C dX1_lay_13 (by decide) (fun c => ?_) (fun c => ?_)
    · have h := it_t c h
      refine s_aload_n C dX1_lay_18 rfl rfl ?_
      refine s_iload_n C dX1_lay_19 rfl rfl ?_
      obtain ⟨r1, I1, hh, h⟩ := bd_e h
      refine s_cV0 (st := []) C M.rg (Nat.le_trans (by decide) hd) mwX1_lighterOneByOne mlX1_65 dX1_lay_20 (wX1_lighterOneByOne (d := 2) (Nat.le_refl _) hx0 hh) hx0 rfl rfl (Nat.le_of_ble_eq_true rfl) ?_
      refine s_istore_n (ls' := [some (rfX X x0), some (.int x1), some (.int x2), some (.int r1), none, none]) C dX1_lay_23 rfl (by decide) (Nat.le_of_ble_eq_true rfl) rfl rfl ?_
      refine s_aload_n C dX1_lay_24 rfl rfl ?_
      refine s_iload_n C dX1_lay_25 rfl rfl ?_
      refine s_iconst C dX1_lay_26 ic_1 ?_
      refine s_isub C dX1_lay_27 ?_
      obtain ⟨r2, I2, hh, h⟩ := bd_e h
      refine s_cV0 (st := []) C M.rg (Nat.le_trans (by decide) hd) mwX1_depthAt mlX1_29 dX1_lay_28 (wX1_depthAt (d := 1) (Nat.le_refl _) hx0 hh) hx0 rfl rfl (Nat.le_of_ble_eq_true rfl) ?_
      refine s_aload_n C dX1_lay_31 rfl rfl ?_
      refine s_iload_n C dX1_lay_32 rfl rfl ?_
      obtain ⟨r3, I3, hh, h⟩ := bd_e h
      refine s_cV0 (st := [.int r2]) C M.rg (Nat.le_trans (by decide) hd) mwX1_depthAt mlX1_29 dX1_lay_33 (wX1_depthAt (d := 1) (Nat.le_refl _) hx0 hh) hx0 rfl rfl (Nat.le_of_ble_eq_true rfl) ?_
      refine s_max C M.rg (Nat.le_trans (by decide) hd) mlX1_32 dX1_lay_36 w_max_s w_math_i w_max_c (Nat.le_of_ble_eq_true rfl) (Nat.le_refl 0) (Nat.le_refl 0) ?_
      refine s_iconst C dX1_lay_39 ic_1 ?_
      refine s_iadd C dX1_lay_40 ?_
      obtain ⟨v1, ev1, h⟩ := ltm_e h
      refine s_top_i ev1 ?_
      refine s_istore (ls' := [some (rfX X x0), some (.int x1), some (.int x2), some (.int r1), some (.int v1), none]) C dX1_lay_41 (by decide) (Nat.le_of_ble_eq_true rfl) rfl rfl ?_
      refine s_aload_n C dX1_lay_43 rfl rfl ?_
      refine s_getI C dX1_lay_44 hx0 foX1_21 rfl ?_
      obtain ⟨v2, ev2, h⟩ := ltm_e h
      refine s_top_i ev2 ?_
      refine s_istore (ls' := [some (rfX X x0), some (.int x1), some (.int x2), some (.int r1), some (.int v1), some (.int v2)]) C dX1_lay_47 (by decide) (Nat.le_of_ble_eq_true rfl) rfl rfl ?_
      exact wX1_lay_p49 hd C _ hx0 h M
    · have h := it_f c h
      refine s_iconst C dX1_lay_16 ic_m1 ?_
      obtain ⟨rfl, rfl⟩ := pr_e h
      exact s_iret C M dX1_lay_17 rfl rfl (Nat.le_refl 0) (Nat.le_refl 0)
theorem wX4_pourNow_p136 {X : Cx} {d : Nat} (hd : 45 ≤ d) (C : CtxOK X mX4_pourNow) : ∀ (n : Nat) {x3 : Nat} {x4 : Nat} {x5 : Int32} {I I' : Mm} {r : Int32} (hx3 : kd0 x3 = 1) (hx4 : kd0 x4 = 1) (_ : fX4_pourNow_p136 n x3 x4 x5 I = some (r, I')) (_ : MX X (xE X) d 0 0 (some (.int r)) S0 I'), WM X mX4_pourNow 136 [some (rfX X 0), none, none, some (rfX X x3), some (rfX X x4), some (.int x5)] [] S0 I 0 0 := by
  intro n
  induction n with
  | zero => intro x3 x4 x5 I I' r hx3 hx4 h M; exact absurd h (by simp [fX4_pourNow_p136])
  | succ n ih =>
    intro x3 x4 x5 I I' r hx3 hx4 h M
    rw [fX4_pourNow_p136] at h
    refine s_iload C dX4_pourNow_136 rfl ?_
    refine s_aload_n C dX4_pourNow_138 rfl rfl ?_
    refine s_getI C dX4_pourNow_139 hx3 foX4_111 rfl ?_
    refine s_icmp_ge (tgt := 169) C dX4_pourNow_142 (by decide) (fun c => ?_) (fun c => ?_)
    · have h := it_t c h
      refine s_aload_n C dX4_pourNow_169 rfl rfl ?_
      refine s_iconst C dX4_pourNow_170 ic_0 ?_
      obtain ⟨I1, eI1, h⟩ := ltm_e h
      refine s_putI C dX4_pourNow_171 hx3 poX4_111 rfl eI1 ?_
      refine s_aload_n C dX4_pourNow_174 rfl rfl ?_
      refine s_iconst C dX4_pourNow_175 ic_0 ?_
      obtain ⟨I2, eI2, h⟩ := ltm_e h
      refine s_putI C dX4_pourNow_176 hx3 poX4_121 rfl eI2 ?_
      refine s_aload_n C dX4_pourNow_179 rfl rfl ?_
      refine s_aload C dX4_pourNow_180 rfl ?_
      obtain ⟨r1, I3, hh, h⟩ := bd_e h
      refine s_cV0 (st := []) C M.rg (Nat.le_trans (by decide) hd) mwX4_buildWhole mlX4_260 dX4_pourNow_182 (wX4_buildWhole (d := 44) (Nat.le_refl _) hx4 hh) kk_0 rfl rfl (Nat.le_of_ble_eq_true rfl) ?_
      refine s_pop C dX4_pourNow_185 rfl ?_
      refine s_aload_n C dX4_pourNow_186 rfl rfl ?_
      refine s_getR (b := 1) C dX4_pourNow_187 kk_0 foX4_10 rfl rk_0_0 ?_
      refine s_dup C dX4_pourNow_190 rfl ?_
      refine s_getI C dX4_pourNow_191 kk_1 foX4_224 rfl ?_
      refine s_iconst C dX4_pourNow_194 ic_1 ?_
      refine s_iadd C dX4_pourNow_195 ?_
      obtain ⟨I4, eI4, h⟩ := ltm_e h
      refine s_putI C dX4_pourNow_196 kk_1 poX4_224 rfl eI4 ?_
      refine s_aload C dX4_pourNow_199 rfl ?_
      refine s_getI C dX4_pourNow_201 hx4 foX4_111 rfl ?_
      obtain ⟨rfl, rfl⟩ := pr_e h
      exact s_iret C M dX4_pourNow_204 rfl rfl (Nat.le_refl 0) (Nat.le_refl 0)
    · have h := it_f c h
      refine s_aload C dX4_pourNow_145 rfl ?_
      refine s_aload_n C dX4_pourNow_147 rfl rfl ?_
      refine s_iload C dX4_pourNow_148 rfl ?_
      obtain ⟨r1, I1, hh, h⟩ := bd_e h
      refine s_cV0 (st := [rfX X x4]) C M.rg (Nat.le_trans (by decide) hd) mwX1_weightAt mlX4_105 dX4_pourNow_150 (wX1_weightAt (d := 1) (Nat.le_refl _) hx3 hh) hx3 rfl rfl (Nat.le_of_ble_eq_true rfl) ?_
      refine s_aload_n C dX4_pourNow_153 rfl rfl ?_
      refine s_iload C dX4_pourNow_154 rfl ?_
      obtain ⟨r2, I2, hh, h⟩ := bd_e h
      refine s_cV0 (st := [.int r1, rfX X x4]) C M.rg (Nat.le_trans (by decide) hd) mwX1_loadAt mlX4_86 dX4_pourNow_156 (wX1_loadAt (d := 1) (Nat.le_refl _) hx3 hh) hx3 rfl rfl (Nat.le_of_ble_eq_true rfl) ?_
      obtain ⟨r3, I3, hh, h⟩ := bd_e h
      refine s_cV0 (st := []) C M.rg (Nat.le_trans (by decide) hd) mwX1_lay mlX4_245 dX4_pourNow_159 (wX1_lay (d := 3) (Nat.le_refl _) hx4 hh) hx4 rfl rfl (Nat.le_of_ble_eq_true rfl) ?_
      refine s_pop C dX4_pourNow_162 rfl ?_
      obtain ⟨v1, ev1, h⟩ := ltm_e h
      refine s_iinc (v := v1) (ls' := [some (rfX X 0), none, none, some (rfX X x3), some (rfX X x4), some (.int v1)]) C dX4_pourNow_163 rfl (by decide) (Nat.le_of_ble_eq_true rfl) (by rw [ev1, ic_1]) rfl rfl ?_
      refine s_goto (tgt := 136) C dX4_pourNow_166 (by decide) ?_
      exact ih hx3 hx4 h M
theorem wX4_pourNow_p91 {X : Cx} {d : Nat} (hd : 45 ≤ d) (C : CtxOK X mX4_pourNow) : ∀ (n : Nat) {x3 : Nat} {x4 : Nat} {x5 : Int32} {I I' : Mm} {r : Int32} (hx3 : kd0 x3 = 1) (hx4 : kd0 x4 = 1) (_ : fX4_pourNow_p91 n x3 x4 x5 I = some (r, I')) (_ : MX X (xE X) d 0 0 (some (.int r)) S0 I'), WM X mX4_pourNow 91 [some (rfX X 0), none, none, some (rfX X x3), some (rfX X x4), some (.int x5)] [] S0 I 0 0 := by
  intro n
  induction n with
  | zero => intro x3 x4 x5 I I' r hx3 hx4 h M; exact absurd h (by simp [fX4_pourNow_p91])
  | succ n ih =>
    intro x3 x4 x5 I I' r hx3 hx4 h M
    rw [fX4_pourNow_p91] at h
    refine s_iload C dX4_pourNow_91 rfl ?_
    refine s_aload_n C dX4_pourNow_93 rfl rfl ?_
    refine s_getI C dX4_pourNow_94 hx3 foX4_111 rfl ?_
    refine s_icmp_ge (tgt := 133) C dX4_pourNow_97 (by decide) (fun c => ?_) (fun c => ?_)
    · have h := it_t c h
      refine s_iconst C dX4_pourNow_133 ic_0 ?_
      refine s_istore (ls' := [some (rfX X 0), none, none, some (rfX X x3), some (rfX X x4), some (.int 0)]) C dX4_pourNow_134 (by decide) (Nat.le_of_ble_eq_true rfl) rfl rfl ?_
      exact wX4_pourNow_p136 hd C _ hx3 hx4 h M
    · have h := it_f c h
      refine s_aload C dX4_pourNow_100 rfl ?_
      refine s_aload_n C dX4_pourNow_102 rfl rfl ?_
      refine s_iload C dX4_pourNow_103 rfl ?_
      obtain ⟨r1, I1, hh, h⟩ := bd_e h
      refine s_cV0 (st := [rfX X x4]) C M.rg (Nat.le_trans (by decide) hd) mwX1_weightAt mlX4_105 dX4_pourNow_105 (wX1_weightAt (d := 1) (Nat.le_refl _) hx3 hh) hx3 rfl rfl (Nat.le_of_ble_eq_true rfl) ?_
      obtain ⟨r2, I2, hh, h⟩ := bd_e h
      refine s_cV0 (st := []) C M.rg (Nat.le_trans (by decide) hd) mwX1_find mlX4_75 dX4_pourNow_108 (wX1_find (d := 2) (Nat.le_refl _) hx4 hh) hx4 rfl rfl (Nat.le_of_ble_eq_true rfl) ?_
      refine s_iconst C dX4_pourNow_111 ic_m1 ?_
      refine s_icmp_eq (tgt := 127) C dX4_pourNow_112 (by decide) (fun c => ?_) (fun c => ?_)
      · have h := it_t c h
        obtain ⟨v1, ev1, h⟩ := ltm_e h
        refine s_iinc (v := v1) (ls' := [some (rfX X 0), none, none, some (rfX X x3), some (rfX X x4), some (.int v1)]) C dX4_pourNow_127 rfl (by decide) (Nat.le_of_ble_eq_true rfl) (by rw [ev1, ic_1]) rfl rfl ?_
        refine s_goto (tgt := 91) C dX4_pourNow_130 (by decide) ?_
        exact ih hx3 hx4 h M
      · have h := it_f c h
        refine s_aload_n C dX4_pourNow_115 rfl rfl ?_
        refine s_iconst C dX4_pourNow_116 ic_2 ?_
        refine s_aload_n C dX4_pourNow_117 rfl rfl ?_
        refine s_iload C dX4_pourNow_118 rfl ?_
        obtain ⟨r3, I3, hh, h⟩ := bd_e h
        refine s_cV0 (st := [.int 2, rfX X 0]) C M.rg (Nat.le_trans (by decide) hd) mwX1_weightAt mlX4_105 dX4_pourNow_120 (wX1_weightAt (d := 1) (Nat.le_refl _) hx3 hh) hx3 rfl rfl (Nat.le_of_ble_eq_true rfl) ?_
        obtain ⟨r4, I4, hh, h⟩ := bd_e h
        refine s_cV0 (st := []) C M.rg (Nat.le_trans (by decide) hd) mwX4_refuse mlX4_196 dX4_pourNow_123 (wX4_refuse (d := 1) (Nat.le_refl _)  hh) kk_0 rfl rfl (Nat.le_of_ble_eq_true rfl) ?_
        obtain ⟨rfl, rfl⟩ := pr_e h
        exact s_iret C M dX4_pourNow_126 rfl rfl (Nat.le_refl 0) (Nat.le_refl 0)
theorem wX4_pourNow {E : Ev} {d : Nat} (hd : 45 ≤ d) {x1 : Int32} {x2 : Int32} {I I' : Mm} {r : Int32}  (h : fX4_pourNow x1 x2 I = some (r, I')) : SemM E d 0 0 mX4_pourNow [rfE E 0, .int x1, .int x2] S0 I (some (.int r)) S0 I' := by
  unfold fX4_pourNow at h
  refine SemM.ofX (E := E) (y := mX4_pourNow) (args := fun E => [rfE E 0, .int x1, .int x2]) (r := fun E => (some (.int r))) (fun E => [some (rfE E 0), some (.int x1), some (.int x2), none, none, none]) (by decide +kernel) (Nat.le_of_ble_eq_true rfl) rfl (fun X C M => ?_)
  refine s_aload_n C dX4_pourNow_0 rfl rfl ?_
  refine s_getR (b := 1) C dX4_pourNow_1 kk_0 foX4_10 rfl rk_0_0 ?_
  refine s_iload_n C dX4_pourNow_4 rfl rfl ?_
  obtain ⟨r1, I1, hh, h⟩ := bd_e h
  refine s_cV0 (st := []) C M.rg (Nat.le_trans (by decide) hd) mwX3_rickAt mlX4_71 dX4_pourNow_5 (wX3_rickAt (d := 1) (Nat.le_refl _) kk_1 hh) kk_1 rfl rfl (Nat.le_of_ble_eq_true rfl) ?_
  refine s_astore_no (ls' := [some (rfX X 0), some (.int x1), some (.int x2), some (rvE (xE X) r1), none, none]) C dX4_pourNow_8 rfl (by decide) (Nat.le_of_ble_eq_true rfl) rfl rfl ?_
  refine s_aload_n C dX4_pourNow_9 rfl rfl ?_
  refine s_getR (b := 1) C dX4_pourNow_10 kk_0 foX4_10 rfl rk_0_0 ?_
  refine s_iload_n C dX4_pourNow_13 rfl rfl ?_
  obtain ⟨r2, I2, hh, h⟩ := bd_e h
  refine s_cV0 (st := []) C M.rg (Nat.le_trans (by decide) hd) mwX3_rickAt mlX4_71 dX4_pourNow_14 (wX3_rickAt (d := 1) (Nat.le_refl _) kk_1 hh) kk_1 rfl rfl (Nat.le_of_ble_eq_true rfl) ?_
  refine s_astore_o (ls' := [some (rfX X 0), some (.int x1), some (.int x2), some (rvE (xE X) r1), some (rvE (xE X) r2), none]) C dX4_pourNow_17 (by decide) (Nat.le_of_ble_eq_true rfl) (ok_o rfl rfl) rfl ?_
  refine s_aload_no C dX4_pourNow_19 rfl rfl ?_
  cases r1 with
  | none =>
    have h := on_n h
    refine s_ifnullN (tgt := 28) C dX4_pourNow_20 (by decide) ?_
    refine s_bipush C dX4_pourNow_28 bi_m11 ?_
    obtain ⟨rfl, rfl⟩ := pr_e h
    exact s_iret C M dX4_pourNow_30 rfl rfl (Nat.le_refl 0) (Nat.le_refl 0)
  | some q1 =>
    obtain ⟨hq1, h⟩ := it_s (on_s h)
    refine s_ifnull C dX4_pourNow_20 ?_
    refine s_aload_o C dX4_pourNow_23 rfl ?_
    cases r2 with
    | none =>
      have h := on_n h
      refine s_ifnonnullN C dX4_pourNow_25 ?_
      refine s_bipush C dX4_pourNow_28 bi_m11 ?_
      obtain ⟨rfl, rfl⟩ := pr_e h
      exact s_iret C M dX4_pourNow_30 rfl rfl (Nat.le_refl 0) (Nat.le_refl 0)
    | some q2 =>
      obtain ⟨hq2, h⟩ := it_s (on_s h)
      refine s_ifnonnull (tgt := 31) C dX4_pourNow_25 (by decide) ?_
      refine s_iload_n C dX4_pourNow_31 rfl rfl ?_
      refine s_iload_n C dX4_pourNow_32 rfl rfl ?_
      refine s_icmp_ne (tgt := 43) C dX4_pourNow_33 (by decide) (fun c => ?_) (fun c => ?_)
      · have h := it_f c h
        refine s_aload_n C dX4_pourNow_43 rfl rfl ?_
        refine s_getI C dX4_pourNow_44 hq1 foX4_111 rfl ?_
        refine s_if_gt (tgt := 57) C dX4_pourNow_47 (by decide) (fun c => ?_) (fun c => ?_)
        · have h := it_t c h
          refine s_aload_n C dX4_pourNow_57 rfl rfl ?_
          refine s_getI C dX4_pourNow_58 hq1 foX4_111 rfl ?_
          refine s_aload C dX4_pourNow_61 rfl ?_
          refine s_getI C dX4_pourNow_63 hq2 foX4_111 rfl ?_
          refine s_iadd C dX4_pourNow_66 ?_
          refine s_bipush C dX4_pourNow_67 bi_30 ?_
          refine s_icmp_le (tgt := 88) C dX4_pourNow_69 (by decide) (fun c => ?_) (fun c => ?_)
          · have h := it_t c h
            refine s_iconst C dX4_pourNow_88 ic_0 ?_
            refine s_istore (ls' := [some (rfX X 0), some (.int x1), some (.int x2), some (rfX X q1), some (rfX X q2), some (.int 0)]) C dX4_pourNow_89 (by decide) (Nat.le_of_ble_eq_true rfl) rfl rfl ?_
            refine s_weak (ls' := [some (rfX X 0), none, none, some (rfX X q1), some (rfX X q2), some (.int 0)]) [true, false, false, true, true, true] rfl ?_
            exact wX4_pourNow_p91 hd C _ hq1 hq2 h M
          · have h := it_f c h
            refine s_aload_n C dX4_pourNow_72 rfl rfl ?_
            refine s_iconst C dX4_pourNow_73 ic_1 ?_
            refine s_aload_n C dX4_pourNow_74 rfl rfl ?_
            refine s_getI C dX4_pourNow_75 hq1 foX4_111 rfl ?_
            refine s_aload C dX4_pourNow_78 rfl ?_
            refine s_getI C dX4_pourNow_80 hq2 foX4_111 rfl ?_
            refine s_iadd C dX4_pourNow_83 ?_
            obtain ⟨r3, I3, hh, h⟩ := bd_e h
            refine s_cV0 (st := []) C M.rg (Nat.le_trans (by decide) hd) mwX4_refuse mlX4_196 dX4_pourNow_84 (wX4_refuse (d := 1) (Nat.le_refl _)  hh) kk_0 rfl rfl (Nat.le_of_ble_eq_true rfl) ?_
            obtain ⟨rfl, rfl⟩ := pr_e h
            exact s_iret C M dX4_pourNow_87 rfl rfl (Nat.le_refl 0) (Nat.le_refl 0)
        · have h := it_f c h
          refine s_aload_n C dX4_pourNow_50 rfl rfl ?_
          refine s_iconst C dX4_pourNow_51 ic_5 ?_
          refine s_iload_n C dX4_pourNow_52 rfl rfl ?_
          obtain ⟨r3, I3, hh, h⟩ := bd_e h
          refine s_cV0 (st := []) C M.rg (Nat.le_trans (by decide) hd) mwX4_refuse mlX4_196 dX4_pourNow_53 (wX4_refuse (d := 1) (Nat.le_refl _)  hh) kk_0 rfl rfl (Nat.le_of_ble_eq_true rfl) ?_
          obtain ⟨rfl, rfl⟩ := pr_e h
          exact s_iret C M dX4_pourNow_56 rfl rfl (Nat.le_refl 0) (Nat.le_refl 0)
      · have h := it_t c h
        refine s_aload_n C dX4_pourNow_36 rfl rfl ?_
        refine s_iconst C dX4_pourNow_37 ic_3 ?_
        refine s_iload_n C dX4_pourNow_38 rfl rfl ?_
        obtain ⟨r3, I3, hh, h⟩ := bd_e h
        refine s_cV0 (st := []) C M.rg (Nat.le_trans (by decide) hd) mwX4_refuse mlX4_196 dX4_pourNow_39 (wX4_refuse (d := 1) (Nat.le_refl _)  hh) kk_0 rfl rfl (Nat.le_of_ble_eq_true rfl) ?_
        obtain ⟨rfl, rfl⟩ := pr_e h
        exact s_iret C M dX4_pourNow_42 rfl rfl (Nat.le_refl 0) (Nat.le_refl 0)
theorem wX4_pour {E : Ev} {d : Nat} (hd : 46 ≤ d) {x1 : Int32} {x2 : Int32} {I I' : Mm} {r : Int32}  (h : fX4_pour x1 x2 I = some (r, I')) : SemM E d 0 0 mX4_pour [rfE E 0, .int x1, .int x2] S0 I (some (.int r)) S0 I' := by
  unfold fX4_pour at h
  refine SemM.ofX (E := E) (y := mX4_pour) (args := fun E => [rfE E 0, .int x1, .int x2]) (r := fun E => (some (.int r))) (fun E => [some (rfE E 0), some (.int x1), some (.int x2)]) (by decide +kernel) (Nat.le_of_ble_eq_true rfl) rfl (fun X C M => ?_)
  refine s_aload_n C dX4_pour_0 rfl rfl ?_
  obtain ⟨r1, I1, hh, h⟩ := bd_e h
  refine s_cV0 (st := []) C M.rg (Nat.le_trans (by decide) hd) mwX4_hold mlX4_47 dX4_pour_1 (wX4_hold (d := 3) (Nat.le_refl _)  hh) kk_0 rfl rfl (Nat.le_of_ble_eq_true rfl) ?_
  refine s_aload_n C dX4_pour_4 rfl rfl ?_
  refine s_aload_n C dX4_pour_5 rfl rfl ?_
  refine s_iload_n C dX4_pour_6 rfl rfl ?_
  refine s_iload_n C dX4_pour_7 rfl rfl ?_
  obtain ⟨r2, I2, hh, h⟩ := bd_e h
  refine s_cV0 (st := [rfX X 0]) C M.rg (Nat.le_trans (by decide) hd) mwX4_pourNow mlX4_65 dX4_pour_8 (wX4_pourNow (d := 45) (Nat.le_refl _)  hh) kk_0 rfl rfl (Nat.le_of_ble_eq_true rfl) ?_
  obtain ⟨r3, I3, hh, h⟩ := bd_e h
  refine s_cV0 (st := []) C M.rg (Nat.le_trans (by decide) hd) mwX4_keep mlX4_54 dX4_pour_11 (wX4_keep (d := 1) (Nat.le_refl _)  hh) kk_0 rfl rfl (Nat.le_of_ble_eq_true rfl) ?_
  obtain ⟨rfl, rfl⟩ := pr_e h
  exact s_iret C M dX4_pour_14 rfl rfl (Nat.le_refl 0) (Nat.le_refl 0)
theorem wX1_firstOf_p2 {X : Cx} {d : Nat} (hd : 2 ≤ d) (C : CtxOK X mX1_firstOf) : ∀ (n : Nat) {x0 : Nat} {x1 : Int32} {x2 : Int32} {I I' : Mm} {r : Int32} (hx0 : kd0 x0 = 1) (_ : fX1_firstOf_p2 n x0 x1 x2 I = some (r, I')) (_ : MX X (xE X) d 0 0 (some (.int r)) S0 I'), WM X mX1_firstOf 2 [some (rfX X x0), some (.int x1), some (.int x2)] [] S0 I 0 0 := by
  intro n
  induction n with
  | zero => intro x0 x1 x2 I I' r hx0 h M; exact absurd h (by simp [fX1_firstOf_p2])
  | succ n ih =>
    intro x0 x1 x2 I I' r hx0 h M
    rw [fX1_firstOf_p2] at h
    refine s_iload_n C dX1_firstOf_2 rfl rfl ?_
    refine s_if_le (tgt := 27) C dX1_firstOf_3 (by decide) (fun c => ?_) (fun c => ?_)
    · have h := it_t c h
      refine s_iload_n C dX1_firstOf_27 rfl rfl ?_
      obtain ⟨rfl, rfl⟩ := pr_e h
      exact s_iret C M dX1_firstOf_28 rfl rfl (Nat.le_refl 0) (Nat.le_refl 0)
    · have h := it_f c h
      refine s_aload_n C dX1_firstOf_6 rfl rfl ?_
      refine s_iload_n C dX1_firstOf_7 rfl rfl ?_
      refine s_iconst C dX1_firstOf_8 ic_1 ?_
      refine s_isub C dX1_firstOf_9 ?_
      obtain ⟨r1, I1, hh, h⟩ := bd_e h
      refine s_cV0 (st := []) C M.rg (Nat.le_trans (by decide) hd) mwX1_depthAt mlX1_29 dX1_firstOf_10 (wX1_depthAt (d := 1) (Nat.le_refl _) hx0 hh) hx0 rfl rfl (Nat.le_of_ble_eq_true rfl) ?_
      refine s_aload_n C dX1_firstOf_13 rfl rfl ?_
      refine s_iload_n C dX1_firstOf_14 rfl rfl ?_
      obtain ⟨r2, I2, hh, h⟩ := bd_e h
      refine s_cV0 (st := [.int r1]) C M.rg (Nat.le_trans (by decide) hd) mwX1_depthAt mlX1_29 dX1_firstOf_15 (wX1_depthAt (d := 1) (Nat.le_refl _) hx0 hh) hx0 rfl rfl (Nat.le_of_ble_eq_true rfl) ?_
      refine s_icmp_le (tgt := 27) C dX1_firstOf_18 (by decide) (fun c => ?_) (fun c => ?_)
      · have h := it_t c h
        refine s_iload_n C dX1_firstOf_27 rfl rfl ?_
        obtain ⟨rfl, rfl⟩ := pr_e h
        exact s_iret C M dX1_firstOf_28 rfl rfl (Nat.le_refl 0) (Nat.le_refl 0)
      · have h := it_f c h
        obtain ⟨v1, ev1, h⟩ := ltm_e h
        refine s_iinc (v := v1) (ls' := [some (rfX X x0), some (.int x1), some (.int v1)]) C dX1_firstOf_21 rfl (by decide) (Nat.le_of_ble_eq_true rfl) (by rw [ev1, ic_m1]) rfl rfl ?_
        refine s_goto (tgt := 2) C dX1_firstOf_24 (by decide) ?_
        exact ih hx0 h M
theorem wX1_firstOf {E : Ev} {d : Nat} (hd : 2 ≤ d) {x0 : Nat} {x1 : Int32} {I I' : Mm} {r : Int32} (hx0 : kd0 x0 = 1) (h : fX1_firstOf x0 x1 I = some (r, I')) : SemM E d 0 0 mX1_firstOf [rfE E x0, .int x1] S0 I (some (.int r)) S0 I' := by
  unfold fX1_firstOf at h
  refine SemM.ofX (E := E) (y := mX1_firstOf) (args := fun E => [rfE E x0, .int x1]) (r := fun E => (some (.int r))) (fun E => [some (rfE E x0), some (.int x1), none]) (by decide +kernel) (Nat.le_of_ble_eq_true rfl) rfl (fun X C M => ?_)
  refine s_iload_n C dX1_firstOf_0 rfl rfl ?_
  refine s_istore_n (ls' := [some (rfX X x0), some (.int x1), some (.int x1)]) C dX1_firstOf_1 rfl (by decide) (Nat.le_of_ble_eq_true rfl) rfl rfl ?_
  exact wX1_firstOf_p2 hd C _ hx0 h M
theorem wX1_lastOf_p2 {X : Cx} {d : Nat} (hd : 2 ≤ d) (C : CtxOK X mX1_lastOf) : ∀ (n : Nat) {x0 : Nat} {x1 : Int32} {x2 : Int32} {I I' : Mm} {r : Int32} (hx0 : kd0 x0 = 1) (_ : fX1_lastOf_p2 n x0 x1 x2 I = some (r, I')) (_ : MX X (xE X) d 0 0 (some (.int r)) S0 I'), WM X mX1_lastOf 2 [some (rfX X x0), some (.int x1), some (.int x2)] [] S0 I 0 0 := by
  intro n
  induction n with
  | zero => intro x0 x1 x2 I I' r hx0 h M; exact absurd h (by simp [fX1_lastOf_p2])
  | succ n ih =>
    intro x0 x1 x2 I I' r hx0 h M
    rw [fX1_lastOf_p2] at h
    refine s_iload_n C dX1_lastOf_2 rfl rfl ?_
    refine s_aload_n C dX1_lastOf_3 rfl rfl ?_
    refine s_getI C dX1_lastOf_4 hx0 foX1_21 rfl ?_
    refine s_iconst C dX1_lastOf_7 ic_1 ?_
    refine s_isub C dX1_lastOf_8 ?_
    refine s_icmp_ge (tgt := 33) C dX1_lastOf_9 (by decide) (fun c => ?_) (fun c => ?_)
    · have h := it_t c h
      refine s_iload_n C dX1_lastOf_33 rfl rfl ?_
      obtain ⟨rfl, rfl⟩ := pr_e h
      exact s_iret C M dX1_lastOf_34 rfl rfl (Nat.le_refl 0) (Nat.le_refl 0)
    · have h := it_f c h
      refine s_aload_n C dX1_lastOf_12 rfl rfl ?_
      refine s_iload_n C dX1_lastOf_13 rfl rfl ?_
      refine s_iconst C dX1_lastOf_14 ic_1 ?_
      refine s_iadd C dX1_lastOf_15 ?_
      obtain ⟨r1, I1, hh, h⟩ := bd_e h
      refine s_cV0 (st := []) C M.rg (Nat.le_trans (by decide) hd) mwX1_depthAt mlX1_29 dX1_lastOf_16 (wX1_depthAt (d := 1) (Nat.le_refl _) hx0 hh) hx0 rfl rfl (Nat.le_of_ble_eq_true rfl) ?_
      refine s_aload_n C dX1_lastOf_19 rfl rfl ?_
      refine s_iload_n C dX1_lastOf_20 rfl rfl ?_
      obtain ⟨r2, I2, hh, h⟩ := bd_e h
      refine s_cV0 (st := [.int r1]) C M.rg (Nat.le_trans (by decide) hd) mwX1_depthAt mlX1_29 dX1_lastOf_21 (wX1_depthAt (d := 1) (Nat.le_refl _) hx0 hh) hx0 rfl rfl (Nat.le_of_ble_eq_true rfl) ?_
      refine s_icmp_le (tgt := 33) C dX1_lastOf_24 (by decide) (fun c => ?_) (fun c => ?_)
      · have h := it_t c h
        refine s_iload_n C dX1_lastOf_33 rfl rfl ?_
        obtain ⟨rfl, rfl⟩ := pr_e h
        exact s_iret C M dX1_lastOf_34 rfl rfl (Nat.le_refl 0) (Nat.le_refl 0)
      · have h := it_f c h
        obtain ⟨v1, ev1, h⟩ := ltm_e h
        refine s_iinc (v := v1) (ls' := [some (rfX X x0), some (.int x1), some (.int v1)]) C dX1_lastOf_27 rfl (by decide) (Nat.le_of_ble_eq_true rfl) (by rw [ev1, ic_1]) rfl rfl ?_
        refine s_goto (tgt := 2) C dX1_lastOf_30 (by decide) ?_
        exact ih hx0 h M
theorem wX1_lastOf {E : Ev} {d : Nat} (hd : 2 ≤ d) {x0 : Nat} {x1 : Int32} {I I' : Mm} {r : Int32} (hx0 : kd0 x0 = 1) (h : fX1_lastOf x0 x1 I = some (r, I')) : SemM E d 0 0 mX1_lastOf [rfE E x0, .int x1] S0 I (some (.int r)) S0 I' := by
  unfold fX1_lastOf at h
  refine SemM.ofX (E := E) (y := mX1_lastOf) (args := fun E => [rfE E x0, .int x1]) (r := fun E => (some (.int r))) (fun E => [some (rfE E x0), some (.int x1), none]) (by decide +kernel) (Nat.le_of_ble_eq_true rfl) rfl (fun X C M => ?_)
  refine s_iload_n C dX1_lastOf_0 rfl rfl ?_
  refine s_istore_n (ls' := [some (rfX X x0), some (.int x1), some (.int x1)]) C dX1_lastOf_1 rfl (by decide) (Nat.le_of_ble_eq_true rfl) rfl rfl ?_
  exact wX1_lastOf_p2 hd C _ hx0 h M
theorem wX1_above {E : Ev} {d : Nat} (hd : 3 ≤ d) {x0 : Nat} {x1 : Int32} {I I' : Mm} {r : Int32} (hx0 : kd0 x0 = 1) (h : fX1_above x0 x1 I = some (r, I')) : SemM E d 0 0 mX1_above [rfE E x0, .int x1] S0 I (some (.int r)) S0 I' := by
  unfold fX1_above at h
  refine SemM.ofX (E := E) (y := mX1_above) (args := fun E => [rfE E x0, .int x1]) (r := fun E => (some (.int r))) (fun E => [some (rfE E x0), some (.int x1), none, none, none]) (by decide +kernel) (Nat.le_of_ble_eq_true rfl) rfl (fun X C M => ?_)
  refine s_aload_n C dX1_above_0 rfl rfl ?_
  refine s_iload_n C dX1_above_1 rfl rfl ?_
  obtain ⟨r1, I1, hh, h⟩ := bd_e h
  refine s_cV0 (st := []) C M.rg (Nat.le_trans (by decide) hd) mwX1_firstOf mlX1_38 dX1_above_2 (wX1_firstOf (d := 2) (Nat.le_refl _) hx0 hh) hx0 rfl rfl (Nat.le_of_ble_eq_true rfl) ?_
  refine s_iconst C dX1_above_5 ic_1 ?_
  refine s_isub C dX1_above_6 ?_
  obtain ⟨v1, ev1, h⟩ := ltm_e h
  refine s_top_i ev1 ?_
  refine s_istore_n (ls' := [some (rfX X x0), some (.int x1), some (.int v1), none, none]) C dX1_above_7 rfl (by decide) (Nat.le_of_ble_eq_true rfl) rfl rfl ?_
  refine s_aload_n C dX1_above_8 rfl rfl ?_
  refine s_iload_n C dX1_above_9 rfl rfl ?_
  obtain ⟨r2, I2, hh, h⟩ := bd_e h
  refine s_cV0 (st := []) C M.rg (Nat.le_trans (by decide) hd) mwX1_lastOf mlX1_41 dX1_above_10 (wX1_lastOf (d := 2) (Nat.le_refl _) hx0 hh) hx0 rfl rfl (Nat.le_of_ble_eq_true rfl) ?_
  refine s_iconst C dX1_above_13 ic_1 ?_
  refine s_iadd C dX1_above_14 ?_
  obtain ⟨v2, ev2, h⟩ := ltm_e h
  refine s_top_i ev2 ?_
  refine s_istore_n (ls' := [some (rfX X x0), some (.int x1), some (.int v1), some (.int v2), none]) C dX1_above_15 rfl (by decide) (Nat.le_of_ble_eq_true rfl) rfl rfl ?_
  refine s_aload_n C dX1_above_16 rfl rfl ?_
  refine s_iload_n C dX1_above_17 rfl rfl ?_
  obtain ⟨r3, I3, hh, h⟩ := bd_e h
  refine s_cV0 (st := []) C M.rg (Nat.le_trans (by decide) hd) mwX1_depthAt mlX1_29 dX1_above_18 (wX1_depthAt (d := 1) (Nat.le_refl _) hx0 hh) hx0 rfl rfl (Nat.le_of_ble_eq_true rfl) ?_
  refine s_aload_n C dX1_above_21 rfl rfl ?_
  refine s_iload_n C dX1_above_22 rfl rfl ?_
  obtain ⟨r4, I4, hh, h⟩ := bd_e h
  refine s_cV0 (st := [.int r3]) C M.rg (Nat.le_trans (by decide) hd) mwX1_depthAt mlX1_29 dX1_above_23 (wX1_depthAt (d := 1) (Nat.le_refl _) hx0 hh) hx0 rfl rfl (Nat.le_of_ble_eq_true rfl) ?_
  refine s_icmp_le (tgt := 33) C dX1_above_26 (by decide) (fun c => ?_) (fun c => ?_)
  · have h := it_t c h
    refine s_iload_n C dX1_above_33 rfl rfl ?_
    refine s_istore (ls' := [some (rfX X x0), some (.int x1), some (.int v1), some (.int v2), some (.int v2)]) C dX1_above_34 (by decide) (Nat.le_of_ble_eq_true rfl) rfl rfl ?_
    refine s_aload_n C dX1_above_36 rfl rfl ?_
    refine s_iload C dX1_above_37 rfl ?_
    obtain ⟨r5, I5, hh, h⟩ := bd_e h
    refine s_cV0 (st := []) C M.rg (Nat.le_trans (by decide) hd) mwX1_isPlace mlX1_44 dX1_above_39 (wX1_isPlace (d := 1) (Nat.le_refl _) hx0 hh) hx0 rfl rfl (Nat.le_of_ble_eq_true rfl) ?_
    refine s_if_eq (tgt := 50) C dX1_above_42 (by decide) (fun c => ?_) (fun c => ?_)
    · have h := it_t c h
      refine s_iconst C dX1_above_50 ic_m1 ?_
      obtain ⟨rfl, rfl⟩ := pr_e h
      exact s_iret C M dX1_above_51 rfl rfl (Nat.le_refl 0) (Nat.le_refl 0)
    · have h := it_f c h
      refine s_iload C dX1_above_45 rfl ?_
      refine s_goto (tgt := 51) C dX1_above_47 (by decide) ?_
      obtain ⟨rfl, rfl⟩ := pr_e h
      exact s_iret C M dX1_above_51 rfl rfl (Nat.le_refl 0) (Nat.le_refl 0)
  · have h := it_f c h
    refine s_iload_n C dX1_above_29 rfl rfl ?_
    refine s_goto (tgt := 34) C dX1_above_30 (by decide) ?_
    refine s_istore (ls' := [some (rfX X x0), some (.int x1), some (.int v1), some (.int v2), some (.int v1)]) C dX1_above_34 (by decide) (Nat.le_of_ble_eq_true rfl) rfl rfl ?_
    refine s_aload_n C dX1_above_36 rfl rfl ?_
    refine s_iload C dX1_above_37 rfl ?_
    obtain ⟨r5, I5, hh, h⟩ := bd_e h
    refine s_cV0 (st := []) C M.rg (Nat.le_trans (by decide) hd) mwX1_isPlace mlX1_44 dX1_above_39 (wX1_isPlace (d := 1) (Nat.le_refl _) hx0 hh) hx0 rfl rfl (Nat.le_of_ble_eq_true rfl) ?_
    refine s_if_eq (tgt := 50) C dX1_above_42 (by decide) (fun c => ?_) (fun c => ?_)
    · have h := it_t c h
      refine s_iconst C dX1_above_50 ic_m1 ?_
      obtain ⟨rfl, rfl⟩ := pr_e h
      exact s_iret C M dX1_above_51 rfl rfl (Nat.le_refl 0) (Nat.le_refl 0)
    · have h := it_f c h
      refine s_iload C dX1_above_45 rfl ?_
      refine s_goto (tgt := 51) C dX1_above_47 (by decide) ?_
      obtain ⟨rfl, rfl⟩ := pr_e h
      exact s_iret C M dX1_above_51 rfl rfl (Nat.le_refl 0) (Nat.le_refl 0)
theorem wX1_leans {E : Ev} {d : Nat} (hd : 3 ≤ d) {x0 : Nat} {x1 : Int32} {x2 : Int32} {I I' : Mm} {r : Int32} (hx0 : kd0 x0 = 1) (h : fX1_leans x0 x1 x2 I = some (r, I')) : SemM E d 0 0 mX1_leans [rfE E x0, .int x1, .int x2] S0 I (some (.int r)) S0 I' := by
  unfold fX1_leans at h
  refine SemM.ofX (E := E) (y := mX1_leans) (args := fun E => [rfE E x0, .int x1, .int x2]) (r := fun E => (some (.int r))) (fun E => [some (rfE E x0), some (.int x1), some (.int x2), none, none, none]) (by decide +kernel) (Nat.le_of_ble_eq_true rfl) rfl (fun X C M => ?_)
  refine s_aload_n C dX1_leans_0 rfl rfl ?_
  refine s_iload_n C dX1_leans_1 rfl rfl ?_
  obtain ⟨r1, I1, hh, h⟩ := bd_e h
  refine s_cV0 (st := []) C M.rg (Nat.le_trans (by decide) hd) mwX1_firstOf mlX1_38 dX1_leans_2 (wX1_firstOf (d := 2) (Nat.le_refl _) hx0 hh) hx0 rfl rfl (Nat.le_of_ble_eq_true rfl) ?_
  refine s_istore_n (ls' := [some (rfX X x0), some (.int x1), some (.int x2), some (.int r1), none, none]) C dX1_leans_5 rfl (by decide) (Nat.le_of_ble_eq_true rfl) rfl rfl ?_
  refine s_aload_n C dX1_leans_6 rfl rfl ?_
  refine s_iload_n C dX1_leans_7 rfl rfl ?_
  obtain ⟨r2, I2, hh, h⟩ := bd_e h
  refine s_cV0 (st := []) C M.rg (Nat.le_trans (by decide) hd) mwX1_lastOf mlX1_41 dX1_leans_8 (wX1_lastOf (d := 2) (Nat.le_refl _) hx0 hh) hx0 rfl rfl (Nat.le_of_ble_eq_true rfl) ?_
  refine s_istore (ls' := [some (rfX X x0), some (.int x1), some (.int x2), some (.int r1), some (.int r2), none]) C dX1_leans_11 (by decide) (Nat.le_of_ble_eq_true rfl) rfl rfl ?_
  refine s_iload_n C dX1_leans_13 rfl rfl ?_
  refine s_iload_n C dX1_leans_14 rfl rfl ?_
  refine s_isub C dX1_leans_15 ?_
  refine s_iload C dX1_leans_16 rfl ?_
  refine s_iload_n C dX1_leans_18 rfl rfl ?_
  refine s_isub C dX1_leans_19 ?_
  refine s_max C M.rg (Nat.le_trans (by decide) hd) mlX1_32 dX1_leans_20 w_max_s w_math_i w_max_c (Nat.le_of_ble_eq_true rfl) (Nat.le_refl 0) (Nat.le_refl 0) ?_
  obtain ⟨v1, ev1, h⟩ := ltm_e h
  refine s_top_i ev1 ?_
  refine s_istore (ls' := [some (rfX X x0), some (.int x1), some (.int x2), some (.int r1), some (.int r2), some (.int v1)]) C dX1_leans_23 (by decide) (Nat.le_of_ble_eq_true rfl) rfl rfl ?_
  refine s_bipush C dX1_leans_25 bi_100 ?_
  refine s_iload C dX1_leans_27 rfl ?_
  refine s_imul C dX1_leans_29 ?_
  refine s_iload_n C dX1_leans_30 rfl rfl ?_
  refine s_iload C dX1_leans_31 rfl ?_
  refine s_iload_n C dX1_leans_33 rfl rfl ?_
  refine s_isub C dX1_leans_34 ?_
  refine s_iconst C dX1_leans_35 ic_1 ?_
  refine s_iadd C dX1_leans_36 ?_
  refine s_imul C dX1_leans_37 ?_
  refine s_icmp_le (tgt := 45) C dX1_leans_38 (by decide) (fun c => ?_) (fun c => ?_)
  · have h := it_t c h
    refine s_iconst C dX1_leans_45 ic_0 ?_
    obtain ⟨rfl, rfl⟩ := pr_e h
    exact s_iret C M dX1_leans_46 rfl (nz_b (by decide)) (Nat.le_refl 0) (Nat.le_refl 0)
  · have h := it_f c h
    refine s_iconst C dX1_leans_41 ic_1 ?_
    refine s_goto (tgt := 46) C dX1_leans_42 (by decide) ?_
    obtain ⟨rfl, rfl⟩ := pr_e h
    exact s_iret C M dX1_leans_46 rfl (nz_b (by decide)) (Nat.le_refl 0) (Nat.le_refl 0)
theorem wX1_buildPartAbove_p9 {X : Cx} {d : Nat} (hd : 43 ≤ d) (C : CtxOK X mX1_buildPartAbove) : ∀ (n : Nat) {x0 : Nat} {x2 : Int32} {x3 : Int32} {x4 : Int32} {I I' : Mm} {r : Int32} (hx0 : kd0 x0 = 1) (_ : fX1_buildPartAbove_p9 n x0 x2 x3 x4 I = some (r, I')) (_ : MX X (xE X) d 0 0 (some (.int r)) S0 I'), WM X mX1_buildPartAbove 9 [some (rfX X x0), none, some (.int x2), some (.int x3), some (.int x4), none, none] [] S0 I 0 0 := by
  intro n
  induction n with
  | zero => intro x0 x2 x3 x4 I I' r hx0 h M; exact absurd h (by simp [fX1_buildPartAbove_p9])
  | succ n ih =>
    intro x0 x2 x3 x4 I I' r hx0 h M
    rw [fX1_buildPartAbove_p9] at h
    refine s_iload C dX1_buildPartAbove_9 rfl ?_
    refine s_bipush C dX1_buildPartAbove_11 bi_30 ?_
    refine s_icmp_ge (tgt := 81) C dX1_buildPartAbove_13 (by decide) (fun c => ?_) (fun c => ?_)
    · have h := it_t c h
      refine s_iconst C dX1_buildPartAbove_81 ic_0 ?_
      obtain ⟨rfl, rfl⟩ := pr_e h
      exact s_iret C M dX1_buildPartAbove_82 rfl rfl (Nat.le_refl 0) (Nat.le_refl 0)
    · have h := it_f c h
      refine s_aload_n C dX1_buildPartAbove_16 rfl rfl ?_
      refine s_iload_n C dX1_buildPartAbove_17 rfl rfl ?_
      obtain ⟨r1, I1, hh, h⟩ := bd_e h
      refine s_cV0 (st := []) C M.rg (Nat.le_trans (by decide) hd) mwX1_isPlace mlX1_44 dX1_buildPartAbove_18 (wX1_isPlace (d := 1) (Nat.le_refl _) hx0 hh) hx0 rfl rfl (Nat.le_of_ble_eq_true rfl) ?_
      refine s_if_eq (tgt := 81) C dX1_buildPartAbove_21 (by decide) (fun c => ?_) (fun c => ?_)
      · have h := it_t c h
        refine s_iconst C dX1_buildPartAbove_81 ic_0 ?_
        obtain ⟨rfl, rfl⟩ := pr_e h
        exact s_iret C M dX1_buildPartAbove_82 rfl rfl (Nat.le_refl 0) (Nat.le_refl 0)
      · have h := it_f c h
        refine s_aload_n C dX1_buildPartAbove_24 rfl rfl ?_
        refine s_iload_n C dX1_buildPartAbove_25 rfl rfl ?_
        refine s_iload_n C dX1_buildPartAbove_26 rfl rfl ?_
        obtain ⟨r2, I2, hh, h⟩ := bd_e h
        refine s_cV0 (st := []) C M.rg (Nat.le_trans (by decide) hd) mwX1_leans mlX1_51 dX1_buildPartAbove_27 (wX1_leans (d := 3) (Nat.le_refl _) hx0 hh) hx0 rfl rfl (Nat.le_of_ble_eq_true rfl) ?_
        refine s_if_eq (tgt := 69) C dX1_buildPartAbove_30 (by decide) (fun c => ?_) (fun c => ?_)
        · have h := it_t c h
          refine s_aload_n C dX1_buildPartAbove_69 rfl rfl ?_
          refine s_iload_n C dX1_buildPartAbove_70 rfl rfl ?_
          obtain ⟨r3, I3, hh, h⟩ := bd_e h
          refine s_cV0 (st := []) C M.rg (Nat.le_trans (by decide) hd) mwX1_above mlX1_79 dX1_buildPartAbove_71 (wX1_above (d := 3) (Nat.le_refl _) hx0 hh) hx0 rfl rfl (Nat.le_of_ble_eq_true rfl) ?_
          refine s_istore_n (ls' := [some (rfX X x0), none, some (.int x2), some (.int r3), some (.int x4), none, none]) C dX1_buildPartAbove_74 rfl (by decide) (Nat.le_of_ble_eq_true rfl) rfl rfl ?_
          obtain ⟨v1, ev1, h⟩ := ltm_e h
          refine s_iinc (v := v1) (ls' := [some (rfX X x0), none, some (.int x2), some (.int r3), some (.int v1), none, none]) C dX1_buildPartAbove_75 rfl (by decide) (Nat.le_of_ble_eq_true rfl) (by rw [ev1, ic_1]) rfl rfl ?_
          refine s_goto (tgt := 9) C dX1_buildPartAbove_78 (by decide) ?_
          exact ih hx0 h M
        · have h := it_f c h
          refine s_aload_n C dX1_buildPartAbove_33 rfl rfl ?_
          refine s_iload_n C dX1_buildPartAbove_34 rfl rfl ?_
          obtain ⟨r3, I3, hh, h⟩ := bd_e h
          refine s_cV0 (st := []) C M.rg (Nat.le_trans (by decide) hd) mwX1_firstOf mlX1_38 dX1_buildPartAbove_35 (wX1_firstOf (d := 2) (Nat.le_refl _) hx0 hh) hx0 rfl rfl (Nat.le_of_ble_eq_true rfl) ?_
          refine s_istore (ls' := [some (rfX X x0), none, some (.int x2), some (.int x3), some (.int x4), some (.int r3), none]) C dX1_buildPartAbove_38 (by decide) (Nat.le_of_ble_eq_true rfl) rfl rfl ?_
          refine s_aload_n C dX1_buildPartAbove_40 rfl rfl ?_
          refine s_iload_n C dX1_buildPartAbove_41 rfl rfl ?_
          obtain ⟨r4, I4, hh, h⟩ := bd_e h
          refine s_cV0 (st := []) C M.rg (Nat.le_trans (by decide) hd) mwX1_lastOf mlX1_41 dX1_buildPartAbove_42 (wX1_lastOf (d := 2) (Nat.le_refl _) hx0 hh) hx0 rfl rfl (Nat.le_of_ble_eq_true rfl) ?_
          refine s_istore (ls' := [some (rfX X x0), none, some (.int x2), some (.int x3), some (.int x4), some (.int r3), some (.int r4)]) C dX1_buildPartAbove_45 (by decide) (Nat.le_of_ble_eq_true rfl) rfl rfl ?_
          refine s_aload_n C dX1_buildPartAbove_47 rfl rfl ?_
          refine s_iload C dX1_buildPartAbove_48 rfl ?_
          refine s_iload C dX1_buildPartAbove_50 rfl ?_
          refine s_aload_n C dX1_buildPartAbove_52 rfl rfl ?_
          refine s_iload_n C dX1_buildPartAbove_53 rfl rfl ?_
          obtain ⟨r5, I5, hh, h⟩ := bd_e h
          refine s_cV0 (st := [.int r4, .int r3, rfX X x0]) C M.rg (Nat.le_trans (by decide) hd) mwX1_depthAt mlX1_29 dX1_buildPartAbove_54 (wX1_depthAt (d := 1) (Nat.le_refl _) hx0 hh) hx0 rfl rfl (Nat.le_of_ble_eq_true rfl) ?_
          obtain ⟨r6, I6, hh, h⟩ := bd_e h
          refine s_cS0 (st := []) C M.rg (Nat.le_trans (by decide) hd) mwX1_spread mlX1_82 dX1_buildPartAbove_57 (wX1_spread _ (d := 42) (Nat.le_refl _) hx0 hh) rfl rfl (Nat.le_of_ble_eq_true rfl) ?_
          refine s_pop C dX1_buildPartAbove_60 rfl ?_
          refine s_iload C dX1_buildPartAbove_61 rfl ?_
          refine s_iload C dX1_buildPartAbove_63 rfl ?_
          refine s_isub C dX1_buildPartAbove_65 ?_
          refine s_iconst C dX1_buildPartAbove_66 ic_1 ?_
          refine s_iadd C dX1_buildPartAbove_67 ?_
          obtain ⟨rfl, rfl⟩ := pr_e h
          exact s_iret C M dX1_buildPartAbove_68 rfl rfl (Nat.le_refl 0) (Nat.le_refl 0)
theorem wX1_buildPartAbove {E : Ev} {d : Nat} (hd : 43 ≤ d) {x0 : Nat} {x1 : Int32} {x2 : Int32} {I I' : Mm} {r : Int32} (hx0 : kd0 x0 = 1) (h : fX1_buildPartAbove x0 x1 x2 I = some (r, I')) : SemM E d 0 0 mX1_buildPartAbove [rfE E x0, .int x1, .int x2] S0 I (some (.int r)) S0 I' := by
  unfold fX1_buildPartAbove at h
  refine SemM.ofX (E := E) (y := mX1_buildPartAbove) (args := fun E => [rfE E x0, .int x1, .int x2]) (r := fun E => (some (.int r))) (fun E => [some (rfE E x0), some (.int x1), some (.int x2), none, none, none, none]) (by decide +kernel) (Nat.le_of_ble_eq_true rfl) rfl (fun X C M => ?_)
  refine s_aload_n C dX1_buildPartAbove_0 rfl rfl ?_
  refine s_iload_n C dX1_buildPartAbove_1 rfl rfl ?_
  obtain ⟨r1, I1, hh, h⟩ := bd_e h
  refine s_cV0 (st := []) C M.rg (Nat.le_trans (by decide) hd) mwX1_above mlX1_79 dX1_buildPartAbove_2 (wX1_above (d := 3) (Nat.le_refl _) hx0 hh) hx0 rfl rfl (Nat.le_of_ble_eq_true rfl) ?_
  refine s_istore_n (ls' := [some (rfX X x0), some (.int x1), some (.int x2), some (.int r1), none, none, none]) C dX1_buildPartAbove_5 rfl (by decide) (Nat.le_of_ble_eq_true rfl) rfl rfl ?_
  refine s_iconst C dX1_buildPartAbove_6 ic_0 ?_
  refine s_istore (ls' := [some (rfX X x0), some (.int x1), some (.int x2), some (.int r1), some (.int 0), none, none]) C dX1_buildPartAbove_7 (by decide) (Nat.le_of_ble_eq_true rfl) rfl rfl ?_
  refine s_weak (ls' := [some (rfX X x0), none, some (.int x2), some (.int r1), some (.int 0), none, none]) [true, false, true, true, true, false, false] rfl ?_
  exact wX1_buildPartAbove_p9 hd C _ hx0 h M
theorem wX4_depthFor_p7 {X : Cx} {d : Nat} (hd : 1 ≤ d) (C : CtxOK X mX4_depthFor) : ∀ (n : Nat) {x1 : Int32} {x2 : Int32} {x3 : Int32} {x4 : Int32} {I I' : Mm} {r : Int32}  (_ : fX4_depthFor_p7 n x1 x2 x3 x4 I = some (r, I')) (_ : MX X (xE X) d 0 0 (some (.int r)) S0 I'), WM X mX4_depthFor 7 [none, some (.int x1), some (.int x2), some (.int x3), some (.int x4)] [] S0 I 0 0 := by
  intro n
  induction n with
  | zero => intro x1 x2 x3 x4 I I' r  h M; exact absurd h (by simp [fX4_depthFor_p7])
  | succ n ih =>
    intro x1 x2 x3 x4 I I' r  h M
    rw [fX4_depthFor_p7] at h
    refine s_iload C dX4_depthFor_7 rfl ?_
    refine s_bipush C dX4_depthFor_9 bi_30 ?_
    refine s_icmp_ge (tgt := 34) C dX4_depthFor_11 (by decide) (fun c => ?_) (fun c => ?_)
    · have h := it_t c h
      refine s_iload_n C dX4_depthFor_34 rfl rfl ?_
      refine s_iconst C dX4_depthFor_35 ic_0 ?_
      refine s_max C M.rg (Nat.le_trans (by decide) hd) mlX4_248 dX4_depthFor_36 w_max_s w_math_i w_max_c (Nat.le_of_ble_eq_true rfl) (Nat.le_refl 0) (Nat.le_refl 0) ?_
      obtain ⟨rfl, rfl⟩ := pr_e h
      exact s_iret C M dX4_depthFor_39 rfl rfl (Nat.le_refl 0) (Nat.le_refl 0)
    · have h := it_f c h
      refine s_iload_n C dX4_depthFor_14 rfl rfl ?_
      refine s_if_le (tgt := 34) C dX4_depthFor_15 (by decide) (fun c => ?_) (fun c => ?_)
      · have h := it_t c h
        refine s_iload_n C dX4_depthFor_34 rfl rfl ?_
        refine s_iconst C dX4_depthFor_35 ic_0 ?_
        refine s_max C M.rg (Nat.le_trans (by decide) hd) mlX4_248 dX4_depthFor_36 w_max_s w_math_i w_max_c (Nat.le_of_ble_eq_true rfl) (Nat.le_refl 0) (Nat.le_refl 0) ?_
        obtain ⟨rfl, rfl⟩ := pr_e h
        exact s_iret C M dX4_depthFor_39 rfl rfl (Nat.le_refl 0) (Nat.le_refl 0)
      · have h := it_f c h
        refine s_iload_n C dX4_depthFor_18 rfl rfl ?_
        refine s_iload_n C dX4_depthFor_19 rfl rfl ?_
        refine s_imul C dX4_depthFor_20 ?_
        refine s_bipush C dX4_depthFor_21 bi_100 ?_
        refine s_idiv C dX4_depthFor_23 (by decide) ?_
        obtain ⟨v1, ev1, h⟩ := ltm_e h
        refine s_top_i ev1 ?_
        refine s_istore_n (ls' := [none, some (.int x1), some (.int x2), some (.int v1), some (.int x4)]) C dX4_depthFor_24 rfl (by decide) (Nat.le_of_ble_eq_true rfl) rfl rfl ?_
        obtain ⟨v2, ev2, h⟩ := ltm_e h
        refine s_iinc (v := v2) (ls' := [none, some (.int x1), some (.int v2), some (.int v1), some (.int x4)]) C dX4_depthFor_25 rfl (by decide) (Nat.le_of_ble_eq_true rfl) (by rw [ev2, ic_1]) rfl rfl ?_
        obtain ⟨v3, ev3, h⟩ := ltm_e h
        refine s_iinc (v := v3) (ls' := [none, some (.int x1), some (.int v2), some (.int v1), some (.int v3)]) C dX4_depthFor_28 rfl (by decide) (Nat.le_of_ble_eq_true rfl) (by rw [ev3, ic_1]) rfl rfl ?_
        refine s_goto (tgt := 7) C dX4_depthFor_31 (by decide) ?_
        exact ih  h M
theorem wX4_depthFor {E : Ev} {d : Nat} (hd : 1 ≤ d) {x0 : Int32} {x1 : Int32} {I I' : Mm} {r : Int32}  (h : fX4_depthFor x0 x1 I = some (r, I')) : SemM E d 0 0 mX4_depthFor [.int x0, .int x1] S0 I (some (.int r)) S0 I' := by
  unfold fX4_depthFor at h
  refine SemM.ofX (E := E) (y := mX4_depthFor) (args := fun E => [.int x0, .int x1]) (r := fun E => (some (.int r))) (fun E => [some (.int x0), some (.int x1), none, none, none]) (by decide +kernel) (Nat.le_of_ble_eq_true rfl) rfl (fun X C M => ?_)
  refine s_iconst C dX4_depthFor_0 ic_m1 ?_
  refine s_istore_n (ls' := [some (.int x0), some (.int x1), some (.int (-1)), none, none]) C dX4_depthFor_1 rfl (by decide) (Nat.le_of_ble_eq_true rfl) rfl rfl ?_
  refine s_iload_n C dX4_depthFor_2 rfl rfl ?_
  refine s_istore_n (ls' := [some (.int x0), some (.int x1), some (.int (-1)), some (.int x0), none]) C dX4_depthFor_3 rfl (by decide) (Nat.le_of_ble_eq_true rfl) rfl rfl ?_
  refine s_iconst C dX4_depthFor_4 ic_0 ?_
  refine s_istore (ls' := [some (.int x0), some (.int x1), some (.int (-1)), some (.int x0), some (.int 0)]) C dX4_depthFor_5 (by decide) (Nat.le_of_ble_eq_true rfl) rfl rfl ?_
  refine s_weak (ls' := [none, some (.int x1), some (.int (-1)), some (.int x0), some (.int 0)]) [false, true, true, true, true] rfl ?_
  exact wX4_depthFor_p7 hd C _  h M
theorem wX4_putNow {E : Ev} {d : Nat} (hd : 44 ≤ d) {x1 : Int32} {x2 : Int32} {x3 : Int32} {I I' : Mm} {r : Int32}  (h : fX4_putNow x1 x2 x3 I = some (r, I')) : SemM E d 0 0 mX4_putNow [rfE E 0, .int x1, .int x2, .int x3] S0 I (some (.int r)) S0 I' := by
  unfold fX4_putNow at h
  refine SemM.ofX (E := E) (y := mX4_putNow) (args := fun E => [rfE E 0, .int x1, .int x2, .int x3]) (r := fun E => (some (.int r))) (fun E => [some (rfE E 0), some (.int x1), some (.int x2), some (.int x3), none, none, none]) (by decide +kernel) (Nat.le_of_ble_eq_true rfl) rfl (fun X C M => ?_)
  refine s_aload_n C dX4_putNow_0 rfl rfl ?_
  refine s_getR (b := 1) C dX4_putNow_1 kk_0 foX4_10 rfl rk_0_0 ?_
  refine s_iload_n C dX4_putNow_4 rfl rfl ?_
  obtain ⟨r1, I1, hh, h⟩ := bd_e h
  refine s_cV0 (st := []) C M.rg (Nat.le_trans (by decide) hd) mwX3_rickAt mlX4_71 dX4_putNow_5 (wX3_rickAt (d := 1) (Nat.le_refl _) kk_1 hh) kk_1 rfl rfl (Nat.le_of_ble_eq_true rfl) ?_
  refine s_astore_o (ls' := [some (rfX X 0), some (.int x1), some (.int x2), some (.int x3), some (rvE (xE X) r1), none, none]) C dX4_putNow_8 (by decide) (Nat.le_of_ble_eq_true rfl) rfl rfl ?_
  refine s_aload_o C dX4_putNow_10 rfl ?_
  cases r1 with
  | none =>
    have h := on_n h
    refine s_ifnonnullN C dX4_putNow_12 ?_
    refine s_bipush C dX4_putNow_15 bi_m11 ?_
    obtain ⟨rfl, rfl⟩ := pr_e h
    exact s_iret C M dX4_putNow_17 rfl rfl (Nat.le_refl 0) (Nat.le_refl 0)
  | some q1 =>
    obtain ⟨hq1, h⟩ := it_s (on_s h)
    refine s_ifnonnull (tgt := 18) C dX4_putNow_12 (by decide) ?_
    refine s_iload_n C dX4_putNow_18 rfl rfl ?_
    refine s_if_lt (tgt := 40) C dX4_putNow_19 (by decide) (fun c => ?_) (fun c => ?_)
    · have h := it_t c h
      refine s_bipush C dX4_putNow_40 bi_m12 ?_
      obtain ⟨rfl, rfl⟩ := pr_e h
      exact s_iret C M dX4_putNow_42 rfl rfl (Nat.le_refl 0) (Nat.le_refl 0)
    · have h := it_f c h
      refine s_iload_n C dX4_putNow_22 rfl rfl ?_
      refine s_sipush C dX4_putNow_23 si_1000 ?_
      refine s_icmp_ge (tgt := 40) C dX4_putNow_26 (by decide) (fun c => ?_) (fun c => ?_)
      · have h := it_t c h
        refine s_bipush C dX4_putNow_40 bi_m12 ?_
        obtain ⟨rfl, rfl⟩ := pr_e h
        exact s_iret C M dX4_putNow_42 rfl rfl (Nat.le_refl 0) (Nat.le_refl 0)
      · have h := it_f c h
        refine s_iload_n C dX4_putNow_29 rfl rfl ?_
        refine s_iconst C dX4_putNow_30 ic_1 ?_
        refine s_icmp_lt (tgt := 40) C dX4_putNow_31 (by decide) (fun c => ?_) (fun c => ?_)
        · have h := it_t c h
          refine s_bipush C dX4_putNow_40 bi_m12 ?_
          obtain ⟨rfl, rfl⟩ := pr_e h
          exact s_iret C M dX4_putNow_42 rfl rfl (Nat.le_refl 0) (Nat.le_refl 0)
        · have h := it_f c h
          refine s_iload_n C dX4_putNow_34 rfl rfl ?_
          refine s_bipush C dX4_putNow_35 bi_99 ?_
          refine s_icmp_le (tgt := 43) C dX4_putNow_37 (by decide) (fun c => ?_) (fun c => ?_)
          · have h := it_t c h
            refine s_aload C dX4_putNow_43 rfl ?_
            refine s_iload_n C dX4_putNow_45 rfl rfl ?_
            obtain ⟨r2, I2, hh, h⟩ := bd_e h
            refine s_cV0 (st := []) C M.rg (Nat.le_trans (by decide) hd) mwX1_find mlX4_75 dX4_putNow_46 (wX1_find (d := 2) (Nat.le_refl _) hq1 hh) hq1 rfl rfl (Nat.le_of_ble_eq_true rfl) ?_
            refine s_iconst C dX4_putNow_49 ic_m1 ?_
            refine s_icmp_eq (tgt := 60) C dX4_putNow_50 (by decide) (fun c => ?_) (fun c => ?_)
            · have h := it_t c h
              refine s_aload C dX4_putNow_60 rfl ?_
              refine s_getI C dX4_putNow_62 hq1 foX4_111 rfl ?_
              refine s_bipush C dX4_putNow_65 bi_30 ?_
              refine s_icmp_lt (tgt := 81) C dX4_putNow_67 (by decide) (fun c => ?_) (fun c => ?_)
              · have h := it_t c h
                refine s_aload C dX4_putNow_81 rfl ?_
                refine s_iload_n C dX4_putNow_83 rfl rfl ?_
                refine s_iload_n C dX4_putNow_84 rfl rfl ?_
                obtain ⟨r3, I3, hh, h⟩ := bd_e h
                refine s_cV0 (st := []) C M.rg (Nat.le_trans (by decide) hd) mwX1_lay mlX4_245 dX4_putNow_85 (wX1_lay (d := 3) (Nat.le_refl _) hq1 hh) hq1 rfl rfl (Nat.le_of_ble_eq_true rfl) ?_
                refine s_istore (ls' := [some (rfX X 0), some (.int x1), some (.int x2), some (.int x3), some (rfX X q1), some (.int r3), none]) C dX4_putNow_88 (by decide) (Nat.le_of_ble_eq_true rfl) rfl rfl ?_
                refine s_aload C dX4_putNow_90 rfl ?_
                refine s_aload C dX4_putNow_92 rfl ?_
                refine s_getI C dX4_putNow_94 hq1 foX4_121 rfl ?_
                refine s_aload C dX4_putNow_97 rfl ?_
                refine s_getI C dX4_putNow_99 hq1 foX4_111 rfl ?_
                refine s_max C M.rg (Nat.le_trans (by decide) hd) mlX4_248 dX4_putNow_102 w_max_s w_math_i w_max_c (Nat.le_of_ble_eq_true rfl) (Nat.le_refl 0) (Nat.le_refl 0) ?_
                obtain ⟨I4, eI4, h⟩ := ltm_e h
                refine s_putI C dX4_putNow_105 hq1 poX4_121 rfl eI4 ?_
                refine s_aload_n C dX4_putNow_108 rfl rfl ?_
                refine s_getR (b := 1) C dX4_putNow_109 kk_0 foX4_10 rfl rk_0_0 ?_
                refine s_dup C dX4_putNow_112 rfl ?_
                refine s_getI C dX4_putNow_113 kk_1 foX4_209 rfl ?_
                refine s_iconst C dX4_putNow_116 ic_1 ?_
                refine s_iadd C dX4_putNow_117 ?_
                obtain ⟨I5, eI5, h⟩ := ltm_e h
                refine s_putI C dX4_putNow_118 kk_1 poX4_209 rfl eI5 ?_
                refine s_aload C dX4_putNow_121 rfl ?_
                refine s_iload C dX4_putNow_123 rfl ?_
                obtain ⟨r4, I6, hh, h⟩ := bd_e h
                refine s_cV0 (st := []) C M.rg (Nat.le_trans (by decide) hd) mwX1_depthAt mlX4_89 dX4_putNow_125 (wX1_depthAt (d := 1) (Nat.le_refl _) hq1 hh) hq1 rfl rfl (Nat.le_of_ble_eq_true rfl) ?_
                refine s_aload C dX4_putNow_128 rfl ?_
                refine s_getI C dX4_putNow_130 hq1 foX4_111 rfl ?_
                refine s_aload_n C dX4_putNow_133 rfl rfl ?_
                refine s_getR (b := 1) C dX4_putNow_134 kk_0 foX4_10 rfl rk_0_0 ?_
                refine s_getI C dX4_putNow_137 kk_1 foX4_95 rfl ?_
                obtain ⟨r5, I7, hh, h⟩ := bd_e h
                refine s_cS0 (st := [.int r4]) C M.rg (Nat.le_trans (by decide) hd) mwX4_depthFor mlX4_118 dX4_putNow_140 (wX4_depthFor (d := 1) (Nat.le_refl _)  hh) rfl rfl (Nat.le_of_ble_eq_true rfl) ?_
                refine s_icmp_gt (tgt := 148) C dX4_putNow_143 (by decide) (fun c => ?_) (fun c => ?_)
                · have h := it_t c h
                  refine s_aload C dX4_putNow_148 rfl ?_
                  refine s_iload C dX4_putNow_150 rfl ?_
                  refine s_aload_n C dX4_putNow_152 rfl rfl ?_
                  refine s_getR (b := 1) C dX4_putNow_153 kk_0 foX4_10 rfl rk_0_0 ?_
                  refine s_getI C dX4_putNow_156 kk_1 foX4_95 rfl ?_
                  obtain ⟨r6, I8, hh, h⟩ := bd_e h
                  refine s_cV0 (st := []) C M.rg (Nat.le_trans (by decide) hd) mwX1_buildPartAbove mlX4_253 dX4_putNow_159 (wX1_buildPartAbove (d := 43) (Nat.le_refl _) hq1 hh) hq1 rfl rfl (Nat.le_of_ble_eq_true rfl) ?_
                  refine s_istore (ls' := [some (rfX X 0), some (.int x1), some (.int x2), some (.int x3), some (rfX X q1), some (.int r3), some (.int r6)]) C dX4_putNow_162 (by decide) (Nat.le_of_ble_eq_true rfl) rfl rfl ?_
                  refine s_iload C dX4_putNow_164 rfl ?_
                  refine s_if_le (tgt := 196) C dX4_putNow_166 (by decide) (fun c => ?_) (fun c => ?_)
                  · have h := it_t c h
                    refine s_iload C dX4_putNow_196 rfl ?_
                    obtain ⟨rfl, rfl⟩ := pr_e h
                    exact s_iret C M dX4_putNow_198 rfl rfl (Nat.le_refl 0) (Nat.le_refl 0)
                  · have h := it_f c h
                    refine s_aload_n C dX4_putNow_169 rfl rfl ?_
                    refine s_getR (b := 1) C dX4_putNow_170 kk_0 foX4_10 rfl rk_0_0 ?_
                    refine s_dup C dX4_putNow_173 rfl ?_
                    refine s_getI C dX4_putNow_174 kk_1 foX4_215 rfl ?_
                    refine s_iconst C dX4_putNow_177 ic_1 ?_
                    refine s_iadd C dX4_putNow_178 ?_
                    obtain ⟨I9, eI9, h⟩ := ltm_e h
                    refine s_putI C dX4_putNow_179 kk_1 poX4_215 rfl eI9 ?_
                    refine s_aload_n C dX4_putNow_182 rfl rfl ?_
                    refine s_getR (b := 1) C dX4_putNow_183 kk_0 foX4_10 rfl rk_0_0 ?_
                    refine s_dup C dX4_putNow_186 rfl ?_
                    refine s_getI C dX4_putNow_187 kk_1 foX4_221 rfl ?_
                    refine s_iload C dX4_putNow_190 rfl ?_
                    refine s_iadd C dX4_putNow_192 ?_
                    obtain ⟨I10, eI10, h⟩ := ltm_e h
                    refine s_putI C dX4_putNow_193 kk_1 poX4_221 rfl eI10 ?_
                    refine s_iload C dX4_putNow_196 rfl ?_
                    obtain ⟨rfl, rfl⟩ := pr_e h
                    exact s_iret C M dX4_putNow_198 rfl rfl (Nat.le_refl 0) (Nat.le_refl 0)
                · have h := it_f c h
                  refine s_iconst C dX4_putNow_146 ic_0 ?_
                  obtain ⟨rfl, rfl⟩ := pr_e h
                  exact s_iret C M dX4_putNow_147 rfl rfl (Nat.le_refl 0) (Nat.le_refl 0)
              · have h := it_f c h
                refine s_aload_n C dX4_putNow_70 rfl rfl ?_
                refine s_iconst C dX4_putNow_71 ic_1 ?_
                refine s_aload C dX4_putNow_72 rfl ?_
                refine s_getI C dX4_putNow_74 hq1 foX4_111 rfl ?_
                obtain ⟨r3, I3, hh, h⟩ := bd_e h
                refine s_cV0 (st := []) C M.rg (Nat.le_trans (by decide) hd) mwX4_refuse mlX4_196 dX4_putNow_77 (wX4_refuse (d := 1) (Nat.le_refl _)  hh) kk_0 rfl rfl (Nat.le_of_ble_eq_true rfl) ?_
                obtain ⟨rfl, rfl⟩ := pr_e h
                exact s_iret C M dX4_putNow_80 rfl rfl (Nat.le_refl 0) (Nat.le_refl 0)
            · have h := it_f c h
              refine s_aload_n C dX4_putNow_53 rfl rfl ?_
              refine s_iconst C dX4_putNow_54 ic_2 ?_
              refine s_iload_n C dX4_putNow_55 rfl rfl ?_
              obtain ⟨r3, I3, hh, h⟩ := bd_e h
              refine s_cV0 (st := []) C M.rg (Nat.le_trans (by decide) hd) mwX4_refuse mlX4_196 dX4_putNow_56 (wX4_refuse (d := 1) (Nat.le_refl _)  hh) kk_0 rfl rfl (Nat.le_of_ble_eq_true rfl) ?_
              obtain ⟨rfl, rfl⟩ := pr_e h
              exact s_iret C M dX4_putNow_59 rfl rfl (Nat.le_refl 0) (Nat.le_refl 0)
          · have h := it_f c h
            refine s_bipush C dX4_putNow_40 bi_m12 ?_
            obtain ⟨rfl, rfl⟩ := pr_e h
            exact s_iret C M dX4_putNow_42 rfl rfl (Nat.le_refl 0) (Nat.le_refl 0)
