theorem wX4_pourNow_p136 {X : Cx} {d : Nat} (hd : 45 ≤ d) (C : CtxOK X mX4_pourNow) : ∀ (n : Nat) {x3 : Nat} {x4 : Nat} {x5 : Int32} {I I' : Mm} {r : Int32} (hx3 : kd0 x3 = 1) (hx4 : kd0 x4 = 1) (_ : fX4_pourNow_p136 n x3 x4 x5 I = some (r, I')) (_ : MX X (xE X) d 0 0 (some (.int r)) S0 I'), WM X mX4_pourNow 136 [some (rfX X 0), none, none, some (rfX X x3), some (rfX X x4), some (.int x5)] [] S0 I 0 0 := by
  intro n
  induction n with
  | zero => intro x3 x4 x5 I I' r hx3 hx4 h M; exact absurd h (by simp [fX4_pourNow_p136])
  | succ n ih =>
    intro x3 x4 x5 I I' r hx3 hx4 h M
    rw [fX4_pourNow_p136] at h
    refine s_iload C dX4_pourNow_136 rfl ?_
    refine s_aload_n C dX4_pourNow_138 rfl rfl ?_
    refine s_getI C dX4_pourNow_139 hx3 foX4_111 rfl ?_
    refine s_icmp_ge (tgt := 169) C dX4_pourNow_142 (by decide) (fun c => ?_) (fun c => ?_)
    · have h := it_t c h
      refine s_aload_n C dX4_pourNow_169 rfl rfl ?_
      refine s_iconst C dX4_pourNow_170 ic_0 ?_
      obtain ⟨I1, eI1, h⟩ := ltm_e h
      refine s_putI C dX4_pourNow_171 hx3 poX4_111 rfl eI1 ?_
      refine s_aload_n C dX4_pourNow_174 rfl rfl ?_
      refine s_iconst C dX4_pourNow_175 ic_0 ?_
      obtain ⟨I2, eI2, h⟩ := ltm_e h
      refine s_putI C dX4_pourNow_176 hx3 poX4_121 rfl eI2 ?_
      refine s_aload_n C dX4_pourNow_179 rfl rfl ?_
      refine s_aload C dX4_pourNow_180 rfl ?_
      obtain ⟨r1, I3, hh, h⟩ := bd_e h
      refine s_cV0 (st := []) C M.rg (Nat.le_trans (by decide) hd) mwX4_buildWhole mlX4_260 dX4_pourNow_182 (wX4_buildWhole (d := 44) (Nat.le_refl _) hx4 hh) kk_0 rfl rfl (Nat.le_of_ble_eq_true rfl) ?_
      refine s_pop C dX4_pourNow_185 rfl ?_
      refine s_aload_n C dX4_pourNow_186 rfl rfl ?_
      refine s_getR (b := 1) C dX4_pourNow_187 kk_0 foX4_10 rfl rk_0_0 ?_
      refine s_dup C dX4_pourNow_190 rfl ?_
      refine s_getI C dX4_pourNow_191 kk_1 foX4_224 rfl ?_
      refine s_iconst C dX4_pourNow_194 ic_1 ?_
      refine s_iadd C dX4_pourNow_195 ?_
      obtain ⟨I4, eI4, h⟩ := ltm_e h
      refine s_putI C dX4_pourNow_196 kk_1 poX4_224 rfl eI4 ?_
      refine s_aload C dX4_pourNow_199 rfl ?_
      refine s_getI C dX4_pourNow_201 hx4 foX4_111 rfl ?_
      obtain ⟨rfl, rfl⟩ := pr_e h
      exact s_iret C M dX4_pourNow_204 rfl rfl (Nat.le_refl 0) (Nat.le_refl 0)
    · have h := it_f c h
      refine s_aload C dX4_pourNow_145 rfl ?_
      refine s_aload_n C dX4_pourNow_147 rfl rfl ?_
      refine s_iload C dX4_pourNow_148 rfl ?_
      obtain ⟨r1, I1, hh, h⟩ := bd_e h
      refine s_cV0 (st := [rfX X x4]) C M.rg (Nat.le_trans (by decide) hd) mwX1_weightAt mlX4_105 dX4_pourNow_150 (wX1_weightAt (d := 1) (Nat.le_refl _) hx3 hh) hx3 rfl rfl (Nat.le_of_ble_eq_true rfl) ?_
      refine s_aload_n C dX4_pourNow_153 rfl rfl ?_
      refine s_iload C dX4_pourNow_154 rfl ?_
      obtain ⟨r2, I2, hh, h⟩ := bd_e h
      refine s_cV0 (st := [.int r1, rfX X x4]) C M.rg (Nat.le_trans (by decide) hd) mwX1_loadAt mlX4_86 dX4_pourNow_156 (wX1_loadAt (d := 1) (Nat.le_refl _) hx3 hh) hx3 rfl rfl (Nat.le_of_ble_eq_true rfl) ?_
      obtain ⟨r3, I3, hh, h⟩ := bd_e h
      refine s_cV0 (st := []) C M.rg (Nat.le_trans (by decide) hd) mwX1_lay mlX4_245 dX4_pourNow_159 (wX1_lay (d := 3) (Nat.le_refl _) hx4 hh) hx4 rfl rfl (Nat.le_of_ble_eq_true rfl) ?_
      refine s_pop C dX4_pourNow_162 rfl ?_
      obtain ⟨v1, ev1, h⟩ := ltm_e h
      refine s_iinc (v := v1) (ls' := [some (rfX X 0), none, none, some (rfX X x3), some (rfX X x4), some (.int v1)]) C dX4_pourNow_163 rfl (by decide) (Nat.le_of_ble_eq_true rfl) (by rw [ev1, ic_1]) rfl rfl ?_
      refine s_goto (tgt := 136) C dX4_pourNow_166 (by decide) ?_
      exact ih hx3 hx4 h M
theorem wX4_pourNow_p91 {X : Cx} {d : Nat} (hd : 45 ≤ d) (C : CtxOK X mX4_pourNow) : ∀ (n : Nat) {x3 : Nat} {x4 : Nat} {x5 : Int32} {I I' : Mm} {r : Int32} (hx3 : kd0 x3 = 1) (hx4 : kd0 x4 = 1) (_ : fX4_pourNow_p91 n x3 x4 x5 I = some (r, I')) (_ : MX X (xE X) d 0 0 (some (.int r)) S0 I'), WM X mX4_pourNow 91 [some (rfX X 0), none, none, some (rfX X x3), some (rfX X x4), some (.int x5)] [] S0 I 0 0 := by
  intro n
  induction n with
  | zero => intro x3 x4 x5 I I' r hx3 hx4 h M; exact absurd h (by simp [fX4_pourNow_p91])
  | succ n ih =>
    intro x3 x4 x5 I I' r hx3 hx4 h M
    rw [fX4_pourNow_p91] at h
    refine s_iload C dX4_pourNow_91 rfl ?_
    refine s_aload_n C dX4_pourNow_93 rfl rfl ?_
    refine s_getI C dX4_pourNow_94 hx3 foX4_111 rfl ?_
    refine s_icmp_ge (tgt := 133) C dX4_pourNow_97 (by decide) (fun c => ?_) (fun c => ?_)
    · have h := it_t c h
      refine s_iconst C dX4_pourNow_133 ic_0 ?_
      refine s_istore (ls' := [some (rfX X 0), none, none, some (rfX X x3), some (rfX X x4), some (.int 0)]) C dX4_pourNow_134 (by decide) (Nat.le_of_ble_eq_true rfl) rfl rfl ?_
      exact wX4_pourNow_p136 hd C _ hx3 hx4 h M
    · have h := it_f c h
      refine s_aload C dX4_pourNow_100 rfl ?_
      refine s_aload_n C dX4_pourNow_102 rfl rfl ?_
      refine s_iload C dX4_pourNow_103 rfl ?_
      obtain ⟨r1, I1, hh, h⟩ := bd_e h
      refine s_cV0 (st := [rfX X x4]) C M.rg (Nat.le_trans (by decide) hd) mwX1_weightAt mlX4_105 dX4_pourNow_105 (wX1_weightAt (d := 1) (Nat.le_refl _) hx3 hh) hx3 rfl rfl (Nat.le_of_ble_eq_true rfl) ?_
      obtain ⟨r2, I2, hh, h⟩ := bd_e h
      refine s_cV0 (st := []) C M.rg (Nat.le_trans (by decide) hd) mwX1_find mlX4_75 dX4_pourNow_108 (wX1_find (d := 2) (Nat.le_refl _) hx4 hh) hx4 rfl rfl (Nat.le_of_ble_eq_true rfl) ?_
      refine s_iconst C dX4_pourNow_111 ic_m1 ?_
      refine s_icmp_eq (tgt := 127) C dX4_pourNow_112 (by decide) (fun c => ?_) (fun c => ?_)
      · have h := it_t c h
        obtain ⟨v1, ev1, h⟩ := ltm_e h
        refine s_iinc (v := v1) (ls' := [some (rfX X 0), none, none, some (rfX X x3), some (rfX X x4), some (.int v1)]) C dX4_pourNow_127 rfl (by decide) (Nat.le_of_ble_eq_true rfl) (by rw [ev1, ic_1]) rfl rfl ?_
        refine s_goto (tgt := 91) C dX4_pourNow_130 (by decide) ?_
        exact ih hx3 hx4 h M
      · have h := it_f c h
        refine s_aload_n C dX4_pourNow_115 rfl rfl ?_
        refine s_iconst C dX4_pourNow_116 ic_2 ?_
        refine s_aload_n C dX4_pourNow_117 rfl rfl ?_
        refine s_iload C dX4_pourNow_118 rfl ?_
        obtain ⟨r3, I3, hh, h⟩ := bd_e h
        refine s_cV0 (st := [.int 2, rfX X 0]) C M.rg (Nat.le_trans (by decide) hd) mwX1_weightAt mlX4_105 dX4_pourNow_120 (wX1_weightAt (d := 1) (Nat.le_refl _) hx3 hh) hx3 rfl rfl (Nat.le_of_ble_eq_true rfl) ?_
        obtain ⟨r4, I4, hh, h⟩ := bd_e h
        refine s_cV0 (st := []) C M.rg (Nat.le_trans (by decide) hd) mwX4_refuse mlX4_196 dX4_pourNow_123 (wX4_refuse (d := 1) (Nat.le_refl _)  hh) kk_0 rfl rfl (Nat.le_of_ble_eq_true rfl) ?_
        obtain ⟨rfl, rfl⟩ := pr_e h
        exact s_iret C M dX4_pourNow_126 rfl rfl (Nat.le_refl 0) (Nat.le_refl 0)
theorem wX4_pourNow {E : Ev} {d : Nat} (hd : 45 ≤ d) {x1 : Int32} {x2 : Int32} {I I' : Mm} {r : Int32}  (h : fX4_pourNow x1 x2 I = some (r, I')) : SemM E d 0 0 mX4_pourNow [rfE E 0, .int x1, .int x2] S0 I (some (.int r)) S0 I' := by
  unfold fX4_pourNow at h
  refine SemM.ofX (E := E) (y := mX4_pourNow) (args := fun E => [rfE E 0, .int x1, .int x2]) (r := fun E => (some (.int r))) (fun E => [some (rfE E 0), some (.int x1), some (.int x2), none, none, none]) (by decide +kernel) (Nat.le_of_ble_eq_true rfl) rfl (fun X C M => ?_)
  refine s_aload_n C dX4_pourNow_0 rfl rfl ?_
  refine s_getR (b := 1) C dX4_pourNow_1 kk_0 foX4_10 rfl rk_0_0 ?_
  refine s_iload_n C dX4_pourNow_4 rfl rfl ?_
  obtain ⟨r1, I1, hh, h⟩ := bd_e h
  refine s_cV0 (st := []) C M.rg (Nat.le_trans (by decide) hd) mwX3_rickAt mlX4_71 dX4_pourNow_5 (wX3_rickAt (d := 1) (Nat.le_refl _) kk_1 hh) kk_1 rfl rfl (Nat.le_of_ble_eq_true rfl) ?_
  refine s_astore_no (ls' := [some (rfX X 0), some (.int x1), some (.int x2), some (rvE (xE X) r1), none, none]) C dX4_pourNow_8 rfl (by decide) (Nat.le_of_ble_eq_true rfl) rfl rfl ?_
  refine s_aload_n C dX4_pourNow_9 rfl rfl ?_
  refine s_getR (b := 1) C dX4_pourNow_10 kk_0 foX4_10 rfl rk_0_0 ?_
  refine s_iload_n C dX4_pourNow_13 rfl rfl ?_
  obtain ⟨r2, I2, hh, h⟩ := bd_e h
  refine s_cV0 (st := []) C M.rg (Nat.le_trans (by decide) hd) mwX3_rickAt mlX4_71 dX4_pourNow_14 (wX3_rickAt (d := 1) (Nat.le_refl _) kk_1 hh) kk_1 rfl rfl (Nat.le_of_ble_eq_true rfl) ?_
  refine s_astore_o (ls' := [some (rfX X 0), some (.int x1), some (.int x2), some (rvE (xE X) r1), some (rvE (xE X) r2), none]) C dX4_pourNow_17 (by decide) (Nat.le_of_ble_eq_true rfl) (ok_o rfl rfl) rfl ?_
  refine s_aload_no C dX4_pourNow_19 rfl rfl ?_
  cases r1 with
  | none =>
    have h := on_n h
    refine s_ifnullN (tgt := 28) C dX4_pourNow_20 (by decide) ?_
    refine s_bipush C dX4_pourNow_28 bi_m11 ?_
    obtain ⟨rfl, rfl⟩ := pr_e h
    exact s_iret C M dX4_pourNow_30 rfl rfl (Nat.le_refl 0) (Nat.le_refl 0)
  | some q1 =>
    obtain ⟨hq1, h⟩ := it_s (on_s h)
    refine s_ifnull C dX4_pourNow_20 ?_
    refine s_aload_o C dX4_pourNow_23 rfl ?_
    cases r2 with
    | none =>
      have h := on_n h
      refine s_ifnonnullN C dX4_pourNow_25 ?_
      refine s_bipush C dX4_pourNow_28 bi_m11 ?_
      obtain ⟨rfl, rfl⟩ := pr_e h
      exact s_iret C M dX4_pourNow_30 rfl rfl (Nat.le_refl 0) (Nat.le_refl 0)
    | some q2 =>
      obtain ⟨hq2, h⟩ := it_s (on_s h)
      refine s_ifnonnull (tgt := 31) C dX4_pourNow_25 (by decide) ?_
      refine s_iload_n C dX4_pourNow_31 rfl rfl ?_
      refine s_iload_n C dX4_pourNow_32 rfl rfl ?_
      refine s_icmp_ne (tgt := 43) C dX4_pourNow_33 (by decide) (fun c => ?_) (fun c => ?_)
      · have h := it_f c h
        refine s_aload_n C dX4_pourNow_43 rfl rfl ?_
        refine s_getI C dX4_pourNow_44 hq1 foX4_111 rfl ?_
        refine s_if_gt (tgt := 57) C dX4_pourNow_47 (by decide) (fun c => ?_) (fun c => ?_)
        · have h := it_t c h
          refine s_aload_n C dX4_pourNow_57 rfl rfl ?_
          refine s_getI C dX4_pourNow_58 hq1 foX4_111 rfl ?_
          refine s_aload C dX4_pourNow_61 rfl ?_
          refine s_getI C dX4_pourNow_63 hq2 foX4_111 rfl ?_
          refine s_iadd C dX4_pourNow_66 ?_
          refine s_bipush C dX4_pourNow_67 bi_30 ?_
          refine s_icmp_le (tgt := 88) C dX4_pourNow_69 (by decide) (fun c => ?_) (fun c => ?_)
          · have h := it_t c h
            refine s_iconst C dX4_pourNow_88 ic_0 ?_
            refine s_istore (ls' := [some (rfX X 0), some (.int x1), some (.int x2), some (rfX X q1), some (rfX X q2), some (.int 0)]) C dX4_pourNow_89 (by decide) (Nat.le_of_ble_eq_true rfl) rfl rfl ?_
            refine s_weak (ls' := [some (rfX X 0), none, none, some (rfX X q1), some (rfX X q2), some (.int 0)]) [true, false, false, true, true, true] rfl ?_
            exact wX4_pourNow_p91 hd C _ hq1 hq2 h M
          · have h := it_f c h
            refine s_aload_n C dX4_pourNow_72 rfl rfl ?_
            refine s_iconst C dX4_pourNow_73 ic_1 ?_
            refine s_aload_n C dX4_pourNow_74 rfl rfl ?_
            refine s_getI C dX4_pourNow_75 hq1 foX4_111 rfl ?_
            refine s_aload C dX4_pourNow_78 rfl ?_
            refine s_getI C dX4_pourNow_80 hq2 foX4_111 rfl ?_
            refine s_iadd C dX4_pourNow_83 ?_
            obtain ⟨r3, I3, hh, h⟩ := bd_e h
            refine s_cV0 (st := []) C M.rg (Nat.le_trans (by decide) hd) mwX4_refuse mlX4_196 dX4_pourNow_84 (wX4_refuse (d := 1) (Nat.le_refl _)  hh) kk_0 rfl rfl (Nat.le_of_ble_eq_true rfl) ?_
            obtain ⟨rfl, rfl⟩ := pr_e h
            exact s_iret C M dX4_pourNow_87 rfl rfl (Nat.le_refl 0) (Nat.le_refl 0)
        · have h := it_f c h
          refine s_aload_n C dX4_pourNow_50 rfl rfl ?_
          refine s_iconst C dX4_pourNow_51 ic_5 ?_
          refine s_iload_n C dX4_pourNow_52 rfl rfl ?_
          obtain ⟨r3, I3, hh, h⟩ := bd_e h
          refine s_cV0 (st := []) C M.rg (Nat.le_trans (by decide) hd) mwX4_refuse mlX4_196 dX4_pourNow_53 (wX4_refuse (d := 1) (Nat.le_refl _)  hh) kk_0 rfl rfl (Nat.le_of_ble_eq_true rfl) ?_
          obtain ⟨rfl, rfl⟩ := pr_e h
          exact s_iret C M dX4_pourNow_56 rfl rfl (Nat.le_refl 0) (Nat.le_refl 0)
      · have h := it_t c h
        refine s_aload_n C dX4_pourNow_36 rfl rfl ?_
        refine s_iconst C dX4_pourNow_37 ic_3 ?_
        refine s_iload_n C dX4_pourNow_38 rfl rfl ?_
        obtain ⟨r3, I3, hh, h⟩ := bd_e h
        refine s_cV0 (st := []) C M.rg (Nat.le_trans (by decide) hd) mwX4_refuse mlX4_196 dX4_pourNow_39 (wX4_refuse (d := 1) (Nat.le_refl _)  hh) kk_0 rfl rfl (Nat.le_of_ble_eq_true rfl) ?_
        obtain ⟨rfl, rfl⟩ := pr_e h
        exact s_iret C M dX4_pourNow_42 rfl rfl (Nat.le_refl 0) (Nat.le_refl 0)
theorem wX4_depthFor_p7 {X : Cx} {d : Nat} (hd : 1 ≤ d) (C : CtxOK X mX4_depthFor) : ∀ (n : Nat) {x1 : Int32} {x2 : Int32} {x3 : Int32} {x4 : Int32} {I I' : Mm} {r : Int32}  (_ : fX4_depthFor_p7 n x1 x2 x3 x4 I = some (r, I')) (_ : MX X (xE X) d 0 0 (some (.int r)) S0 I'), WM X mX4_depthFor 7 [none, some (.int x1), some (.int x2), some (.int x3), some (.int x4)] [] S0 I 0 0 := by
  intro n
  induction n with
  | zero => intro x1 x2 x3 x4 I I' r  h M; exact absurd h (by simp [fX4_depthFor_p7])
  | succ n ih =>
    intro x1 x2 x3 x4 I I' r  h M
    rw [fX4_depthFor_p7] at h
    refine s_iload C dX4_depthFor_7 rfl ?_
    refine s_bipush C dX4_depthFor_9 bi_30 ?_
    refine s_icmp_ge (tgt := 34) C dX4_depthFor_11 (by decide) (fun c => ?_) (fun c => ?_)
    · have h := it_t c h
      refine s_iload_n C dX4_depthFor_34 rfl rfl ?_
      refine s_iconst C dX4_depthFor_35 ic_0 ?_
      refine s_max C M.rg (Nat.le_trans (by decide) hd) mlX4_248 dX4_depthFor_36 w_max_s w_math_i w_max_c (Nat.le_of_ble_eq_true rfl) (Nat.le_refl 0) (Nat.le_refl 0) ?_
      obtain ⟨rfl, rfl⟩ := pr_e h
      exact s_iret C M dX4_depthFor_39 rfl rfl (Nat.le_refl 0) (Nat.le_refl 0)
    · have h := it_f c h
      refine s_iload_n C dX4_depthFor_14 rfl rfl ?_
      refine s_if_le (tgt := 34) C dX4_depthFor_15 (by decide) (fun c => ?_) (fun c => ?_)
      · have h := it_t c h
        refine s_iload_n C dX4_depthFor_34 rfl rfl ?_
        refine s_iconst C dX4_depthFor_35 ic_0 ?_
        refine s_max C M.rg (Nat.le_trans (by decide) hd) mlX4_248 dX4_depthFor_36 w_max_s w_math_i w_max_c (Nat.le_of_ble_eq_true rfl) (Nat.le_refl 0) (Nat.le_refl 0) ?_
        obtain ⟨rfl, rfl⟩ := pr_e h
        exact s_iret C M dX4_depthFor_39 rfl rfl (Nat.le_refl 0) (Nat.le_refl 0)
      · have h := it_f c h
        refine s_iload_n C dX4_depthFor_18 rfl rfl ?_
        refine s_iload_n C dX4_depthFor_19 rfl rfl ?_
        refine s_imul C dX4_depthFor_20 ?_
        refine s_bipush C dX4_depthFor_21 bi_100 ?_
        refine s_idiv C dX4_depthFor_23 (by decide) ?_
        obtain ⟨v1, ev1, h⟩ := ltm_e h
        refine s_top_i ev1 ?_
        refine s_istore_n (ls' := [none, some (.int x1), some (.int x2), some (.int v1), some (.int x4)]) C dX4_depthFor_24 rfl (by decide) (Nat.le_of_ble_eq_true rfl) rfl rfl ?_
        obtain ⟨v2, ev2, h⟩ := ltm_e h
        refine s_iinc (v := v2) (ls' := [none, some (.int x1), some (.int v2), some (.int v1), some (.int x4)]) C dX4_depthFor_25 rfl (by decide) (Nat.le_of_ble_eq_true rfl) (by rw [ev2, ic_1]) rfl rfl ?_
        obtain ⟨v3, ev3, h⟩ := ltm_e h
        refine s_iinc (v := v3) (ls' := [none, some (.int x1), some (.int v2), some (.int v1), some (.int v3)]) C dX4_depthFor_28 rfl (by decide) (Nat.le_of_ble_eq_true rfl) (by rw [ev3, ic_1]) rfl rfl ?_
        refine s_goto (tgt := 7) C dX4_depthFor_31 (by decide) ?_
        exact ih  h M
theorem wX4_depthFor {E : Ev} {d : Nat} (hd : 1 ≤ d) {x0 : Int32} {x1 : Int32} {I I' : Mm} {r : Int32}  (h : fX4_depthFor x0 x1 I = some (r, I')) : SemM E d 0 0 mX4_depthFor [.int x0, .int x1] S0 I (some (.int r)) S0 I' := by
  unfold fX4_depthFor at h
  refine SemM.ofX (E := E) (y := mX4_depthFor) (args := fun E => [.int x0, .int x1]) (r := fun E => (some (.int r))) (fun E => [some (.int x0), some (.int x1), none, none, none]) (by decide +kernel) (Nat.le_of_ble_eq_true rfl) rfl (fun X C M => ?_)
  refine s_iconst C dX4_depthFor_0 ic_m1 ?_
  refine s_istore_n (ls' := [some (.int x0), some (.int x1), some (.int (-1)), none, none]) C dX4_depthFor_1 rfl (by decide) (Nat.le_of_ble_eq_true rfl) rfl rfl ?_
  refine s_iload_n C dX4_depthFor_2 rfl rfl ?_
  refine s_istore_n (ls' := [some (.int x0), some (.int x1), some (.int (-1)), some (.int x0), none]) C dX4_depthFor_3 rfl (by decide) (Nat.le_of_ble_eq_true rfl) rfl rfl ?_
  refine s_iconst C dX4_depthFor_4 ic_0 ?_
  refine s_istore (ls' := [some (.int x0), some (.int x1), some (.int (-1)), some (.int x0), some (.int 0)]) C dX4_depthFor_5 (by decide) (Nat.le_of_ble_eq_true rfl) rfl rfl ?_
  refine s_weak (ls' := [none, some (.int x1), some (.int (-1)), some (.int x0), some (.int 0)]) [false, true, true, true, true] rfl ?_
  exact wX4_depthFor_p7 hd C _  h M
theorem wX4_putNow {E : Ev} {d : Nat} (hd : 44 ≤ d) {x1 : Int32} {x2 : Int32} {x3 : Int32} {I I' : Mm} {r : Int32}  (h : fX4_putNow x1 x2 x3 I = some (r, I')) : SemM E d 0 0 mX4_putNow [rfE E 0, .int x1, .int x2, .int x3] S0 I (some (.int r)) S0 I' := by
  unfold fX4_putNow at h
  refine SemM.ofX (E := E) (y := mX4_putNow) (args := fun E => [rfE E 0, .int x1, .int x2, .int x3]) (r := fun E => (some (.int r))) (fun E => [some (rfE E 0), some (.int x1), some (.int x2), some (.int x3), none, none, none]) (by decide +kernel) (Nat.le_of_ble_eq_true rfl) rfl (fun X C M => ?_)
  refine s_aload_n C dX4_putNow_0 rfl rfl ?_
  refine s_getR (b := 1) C dX4_putNow_1 kk_0 foX4_10 rfl rk_0_0 ?_
  refine s_iload_n C dX4_putNow_4 rfl rfl ?_
  obtain ⟨r1, I1, hh, h⟩ := bd_e h
  refine s_cV0 (st := []) C M.rg (Nat.le_trans (by decide) hd) mwX3_rickAt mlX4_71 dX4_putNow_5 (wX3_rickAt (d := 1) (Nat.le_refl _) kk_1 hh) kk_1 rfl rfl (Nat.le_of_ble_eq_true rfl) ?_
  refine s_astore_o (ls' := [some (rfX X 0), some (.int x1), some (.int x2), some (.int x3), some (rvE (xE X) r1), none, none]) C dX4_putNow_8 (by decide) (Nat.le_of_ble_eq_true rfl) rfl rfl ?_
  refine s_aload_o C dX4_putNow_10 rfl ?_
  cases r1 with
  | none =>
    have h := on_n h
    refine s_ifnonnullN C dX4_putNow_12 ?_
    refine s_bipush C dX4_putNow_15 bi_m11 ?_
    obtain ⟨rfl, rfl⟩ := pr_e h
    exact s_iret C M dX4_putNow_17 rfl rfl (Nat.le_refl 0) (Nat.le_refl 0)
  | some q1 =>
    obtain ⟨hq1, h⟩ := it_s (on_s h)
    refine s_ifnonnull (tgt := 18) C dX4_putNow_12 (by decide) ?_
    refine s_iload_n C dX4_putNow_18 rfl rfl ?_
    refine s_if_lt (tgt := 40) C dX4_putNow_19 (by decide) (fun c => ?_) (fun c => ?_)
    · have h := it_t c h
      refine s_bipush C dX4_putNow_40 bi_m12 ?_
      obtain ⟨rfl, rfl⟩ := pr_e h
      exact s_iret C M dX4_putNow_42 rfl rfl (Nat.le_refl 0) (Nat.le_refl 0)
    · have h := it_f c h
      refine s_iload_n C dX4_putNow_22 rfl rfl ?_
      refine s_sipush C dX4_putNow_23 si_1000 ?_
      refine s_icmp_ge (tgt := 40) C dX4_putNow_26 (by decide) (fun c => ?_) (fun c => ?_)
      · have h := it_t c h
        refine s_bipush C dX4_putNow_40 bi_m12 ?_
        obtain ⟨rfl, rfl⟩ := pr_e h
        exact s_iret C M dX4_putNow_42 rfl rfl (Nat.le_refl 0) (Nat.le_refl 0)
      · have h := it_f c h
        refine s_iload_n C dX4_putNow_29 rfl rfl ?_
        refine s_iconst C dX4_putNow_30 ic_1 ?_
        refine s_icmp_lt (tgt := 40) C dX4_putNow_31 (by decide) (fun c => ?_) (fun c => ?_)
        · have h := it_t c h
          refine s_bipush C dX4_putNow_40 bi_m12 ?_
          obtain ⟨rfl, rfl⟩ := pr_e h
          exact s_iret C M dX4_putNow_42 rfl rfl (Nat.le_refl 0) (Nat.le_refl 0)
        · have h := it_f c h
          refine s_iload_n C dX4_putNow_34 rfl rfl ?_
          refine s_bipush C dX4_putNow_35 bi_99 ?_
          refine s_icmp_le (tgt := 43) C dX4_putNow_37 (by decide) (fun c => ?_) (fun c => ?_)
          · have h := it_t c h
            refine s_aload C dX4_putNow_43 rfl ?_
            refine s_iload_n C dX4_putNow_45 rfl rfl ?_
            obtain ⟨r2, I2, hh, h⟩ := bd_e h
            refine s_cV0 (st := []) C M.rg (Nat.le_trans (by decide) hd) mwX1_find mlX4_75 dX4_putNow_46 (wX1_find (d := 2) (Nat.le_refl _) hq1 hh) hq1 rfl rfl (Nat.le_of_ble_eq_true rfl) ?_
            refine s_iconst C dX4_putNow_49 ic_m1 ?_
            refine s_icmp_eq (tgt := 60) C dX4_putNow_50 (by decide) (fun c => ?_) (fun c => ?_)
            · have h := it_t c h
              refine s_aload C dX4_putNow_60 rfl ?_
              refine s_getI C dX4_putNow_62 hq1 foX4_111 rfl ?_
              refine s_bipush C dX4_putNow_65 bi_30 ?_
              refine s_icmp_lt (tgt := 81) C dX4_putNow_67 (by decide) (fun c => ?_) (fun c => ?_)
              · have h := it_t c h
                refine s_aload C dX4_putNow_81 rfl ?_
                refine s_iload_n C dX4_putNow_83 rfl rfl ?_
                refine s_iload_n C dX4_putNow_84 rfl rfl ?_
                obtain ⟨r3, I3, hh, h⟩ := bd_e h
                refine s_cV0 (st := []) C M.rg (Nat.le_trans (by decide) hd) mwX1_lay mlX4_245 dX4_putNow_85 (wX1_lay (d := 3) (Nat.le_refl _) hq1 hh) hq1 rfl rfl (Nat.le_of_ble_eq_true rfl) ?_
                refine s_istore (ls' := [some (rfX X 0), some (.int x1), some (.int x2), some (.int x3), some (rfX X q1), some (.int r3), none]) C dX4_putNow_88 (by decide) (Nat.le_of_ble_eq_true rfl) rfl rfl ?_
                refine s_aload C dX4_putNow_90 rfl ?_
                refine s_aload C dX4_putNow_92 rfl ?_
                refine s_getI C dX4_putNow_94 hq1 foX4_121 rfl ?_
                refine s_aload C dX4_putNow_97 rfl ?_
                refine s_getI C dX4_putNow_99 hq1 foX4_111 rfl ?_
                refine s_max C M.rg (Nat.le_trans (by decide) hd) mlX4_248 dX4_putNow_102 w_max_s w_math_i w_max_c (Nat.le_of_ble_eq_true rfl) (Nat.le_refl 0) (Nat.le_refl 0) ?_
                obtain ⟨I4, eI4, h⟩ := ltm_e h
                refine s_putI C dX4_putNow_105 hq1 poX4_121 rfl eI4 ?_
                refine s_aload_n C dX4_putNow_108 rfl rfl ?_
                refine s_getR (b := 1) C dX4_putNow_109 kk_0 foX4_10 rfl rk_0_0 ?_
                refine s_dup C dX4_putNow_112 rfl ?_
                refine s_getI C dX4_putNow_113 kk_1 foX4_209 rfl ?_
                refine s_iconst C dX4_putNow_116 ic_1 ?_
                refine s_iadd C dX4_putNow_117 ?_
                obtain ⟨I5, eI5, h⟩ := ltm_e h
                refine s_putI C dX4_putNow_118 kk_1 poX4_209 rfl eI5 ?_
                refine s_aload C dX4_putNow_121 rfl ?_
                refine s_iload C dX4_putNow_123 rfl ?_
                obtain ⟨r4, I6, hh, h⟩ := bd_e h
                refine s_cV0 (st := []) C M.rg (Nat.le_trans (by decide) hd) mwX1_depthAt mlX4_89 dX4_putNow_125 (wX1_depthAt (d := 1) (Nat.le_refl _) hq1 hh) hq1 rfl rfl (Nat.le_of_ble_eq_true rfl) ?_
                refine s_aload C dX4_putNow_128 rfl ?_
                refine s_getI C dX4_putNow_130 hq1 foX4_111 rfl ?_
                refine s_aload_n C dX4_putNow_133 rfl rfl ?_
                refine s_getR (b := 1) C dX4_putNow_134 kk_0 foX4_10 rfl rk_0_0 ?_
                refine s_getI C dX4_putNow_137 kk_1 foX4_95 rfl ?_
                obtain ⟨r5, I7, hh, h⟩ := bd_e h
                refine s_cS0 (st := [.int r4]) C M.rg (Nat.le_trans (by decide) hd) mwX4_depthFor mlX4_118 dX4_putNow_140 (wX4_depthFor (d := 1) (Nat.le_refl _)  hh) rfl rfl (Nat.le_of_ble_eq_true rfl) ?_
                refine s_icmp_gt (tgt := 148) C dX4_putNow_143 (by decide) (fun c => ?_) (fun c => ?_)
                · have h := it_t c h
                  refine s_aload C dX4_putNow_148 rfl ?_
                  refine s_iload C dX4_putNow_150 rfl ?_
                  refine s_aload_n C dX4_putNow_152 rfl rfl ?_
                  refine s_getR (b := 1) C dX4_putNow_153 kk_0 foX4_10 rfl rk_0_0 ?_
                  refine s_getI C dX4_putNow_156 kk_1 foX4_95 rfl ?_
                  obtain ⟨r6, I8, hh, h⟩ := bd_e h
                  refine s_cV0 (st := []) C M.rg (Nat.le_trans (by decide) hd) mwX1_buildPartAbove mlX4_253 dX4_putNow_159 (wX1_buildPartAbove (d := 43) (Nat.le_refl _) hq1 hh) hq1 rfl rfl (Nat.le_of_ble_eq_true rfl) ?_
                  refine s_istore (ls' := [some (rfX X 0), some (.int x1), some (.int x2), some (.int x3), some (rfX X q1), some (.int r3), some (.int r6)]) C dX4_putNow_162 (by decide) (Nat.le_of_ble_eq_true rfl) rfl rfl ?_
                  refine s_iload C dX4_putNow_164 rfl ?_
                  refine s_if_le (tgt := 196) C dX4_putNow_166 (by decide) (fun c => ?_) (fun c => ?_)
                  · have h := it_t c h
                    refine s_iload C dX4_putNow_196 rfl ?_
                    obtain ⟨rfl, rfl⟩ := pr_e h
                    exact s_iret C M dX4_putNow_198 rfl rfl (Nat.le_refl 0) (Nat.le_refl 0)
                  · have h := it_f c h
                    refine s_aload_n C dX4_putNow_169 rfl rfl ?_
                    refine s_getR (b := 1) C dX4_putNow_170 kk_0 foX4_10 rfl rk_0_0 ?_
                    refine s_dup C dX4_putNow_173 rfl ?_
                    refine s_getI C dX4_putNow_174 kk_1 foX4_215 rfl ?_
                    refine s_iconst C dX4_putNow_177 ic_1 ?_
                    refine s_iadd C dX4_putNow_178 ?_
                    obtain ⟨I9, eI9, h⟩ := ltm_e h
                    refine s_putI C dX4_putNow_179 kk_1 poX4_215 rfl eI9 ?_
                    refine s_aload_n C dX4_putNow_182 rfl rfl ?_
                    refine s_getR (b := 1) C dX4_putNow_183 kk_0 foX4_10 rfl rk_0_0 ?_
                    refine s_dup C dX4_putNow_186 rfl ?_
                    refine s_getI C dX4_putNow_187 kk_1 foX4_221 rfl ?_
                    refine s_iload C dX4_putNow_190 rfl ?_
                    refine s_iadd C dX4_putNow_192 ?_
                    obtain ⟨I10, eI10, h⟩ := ltm_e h
                    refine s_putI C dX4_putNow_193 kk_1 poX4_221 rfl eI10 ?_
                    refine s_iload C dX4_putNow_196 rfl ?_
                    obtain ⟨rfl, rfl⟩ := pr_e h
                    exact s_iret C M dX4_putNow_198 rfl rfl (Nat.le_refl 0) (Nat.le_refl 0)
                · have h := it_f c h
                  refine s_iconst C dX4_putNow_146 ic_0 ?_
                  obtain ⟨rfl, rfl⟩ := pr_e h
                  exact s_iret C M dX4_putNow_147 rfl rfl (Nat.le_refl 0) (Nat.le_refl 0)
              · have h := it_f c h
                refine s_aload_n C dX4_putNow_70 rfl rfl ?_
                refine s_iconst C dX4_putNow_71 ic_1 ?_
                refine s_aload C dX4_putNow_72 rfl ?_
                refine s_getI C dX4_putNow_74 hq1 foX4_111 rfl ?_
                obtain ⟨r3, I3, hh, h⟩ := bd_e h
                refine s_cV0 (st := []) C M.rg (Nat.le_trans (by decide) hd) mwX4_refuse mlX4_196 dX4_putNow_77 (wX4_refuse (d := 1) (Nat.le_refl _)  hh) kk_0 rfl rfl (Nat.le_of_ble_eq_true rfl) ?_
                obtain ⟨rfl, rfl⟩ := pr_e h
                exact s_iret C M dX4_putNow_80 rfl rfl (Nat.le_refl 0) (Nat.le_refl 0)
            · have h := it_f c h
              refine s_aload_n C dX4_putNow_53 rfl rfl ?_
              refine s_iconst C dX4_putNow_54 ic_2 ?_
              refine s_iload_n C dX4_putNow_55 rfl rfl ?_
              obtain ⟨r3, I3, hh, h⟩ := bd_e h
              refine s_cV0 (st := []) C M.rg (Nat.le_trans (by decide) hd) mwX4_refuse mlX4_196 dX4_putNow_56 (wX4_refuse (d := 1) (Nat.le_refl _)  hh) kk_0 rfl rfl (Nat.le_of_ble_eq_true rfl) ?_
              obtain ⟨rfl, rfl⟩ := pr_e h
              exact s_iret C M dX4_putNow_59 rfl rfl (Nat.le_refl 0) (Nat.le_refl 0)
          · have h := it_f c h
            refine s_bipush C dX4_putNow_40 bi_m12 ?_
            obtain ⟨rfl, rfl⟩ := pr_e h
            exact s_iret C M dX4_putNow_42 rfl rfl (Nat.le_refl 0) (Nat.le_refl 0)
theorem wX4_takeNow {E : Ev} {d : Nat} (hd : 45 ≤ d) {x1 : Int32} {x2 : Int32} {I I' : Mm} {r : Int32}  (h : fX4_takeNow x1 x2 I = some (r, I')) : SemM E d 0 0 mX4_takeNow [rfE E 0, .int x1, .int x2] S0 I (some (.int r)) S0 I' := by
  unfold fX4_takeNow at h
  refine SemM.ofX (E := E) (y := mX4_takeNow) (args := fun E => [rfE E 0, .int x1, .int x2]) (r := fun E => (some (.int r))) (fun E => [some (rfE E 0), some (.int x1), some (.int x2), none, none, none]) (by decide +kernel) (Nat.le_of_ble_eq_true rfl) rfl (fun X C M => ?_)
  refine s_aload_n C dX4_takeNow_0 rfl rfl ?_
  refine s_getR (b := 1) C dX4_takeNow_1 kk_0 foX4_10 rfl rk_0_0 ?_
  refine s_iload_n C dX4_takeNow_4 rfl rfl ?_
  obtain ⟨r1, I1, hh, h⟩ := bd_e h
  refine s_cV0 (st := []) C M.rg (Nat.le_trans (by decide) hd) mwX3_rickAt mlX4_71 dX4_takeNow_5 (wX3_rickAt (d := 1) (Nat.le_refl _) kk_1 hh) kk_1 rfl rfl (Nat.le_of_ble_eq_true rfl) ?_
  refine s_astore_no (ls' := [some (rfX X 0), some (.int x1), some (.int x2), some (rvE (xE X) r1), none, none]) C dX4_takeNow_8 rfl (by decide) (Nat.le_of_ble_eq_true rfl) rfl rfl ?_
  refine s_aload_no C dX4_takeNow_9 rfl rfl ?_
  cases r1 with
  | none =>
    have h := on_n h
    refine s_ifnonnullN C dX4_takeNow_10 ?_
    refine s_bipush C dX4_takeNow_13 bi_m11 ?_
    obtain ⟨rfl, rfl⟩ := pr_e h
    exact s_iret C M dX4_takeNow_15 rfl rfl (Nat.le_refl 0) (Nat.le_refl 0)
  | some q1 =>
    obtain ⟨hq1, h⟩ := it_s (on_s h)
    refine s_ifnonnull (tgt := 16) C dX4_takeNow_10 (by decide) ?_
    refine s_aload_n C dX4_takeNow_16 rfl rfl ?_
    refine s_iload_n C dX4_takeNow_17 rfl rfl ?_
    obtain ⟨r2, I2, hh, h⟩ := bd_e h
    refine s_cV0 (st := []) C M.rg (Nat.le_trans (by decide) hd) mwX1_find mlX4_75 dX4_takeNow_18 (wX1_find (d := 2) (Nat.le_refl _) hq1 hh) hq1 rfl rfl (Nat.le_of_ble_eq_true rfl) ?_
    refine s_istore (ls' := [some (rfX X 0), some (.int x1), some (.int x2), some (rfX X q1), some (.int r2), none]) C dX4_takeNow_21 (by decide) (Nat.le_of_ble_eq_true rfl) rfl rfl ?_
    refine s_iload C dX4_takeNow_23 rfl ?_
    refine s_iconst C dX4_takeNow_25 ic_m1 ?_
    refine s_icmp_ne (tgt := 32) C dX4_takeNow_26 (by decide) (fun c => ?_) (fun c => ?_)
    · have h := it_f c h
      refine s_aload_n C dX4_takeNow_32 rfl rfl ?_
      refine s_iload C dX4_takeNow_33 rfl ?_
      obtain ⟨r3, I3, hh, h⟩ := bd_e h
      refine s_cV0 (st := []) C M.rg (Nat.le_trans (by decide) hd) mwX1_loadAt mlX4_86 dX4_takeNow_35 (wX1_loadAt (d := 1) (Nat.le_refl _) hq1 hh) hq1 rfl rfl (Nat.le_of_ble_eq_true rfl) ?_
      refine s_istore (ls' := [some (rfX X 0), some (.int x1), some (.int x2), some (rfX X q1), some (.int r2), some (.int r3)]) C dX4_takeNow_38 (by decide) (Nat.le_of_ble_eq_true rfl) rfl rfl ?_
      refine s_aload_n C dX4_takeNow_40 rfl rfl ?_
      refine s_iload C dX4_takeNow_41 rfl ?_
      obtain ⟨r4, I4, hh, h⟩ := bd_e h
      refine s_cV0 (st := []) C M.rg (Nat.le_trans (by decide) hd) mwX1_lift mlX4_256 dX4_takeNow_43 (wX1_lift (d := 3) (Nat.le_refl _) hq1 hh) hq1 rfl rfl (Nat.le_of_ble_eq_true rfl) ?_
      refine s_aload_n C dX4_takeNow_46 rfl rfl ?_
      refine s_getR (b := 1) C dX4_takeNow_47 kk_0 foX4_10 rfl rk_0_0 ?_
      refine s_dup C dX4_takeNow_50 rfl ?_
      refine s_getI C dX4_takeNow_51 kk_1 foX4_212 rfl ?_
      refine s_iconst C dX4_takeNow_54 ic_1 ?_
      refine s_iadd C dX4_takeNow_55 ?_
      obtain ⟨I5, eI5, h⟩ := ltm_e h
      refine s_putI C dX4_takeNow_56 kk_1 poX4_212 rfl eI5 ?_
      refine s_bipush C dX4_takeNow_59 bi_100 ?_
      refine s_aload_n C dX4_takeNow_61 rfl rfl ?_
      refine s_getI C dX4_takeNow_62 hq1 foX4_111 rfl ?_
      refine s_imul C dX4_takeNow_65 ?_
      refine s_aload_n C dX4_takeNow_66 rfl rfl ?_
      refine s_getR (b := 1) C dX4_takeNow_67 kk_0 foX4_10 rfl rk_0_0 ?_
      refine s_getI C dX4_takeNow_70 kk_1 foX4_95 rfl ?_
      refine s_aload_n C dX4_takeNow_73 rfl rfl ?_
      refine s_getI C dX4_takeNow_74 hq1 foX4_121 rfl ?_
      refine s_imul C dX4_takeNow_77 ?_
      refine s_icmp_ge (tgt := 87) C dX4_takeNow_78 (by decide) (fun c => ?_) (fun c => ?_)
      · have h := it_t c h
        refine s_iload C dX4_takeNow_87 rfl ?_
        obtain ⟨rfl, rfl⟩ := pr_e h
        exact s_iret C M dX4_takeNow_89 rfl rfl (Nat.le_refl 0) (Nat.le_refl 0)
      · have h := it_f c h
        refine s_aload_n C dX4_takeNow_81 rfl rfl ?_
        refine s_aload_n C dX4_takeNow_82 rfl rfl ?_
        obtain ⟨r5, I6, hh, h⟩ := bd_e h
        refine s_cV0 (st := []) C M.rg (Nat.le_trans (by decide) hd) mwX4_buildWhole mlX4_260 dX4_takeNow_83 (wX4_buildWhole (d := 44) (Nat.le_refl _) hq1 hh) kk_0 rfl rfl (Nat.le_of_ble_eq_true rfl) ?_
        refine s_pop C dX4_takeNow_86 rfl ?_
        refine s_iload C dX4_takeNow_87 rfl ?_
        obtain ⟨rfl, rfl⟩ := pr_e h
        exact s_iret C M dX4_takeNow_89 rfl rfl (Nat.le_refl 0) (Nat.le_refl 0)
    · have h := it_t c h
      refine s_bipush C dX4_takeNow_29 bi_m11 ?_
      obtain ⟨rfl, rfl⟩ := pr_e h
      exact s_iret C M dX4_takeNow_31 rfl rfl (Nat.le_refl 0) (Nat.le_refl 0)
theorem wX4_carryOut {E : Ev} {d : Nat} (hd : 46 ≤ d) {x1 : Int32} {I I' : Mm} {r : Int32}  (h : fX4_carryOut x1 I = some (r, I')) : SemM E d 0 0 mX4_carryOut [rfE E 0, .int x1] S0 I (some (.int r)) S0 I' := by
  unfold fX4_carryOut at h
  refine SemM.ofX (E := E) (y := mX4_carryOut) (args := fun E => [rfE E 0, .int x1]) (r := fun E => (some (.int r))) (fun E => [some (rfE E 0), some (.int x1), none, none]) (by decide +kernel) (Nat.le_of_ble_eq_true rfl) rfl (fun X C M => ?_)
  refine s_aload_n C dX4_carryOut_0 rfl rfl ?_
  refine s_getR (b := 34) C dX4_carryOut_1 kk_0 foX4_36 rfl rk_0_8 ?_
  refine s_iload_n C dX4_carryOut_4 rfl rfl ?_
  refine s_iconst C dX4_carryOut_5 ic_0 ?_
  obtain ⟨r1, I1, hh, h⟩ := bd_e h
  refine s_cV0 (st := []) C M.rg (Nat.le_trans (by decide) hd) mwX0_numberOf mlX4_266 dX4_carryOut_6 (wX0_numberOf (d := 1) (Nat.le_refl _)  hh) kk_34 rfl rfl (Nat.le_of_ble_eq_true rfl) ?_
  refine s_istore_n (ls' := [some (rfX X 0), some (.int x1), some (.int r1), none]) C dX4_carryOut_9 rfl (by decide) (Nat.le_of_ble_eq_true rfl) rfl rfl ?_
  refine s_aload_n C dX4_carryOut_10 rfl rfl ?_
  refine s_getR (b := 34) C dX4_carryOut_11 kk_0 foX4_36 rfl rk_0_8 ?_
  refine s_iload_n C dX4_carryOut_14 rfl rfl ?_
  refine s_iconst C dX4_carryOut_15 ic_1 ?_
  obtain ⟨r2, I2, hh, h⟩ := bd_e h
  refine s_cV0 (st := []) C M.rg (Nat.le_trans (by decide) hd) mwX0_numberOf mlX4_266 dX4_carryOut_16 (wX0_numberOf (d := 1) (Nat.le_refl _)  hh) kk_34 rfl rfl (Nat.le_of_ble_eq_true rfl) ?_
  refine s_istore_n (ls' := [some (rfX X 0), some (.int x1), some (.int r1), some (.int r2)]) C dX4_carryOut_19 rfl (by decide) (Nat.le_of_ble_eq_true rfl) rfl rfl ?_
  refine s_aload_n C dX4_carryOut_20 rfl rfl ?_
  refine s_getR (b := 34) C dX4_carryOut_21 kk_0 foX4_36 rfl rk_0_8 ?_
  refine s_iload_n C dX4_carryOut_24 rfl rfl ?_
  obtain ⟨r3, I3, hh, h⟩ := bd_e h
  refine s_cV0 (st := []) C M.rg (Nat.le_trans (by decide) hd) mwX0_signOf mlX4_269 dX4_carryOut_25 (wX0_signOf (d := 1) (Nat.le_refl _)  hh) kk_34 rfl rfl (Nat.le_of_ble_eq_true rfl) ?_
  by_cases c1 : r3 = 43
  · have h := it_t c1 h
    refine s_lookup (off := 44) (tgt := 72) C dX4_carryOut_28 (by decide) (by rw [c1]; decide +kernel) (by decide) ?_
    refine s_aload_n C dX4_carryOut_72 rfl rfl ?_
    refine s_iload_n C dX4_carryOut_73 rfl rfl ?_
    refine s_iload_n C dX4_carryOut_74 rfl rfl ?_
    refine s_aload_n C dX4_carryOut_75 rfl rfl ?_
    refine s_getR (b := 34) C dX4_carryOut_76 kk_0 foX4_36 rfl rk_0_8 ?_
    refine s_iload_n C dX4_carryOut_79 rfl rfl ?_
    refine s_iconst C dX4_carryOut_80 ic_2 ?_
    obtain ⟨r4, I4, hh, h⟩ := bd_e h
    refine s_cV0 (st := [.int r2, .int r1, rfX X 0]) C M.rg (Nat.le_trans (by decide) hd) mwX0_numberOf mlX4_266 dX4_carryOut_81 (wX0_numberOf (d := 1) (Nat.le_refl _)  hh) kk_34 rfl rfl (Nat.le_of_ble_eq_true rfl) ?_
    obtain ⟨r5, I5, hh, h⟩ := bd_e h
    refine s_cV0 (st := []) C M.rg (Nat.le_trans (by decide) hd) mwX4_putNow mlX4_50 dX4_carryOut_84 (wX4_putNow (d := 44) (Nat.le_refl _)  hh) kk_0 rfl rfl (Nat.le_of_ble_eq_true rfl) ?_
    obtain ⟨rfl, rfl⟩ := pr_e h
    exact s_iret C M dX4_carryOut_87 rfl rfl (Nat.le_refl 0) (Nat.le_refl 0)
  have h := it_f c1 h
  by_cases c2 : r3 = 45
  · have h := it_t c2 h
    refine s_lookup (off := 60) (tgt := 88) C dX4_carryOut_28 (by decide) (by rw [c2]; decide +kernel) (by decide) ?_
    refine s_aload_n C dX4_carryOut_88 rfl rfl ?_
    refine s_iload_n C dX4_carryOut_89 rfl rfl ?_
    refine s_iload_n C dX4_carryOut_90 rfl rfl ?_
    obtain ⟨r4, I4, hh, h⟩ := bd_e h
    refine s_cV0 (st := []) C M.rg (Nat.le_trans (by decide) hd) mwX4_takeNow mlX4_58 dX4_carryOut_91 (wX4_takeNow (d := 45) (Nat.le_refl _)  hh) kk_0 rfl rfl (Nat.le_of_ble_eq_true rfl) ?_
    obtain ⟨rfl, rfl⟩ := pr_e h
    exact s_iret C M dX4_carryOut_94 rfl rfl (Nat.le_refl 0) (Nat.le_refl 0)
  have h := it_f c2 h
  by_cases c3 : r3 = 61
  · have h := it_t c3 h
    refine s_lookup (off := 67) (tgt := 95) C dX4_carryOut_28 (by decide) (by rw [c3]; decide +kernel) (by decide) ?_
    refine s_aload_n C dX4_carryOut_95 rfl rfl ?_
    refine s_iload_n C dX4_carryOut_96 rfl rfl ?_
    obtain ⟨r4, I4, hh, h⟩ := bd_e h
    refine s_cV0 (st := []) C M.rg (Nat.le_trans (by decide) hd) mwX4_buildNow mlX4_62 dX4_carryOut_97 (wX4_buildNow (d := 45) (Nat.le_refl _)  hh) kk_0 rfl rfl (Nat.le_of_ble_eq_true rfl) ?_
    obtain ⟨rfl, rfl⟩ := pr_e h
    exact s_iret C M dX4_carryOut_100 rfl rfl (Nat.le_refl 0) (Nat.le_refl 0)
  have h := it_f c3 h
  by_cases c4 : r3 = 62
  · have h := it_t c4 h
    refine s_lookup (off := 73) (tgt := 101) C dX4_carryOut_28 (by decide) (by rw [c4]; decide +kernel) (by decide) ?_
    refine s_aload_n C dX4_carryOut_101 rfl rfl ?_
    refine s_iload_n C dX4_carryOut_102 rfl rfl ?_
    refine s_iload_n C dX4_carryOut_103 rfl rfl ?_
    obtain ⟨r4, I4, hh, h⟩ := bd_e h
    refine s_cV0 (st := []) C M.rg (Nat.le_trans (by decide) hd) mwX4_pourNow mlX4_65 dX4_carryOut_104 (wX4_pourNow (d := 45) (Nat.le_refl _)  hh) kk_0 rfl rfl (Nat.le_of_ble_eq_true rfl) ?_
    obtain ⟨rfl, rfl⟩ := pr_e h
    exact s_iret C M dX4_carryOut_107 rfl rfl (Nat.le_refl 0) (Nat.le_refl 0)
  have h := it_f c4 h
  refine s_lookup (off := 80) (tgt := 108) C dX4_carryOut_28 (by decide) (by simp only [Op.lookupswitch.offset_cons, Op.lookupswitch.offset_nil]; rw [if_neg (Ne.symm (ne_i 43 (by decide +kernel) c1)), if_neg (Ne.symm (ne_i 45 (by decide +kernel) c2)), if_neg (Ne.symm (ne_i 61 (by decide +kernel) c3)), if_neg (Ne.symm (ne_i 62 (by decide +kernel) c4))]) (by decide) ?_
  refine s_aload_n C dX4_carryOut_108 rfl rfl ?_
  refine s_iload_n C dX4_carryOut_109 rfl rfl ?_
  obtain ⟨r4, I4, hh, h⟩ := bd_e h
  refine s_cV0 (st := []) C M.rg (Nat.le_trans (by decide) hd) mwX4_limitNow mlX4_68 dX4_carryOut_110 (wX4_limitNow (d := 2) (Nat.le_refl _)  hh) kk_0 rfl rfl (Nat.le_of_ble_eq_true rfl) ?_
  obtain ⟨rfl, rfl⟩ := pr_e h
  exact s_iret C M dX4_carryOut_113 rfl rfl (Nat.le_refl 0) (Nat.le_refl 0)
theorem wX4_isBears {E : Ev} {d : Nat} (hd : 1 ≤ d) {x0 : Int32} {I I' : Mm} {r : Int32}  (h : fX4_isBears x0 I = some (r, I')) : SemM E d 0 0 mX4_isBears [.int x0] S0 I (some (.int r)) S0 I' := by
  unfold fX4_isBears at h
  refine SemM.ofX (E := E) (y := mX4_isBears) (args := fun E => [.int x0]) (r := fun E => (some (.int r))) (fun E => [some (.int x0)]) (by decide +kernel) (Nat.le_of_ble_eq_true rfl) rfl (fun X C M => ?_)
  refine s_iload_n C dX4_isBears_0 rfl rfl ?_
  refine s_bipush C dX4_isBears_1 bi_99 ?_
  refine s_icmp_lt (tgt := 17) C dX4_isBears_3 (by decide) (fun c => ?_) (fun c => ?_)
  · have h := it_t c h
    refine s_iconst C dX4_isBears_17 ic_0 ?_
    obtain ⟨rfl, rfl⟩ := pr_e h
    exact s_iret C M dX4_isBears_18 rfl (nz_b (by decide)) (Nat.le_refl 0) (Nat.le_refl 0)
  · have h := it_f c h
    refine s_iload_n C dX4_isBears_6 rfl rfl ?_
    refine s_sipush C dX4_isBears_7 si_999 ?_
    refine s_icmp_gt (tgt := 17) C dX4_isBears_10 (by decide) (fun c => ?_) (fun c => ?_)
    · have h := it_t c h
      refine s_iconst C dX4_isBears_17 ic_0 ?_
      obtain ⟨rfl, rfl⟩ := pr_e h
      exact s_iret C M dX4_isBears_18 rfl (nz_b (by decide)) (Nat.le_refl 0) (Nat.le_refl 0)
    · have h := it_f c h
      refine s_iconst C dX4_isBears_13 ic_1 ?_
      refine s_goto (tgt := 18) C dX4_isBears_14 (by decide) ?_
      obtain ⟨rfl, rfl⟩ := pr_e h
      exact s_iret C M dX4_isBears_18 rfl (nz_b (by decide)) (Nat.le_refl 0) (Nat.le_refl 0)
theorem wX4_cartOf {E : Ev} {d : Nat} (hd : 3 ≤ d) {x1 : Int32} {x2 : Int32} {x3 : Int32} {I I' : Mm} {r : Int32}  (h : fX4_cartOf x1 x2 x3 I = some (r, I')) : SemM E d 0 0 mX4_cartOf [rfE E 0, .int x1, .int x2, .int x3] S0 I (some (.int r)) S0 I' := by
  unfold fX4_cartOf at h
  refine SemM.ofX (E := E) (y := mX4_cartOf) (args := fun E => [rfE E 0, .int x1, .int x2, .int x3]) (r := fun E => (some (.int r))) (fun E => [some (rfE E 0), some (.int x1), some (.int x2), some (.int x3), none, none]) (by decide +kernel) (Nat.le_of_ble_eq_true rfl) rfl (fun X C M => ?_)
  refine s_aload_n C dX4_cartOf_0 rfl rfl ?_
  refine s_getR (b := 1) C dX4_cartOf_1 kk_0 foX4_10 rfl rk_0_0 ?_
  refine s_iload_n C dX4_cartOf_4 rfl rfl ?_
  obtain ⟨r1, I1, hh, h⟩ := bd_e h
  refine s_cV0 (st := []) C M.rg (Nat.le_trans (by decide) hd) mwX3_rickAt mlX4_71 dX4_cartOf_5 (wX3_rickAt (d := 1) (Nat.le_refl _) kk_1 hh) kk_1 rfl rfl (Nat.le_of_ble_eq_true rfl) ?_
  refine s_astore_o (ls' := [some (rfX X 0), some (.int x1), some (.int x2), some (.int x3), some (rvE (xE X) r1), none]) C dX4_cartOf_8 (by decide) (Nat.le_of_ble_eq_true rfl) rfl rfl ?_
  refine s_aload_o C dX4_cartOf_10 rfl ?_
  cases r1 with
  | none =>
    have h := on_n h
    refine s_ifnonnullN C dX4_cartOf_12 ?_
    refine s_bipush C dX4_cartOf_15 bi_m11 ?_
    obtain ⟨rfl, rfl⟩ := pr_e h
    exact s_iret C M dX4_cartOf_17 rfl rfl (Nat.le_refl 0) (Nat.le_refl 0)
  | some q1 =>
    obtain ⟨hq1, h⟩ := it_s (on_s h)
    refine s_ifnonnull (tgt := 18) C dX4_cartOf_12 (by decide) ?_
    refine s_aload C dX4_cartOf_18 rfl ?_
    refine s_iload_n C dX4_cartOf_20 rfl rfl ?_
    obtain ⟨r2, I2, hh, h⟩ := bd_e h
    refine s_cV0 (st := []) C M.rg (Nat.le_trans (by decide) hd) mwX1_find mlX4_75 dX4_cartOf_21 (wX1_find (d := 2) (Nat.le_refl _) hq1 hh) hq1 rfl rfl (Nat.le_of_ble_eq_true rfl) ?_
    refine s_istore (ls' := [some (rfX X 0), some (.int x1), some (.int x2), some (.int x3), some (rfX X q1), some (.int r2)]) C dX4_cartOf_24 (by decide) (Nat.le_of_ble_eq_true rfl) rfl rfl ?_
    refine s_iload C dX4_cartOf_26 rfl ?_
    refine s_iconst C dX4_cartOf_28 ic_m1 ?_
    refine s_icmp_ne (tgt := 35) C dX4_cartOf_29 (by decide) (fun c => ?_) (fun c => ?_)
    · have h := it_f c h
      refine s_iload_n C dX4_cartOf_35 rfl rfl ?_
      obtain ⟨r3, I3, hh, h⟩ := bd_e h
      refine s_cS0 (st := []) C M.rg (Nat.le_trans (by decide) hd) mwX4_isBears mlX4_155 dX4_cartOf_36 (wX4_isBears (d := 1) (Nat.le_refl _)  hh) rfl rfl (Nat.le_of_ble_eq_true rfl) ?_
      refine s_if_eq (tgt := 55) C dX4_cartOf_39 (by decide) (fun c => ?_) (fun c => ?_)
      · have h := it_t c h
        refine s_bipush C dX4_cartOf_55 bi_m12 ?_
        obtain ⟨rfl, rfl⟩ := pr_e h
        exact s_iret C M dX4_cartOf_57 rfl rfl (Nat.le_refl 0) (Nat.le_refl 0)
      · have h := it_f c h
        refine s_aload C dX4_cartOf_42 rfl ?_
        refine s_iload C dX4_cartOf_44 rfl ?_
        refine s_iload_n C dX4_cartOf_46 rfl rfl ?_
        obtain ⟨r4, I4, hh, h⟩ := bd_e h
        refine s_cV0 (st := []) C M.rg (Nat.le_trans (by decide) hd) mwX1_cartsUpTo mlX4_158 dX4_cartOf_47 (wX1_cartsUpTo (d := 2) (Nat.le_refl _) hq1 hh) hq1 rfl rfl (Nat.le_of_ble_eq_true rfl) ?_
        refine s_iconst C dX4_cartOf_50 ic_1 ?_
        refine s_isub C dX4_cartOf_51 ?_
        refine s_goto (tgt := 57) C dX4_cartOf_52 (by decide) ?_
        obtain ⟨rfl, rfl⟩ := pr_e h
        exact s_iret C M dX4_cartOf_57 rfl rfl (Nat.le_refl 0) (Nat.le_refl 0)
    · have h := it_t c h
      refine s_bipush C dX4_cartOf_32 bi_m11 ?_
      obtain ⟨rfl, rfl⟩ := pr_e h
      exact s_iret C M dX4_cartOf_34 rfl rfl (Nat.le_refl 0) (Nat.le_refl 0)
theorem wX4_carts {E : Ev} {d : Nat} (hd : 3 ≤ d) {x1 : Int32} {x2 : Int32} {I I' : Mm} {r : Int32}  (h : fX4_carts x1 x2 I = some (r, I')) : SemM E d 0 0 mX4_carts [rfE E 0, .int x1, .int x2] S0 I (some (.int r)) S0 I' := by
  unfold fX4_carts at h
  refine SemM.ofX (E := E) (y := mX4_carts) (args := fun E => [rfE E 0, .int x1, .int x2]) (r := fun E => (some (.int r))) (fun E => [some (rfE E 0), some (.int x1), some (.int x2), none]) (by decide +kernel) (Nat.le_of_ble_eq_true rfl) rfl (fun X C M => ?_)
  refine s_aload_n C dX4_carts_0 rfl rfl ?_
  refine s_getR (b := 1) C dX4_carts_1 kk_0 foX4_10 rfl rk_0_0 ?_
  refine s_iload_n C dX4_carts_4 rfl rfl ?_
  obtain ⟨r1, I1, hh, h⟩ := bd_e h
  refine s_cV0 (st := []) C M.rg (Nat.le_trans (by decide) hd) mwX3_rickAt mlX4_71 dX4_carts_5 (wX3_rickAt (d := 1) (Nat.le_refl _) kk_1 hh) kk_1 rfl rfl (Nat.le_of_ble_eq_true rfl) ?_
  refine s_astore_no (ls' := [some (rfX X 0), some (.int x1), some (.int x2), some (rvE (xE X) r1)]) C dX4_carts_8 rfl (by decide) (Nat.le_of_ble_eq_true rfl) rfl rfl ?_
  refine s_aload_no C dX4_carts_9 rfl rfl ?_
  cases r1 with
  | none =>
    have h := on_n h
    refine s_ifnonnullN C dX4_carts_10 ?_
    refine s_bipush C dX4_carts_13 bi_m11 ?_
    obtain ⟨rfl, rfl⟩ := pr_e h
    exact s_iret C M dX4_carts_15 rfl rfl (Nat.le_refl 0) (Nat.le_refl 0)
  | some q1 =>
    obtain ⟨hq1, h⟩ := it_s (on_s h)
    refine s_ifnonnull (tgt := 16) C dX4_carts_10 (by decide) ?_
    refine s_iload_n C dX4_carts_16 rfl rfl ?_
    obtain ⟨r2, I2, hh, h⟩ := bd_e h
    refine s_cS0 (st := []) C M.rg (Nat.le_trans (by decide) hd) mwX4_isBears mlX4_155 dX4_carts_17 (wX4_isBears (d := 1) (Nat.le_refl _)  hh) rfl rfl (Nat.le_of_ble_eq_true rfl) ?_
    refine s_if_eq (tgt := 37) C dX4_carts_20 (by decide) (fun c => ?_) (fun c => ?_)
    · have h := it_t c h
      refine s_bipush C dX4_carts_37 bi_m12 ?_
      obtain ⟨rfl, rfl⟩ := pr_e h
      exact s_iret C M dX4_carts_39 rfl rfl (Nat.le_refl 0) (Nat.le_refl 0)
    · have h := it_f c h
      refine s_aload_n C dX4_carts_23 rfl rfl ?_
      refine s_aload_n C dX4_carts_24 rfl rfl ?_
      refine s_getI C dX4_carts_25 hq1 foX4_111 rfl ?_
      refine s_iconst C dX4_carts_28 ic_1 ?_
      refine s_isub C dX4_carts_29 ?_
      refine s_iload_n C dX4_carts_30 rfl rfl ?_
      obtain ⟨r3, I3, hh, h⟩ := bd_e h
      refine s_cV0 (st := []) C M.rg (Nat.le_trans (by decide) hd) mwX1_cartsUpTo mlX4_158 dX4_carts_31 (wX1_cartsUpTo (d := 2) (Nat.le_refl _) hq1 hh) hq1 rfl rfl (Nat.le_of_ble_eq_true rfl) ?_
      refine s_goto (tgt := 39) C dX4_carts_34 (by decide) ?_
      obtain ⟨rfl, rfl⟩ := pr_e h
      exact s_iret C M dX4_carts_39 rfl rfl (Nat.le_refl 0) (Nat.le_refl 0)
theorem wX4_character {E : Ev} {d : Nat} (hd : 2 ≤ d) {x1 : Int32} {I I' : Mm} {r : Int32}  (h : fX4_character x1 I = some (r, I')) : SemM E d 0 0 mX4_character [rfE E 0, .int x1] S0 I (some (.int r)) S0 I' := by
  unfold fX4_character at h
  refine SemM.ofX (E := E) (y := mX4_character) (args := fun E => [rfE E 0, .int x1]) (r := fun E => (some (.int r))) (fun E => [some (rfE E 0), some (.int x1)]) (by decide +kernel) (Nat.le_of_ble_eq_true rfl) rfl (fun X C M => ?_)
  refine s_aload_n C dX4_character_0 rfl rfl ?_
  refine s_getR (b := 32) C dX4_character_1 kk_0 foX4_30 rfl rk_0_7 ?_
  refine s_iload_n C dX4_character_4 rfl rfl ?_
  obtain ⟨r1, I1, hh, h⟩ := bd_e h
  refine s_cV0 (st := []) C M.rg (Nat.le_trans (by decide) hd) mwX2_codeAt mlX4_203 dX4_character_5 (wX2_codeAt (d := 1) (Nat.le_refl _) kk_32 hh) kk_32 rfl rfl (Nat.le_of_ble_eq_true rfl) ?_
  obtain ⟨rfl, rfl⟩ := pr_e h
  exact s_iret C M dX4_character_8 rfl rfl (Nat.le_refl 0) (Nat.le_refl 0)
theorem wX4_giveBack {E : Ev} {d : Nat} (hd : 3 ≤ d)  {I I' : Mm} {r : Unit}  (h : fX4_giveBack  I = some (r, I')) : SemM E d 0 0 mX4_giveBack [rfE E 0] S0 I none S0 I' := by
  unfold fX4_giveBack at h
  refine SemM.ofX (E := E) (y := mX4_giveBack) (args := fun E => [rfE E 0]) (r := fun E => none) (fun E => [some (rfE E 0), none]) (by decide +kernel) (Nat.le_of_ble_eq_true rfl) rfl (fun X C M => ?_)
  refine s_aload_n C dX4_giveBack_0 rfl rfl ?_
  obtain ⟨r1, I1, hh, h⟩ := bd_e h
  refine s_cV0 (st := []) C M.rg (Nat.le_trans (by decide) hd) mwX4_beforeNow mlX4_272 dX4_giveBack_1 (wX4_beforeNow (d := 1) (Nat.le_refl _)  hh) kk_0 rfl rfl (Nat.le_of_ble_eq_true rfl) ?_
  refine s_astore_no (ls' := [some (rfX X 0), some (rvE (xE X) r1)]) C dX4_giveBack_4 rfl (by decide) (Nat.le_of_ble_eq_true rfl) rfl rfl ?_
  refine s_aload_no C dX4_giveBack_5 rfl rfl ?_
  cases r1 with
  | none =>
    have h := on_n h
    refine s_ifnullN (tgt := 17) C dX4_giveBack_6 (by decide) ?_
    obtain ⟨rfl, rfl⟩ := pr_e h
    exact s_vret C M dX4_giveBack_17 rfl (Nat.le_refl 0) (Nat.le_refl 0)
  | some q1 =>
    obtain ⟨hq1, h⟩ := it_s (on_s h)
    refine s_ifnull C dX4_giveBack_6 ?_
    refine s_aload_n C dX4_giveBack_9 rfl rfl ?_
    refine s_getR (b := 1) C dX4_giveBack_10 kk_0 foX4_10 rfl rk_0_0 ?_
    refine s_aload_n C dX4_giveBack_13 rfl rfl ?_
    obtain ⟨r2, I2, hh, h⟩ := bd_e h
    refine s_cV0 (st := []) C M.rg (Nat.le_trans (by decide) hd) mwX3_copyFrom mlX4_237 dX4_giveBack_14 (wX3_copyFrom (d := 2) (Nat.le_refl _) kk_1 hq1 hh) kk_1 rfl rfl (Nat.le_of_ble_eq_true rfl) ?_
    obtain ⟨rfl, rfl⟩ := pr_e h
    exact s_vret C M dX4_giveBack_17 rfl (Nat.le_refl 0) (Nat.le_refl 0)
theorem wX4_heaviest_p22 {X : Cx} {d : Nat} (hd : 3 ≤ d) (C : CtxOK X mX4_heaviest) : ∀ (n : Nat) {x1 : Int32} {x2 : Int32} {x3 : Int32} {I I' : Mm} {r : Int32}  (_ : fX4_heaviest_p22 n x1 x2 x3 I = some (r, I')) (_ : MX X (xE X) d 0 0 (some (.int r)) S0 I'), WM X mX4_heaviest 22 [some (rfX X 0), some (.int x1), some (.int x2), some (.int x3)] [] S0 I 0 0 := by
  intro n
  induction n with
  | zero => intro x1 x2 x3 I I' r  h M; exact absurd h (by simp [fX4_heaviest_p22])
  | succ n ih =>
    intro x1 x2 x3 I I' r  h M
    rw [fX4_heaviest_p22] at h
    refine s_iload_n C dX4_heaviest_22 rfl rfl ?_
    refine s_iload_n C dX4_heaviest_23 rfl rfl ?_
    refine s_icmp_gt (tgt := 42) C dX4_heaviest_24 (by decide) (fun c => ?_) (fun c => ?_)
    · have h := it_t c h
      refine s_iload_n C dX4_heaviest_42 rfl rfl ?_
      refine s_iconst C dX4_heaviest_43 ic_3 ?_
      refine s_irem C dX4_heaviest_44 (by decide) ?_
      refine s_sipush C dX4_heaviest_45 si_1000 ?_
      refine s_imul C dX4_heaviest_48 ?_
      refine s_iload_n C dX4_heaviest_49 rfl rfl ?_
      refine s_iconst C dX4_heaviest_50 ic_3 ?_
      refine s_idiv C dX4_heaviest_51 (by decide) ?_
      refine s_sipush C dX4_heaviest_52 si_1000 ?_
      refine s_irem C dX4_heaviest_55 (by decide) ?_
      refine s_iadd C dX4_heaviest_56 ?_
      obtain ⟨rfl, rfl⟩ := pr_e h
      exact s_iret C M dX4_heaviest_57 rfl rfl (Nat.le_refl 0) (Nat.le_refl 0)
    · have h := it_f c h
      refine s_aload_n C dX4_heaviest_27 rfl rfl ?_
      refine s_getR (b := 1) C dX4_heaviest_28 kk_0 foX4_10 rfl rk_0_0 ?_
      refine s_iload_n C dX4_heaviest_31 rfl rfl ?_
      obtain ⟨r1, I1, hh, h⟩ := bd_e h
      refine s_cV0 (st := []) C M.rg (Nat.le_trans (by decide) hd) mwX3_keyAfter mlX4_152 dX4_heaviest_32 (wX3_keyAfter (d := 2) (Nat.le_refl _) kk_1 hh) kk_1 rfl rfl (Nat.le_of_ble_eq_true rfl) ?_
      refine s_istore_n (ls' := [some (rfX X 0), some (.int x1), some (.int r1), some (.int x3)]) C dX4_heaviest_35 rfl (by decide) (Nat.le_of_ble_eq_true rfl) rfl rfl ?_
      obtain ⟨v1, ev1, h⟩ := ltm_e h
      refine s_iinc (v := v1) (ls' := [some (rfX X 0), some (.int x1), some (.int r1), some (.int v1)]) C dX4_heaviest_36 rfl (by decide) (Nat.le_of_ble_eq_true rfl) (by rw [ev1, ic_1]) rfl rfl ?_
      refine s_goto (tgt := 22) C dX4_heaviest_39 (by decide) ?_
      exact ih  h M
theorem wX4_heaviest {E : Ev} {d : Nat} (hd : 3 ≤ d) {x1 : Int32} {I I' : Mm} {r : Int32}  (h : fX4_heaviest x1 I = some (r, I')) : SemM E d 0 0 mX4_heaviest [rfE E 0, .int x1] S0 I (some (.int r)) S0 I' := by
  unfold fX4_heaviest at h
  refine SemM.ofX (E := E) (y := mX4_heaviest) (args := fun E => [rfE E 0, .int x1]) (r := fun E => (some (.int r))) (fun E => [some (rfE E 0), some (.int x1), none, none]) (by decide +kernel) (Nat.le_of_ble_eq_true rfl) rfl (fun X C M => ?_)
  refine s_iload_n C dX4_heaviest_0 rfl rfl ?_
  refine s_if_lt (tgt := 15) C dX4_heaviest_1 (by decide) (fun c => ?_) (fun c => ?_)
  · have h := it_t c h
    refine s_bipush C dX4_heaviest_15 bi_m11 ?_
    obtain ⟨rfl, rfl⟩ := pr_e h
    exact s_iret C M dX4_heaviest_17 rfl rfl (Nat.le_refl 0) (Nat.le_refl 0)
  · have h := it_f c h
    refine s_iload_n C dX4_heaviest_4 rfl rfl ?_
    refine s_aload_n C dX4_heaviest_5 rfl rfl ?_
    refine s_getR (b := 1) C dX4_heaviest_6 kk_0 foX4_10 rfl rk_0_0 ?_
    obtain ⟨r1, I1, hh, h⟩ := bd_e h
    refine s_cV0 (st := [.int x1]) C M.rg (Nat.le_trans (by decide) hd) mwX3_sheaves mlX4_149 dX4_heaviest_9 (wX3_sheaves (d := 2) (Nat.le_refl _) kk_1 hh) kk_1 rfl rfl (Nat.le_of_ble_eq_true rfl) ?_
    refine s_icmp_lt (tgt := 18) C dX4_heaviest_12 (by decide) (fun c => ?_) (fun c => ?_)
    · have h := it_t c h
      refine s_iconst C dX4_heaviest_18 ic_m1 ?_
      refine s_istore_n (ls' := [some (rfX X 0), some (.int x1), some (.int (-1)), none]) C dX4_heaviest_19 rfl (by decide) (Nat.le_of_ble_eq_true rfl) rfl rfl ?_
      refine s_iconst C dX4_heaviest_20 ic_0 ?_
      refine s_istore_n (ls' := [some (rfX X 0), some (.int x1), some (.int (-1)), some (.int 0)]) C dX4_heaviest_21 rfl (by decide) (Nat.le_of_ble_eq_true rfl) rfl rfl ?_
      exact wX4_heaviest_p22 hd C _  h M
    · have h := it_f c h
      refine s_bipush C dX4_heaviest_15 bi_m11 ?_
      obtain ⟨rfl, rfl⟩ := pr_e h
      exact s_iret C M dX4_heaviest_17 rfl rfl (Nat.le_refl 0) (Nat.le_refl 0)
theorem wX4_isTree : ∀ (n : Nat) {E : Ev} {d : Nat} (_ : 3 + n ≤ d) {x0 : Nat} {x1 : Int32} {x2 : Int32} {x3 : Int32} {I I' : Mm} {r : Int32} (hx0 : kd0 x0 = 1) (_ : fX4_isTree n x0 x1 x2 x3 I = some (r, I')), SemM E d 0 0 mX4_isTree [rfE E x0, .int x1, .int x2, .int x3] S0 I (some (.int r)) S0 I' := by
  intro n
  induction n with
  | zero => intro E d hd x0 x1 x2 x3 I I' r hx0 h; exact absurd h (by simp [fX4_isTree])
  | succ n ih =>
    intro E d hd x0 x1 x2 x3 I I' r hx0 h
    rw [fX4_isTree] at h
    refine SemM.ofX (E := E) (y := mX4_isTree) (args := fun E => [rfE E x0, .int x1, .int x2, .int x3]) (r := fun E => (some (.int r))) (fun E => [some (rfE E x0), some (.int x1), some (.int x2), some (.int x3), none]) (by decide +kernel) (Nat.le_of_ble_eq_true rfl) rfl (fun X C M => ?_)
    refine s_iload_n C dX4_isTree_0 rfl rfl ?_
    refine s_iload_n C dX4_isTree_1 rfl rfl ?_
    refine s_icmp_le (tgt := 7) C dX4_isTree_2 (by decide) (fun c => ?_) (fun c => ?_)
    · have h := it_t c h
      refine s_aload_n C dX4_isTree_7 rfl rfl ?_
      refine s_iload_n C dX4_isTree_8 rfl rfl ?_
      refine s_iload_n C dX4_isTree_9 rfl rfl ?_
      obtain ⟨r1, I1, hh, h⟩ := bd_e h
      refine s_cV0 (st := []) C M.rg (Nat.le_trans (by omega) hd) mwX1_topOf mlX4_108 dX4_isTree_10 (wX1_topOf (d := 2) (Nat.le_refl _) hx0 hh) hx0 rfl rfl (Nat.le_of_ble_eq_true rfl) ?_
      refine s_istore (ls' := [some (rfX X x0), some (.int x1), some (.int x2), some (.int x3), some (.int r1)]) C dX4_isTree_13 (by decide) (Nat.le_of_ble_eq_true rfl) rfl rfl ?_
      refine s_iload_n C dX4_isTree_15 rfl rfl ?_
      refine s_bipush C dX4_isTree_16 bi_30 ?_
      refine s_icmp_gt (tgt := 65) C dX4_isTree_18 (by decide) (fun c => ?_) (fun c => ?_)
      · have h := it_t c h
        refine s_iconst C dX4_isTree_65 ic_0 ?_
        obtain ⟨rfl, rfl⟩ := pr_e h
        exact s_iret C M dX4_isTree_66 rfl (nz_b (by decide)) (Nat.le_refl 0) (Nat.le_refl 0)
      · have h := it_f c h
        refine s_aload_n C dX4_isTree_21 rfl rfl ?_
        refine s_iload C dX4_isTree_22 rfl ?_
        obtain ⟨r2, I2, hh, h⟩ := bd_e h
        refine s_cV0 (st := []) C M.rg (Nat.le_trans (by omega) hd) mwX1_depthAt mlX4_89 dX4_isTree_24 (wX1_depthAt (d := 1) (Nat.le_refl _) hx0 hh) hx0 rfl rfl (Nat.le_of_ble_eq_true rfl) ?_
        refine s_iload_n C dX4_isTree_27 rfl rfl ?_
        refine s_icmp_ne (tgt := 65) C dX4_isTree_28 (by decide) (fun c => ?_) (fun c => ?_)
        · have h := it_f c h
          refine s_iconst C dX4_isTree_65 ic_0 ?_
          obtain ⟨rfl, rfl⟩ := pr_e h
          exact s_iret C M dX4_isTree_66 rfl (nz_b (by decide)) (Nat.le_refl 0) (Nat.le_refl 0)
        · have h := it_t c h
          refine s_aload_n C dX4_isTree_31 rfl rfl ?_
          refine s_iload_n C dX4_isTree_32 rfl rfl ?_
          refine s_iload C dX4_isTree_33 rfl ?_
          refine s_iconst C dX4_isTree_35 ic_1 ?_
          refine s_isub C dX4_isTree_36 ?_
          refine s_iload_n C dX4_isTree_37 rfl rfl ?_
          refine s_iconst C dX4_isTree_38 ic_1 ?_
          refine s_iadd C dX4_isTree_39 ?_
          obtain ⟨r3, I3, hh, h⟩ := bd_e h
          refine s_cS0 (st := []) C M.rg (Nat.le_trans (by omega) hd) mwX4_isTree mlX4_286 dX4_isTree_40 (ih (d := 3 + n) (Nat.le_refl _) hx0 hh) rfl rfl (Nat.le_of_ble_eq_true rfl) ?_
          refine s_if_eq (tgt := 65) C dX4_isTree_43 (by decide) (fun c => ?_) (fun c => ?_)
          · have h := it_t c h
            refine s_iconst C dX4_isTree_65 ic_0 ?_
            obtain ⟨rfl, rfl⟩ := pr_e h
            exact s_iret C M dX4_isTree_66 rfl (nz_b (by decide)) (Nat.le_refl 0) (Nat.le_refl 0)
          · have h := it_f c h
            refine s_aload_n C dX4_isTree_46 rfl rfl ?_
            refine s_iload C dX4_isTree_47 rfl ?_
            refine s_iconst C dX4_isTree_49 ic_1 ?_
            refine s_iadd C dX4_isTree_50 ?_
            refine s_iload_n C dX4_isTree_51 rfl rfl ?_
            refine s_iload_n C dX4_isTree_52 rfl rfl ?_
            refine s_iconst C dX4_isTree_53 ic_1 ?_
            refine s_iadd C dX4_isTree_54 ?_
            obtain ⟨r4, I4, hh, h⟩ := bd_e h
            refine s_cS0 (st := []) C M.rg (Nat.le_trans (by omega) hd) mwX4_isTree mlX4_286 dX4_isTree_55 (ih (d := 3 + n) (Nat.le_refl _) hx0 hh) rfl rfl (Nat.le_of_ble_eq_true rfl) ?_
            refine s_if_eq (tgt := 65) C dX4_isTree_58 (by decide) (fun c => ?_) (fun c => ?_)
            · have h := it_t c h
              refine s_iconst C dX4_isTree_65 ic_0 ?_
              obtain ⟨rfl, rfl⟩ := pr_e h
              exact s_iret C M dX4_isTree_66 rfl (nz_b (by decide)) (Nat.le_refl 0) (Nat.le_refl 0)
            · have h := it_f c h
              refine s_iconst C dX4_isTree_61 ic_1 ?_
              refine s_goto (tgt := 66) C dX4_isTree_62 (by decide) ?_
              obtain ⟨rfl, rfl⟩ := pr_e h
              exact s_iret C M dX4_isTree_66 rfl (nz_b (by decide)) (Nat.le_refl 0) (Nat.le_refl 0)
    · have h := it_f c h
      refine s_iconst C dX4_isTree_5 ic_1 ?_
      obtain ⟨rfl, rfl⟩ := pr_e h
      exact s_iret C M dX4_isTree_6 rfl (nz_b (by decide)) (Nat.le_refl 0) (Nat.le_refl 0)
theorem wX4_isSound_p26 {X : Cx} {d : Nat} (hd : 44 ≤ d) (C : CtxOK X mX4_isSound) : ∀ (n : Nat) {x0 : Nat} {x1 : Int32} {I I' : Mm} {r : Int32} (hx0 : kd0 x0 = 1) (_ : fX4_isSound_p26 n x0 x1 I = some (r, I')) (_ : MX X (xE X) d 0 0 (some (.int r)) S0 I'), WM X mX4_isSound 26 [some (rfX X x0), some (.int x1), none] [] S0 I 0 0 := by
  intro n
  induction n with
  | zero => intro x0 x1 I I' r hx0 h M; exact absurd h (by simp [fX4_isSound_p26])
  | succ n ih =>
    intro x0 x1 I I' r hx0 h M
    rw [fX4_isSound_p26] at h
    refine s_iload_n C dX4_isSound_26 rfl rfl ?_
    refine s_aload_n C dX4_isSound_27 rfl rfl ?_
    refine s_getI C dX4_isSound_28 hx0 foX4_111 rfl ?_
    refine s_icmp_ge (tgt := 76) C dX4_isSound_31 (by decide) (fun c => ?_) (fun c => ?_)
    · have h := it_t c h
      refine s_iconst C dX4_isSound_76 ic_1 ?_
      obtain ⟨rfl, rfl⟩ := pr_e h
      exact s_iret C M dX4_isSound_77 rfl (nz_b (by decide)) (Nat.le_refl 0) (Nat.le_refl 0)
    · have h := it_f c h
      refine s_aload_n C dX4_isSound_34 rfl rfl ?_
      refine s_iload_n C dX4_isSound_35 rfl rfl ?_
      obtain ⟨r1, I1, hh, h⟩ := bd_e h
      refine s_cV0 (st := []) C M.rg (Nat.le_trans (by decide) hd) mwX1_weightAt mlX4_105 dX4_isSound_36 (wX1_weightAt (d := 1) (Nat.le_refl _) hx0 hh) hx0 rfl rfl (Nat.le_of_ble_eq_true rfl) ?_
      refine s_istore_n (ls' := [some (rfX X x0), some (.int x1), some (.int r1)]) C dX4_isSound_39 rfl (by decide) (Nat.le_of_ble_eq_true rfl) rfl rfl ?_
      refine s_aload_n C dX4_isSound_40 rfl rfl ?_
      refine s_iload_n C dX4_isSound_41 rfl rfl ?_
      obtain ⟨r2, I2, hh, h⟩ := bd_e h
      refine s_cV0 (st := []) C M.rg (Nat.le_trans (by decide) hd) mwX1_lighterByParts mlX4_133 dX4_isSound_42 (wX1_lighterByParts (d := 3) (Nat.le_refl _) hx0 hh) hx0 rfl rfl (Nat.le_of_ble_eq_true rfl) ?_
      refine s_aload_n C dX4_isSound_45 rfl rfl ?_
      refine s_iload_n C dX4_isSound_46 rfl rfl ?_
      obtain ⟨r3, I3, hh, h⟩ := bd_e h
      refine s_cV0 (st := [.int r2]) C M.rg (Nat.le_trans (by decide) hd) mwX1_lighterOneByOne mlX4_136 dX4_isSound_47 (wX1_lighterOneByOne (d := 2) (Nat.le_refl _) hx0 hh) hx0 rfl rfl (Nat.le_of_ble_eq_true rfl) ?_
      refine s_icmp_ne (tgt := 68) C dX4_isSound_50 (by decide) (fun c => ?_) (fun c => ?_)
      · have h := it_f c h
        refine s_iconst C dX4_isSound_68 ic_0 ?_
        obtain ⟨rfl, rfl⟩ := pr_e h
        exact s_iret C M dX4_isSound_69 rfl (nz_b (by decide)) (Nat.le_refl 0) (Nat.le_refl 0)
      · have h := it_t c h
        refine s_aload_n C dX4_isSound_53 rfl rfl ?_
        refine s_iconst C dX4_isSound_54 ic_0 ?_
        refine s_iload_n C dX4_isSound_55 rfl rfl ?_
        obtain ⟨r4, I4, hh, h⟩ := bd_e h
        refine s_cV0 (st := []) C M.rg (Nat.le_trans (by decide) hd) mwX1_loadsByParts mlX4_143 dX4_isSound_56 (wX1_loadsByParts (d := 4) (Nat.le_refl _) hx0 hh) hx0 rfl rfl (Nat.le_of_ble_eq_true rfl) ?_
        refine s_aload_n C dX4_isSound_59 rfl rfl ?_
        refine s_iconst C dX4_isSound_60 ic_0 ?_
        refine s_iload_n C dX4_isSound_61 rfl rfl ?_
        obtain ⟨r5, I5, hh, h⟩ := bd_e h
        refine s_cV0 (st := [.int r4]) C M.rg (Nat.le_trans (by decide) hd) mwX1_loadsOneByOne mlX4_146 dX4_isSound_62 (wX1_loadsOneByOne (d := 2) (Nat.le_refl _) hx0 hh) hx0 rfl rfl (Nat.le_of_ble_eq_true rfl) ?_
        refine s_icmp_eq (tgt := 70) C dX4_isSound_65 (by decide) (fun c => ?_) (fun c => ?_)
        · have h := it_t c h
          obtain ⟨v1, ev1, h⟩ := ltm_e h
          refine s_iinc (v := v1) (ls' := [some (rfX X x0), some (.int v1), some (.int r1)]) C dX4_isSound_70 rfl (by decide) (Nat.le_of_ble_eq_true rfl) (by rw [ev1, ic_1]) rfl rfl ?_
          refine s_goto (tgt := 26) C dX4_isSound_73 (by decide) ?_
          refine s_weak (ls' := [some (rfX X x0), some (.int v1), none]) [true, true, false] rfl ?_
          exact ih hx0 h M
        · have h := it_f c h
          refine s_iconst C dX4_isSound_68 ic_0 ?_
          obtain ⟨rfl, rfl⟩ := pr_e h
          exact s_iret C M dX4_isSound_69 rfl (nz_b (by decide)) (Nat.le_refl 0) (Nat.le_refl 0)
