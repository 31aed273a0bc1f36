theorem wX1_loadsOneByOne {E : Ev} {d : Nat} (hd : 2 ≤ d) {x0 : Nat} {x1 : Int32} {x2 : Int32} {I I' : Mm} {r : Int32} (hx0 : kd0 x0 = 1) (h : fX1_loadsOneByOne x0 x1 x2 I = some (r, I')) : SemM E d 0 0 mX1_loadsOneByOne [rfE E x0, .int x1, .int x2] S0 I (some (.int r)) S0 I' := by
  unfold fX1_loadsOneByOne at h
  refine SemM.ofX (E := E) (y := mX1_loadsOneByOne) (args := fun E => [rfE E x0, .int x1, .int x2]) (r := fun E => (some (.int r))) (fun E => [some (rfE E x0), some (.int x1), some (.int x2), none, none]) (by decide +kernel) (Nat.le_of_ble_eq_true rfl) rfl (fun X C M => ?_)
  refine s_iconst C dX1_loadsOneByOne_0 ic_0 ?_
  refine s_istore_n (ls' := [some (rfX X x0), some (.int x1), some (.int x2), some (.int 0), none]) C dX1_loadsOneByOne_1 rfl (by decide) (Nat.le_of_ble_eq_true rfl) rfl rfl ?_
  refine s_iconst C dX1_loadsOneByOne_2 ic_0 ?_
  refine s_istore (ls' := [some (rfX X x0), some (.int x1), some (.int x2), some (.int 0), some (.int 0)]) C dX1_loadsOneByOne_3 (by decide) (Nat.le_of_ble_eq_true rfl) rfl rfl ?_
  exact wX1_loadsOneByOne_p5 hd C _ hx0 h M
theorem wX4_betweenAgain {E : Ev} {d : Nat} (hd : 3 ≤ d) {x1 : Int32} {x2 : Int32} {x3 : Int32} {I I' : Mm} {r : Int32}  (h : fX4_betweenAgain x1 x2 x3 I = some (r, I')) : SemM E d 0 0 mX4_betweenAgain [rfE E 0, .int x1, .int x2, .int x3] S0 I (some (.int r)) S0 I' := by
  unfold fX4_betweenAgain at h
  refine SemM.ofX (E := E) (y := mX4_betweenAgain) (args := fun E => [rfE E 0, .int x1, .int x2, .int x3]) (r := fun E => (some (.int r))) (fun E => [some (rfE E 0), some (.int x1), some (.int x2), some (.int x3), none]) (by decide +kernel) (Nat.le_of_ble_eq_true rfl) rfl (fun X C M => ?_)
  refine s_aload_n C dX4_betweenAgain_0 rfl rfl ?_
  refine s_getR (b := 1) C dX4_betweenAgain_1 kk_0 foX4_10 rfl rk_0_0 ?_
  refine s_iload_n C dX4_betweenAgain_4 rfl rfl ?_
  obtain ⟨r1, I1, hh, h⟩ := bd_e h
  refine s_cV0 (st := []) C M.rg (Nat.le_trans (by decide) hd) mwX3_rickAt mlX4_71 dX4_betweenAgain_5 (wX3_rickAt (d := 1) (Nat.le_refl _) kk_1 hh) kk_1 rfl rfl (Nat.le_of_ble_eq_true rfl) ?_
  refine s_astore_o (ls' := [some (rfX X 0), some (.int x1), some (.int x2), some (.int x3), some (rvE (xE X) r1)]) C dX4_betweenAgain_8 (by decide) (Nat.le_of_ble_eq_true rfl) rfl rfl ?_
  refine s_aload_o C dX4_betweenAgain_10 rfl ?_
  cases r1 with
  | none =>
    have h := on_n h
    refine s_ifnonnullN C dX4_betweenAgain_12 ?_
    refine s_bipush C dX4_betweenAgain_15 bi_m11 ?_
    refine s_goto (tgt := 27) C dX4_betweenAgain_17 (by decide) ?_
    obtain ⟨rfl, rfl⟩ := pr_e h
    exact s_iret C M dX4_betweenAgain_27 rfl rfl (Nat.le_refl 0) (Nat.le_refl 0)
  | some q1 =>
    obtain ⟨hq1, h⟩ := it_s (on_s h)
    refine s_ifnonnull (tgt := 20) C dX4_betweenAgain_12 (by decide) ?_
    refine s_aload C dX4_betweenAgain_20 rfl ?_
    refine s_iload_n C dX4_betweenAgain_22 rfl rfl ?_
    refine s_iload_n C dX4_betweenAgain_23 rfl rfl ?_
    obtain ⟨r2, I2, hh, h⟩ := bd_e h
    refine s_cV0 (st := []) C M.rg (Nat.le_trans (by decide) hd) mwX1_loadsOneByOne mlX4_146 dX4_betweenAgain_24 (wX1_loadsOneByOne (d := 2) (Nat.le_refl _) hq1 hh) hq1 rfl rfl (Nat.le_of_ble_eq_true rfl) ?_
    obtain ⟨rfl, rfl⟩ := pr_e h
    exact s_iret C M dX4_betweenAgain_27 rfl rfl (Nat.le_refl 0) (Nat.le_refl 0)
theorem wX4_shareBits_p15 {X : Cx} {d : Nat} (hd : 1 ≤ d) (C : CtxOK X mX4_shareBits) : ∀ (n : Nat) {x1 : UInt32} {x2 : Int32} {x3 : Int32} {I I' : Mm} {r : Int32}  (_ : fX4_shareBits_p15 n x1 x2 x3 I = some (r, I')) (_ : MX X (xE X) d 0 0 (some (.int r)) S0 I'), WM X mX4_shareBits 15 [none, some (.float x1), some (.int x2), some (.int x3)] [] S0 I 0 0 := by
  intro n
  induction n with
  | zero => intro x1 x2 x3 I I' r  h M; exact absurd h (by simp [fX4_shareBits_p15])
  | succ n ih =>
    intro x1 x2 x3 I I' r  h M
    rw [fX4_shareBits_p15] at h
    refine s_iload_n C dX4_shareBits_15 rfl rfl ?_
    refine s_bipush C dX4_shareBits_16 bi_64 ?_
    refine s_icmp_ge (tgt := 40) C dX4_shareBits_18 (by decide) (fun c => ?_) (fun c => ?_)
    · have h := it_t c h
      refine s_iload_n C dX4_shareBits_40 rfl rfl ?_
      refine s_bipush C dX4_shareBits_41 bi_23 ?_
      refine s_ishl C dX4_shareBits_43 ?_
      refine s_fload_n C dX4_shareBits_44 rfl rfl ?_
      refine s_fconst1 C dX4_shareBits_45 ?_
      obtain ⟨hnan, h⟩ := it_s h
      refine s_fsub C dX4_shareBits_46 hnan ?_
      obtain ⟨v1, ev1, h⟩ := ltm_e h
      refine s_top_f ev1 ?_
      refine s_ldcwf C dX4_shareBits_47 coX4_290 ?_
      obtain ⟨hnan, h⟩ := it_s h
      refine s_fmul C dX4_shareBits_50 hnan ?_
      obtain ⟨v2, ev2, h⟩ := ltm_e h
      refine s_top_f ev2 ?_
      refine s_f2i C dX4_shareBits_51 ?_
      refine s_iadd C dX4_shareBits_52 ?_
      obtain ⟨rfl, rfl⟩ := pr_e h
      exact s_iret C M dX4_shareBits_53 rfl rfl (Nat.le_refl 0) (Nat.le_refl 0)
    · have h := it_f c h
      refine s_fload_n C dX4_shareBits_21 rfl rfl ?_
      refine s_fconst1 C dX4_shareBits_22 ?_
      refine s_fcmp C dX4_shareBits_23 ?_
      refine s_if_ge (tgt := 40) C dX4_shareBits_24 (by decide) (fun c => ?_) (fun c => ?_)
      · have h := it_t c h
        refine s_iload_n C dX4_shareBits_40 rfl rfl ?_
        refine s_bipush C dX4_shareBits_41 bi_23 ?_
        refine s_ishl C dX4_shareBits_43 ?_
        refine s_fload_n C dX4_shareBits_44 rfl rfl ?_
        refine s_fconst1 C dX4_shareBits_45 ?_
        obtain ⟨hnan, h⟩ := it_s h
        refine s_fsub C dX4_shareBits_46 hnan ?_
        obtain ⟨v1, ev1, h⟩ := ltm_e h
        refine s_top_f ev1 ?_
        refine s_ldcwf C dX4_shareBits_47 coX4_290 ?_
        obtain ⟨hnan, h⟩ := it_s h
        refine s_fmul C dX4_shareBits_50 hnan ?_
        obtain ⟨v2, ev2, h⟩ := ltm_e h
        refine s_top_f ev2 ?_
        refine s_f2i C dX4_shareBits_51 ?_
        refine s_iadd C dX4_shareBits_52 ?_
        obtain ⟨rfl, rfl⟩ := pr_e h
        exact s_iret C M dX4_shareBits_53 rfl rfl (Nat.le_refl 0) (Nat.le_refl 0)
      · have h := it_f c h
        refine s_fload_n C dX4_shareBits_27 rfl rfl ?_
        refine s_fconst2 C dX4_shareBits_28 ?_
        obtain ⟨hnan, h⟩ := it_s h
        refine s_fmul C dX4_shareBits_29 hnan ?_
        obtain ⟨v1, ev1, h⟩ := ltm_e h
        refine s_top_f ev1 ?_
        refine s_fstore_n (ls' := [none, some (.float v1), some (.int x2), some (.int x3)]) C dX4_shareBits_30 rfl (by decide) (Nat.le_of_ble_eq_true rfl) rfl rfl ?_
        obtain ⟨v2, ev2, h⟩ := ltm_e h
        refine s_iinc (v := v2) (ls' := [none, some (.float v1), some (.int v2), some (.int x3)]) C dX4_shareBits_31 rfl (by decide) (Nat.le_of_ble_eq_true rfl) (by rw [ev2, ic_m1]) rfl rfl ?_
        obtain ⟨v3, ev3, h⟩ := ltm_e h
        refine s_iinc (v := v3) (ls' := [none, some (.float v1), some (.int v2), some (.int v3)]) C dX4_shareBits_34 rfl (by decide) (Nat.le_of_ble_eq_true rfl) (by rw [ev3, ic_1]) rfl rfl ?_
        refine s_goto (tgt := 15) C dX4_shareBits_37 (by decide) ?_
        exact ih  h M
theorem wX4_shareBits {E : Ev} {d : Nat} (hd : 1 ≤ d) {x0 : UInt32} {I I' : Mm} {r : Int32}  (h : fX4_shareBits x0 I = some (r, I')) : SemM E d 0 0 mX4_shareBits [.float x0] S0 I (some (.int r)) S0 I' := by
  unfold fX4_shareBits at h
  refine SemM.ofX (E := E) (y := mX4_shareBits) (args := fun E => [.float x0]) (r := fun E => (some (.int r))) (fun E => [some (.float x0), none, none, none]) (by decide +kernel) (Nat.le_of_ble_eq_true rfl) rfl (fun X C M => ?_)
  refine s_fload_n C dX4_shareBits_0 rfl rfl ?_
  refine s_fconst0 C dX4_shareBits_1 ?_
  refine s_fcmp C dX4_shareBits_2 ?_
  refine s_if_gt (tgt := 8) C dX4_shareBits_3 (by decide) (fun c => ?_) (fun c => ?_)
  · have h := it_t c h
    refine s_fload_n C dX4_shareBits_8 rfl rfl ?_
    refine s_fstore_n (ls' := [some (.float x0), some (.float x0), none, none]) C dX4_shareBits_9 rfl (by decide) (Nat.le_of_ble_eq_true rfl) rfl rfl ?_
    refine s_bipush C dX4_shareBits_10 bi_127 ?_
    refine s_istore_n (ls' := [some (.float x0), some (.float x0), some (.int 127), none]) C dX4_shareBits_12 rfl (by decide) (Nat.le_of_ble_eq_true rfl) rfl rfl ?_
    refine s_iconst C dX4_shareBits_13 ic_0 ?_
    refine s_istore_n (ls' := [some (.float x0), some (.float x0), some (.int 127), some (.int 0)]) C dX4_shareBits_14 rfl (by decide) (Nat.le_of_ble_eq_true rfl) rfl rfl ?_
    refine s_weak (ls' := [none, some (.float x0), some (.int 127), some (.int 0)]) [false, true, true, true] rfl ?_
    exact wX4_shareBits_p15 hd C _  h M
  · have h := it_f c h
    refine s_iconst C dX4_shareBits_6 ic_0 ?_
    obtain ⟨rfl, rfl⟩ := pr_e h
    exact s_iret C M dX4_shareBits_7 rfl rfl (Nat.le_refl 0) (Nat.le_refl 0)
theorem wX4_leaningShare {E : Ev} {d : Nat} (hd : 5 ≤ d) {x1 : Int32} {I I' : Mm} {r : Int32}  (h : fX4_leaningShare x1 I = some (r, I')) : SemM E d 0 0 mX4_leaningShare [rfE E 0, .int x1] S0 I (some (.int r)) S0 I' := by
  unfold fX4_leaningShare at h
  refine SemM.ofX (E := E) (y := mX4_leaningShare) (args := fun E => [rfE E 0, .int x1]) (r := fun E => (some (.int r))) (fun E => [some (rfE E 0), some (.int x1), none]) (by decide +kernel) (Nat.le_of_ble_eq_true rfl) rfl (fun X C M => ?_)
  refine s_aload_n C dX4_leaningShare_0 rfl rfl ?_
  refine s_getR (b := 1) C dX4_leaningShare_1 kk_0 foX4_10 rfl rk_0_0 ?_
  refine s_iload_n C dX4_leaningShare_4 rfl rfl ?_
  obtain ⟨r1, I1, hh, h⟩ := bd_e h
  refine s_cV0 (st := []) C M.rg (Nat.le_trans (by decide) hd) mwX3_rickAt mlX4_71 dX4_leaningShare_5 (wX3_rickAt (d := 1) (Nat.le_refl _) kk_1 hh) kk_1 rfl rfl (Nat.le_of_ble_eq_true rfl) ?_
  refine s_astore_no (ls' := [some (rfX X 0), some (.int x1), some (rvE (xE X) r1)]) C dX4_leaningShare_8 rfl (by decide) (Nat.le_of_ble_eq_true rfl) rfl rfl ?_
  refine s_aload_no C dX4_leaningShare_9 rfl rfl ?_
  cases r1 with
  | none =>
    have h := on_n h
    refine s_ifnonnullN C dX4_leaningShare_10 ?_
    refine s_bipush C dX4_leaningShare_13 bi_m11 ?_
    obtain ⟨rfl, rfl⟩ := pr_e h
    exact s_iret C M dX4_leaningShare_15 rfl rfl (Nat.le_refl 0) (Nat.le_refl 0)
  | some q1 =>
    obtain ⟨hq1, h⟩ := it_s (on_s h)
    refine s_ifnonnull (tgt := 16) C dX4_leaningShare_10 (by decide) ?_
    refine s_aload_n C dX4_leaningShare_16 rfl rfl ?_
    refine s_getI C dX4_leaningShare_17 hq1 foX4_111 rfl ?_
    refine s_if_gt (tgt := 26) C dX4_leaningShare_20 (by decide) (fun c => ?_) (fun c => ?_)
    · have h := it_t c h
      refine s_aload_n C dX4_leaningShare_26 rfl rfl ?_
      refine s_aload_n C dX4_leaningShare_27 rfl rfl ?_
      refine s_getR (b := 1) C dX4_leaningShare_28 kk_0 foX4_10 rfl rk_0_0 ?_
      refine s_getI C dX4_leaningShare_31 kk_1 foX4_95 rfl ?_
      obtain ⟨r2, I2, hh, h⟩ := bd_e h
      refine s_cV0 (st := []) C M.rg (Nat.le_trans (by decide) hd) mwX1_leaning mlX4_124 dX4_leaningShare_34 (wX1_leaning (d := 4) (Nat.le_refl _) hq1 hh) hq1 rfl rfl (Nat.le_of_ble_eq_true rfl) ?_
      refine s_i2f C dX4_leaningShare_37 ?_
      refine s_aload_n C dX4_leaningShare_38 rfl rfl ?_
      refine s_getI C dX4_leaningShare_39 hq1 foX4_111 rfl ?_
      refine s_i2f C dX4_leaningShare_42 ?_
      obtain ⟨hnan, h⟩ := it_s h
      refine s_fdiv C dX4_leaningShare_43 hnan ?_
      obtain ⟨v1, ev1, h⟩ := ltm_e h
      refine s_top_f ev1 ?_
      obtain ⟨r3, I3, hh, h⟩ := bd_e h
      refine s_cS0 (st := []) C M.rg (Nat.le_trans (by decide) hd) mwX4_shareBits mlX4_167 dX4_leaningShare_44 (wX4_shareBits (d := 1) (Nat.le_refl _)  hh) rfl rfl (Nat.le_of_ble_eq_true rfl) ?_
      obtain ⟨rfl, rfl⟩ := pr_e h
      exact s_iret C M dX4_leaningShare_47 rfl rfl (Nat.le_refl 0) (Nat.le_refl 0)
    · have h := it_f c h
      refine s_bipush C dX4_leaningShare_23 bi_m15 ?_
      obtain ⟨rfl, rfl⟩ := pr_e h
      exact s_iret C M dX4_leaningShare_25 rfl rfl (Nat.le_refl 0) (Nat.le_refl 0)
theorem wX4_meanBits_p52 {X : Cx} {d : Nat} (hd : 1 ≤ d) (C : CtxOK X mX4_meanBits) : ∀ (n : Nat) {x2 : UInt64} {x4 : Int64} {x6 : Int32} {I I' : Mm} {r : Int64}  (_ : fX4_meanBits_p52 n x2 x4 x6 I = some (r, I')) (_ : MX X (xE X) d 0 0 (some (.long r)) S0 I'), WM X mX4_meanBits 52 [none, none, some (.double x2), none, some (.long x4), none, some (.int x6)] [] S0 I 0 0 := by
  intro n
  induction n with
  | zero => intro x2 x4 x6 I I' r  h M; exact absurd h (by simp [fX4_meanBits_p52])
  | succ n ih =>
    intro x2 x4 x6 I I' r  h M
    rw [fX4_meanBits_p52] at h
    refine s_iload C dX4_meanBits_52 rfl ?_
    refine s_bipush C dX4_meanBits_54 bi_64 ?_
    refine s_icmp_ge (tgt := 85) C dX4_meanBits_56 (by decide) (fun c => ?_) (fun c => ?_)
    · have h := it_t c h
      refine s_lload C dX4_meanBits_85 rfl ?_
      refine s_bipush C dX4_meanBits_87 bi_52 ?_
      refine s_lshl C dX4_meanBits_89 ?_
      refine s_dload_n C dX4_meanBits_90 rfl rfl ?_
      refine s_dconst1 C dX4_meanBits_91 ?_
      obtain ⟨hnan, h⟩ := it_s h
      refine s_dsub C dX4_meanBits_92 hnan ?_
      obtain ⟨v1, ev1, h⟩ := ltm_e h
      refine s_top_d ev1 ?_
      refine s_ldcd C dX4_meanBits_93 coX4_295 ?_
      obtain ⟨hnan, h⟩ := it_s h
      refine s_dmul C dX4_meanBits_96 hnan ?_
      obtain ⟨v2, ev2, h⟩ := ltm_e h
      refine s_top_d ev2 ?_
      refine s_d2l C dX4_meanBits_97 ?_
      refine s_ladd C dX4_meanBits_98 ?_
      obtain ⟨rfl, rfl⟩ := pr_e h
      exact s_lret C M dX4_meanBits_99 rfl (Nat.le_refl 0) (Nat.le_refl 0)
    · have h := it_f c h
      refine s_dload_n C dX4_meanBits_59 rfl rfl ?_
      refine s_ldcd C dX4_meanBits_60 coX4_293 ?_
      refine s_dcmp C dX4_meanBits_63 ?_
      refine s_if_lt (tgt := 85) C dX4_meanBits_64 (by decide) (fun c => ?_) (fun c => ?_)
      · have h := it_t c h
        refine s_lload C dX4_meanBits_85 rfl ?_
        refine s_bipush C dX4_meanBits_87 bi_52 ?_
        refine s_lshl C dX4_meanBits_89 ?_
        refine s_dload_n C dX4_meanBits_90 rfl rfl ?_
        refine s_dconst1 C dX4_meanBits_91 ?_
        obtain ⟨hnan, h⟩ := it_s h
        refine s_dsub C dX4_meanBits_92 hnan ?_
        obtain ⟨v1, ev1, h⟩ := ltm_e h
        refine s_top_d ev1 ?_
        refine s_ldcd C dX4_meanBits_93 coX4_295 ?_
        obtain ⟨hnan, h⟩ := it_s h
        refine s_dmul C dX4_meanBits_96 hnan ?_
        obtain ⟨v2, ev2, h⟩ := ltm_e h
        refine s_top_d ev2 ?_
        refine s_d2l C dX4_meanBits_97 ?_
        refine s_ladd C dX4_meanBits_98 ?_
        obtain ⟨rfl, rfl⟩ := pr_e h
        exact s_lret C M dX4_meanBits_99 rfl (Nat.le_refl 0) (Nat.le_refl 0)
      · have h := it_f c h
        refine s_dload_n C dX4_meanBits_67 rfl rfl ?_
        refine s_ldcd C dX4_meanBits_68 coX4_293 ?_
        obtain ⟨hnan, h⟩ := it_s h
        refine s_ddiv C dX4_meanBits_71 hnan ?_
        obtain ⟨v1, ev1, h⟩ := ltm_e h
        refine s_top_d ev1 ?_
        refine s_dstore_n (ls' := [none, none, some (.double v1), none, some (.long x4), none, some (.int x6)]) C dX4_meanBits_72 rfl (by decide) (Nat.le_of_ble_eq_true rfl) rfl rfl ?_
        refine s_lload C dX4_meanBits_73 rfl ?_
        refine s_lconst (v := 1) C dX4_meanBits_75 (by decide +kernel) ?_
        refine s_ladd C dX4_meanBits_76 ?_
        obtain ⟨v2, ev2, h⟩ := ltm_e h
        refine s_top_l ev2 ?_
        refine s_lstore (ls' := [none, none, some (.double v1), none, some (.long v2), none, some (.int x6)]) C dX4_meanBits_77 (by decide) (Nat.le_of_ble_eq_true rfl) rfl rfl ?_
        obtain ⟨v3, ev3, h⟩ := ltm_e h
        refine s_iinc (v := v3) (ls' := [none, none, some (.double v1), none, some (.long v2), none, some (.int v3)]) C dX4_meanBits_79 rfl (by decide) (Nat.le_of_ble_eq_true rfl) (by rw [ev3, ic_1]) rfl rfl ?_
        refine s_goto (tgt := 52) C dX4_meanBits_82 (by decide) ?_
        exact ih  h M
theorem wX4_meanBits_p49 {X : Cx} {d : Nat} (hd : 1 ≤ d) (C : CtxOK X mX4_meanBits) {x2 : UInt64} {x4 : Int64} {I I' : Mm} {r : Int64}  (h : fX4_meanBits_p49 x2 x4 I = some (r, I')) (M : MX X (xE X) d 0 0 (some (.long r)) S0 I') : WM X mX4_meanBits 49 [none, none, some (.double x2), none, some (.long x4), none, none] [] S0 I 0 0 := by
  unfold fX4_meanBits_p49 at h
  refine s_iconst C dX4_meanBits_49 ic_0 ?_
  refine s_istore (ls' := [none, none, some (.double x2), none, some (.long x4), none, some (.int 0)]) C dX4_meanBits_50 (by decide) (Nat.le_of_ble_eq_true rfl) rfl rfl ?_
  exact wX4_meanBits_p52 hd C _  h M
theorem wX4_meanBits_p18 {X : Cx} {d : Nat} (hd : 1 ≤ d) (C : CtxOK X mX4_meanBits) : ∀ (n : Nat) {x2 : UInt64} {x4 : Int64} {x6 : Int32} {I I' : Mm} {r : Int64}  (_ : fX4_meanBits_p18 n x2 x4 x6 I = some (r, I')) (_ : MX X (xE X) d 0 0 (some (.long r)) S0 I'), WM X mX4_meanBits 18 [none, none, some (.double x2), none, some (.long x4), none, some (.int x6)] [] S0 I 0 0 := by
  intro n
  induction n with
  | zero => intro x2 x4 x6 I I' r  h M; exact absurd h (by simp [fX4_meanBits_p18])
  | succ n ih =>
    intro x2 x4 x6 I I' r  h M
    rw [fX4_meanBits_p18] at h
    refine s_iload C dX4_meanBits_18 rfl ?_
    refine s_bipush C dX4_meanBits_20 bi_64 ?_
    refine s_icmp_ge (tgt := 49) C dX4_meanBits_22 (by decide) (fun c => ?_) (fun c => ?_)
    · have h := it_t c h
      refine s_weak (ls' := [none, none, some (.double x2), none, some (.long x4), none, none]) [false, false, true, false, true, false, false] rfl ?_
      exact wX4_meanBits_p49 hd C  h M
    · have h := it_f c h
      refine s_dload_n C dX4_meanBits_25 rfl rfl ?_
      refine s_dconst1 C dX4_meanBits_26 ?_
      refine s_dcmp C dX4_meanBits_27 ?_
      refine s_if_ge (tgt := 49) C dX4_meanBits_28 (by decide) (fun c => ?_) (fun c => ?_)
      · have h := it_t c h
        refine s_weak (ls' := [none, none, some (.double x2), none, some (.long x4), none, none]) [false, false, true, false, true, false, false] rfl ?_
        exact wX4_meanBits_p49 hd C  h M
      · have h := it_f c h
        refine s_dload_n C dX4_meanBits_31 rfl rfl ?_
        refine s_ldcd C dX4_meanBits_32 coX4_293 ?_
        obtain ⟨hnan, h⟩ := it_s h
        refine s_dmul C dX4_meanBits_35 hnan ?_
        obtain ⟨v1, ev1, h⟩ := ltm_e h
        refine s_top_d ev1 ?_
        refine s_dstore_n (ls' := [none, none, some (.double v1), none, some (.long x4), none, some (.int x6)]) C dX4_meanBits_36 rfl (by decide) (Nat.le_of_ble_eq_true rfl) rfl rfl ?_
        refine s_lload C dX4_meanBits_37 rfl ?_
        refine s_lconst (v := 1) C dX4_meanBits_39 (by decide +kernel) ?_
        refine s_lsub C dX4_meanBits_40 ?_
        obtain ⟨v2, ev2, h⟩ := ltm_e h
        refine s_top_l ev2 ?_
        refine s_lstore (ls' := [none, none, some (.double v1), none, some (.long v2), none, some (.int x6)]) C dX4_meanBits_41 (by decide) (Nat.le_of_ble_eq_true rfl) rfl rfl ?_
        obtain ⟨v3, ev3, h⟩ := ltm_e h
        refine s_iinc (v := v3) (ls' := [none, none, some (.double v1), none, some (.long v2), none, some (.int v3)]) C dX4_meanBits_43 rfl (by decide) (Nat.le_of_ble_eq_true rfl) (by rw [ev3, ic_1]) rfl rfl ?_
        refine s_goto (tgt := 18) C dX4_meanBits_46 (by decide) ?_
        exact ih  h M
theorem wX4_meanBits {E : Ev} {d : Nat} (hd : 1 ≤ d) {x0 : UInt64} {I I' : Mm} {r : Int64}  (h : fX4_meanBits x0 I = some (r, I')) : SemM E d 0 0 mX4_meanBits [.double x0] S0 I (some (.long r)) S0 I' := by
  unfold fX4_meanBits at h
  refine SemM.ofX (E := E) (y := mX4_meanBits) (args := fun E => [.double x0]) (r := fun E => (some (.long r))) (fun E => [some (.double x0), none, none, none, none, none, none]) (by decide +kernel) (Nat.le_of_ble_eq_true rfl) rfl (fun X C M => ?_)
  refine s_dload_n C dX4_meanBits_0 rfl rfl ?_
  refine s_dconst0 C dX4_meanBits_1 ?_
  refine s_dcmp C dX4_meanBits_2 ?_
  refine s_if_gt (tgt := 8) C dX4_meanBits_3 (by decide) (fun c => ?_) (fun c => ?_)
  · have h := it_t c h
    refine s_dload_n C dX4_meanBits_8 rfl rfl ?_
    refine s_dstore_n (ls' := [some (.double x0), none, some (.double x0), none, none, none, none]) C dX4_meanBits_9 rfl (by decide) (Nat.le_of_ble_eq_true rfl) rfl rfl ?_
    refine s_ldc2 C dX4_meanBits_10 coX4_291 ?_
    refine s_lstore (ls' := [some (.double x0), none, some (.double x0), none, some (.long 1023), none, none]) C dX4_meanBits_13 (by decide) (Nat.le_of_ble_eq_true rfl) rfl rfl ?_
    refine s_iconst C dX4_meanBits_15 ic_0 ?_
    refine s_istore (ls' := [some (.double x0), none, some (.double x0), none, some (.long 1023), none, some (.int 0)]) C dX4_meanBits_16 (by decide) (Nat.le_of_ble_eq_true rfl) rfl rfl ?_
    refine s_weak (ls' := [none, none, some (.double x0), none, some (.long 1023), none, some (.int 0)]) [false, false, true, false, true, false, true] rfl ?_
    exact wX4_meanBits_p18 hd C _  h M
  · have h := it_f c h
    refine s_lconst (v := 0) C dX4_meanBits_6 (by decide +kernel) ?_
    obtain ⟨rfl, rfl⟩ := pr_e h
    exact s_lret C M dX4_meanBits_7 rfl (Nat.le_refl 0) (Nat.le_refl 0)
theorem wX4_meanDepth {E : Ev} {d : Nat} (hd : 3 ≤ d) {x1 : Int32} {I I' : Mm} {r : Int64}  (h : fX4_meanDepth x1 I = some (r, I')) : SemM E d 0 0 mX4_meanDepth [rfE E 0, .int x1] S0 I (some (.long r)) S0 I' := by
  unfold fX4_meanDepth at h
  refine SemM.ofX (E := E) (y := mX4_meanDepth) (args := fun E => [rfE E 0, .int x1]) (r := fun E => (some (.long r))) (fun E => [some (rfE E 0), some (.int x1), none]) (by decide +kernel) (Nat.le_of_ble_eq_true rfl) rfl (fun X C M => ?_)
  refine s_aload_n C dX4_meanDepth_0 rfl rfl ?_
  refine s_getR (b := 1) C dX4_meanDepth_1 kk_0 foX4_10 rfl rk_0_0 ?_
  refine s_iload_n C dX4_meanDepth_4 rfl rfl ?_
  obtain ⟨r1, I1, hh, h⟩ := bd_e h
  refine s_cV0 (st := []) C M.rg (Nat.le_trans (by decide) hd) mwX3_rickAt mlX4_71 dX4_meanDepth_5 (wX3_rickAt (d := 1) (Nat.le_refl _) kk_1 hh) kk_1 rfl rfl (Nat.le_of_ble_eq_true rfl) ?_
  refine s_astore_no (ls' := [some (rfX X 0), some (.int x1), some (rvE (xE X) r1)]) C dX4_meanDepth_8 rfl (by decide) (Nat.le_of_ble_eq_true rfl) rfl rfl ?_
  refine s_aload_no C dX4_meanDepth_9 rfl rfl ?_
  cases r1 with
  | none =>
    have h := on_n h
    refine s_ifnonnullN C dX4_meanDepth_10 ?_
    refine s_ldc2 C dX4_meanDepth_13 coX4_161 ?_
    obtain ⟨rfl, rfl⟩ := pr_e h
    exact s_lret C M dX4_meanDepth_16 rfl (Nat.le_refl 0) (Nat.le_refl 0)
  | some q1 =>
    obtain ⟨hq1, h⟩ := it_s (on_s h)
    refine s_ifnonnull (tgt := 17) C dX4_meanDepth_10 (by decide) ?_
    refine s_aload_n C dX4_meanDepth_17 rfl rfl ?_
    refine s_getI C dX4_meanDepth_18 hq1 foX4_111 rfl ?_
    refine s_if_gt (tgt := 28) C dX4_meanDepth_21 (by decide) (fun c => ?_) (fun c => ?_)
    · have h := it_t c h
      refine s_aload_n C dX4_meanDepth_28 rfl rfl ?_
      obtain ⟨r2, I2, hh, h⟩ := bd_e h
      refine s_cV0 (st := []) C M.rg (Nat.le_trans (by decide) hd) mwX1_depths mlX4_127 dX4_meanDepth_29 (wX1_depths (d := 2) (Nat.le_refl _) hq1 hh) hq1 rfl rfl (Nat.le_of_ble_eq_true rfl) ?_
      refine s_i2d C dX4_meanDepth_32 ?_
      refine s_aload_n C dX4_meanDepth_33 rfl rfl ?_
      refine s_getI C dX4_meanDepth_34 hq1 foX4_111 rfl ?_
      refine s_i2d C dX4_meanDepth_37 ?_
      obtain ⟨hnan, h⟩ := it_s h
      refine s_ddiv C dX4_meanDepth_38 hnan ?_
      obtain ⟨v1, ev1, h⟩ := ltm_e h
      refine s_top_d ev1 ?_
      obtain ⟨r3, I3, hh, h⟩ := bd_e h
      refine s_cS0 (st := []) C M.rg (Nat.le_trans (by decide) hd) mwX4_meanBits mlX4_173 dX4_meanDepth_39 (wX4_meanBits (d := 1) (Nat.le_refl _)  hh) rfl rfl (Nat.le_of_ble_eq_true rfl) ?_
      obtain ⟨rfl, rfl⟩ := pr_e h
      exact s_lret C M dX4_meanDepth_42 rfl (Nat.le_refl 0) (Nat.le_refl 0)
    · have h := it_f c h
      refine s_ldc2 C dX4_meanDepth_24 coX4_171 ?_
      obtain ⟨rfl, rfl⟩ := pr_e h
      exact s_lret C M dX4_meanDepth_27 rfl (Nat.le_refl 0) (Nat.le_refl 0)
theorem wX2_addNumber_p21 {X : Cx} {d : Nat} (hd : 2 ≤ d) (C : CtxOK X mX2_addNumber) {x0 : Nat} {x1 : Int32} {I I' : Mm} {r : Unit} (hx0 : kd0 x0 = 2) (h : fX2_addNumber_p21 x0 x1 I = some (r, I')) (M : MX X (xE X) d 0 0 none S0 I') : WM X mX2_addNumber 21 [some (rfX X x0), some (.int x1)] [] S0 I 0 0 := by
  unfold fX2_addNumber_p21 at h
  refine s_iload_n C dX2_addNumber_21 rfl rfl ?_
  refine s_bipush C dX2_addNumber_22 bi_10 ?_
  refine s_icmp_lt (tgt := 42) C dX2_addNumber_24 (by decide) (fun c => ?_) (fun c => ?_)
  · have h := it_t c h
    refine s_aload_n C dX2_addNumber_42 rfl rfl ?_
    refine s_bipush C dX2_addNumber_43 bi_48 ?_
    refine s_iload_n C dX2_addNumber_45 rfl rfl ?_
    refine s_bipush C dX2_addNumber_46 bi_10 ?_
    refine s_irem C dX2_addNumber_48 (by decide) ?_
    refine s_iadd C dX2_addNumber_49 ?_
    obtain ⟨r1, I1, hh, h⟩ := bd_e h
    refine s_cV0 (st := []) C M.rg (Nat.le_trans (by decide) hd) mwX2_add mlX2_19 dX2_addNumber_50 (wX2_add (d := 1) (Nat.le_refl _) hx0 hh) hx0 rfl rfl (Nat.le_of_ble_eq_true rfl) ?_
    refine s_pop C dX2_addNumber_53 rfl ?_
    obtain ⟨rfl, rfl⟩ := pr_e h
    exact s_vret C M dX2_addNumber_54 rfl (Nat.le_refl 0) (Nat.le_refl 0)
  · have h := it_f c h
    refine s_aload_n C dX2_addNumber_27 rfl rfl ?_
    refine s_bipush C dX2_addNumber_28 bi_48 ?_
    refine s_iload_n C dX2_addNumber_30 rfl rfl ?_
    refine s_bipush C dX2_addNumber_31 bi_10 ?_
    refine s_idiv C dX2_addNumber_33 (by decide) ?_
    refine s_bipush C dX2_addNumber_34 bi_10 ?_
    refine s_irem C dX2_addNumber_36 (by decide) ?_
    refine s_iadd C dX2_addNumber_37 ?_
    obtain ⟨r1, I1, hh, h⟩ := bd_e h
    refine s_cV0 (st := []) C M.rg (Nat.le_trans (by decide) hd) mwX2_add mlX2_19 dX2_addNumber_38 (wX2_add (d := 1) (Nat.le_refl _) hx0 hh) hx0 rfl rfl (Nat.le_of_ble_eq_true rfl) ?_
    refine s_pop C dX2_addNumber_41 rfl ?_
    refine s_aload_n C dX2_addNumber_42 rfl rfl ?_
    refine s_bipush C dX2_addNumber_43 bi_48 ?_
    refine s_iload_n C dX2_addNumber_45 rfl rfl ?_
    refine s_bipush C dX2_addNumber_46 bi_10 ?_
    refine s_irem C dX2_addNumber_48 (by decide) ?_
    refine s_iadd C dX2_addNumber_49 ?_
    obtain ⟨r2, I2, hh, h⟩ := bd_e h
    refine s_cV0 (st := []) C M.rg (Nat.le_trans (by decide) hd) mwX2_add mlX2_19 dX2_addNumber_50 (wX2_add (d := 1) (Nat.le_refl _) hx0 hh) hx0 rfl rfl (Nat.le_of_ble_eq_true rfl) ?_
    refine s_pop C dX2_addNumber_53 rfl ?_
    obtain ⟨rfl, rfl⟩ := pr_e h
    exact s_vret C M dX2_addNumber_54 rfl (Nat.le_refl 0) (Nat.le_refl 0)
theorem wX2_addNumber {E : Ev} {d : Nat} (hd : 2 ≤ d) {x0 : Nat} {x1 : Int32} {I I' : Mm} {r : Unit} (hx0 : kd0 x0 = 2) (h : fX2_addNumber x0 x1 I = some (r, I')) : SemM E d 0 0 mX2_addNumber [rfE E x0, .int x1] S0 I none S0 I' := by
  unfold fX2_addNumber at h
  refine SemM.ofX (E := E) (y := mX2_addNumber) (args := fun E => [rfE E x0, .int x1]) (r := fun E => none) (fun E => [some (rfE E x0), some (.int x1)]) (by decide +kernel) (Nat.le_of_ble_eq_true rfl) rfl (fun X C M => ?_)
  refine s_iload_n C dX2_addNumber_0 rfl rfl ?_
  refine s_bipush C dX2_addNumber_1 bi_100 ?_
  refine s_icmp_lt (tgt := 21) C dX2_addNumber_3 (by decide) (fun c => ?_) (fun c => ?_)
  · have h := it_t c h
    exact wX2_addNumber_p21 hd C hx0 h M
  · have h := it_f c h
    refine s_aload_n C dX2_addNumber_6 rfl rfl ?_
    refine s_bipush C dX2_addNumber_7 bi_48 ?_
    refine s_iload_n C dX2_addNumber_9 rfl rfl ?_
    refine s_bipush C dX2_addNumber_10 bi_100 ?_
    refine s_idiv C dX2_addNumber_12 (by decide) ?_
    refine s_bipush C dX2_addNumber_13 bi_10 ?_
    refine s_irem C dX2_addNumber_15 (by decide) ?_
    refine s_iadd C dX2_addNumber_16 ?_
    obtain ⟨r1, I1, hh, h⟩ := bd_e h
    refine s_cV0 (st := []) C M.rg (Nat.le_trans (by decide) hd) mwX2_add mlX2_19 dX2_addNumber_17 (wX2_add (d := 1) (Nat.le_refl _) hx0 hh) hx0 rfl rfl (Nat.le_of_ble_eq_true rfl) ?_
    refine s_pop C dX2_addNumber_20 rfl ?_
    exact wX2_addNumber_p21 hd C hx0 h M
theorem wX4_write : ∀ (n : Nat) {E : Ev} {d : Nat} (_ : 4 + n ≤ d) {x0 : Nat} {x1 : Nat} {x2 : Int32} {x3 : Int32} {x4 : Int32} {x5 : Int32} {I I' : Mm} {r : Unit} (hx0 : kd0 x0 = 2) (hx1 : kd0 x1 = 1) (_ : fX4_write n x0 x1 x2 x3 x4 x5 I = some (r, I')), SemM E d 0 0 mX4_write [rfE E x0, rfE E x1, .int x2, .int x3, .int x4, .int x5] S0 I none S0 I' := by
  intro n
  induction n with
  | zero => intro E d hd x0 x1 x2 x3 x4 x5 I I' r hx0 hx1 h; exact absurd h (by simp [fX4_write])
  | succ n ih =>
    intro E d hd x0 x1 x2 x3 x4 x5 I I' r hx0 hx1 h
    rw [fX4_write] at h
    refine SemM.ofX (E := E) (y := mX4_write) (args := fun E => [rfE E x0, rfE E x1, .int x2, .int x3, .int x4, .int x5]) (r := fun E => none) (fun E => [some (rfE E x0), some (rfE E x1), some (.int x2), some (.int x3), some (.int x4), some (.int x5), none]) (by decide +kernel) (Nat.le_of_ble_eq_true rfl) rfl (fun X C M => ?_)
    refine s_aload_n C dX4_write_0 rfl rfl ?_
    refine s_iload_n C dX4_write_1 rfl rfl ?_
    refine s_iload_n C dX4_write_2 rfl rfl ?_
    obtain ⟨r1, I1, hh, h⟩ := bd_e h
    refine s_cV0 (st := []) C M.rg (Nat.le_trans (by omega) hd) mwX1_topOf mlX4_108 dX4_write_3 (wX1_topOf (d := 2) (Nat.le_refl _) hx1 hh) hx1 rfl rfl (Nat.le_of_ble_eq_true rfl) ?_
    refine s_istore (ls' := [some (rfX X x0), some (rfX X x1), some (.int x2), some (.int x3), some (.int x4), some (.int x5), some (.int r1)]) C dX4_write_6 (by decide) (Nat.le_of_ble_eq_true rfl) rfl rfl ?_
    refine s_iload C dX4_write_8 rfl ?_
    refine s_iconst C dX4_write_10 ic_m1 ?_
    refine s_icmp_eq (tgt := 21) C dX4_write_11 (by decide) (fun c => ?_) (fun c => ?_)
    · have h := it_t c h
      obtain ⟨rfl, rfl⟩ := pr_e h
      exact s_vret C M dX4_write_21 rfl (Nat.le_refl 0) (Nat.le_refl 0)
    · have h := it_f c h
      refine s_iload C dX4_write_14 rfl ?_
      refine s_bipush C dX4_write_16 bi_30 ?_
      refine s_icmp_le (tgt := 22) C dX4_write_18 (by decide) (fun c => ?_) (fun c => ?_)
      · have h := it_t c h
        refine s_aload_n C dX4_write_22 rfl rfl ?_
        refine s_bipush C dX4_write_23 bi_40 ?_
        obtain ⟨r2, I2, hh, h⟩ := bd_e h
        refine s_cV0 (st := []) C M.rg (Nat.le_trans (by omega) hd) mwX2_add mlX4_177 dX4_write_25 (wX2_add (d := 1) (Nat.le_refl _) hx0 hh) hx0 rfl rfl (Nat.le_of_ble_eq_true rfl) ?_
        refine s_pop C dX4_write_28 rfl ?_
        refine s_aload_n C dX4_write_29 rfl rfl ?_
        refine s_aload_n C dX4_write_30 rfl rfl ?_
        refine s_iload_n C dX4_write_31 rfl rfl ?_
        refine s_iload C dX4_write_32 rfl ?_
        refine s_iconst C dX4_write_34 ic_1 ?_
        refine s_isub C dX4_write_35 ?_
        refine s_iload C dX4_write_36 rfl ?_
        refine s_iload C dX4_write_38 rfl ?_
        refine s_iconst C dX4_write_40 ic_1 ?_
        refine s_iadd C dX4_write_41 ?_
        obtain ⟨r3, I3, hh, h⟩ := bd_e h
        refine s_cS0 (st := []) C M.rg (Nat.le_trans (by omega) hd) mwX4_write mlX4_199 dX4_write_42 (ih (d := 4 + n) (Nat.le_refl _) hx0 hx1 hh) rfl rfl (Nat.le_of_ble_eq_true rfl) ?_
        refine s_aload_n C dX4_write_45 rfl rfl ?_
        refine s_aload_n C dX4_write_46 rfl rfl ?_
        refine s_iload C dX4_write_47 rfl ?_
        obtain ⟨r4, I4, hh, h⟩ := bd_e h
        refine s_cV0 (st := [rfX X x0]) C M.rg (Nat.le_trans (by omega) hd) mwX1_weightAt mlX4_105 dX4_write_49 (wX1_weightAt (d := 1) (Nat.le_refl _) hx1 hh) hx1 rfl rfl (Nat.le_of_ble_eq_true rfl) ?_
        obtain ⟨r5, I5, hh, h⟩ := bd_e h
        refine s_cV0 (st := []) C M.rg (Nat.le_trans (by omega) hd) mwX2_addNumber mlX4_279 dX4_write_52 (wX2_addNumber (d := 2) (Nat.le_refl _) hx0 hh) hx0 rfl rfl (Nat.le_of_ble_eq_true rfl) ?_
        refine s_aload_n C dX4_write_55 rfl rfl ?_
        refine s_iload C dX4_write_56 rfl ?_
        refine s_iload C dX4_write_58 rfl ?_
        obtain ⟨r6, I6, hh, h⟩ := bd_e h
        refine s_cV0 (st := []) C M.rg (Nat.le_trans (by omega) hd) mwX1_leans mlX4_98 dX4_write_60 (wX1_leans (d := 3) (Nat.le_refl _) hx1 hh) hx1 rfl rfl (Nat.le_of_ble_eq_true rfl) ?_
        refine s_if_eq (tgt := 73) C dX4_write_63 (by decide) (fun c => ?_) (fun c => ?_)
        · have h := it_t c h
          refine s_aload_n C dX4_write_73 rfl rfl ?_
          refine s_aload_n C dX4_write_74 rfl rfl ?_
          refine s_iload C dX4_write_75 rfl ?_
          refine s_iconst C dX4_write_77 ic_1 ?_
          refine s_iadd C dX4_write_78 ?_
          refine s_iload_n C dX4_write_79 rfl rfl ?_
          refine s_iload C dX4_write_80 rfl ?_
          refine s_iload C dX4_write_82 rfl ?_
          refine s_iconst C dX4_write_84 ic_1 ?_
          refine s_iadd C dX4_write_85 ?_
          obtain ⟨r7, I7, hh, h⟩ := bd_e h
          refine s_cS0 (st := []) C M.rg (Nat.le_trans (by omega) hd) mwX4_write mlX4_199 dX4_write_86 (ih (d := 4 + n) (Nat.le_refl _) hx0 hx1 hh) rfl rfl (Nat.le_of_ble_eq_true rfl) ?_
          refine s_aload_n C dX4_write_89 rfl rfl ?_
          refine s_bipush C dX4_write_90 bi_41 ?_
          obtain ⟨r8, I8, hh, h⟩ := bd_e h
          refine s_cV0 (st := []) C M.rg (Nat.le_trans (by omega) hd) mwX2_add mlX4_177 dX4_write_92 (wX2_add (d := 1) (Nat.le_refl _) hx0 hh) hx0 rfl rfl (Nat.le_of_ble_eq_true rfl) ?_
          refine s_pop C dX4_write_95 rfl ?_
          obtain ⟨rfl, rfl⟩ := pr_e h
          exact s_vret C M dX4_write_96 rfl (Nat.le_refl 0) (Nat.le_refl 0)
        · have h := it_f c h
          refine s_aload_n C dX4_write_66 rfl rfl ?_
          refine s_bipush C dX4_write_67 bi_33 ?_
          obtain ⟨r7, I7, hh, h⟩ := bd_e h
          refine s_cV0 (st := []) C M.rg (Nat.le_trans (by omega) hd) mwX2_add mlX4_177 dX4_write_69 (wX2_add (d := 1) (Nat.le_refl _) hx0 hh) hx0 rfl rfl (Nat.le_of_ble_eq_true rfl) ?_
          refine s_pop C dX4_write_72 rfl ?_
          refine s_aload_n C dX4_write_73 rfl rfl ?_
          refine s_aload_n C dX4_write_74 rfl rfl ?_
          refine s_iload C dX4_write_75 rfl ?_
          refine s_iconst C dX4_write_77 ic_1 ?_
          refine s_iadd C dX4_write_78 ?_
          refine s_iload_n C dX4_write_79 rfl rfl ?_
          refine s_iload C dX4_write_80 rfl ?_
          refine s_iload C dX4_write_82 rfl ?_
          refine s_iconst C dX4_write_84 ic_1 ?_
          refine s_iadd C dX4_write_85 ?_
          obtain ⟨r8, I8, hh, h⟩ := bd_e h
          refine s_cS0 (st := []) C M.rg (Nat.le_trans (by omega) hd) mwX4_write mlX4_199 dX4_write_86 (ih (d := 4 + n) (Nat.le_refl _) hx0 hx1 hh) rfl rfl (Nat.le_of_ble_eq_true rfl) ?_
          refine s_aload_n C dX4_write_89 rfl rfl ?_
          refine s_bipush C dX4_write_90 bi_41 ?_
          obtain ⟨r9, I9, hh, h⟩ := bd_e h
          refine s_cV0 (st := []) C M.rg (Nat.le_trans (by omega) hd) mwX2_add mlX4_177 dX4_write_92 (wX2_add (d := 1) (Nat.le_refl _) hx0 hh) hx0 rfl rfl (Nat.le_of_ble_eq_true rfl) ?_
          refine s_pop C dX4_write_95 rfl ?_
          obtain ⟨rfl, rfl⟩ := pr_e h
          exact s_vret C M dX4_write_96 rfl (Nat.le_refl 0) (Nat.le_refl 0)
      · have h := it_f c h
        obtain ⟨rfl, rfl⟩ := pr_e h
        exact s_vret C M dX4_write_21 rfl (Nat.le_refl 0) (Nat.le_refl 0)
theorem wX4_tell {E : Ev} {d : Nat} (hd : 45 ≤ d) {x1 : Int32} {I I' : Mm} {r : Int32}  (h : fX4_tell x1 I = some (r, I')) : SemM E d 0 0 mX4_tell [rfE E 0, .int x1] S0 I (some (.int r)) S0 I' := by
  unfold fX4_tell at h
  refine SemM.ofX (E := E) (y := mX4_tell) (args := fun E => [rfE E 0, .int x1]) (r := fun E => (some (.int r))) (fun E => [some (rfE E 0), some (.int x1), none]) (by decide +kernel) (Nat.le_of_ble_eq_true rfl) rfl (fun X C M => ?_)
  refine s_aload_n C dX4_tell_0 rfl rfl ?_
  refine s_getR (b := 1) C dX4_tell_1 kk_0 foX4_10 rfl rk_0_0 ?_
  refine s_iload_n C dX4_tell_4 rfl rfl ?_
  obtain ⟨r1, I1, hh, h⟩ := bd_e h
  refine s_cV0 (st := []) C M.rg (Nat.le_trans (by decide) hd) mwX3_rickAt mlX4_71 dX4_tell_5 (wX3_rickAt (d := 1) (Nat.le_refl _) kk_1 hh) kk_1 rfl rfl (Nat.le_of_ble_eq_true rfl) ?_
  refine s_astore_no (ls' := [some (rfX X 0), some (.int x1), some (rvE (xE X) r1)]) C dX4_tell_8 rfl (by decide) (Nat.le_of_ble_eq_true rfl) rfl rfl ?_
  refine s_aload_no C dX4_tell_9 rfl rfl ?_
  cases r1 with
  | none =>
    have h := on_n h
    refine s_ifnonnullN C dX4_tell_10 ?_
    refine s_bipush C dX4_tell_13 bi_m11 ?_
    obtain ⟨rfl, rfl⟩ := pr_e h
    exact s_iret C M dX4_tell_15 rfl rfl (Nat.le_refl 0) (Nat.le_refl 0)
  | some q1 =>
    obtain ⟨hq1, h⟩ := it_s (on_s h)
    refine s_ifnonnull (tgt := 16) C dX4_tell_10 (by decide) ?_
    refine s_aload_n C dX4_tell_16 rfl rfl ?_
    refine s_getR (b := 32) C dX4_tell_17 kk_0 foX4_30 rfl rk_0_7 ?_
    obtain ⟨r2, I2, hh, h⟩ := bd_e h
    refine s_cV0 (st := []) C M.rg (Nat.le_trans (by decide) hd) mwX2_clear mlX4_187 dX4_tell_20 (wX2_clear (d := 1) (Nat.le_refl _) kk_32 hh) kk_32 rfl rfl (Nat.le_of_ble_eq_true rfl) ?_
    refine s_aload_n C dX4_tell_23 rfl rfl ?_
    refine s_getR (b := 32) C dX4_tell_24 kk_0 foX4_30 rfl rk_0_7 ?_
    refine s_aload_n C dX4_tell_27 rfl rfl ?_
    refine s_iconst C dX4_tell_28 ic_0 ?_
    refine s_aload_n C dX4_tell_29 rfl rfl ?_
    refine s_getI C dX4_tell_30 hq1 foX4_111 rfl ?_
    refine s_iconst C dX4_tell_33 ic_1 ?_
    refine s_isub C dX4_tell_34 ?_
    refine s_aload_n C dX4_tell_35 rfl rfl ?_
    refine s_getR (b := 1) C dX4_tell_36 kk_0 foX4_10 rfl rk_0_0 ?_
    refine s_getI C dX4_tell_39 kk_1 foX4_95 rfl ?_
    refine s_iconst C dX4_tell_42 ic_0 ?_
    obtain ⟨r3, I3, hh, h⟩ := bd_e h
    refine s_cS0 (st := []) C M.rg (Nat.le_trans (by decide) hd) mwX4_write mlX4_199 dX4_tell_43 (wX4_write _ (d := 44) (Nat.le_refl _) kk_32 hq1 hh) rfl rfl (Nat.le_of_ble_eq_true rfl) ?_
    refine s_aload_n C dX4_tell_46 rfl rfl ?_
    refine s_getR (b := 32) C dX4_tell_47 kk_0 foX4_30 rfl rk_0_7 ?_
    refine s_getI C dX4_tell_50 kk_32 foX4_180 rfl ?_
    obtain ⟨rfl, rfl⟩ := pr_e h
    exact s_iret C M dX4_tell_53 rfl rfl (Nat.le_refl 0) (Nat.le_refl 0)
theorem wX4_weights_p32 {X : Cx} {d : Nat} (hd : 2 ≤ d) (C : CtxOK X mX4_weights) : ∀ (n : Nat) {x2 : Int32} {x3 : Nat} {x4 : Int64} {x6 : Int32} {I I' : Mm} {r : Int64} (hx3 : kd0 x3 = 1) (_ : fX4_weights_p32 n x2 x3 x4 x6 I = some (r, I')) (_ : MX X (xE X) d 0 0 (some (.long r)) S0 I'), WM X mX4_weights 32 [none, none, some (.int x2), some (rfX X x3), some (.long x4), none, some (.int x6), none] [] S0 I 0 0 := by
  intro n
  induction n with
  | zero => intro x2 x3 x4 x6 I I' r hx3 h M; exact absurd h (by simp [fX4_weights_p32])
  | succ n ih =>
    intro x2 x3 x4 x6 I I' r hx3 h M
    rw [fX4_weights_p32] at h
    refine s_iload C dX4_weights_32 rfl ?_
    refine s_aload_n C dX4_weights_34 rfl rfl ?_
    refine s_getI C dX4_weights_35 hx3 foX4_111 rfl ?_
    refine s_icmp_ge (tgt := 78) C dX4_weights_38 (by decide) (fun c => ?_) (fun c => ?_)
    · have h := it_t c h
      refine s_lload C dX4_weights_78 rfl ?_
      obtain ⟨rfl, rfl⟩ := pr_e h
      exact s_lret C M dX4_weights_80 rfl (Nat.le_refl 0) (Nat.le_refl 0)
    · have h := it_f c h
      refine s_aload_n C dX4_weights_41 rfl rfl ?_
      refine s_iload C dX4_weights_42 rfl ?_
      obtain ⟨r1, I1, hh, h⟩ := bd_e h
      refine s_cV0 (st := []) C M.rg (Nat.le_trans (by decide) hd) mwX1_weightAt mlX4_105 dX4_weights_44 (wX1_weightAt (d := 1) (Nat.le_refl _) hx3 hh) hx3 rfl rfl (Nat.le_of_ble_eq_true rfl) ?_
      refine s_iload_n C dX4_weights_47 rfl rfl ?_
      refine s_isub C dX4_weights_48 ?_
      obtain ⟨v1, ev1, h⟩ := ltm_e h
      refine s_top_i ev1 ?_
      refine s_istore (ls' := [none, none, some (.int x2), some (rfX X x3), some (.long x4), none, some (.int x6), some (.int v1)]) C dX4_weights_49 (by decide) (Nat.le_of_ble_eq_true rfl) rfl rfl ?_
      refine s_iload C dX4_weights_51 rfl ?_
      refine s_if_lt (tgt := 72) C dX4_weights_53 (by decide) (fun c => ?_) (fun c => ?_)
      · have h := it_t c h
        obtain ⟨v2, ev2, h⟩ := ltm_e h
        refine s_iinc (v := v2) (ls' := [none, none, some (.int x2), some (rfX X x3), some (.long x4), none, some (.int v2), some (.int v1)]) C dX4_weights_72 rfl (by decide) (Nat.le_of_ble_eq_true rfl) (by rw [ev2, ic_1]) rfl rfl ?_
        refine s_goto (tgt := 32) C dX4_weights_75 (by decide) ?_
        refine s_weak (ls' := [none, none, some (.int x2), some (rfX X x3), some (.long x4), none, some (.int v2), none]) [false, false, true, true, true, false, true, false] rfl ?_
        exact ih hx3 h M
      · have h := it_f c h
        refine s_iload C dX4_weights_56 rfl ?_
        refine s_bipush C dX4_weights_58 bi_64 ?_
        refine s_icmp_ge (tgt := 72) C dX4_weights_60 (by decide) (fun c => ?_) (fun c => ?_)
        · have h := it_t c h
          obtain ⟨v2, ev2, h⟩ := ltm_e h
          refine s_iinc (v := v2) (ls' := [none, none, some (.int x2), some (rfX X x3), some (.long x4), none, some (.int v2), some (.int v1)]) C dX4_weights_72 rfl (by decide) (Nat.le_of_ble_eq_true rfl) (by rw [ev2, ic_1]) rfl rfl ?_
          refine s_goto (tgt := 32) C dX4_weights_75 (by decide) ?_
          refine s_weak (ls' := [none, none, some (.int x2), some (rfX X x3), some (.long x4), none, some (.int v2), none]) [false, false, true, true, true, false, true, false] rfl ?_
          exact ih hx3 h M
        · have h := it_f c h
          refine s_lload C dX4_weights_63 rfl ?_
          refine s_lconst (v := 1) C dX4_weights_65 (by decide +kernel) ?_
          refine s_iload C dX4_weights_66 rfl ?_
          refine s_lshl C dX4_weights_68 ?_
          refine s_lor C dX4_weights_69 ?_
          obtain ⟨v2, ev2, h⟩ := ltm_e h
          refine s_top_l ev2 ?_
          refine s_lstore (ls' := [none, none, some (.int x2), some (rfX X x3), some (.long v2), none, some (.int x6), some (.int v1)]) C dX4_weights_70 (by decide) (Nat.le_of_ble_eq_true rfl) rfl rfl ?_
          obtain ⟨v3, ev3, h⟩ := ltm_e h
          refine s_iinc (v := v3) (ls' := [none, none, some (.int x2), some (rfX X x3), some (.long v2), none, some (.int v3), some (.int v1)]) C dX4_weights_72 rfl (by decide) (Nat.le_of_ble_eq_true rfl) (by rw [ev3, ic_1]) rfl rfl ?_
          refine s_goto (tgt := 32) C dX4_weights_75 (by decide) ?_
          refine s_weak (ls' := [none, none, some (.int x2), some (rfX X x3), some (.long v2), none, some (.int v3), none]) [false, false, true, true, true, false, true, false] rfl ?_
          exact ih hx3 h M
theorem wX4_weights {E : Ev} {d : Nat} (hd : 2 ≤ d) {x1 : Int32} {x2 : Int32} {I I' : Mm} {r : Int64}  (h : fX4_weights x1 x2 I = some (r, I')) : SemM E d 0 0 mX4_weights [rfE E 0, .int x1, .int x2] S0 I (some (.long r)) S0 I' := by
  unfold fX4_weights at h
  refine SemM.ofX (E := E) (y := mX4_weights) (args := fun E => [rfE E 0, .int x1, .int x2]) (r := fun E => (some (.long r))) (fun E => [some (rfE E 0), some (.int x1), some (.int x2), none, none, none, none, none]) (by decide +kernel) (Nat.le_of_ble_eq_true rfl) rfl (fun X C M => ?_)
  refine s_aload_n C dX4_weights_0 rfl rfl ?_
  refine s_getR (b := 1) C dX4_weights_1 kk_0 foX4_10 rfl rk_0_0 ?_
  refine s_iload_n C dX4_weights_4 rfl rfl ?_
  obtain ⟨r1, I1, hh, h⟩ := bd_e h
  refine s_cV0 (st := []) C M.rg (Nat.le_trans (by decide) hd) mwX3_rickAt mlX4_71 dX4_weights_5 (wX3_rickAt (d := 1) (Nat.le_refl _) kk_1 hh) kk_1 rfl rfl (Nat.le_of_ble_eq_true rfl) ?_
  refine s_astore_no (ls' := [some (rfX X 0), some (.int x1), some (.int x2), some (rvE (xE X) r1), none, none, none, none]) C dX4_weights_8 rfl (by decide) (Nat.le_of_ble_eq_true rfl) rfl rfl ?_
  refine s_aload_no C dX4_weights_9 rfl rfl ?_
  cases r1 with
  | none =>
    have h := on_n h
    refine s_ifnullN (tgt := 24) C dX4_weights_10 (by decide) ?_
    refine s_lconst (v := 0) C dX4_weights_24 (by decide +kernel) ?_
    obtain ⟨rfl, rfl⟩ := pr_e h
    exact s_lret C M dX4_weights_25 rfl (Nat.le_refl 0) (Nat.le_refl 0)
  | some q1 =>
    obtain ⟨hq1, h⟩ := it_s (on_s h)
    refine s_ifnull C dX4_weights_10 ?_
    refine s_iload_n C dX4_weights_13 rfl rfl ?_
    refine s_if_lt (tgt := 24) C dX4_weights_14 (by decide) (fun c => ?_) (fun c => ?_)
    · have h := it_t c h
      refine s_lconst (v := 0) C dX4_weights_24 (by decide +kernel) ?_
      obtain ⟨rfl, rfl⟩ := pr_e h
      exact s_lret C M dX4_weights_25 rfl (Nat.le_refl 0) (Nat.le_refl 0)
    · have h := it_f c h
      refine s_iload_n C dX4_weights_17 rfl rfl ?_
      refine s_sipush C dX4_weights_18 si_936 ?_
      refine s_icmp_le (tgt := 26) C dX4_weights_21 (by decide) (fun c => ?_) (fun c => ?_)
      · have h := it_t c h
        refine s_lconst (v := 0) C dX4_weights_26 (by decide +kernel) ?_
        refine s_lstore (ls' := [some (rfX X 0), some (.int x1), some (.int x2), some (rfX X q1), some (.long 0), none, none, none]) C dX4_weights_27 (by decide) (Nat.le_of_ble_eq_true rfl) rfl rfl ?_
        refine s_iconst C dX4_weights_29 ic_0 ?_
        refine s_istore (ls' := [some (rfX X 0), some (.int x1), some (.int x2), some (rfX X q1), some (.long 0), none, some (.int 0), none]) C dX4_weights_30 (by decide) (Nat.le_of_ble_eq_true rfl) rfl rfl ?_
        refine s_weak (ls' := [none, none, some (.int x2), some (rfX X q1), some (.long 0), none, some (.int 0), none]) [false, false, true, true, true, false, true, false] rfl ?_
        exact wX4_weights_p32 hd C _ hq1 h M
      · have h := it_f c h
        refine s_lconst (v := 0) C dX4_weights_24 (by decide +kernel) ?_
        obtain ⟨rfl, rfl⟩ := pr_e h
        exact s_lret C M dX4_weights_25 rfl (Nat.le_refl 0) (Nat.le_refl 0)
theorem wL_isRick_p366 {X : Cx} {d : Nat} (hd : 46 ≤ d) (C : CtxOK X mL_isRick) {x1 : Int32} {x2 : Int32} {x4 : Int32} {x9 : Int32} {s0 : Int32} {s1 : Int32} {I I' : Mm} {r : Int32}  (h : fL_isRick_p366 x1 x2 x4 x9 s0 s1 I = some (r, I')) (M : MX X (xE X) d 0 0 (some (.int r)) S0 I') : WM X mL_isRick 366 [some (rfX X 0), some (.int x1), some (.int x2), none, some (.int x4), none, none, none, none, some (.int x9), none] [.int s1, .int s0] S0 I 0 0 := by
  unfold fL_isRick_p366 at h
  refine s_icmp_ne (tgt := 402) C dL_isRick_366 (by decide) (fun c => ?_) (fun c => ?_)
  · have h := it_f c h
    refine s_iconst C dL_isRick_402 ic_0 ?_
    obtain ⟨rfl, rfl⟩ := pr_e h
    exact s_iret C M dL_isRick_403 rfl (nz_b (by decide)) (Nat.le_refl 0) (Nat.le_refl 0)
  · have h := it_t c h
    refine s_aload_n C dL_isRick_369 rfl rfl ?_
    refine s_iload_n C dL_isRick_370 rfl rfl ?_
    obtain ⟨r1, I1, hh, h⟩ := bd_e h
    refine s_cV0 (st := []) C M.rg (Nat.le_trans (by decide) hd) mwX4_meanDepth mlL_129 dL_isRick_371 (wX4_meanDepth (d := 3) (Nat.le_refl _)  hh) kk_0 rfl rfl (Nat.le_of_ble_eq_true rfl) ?_
    refine s_iload C dL_isRick_374 rfl ?_
    refine s_if_eq (tgt := 385) C dL_isRick_376 (by decide) (fun c => ?_) (fun c => ?_)
    · have h := it_t c h
      refine s_iload C dL_isRick_385 rfl ?_
      refine s_i2d C dL_isRick_387 ?_
      refine s_iload_n C dL_isRick_388 rfl rfl ?_
      refine s_i2d C dL_isRick_389 ?_
      obtain ⟨hnan, h⟩ := it_s h
      refine s_ddiv C dL_isRick_390 hnan ?_
      obtain ⟨v1, ev1, h⟩ := ltm_e h
      refine s_top_d ev1 ?_
      obtain ⟨r2, I2, hh, h⟩ := bd_e h
      refine s_cS0 (st := [.long r1]) C M.rg (Nat.le_trans (by decide) hd) mwJxe99ae_doubleToLongBits_ccdee mlL_134 dL_isRick_391 (wJxe99ae_doubleToLongBits_ccdee (d := 2) (Nat.le_refl _)  hh) rfl rfl (Nat.le_of_ble_eq_true rfl) ?_
      refine s_lcmp C dL_isRick_394 ?_
      refine s_if_ne (tgt := 402) C dL_isRick_395 (by decide) (fun c => ?_) (fun c => ?_)
      · have h := it_f c h
        refine s_iconst C dL_isRick_402 ic_0 ?_
        obtain ⟨rfl, rfl⟩ := pr_e h
        exact s_iret C M dL_isRick_403 rfl (nz_b (by decide)) (Nat.le_refl 0) (Nat.le_refl 0)
      · have h := it_t c h
        refine s_iconst C dL_isRick_398 ic_1 ?_
        refine s_goto (tgt := 403) C dL_isRick_399 (by decide) ?_
        obtain ⟨rfl, rfl⟩ := pr_e h
        exact s_iret C M dL_isRick_403 rfl (nz_b (by decide)) (Nat.le_refl 0) (Nat.le_refl 0)
    · have h := it_f c h
      refine s_ldc2 C dL_isRick_379 coL_132 ?_
      refine s_goto (tgt := 394) C dL_isRick_382 (by decide) ?_
      refine s_lcmp C dL_isRick_394 ?_
      refine s_if_ne (tgt := 402) C dL_isRick_395 (by decide) (fun c => ?_) (fun c => ?_)
      · have h := it_f c h
        refine s_iconst C dL_isRick_402 ic_0 ?_
        obtain ⟨rfl, rfl⟩ := pr_e h
        exact s_iret C M dL_isRick_403 rfl (nz_b (by decide)) (Nat.le_refl 0) (Nat.le_refl 0)
      · have h := it_t c h
        refine s_iconst C dL_isRick_398 ic_1 ?_
        refine s_goto (tgt := 403) C dL_isRick_399 (by decide) ?_
        obtain ⟨rfl, rfl⟩ := pr_e h
        exact s_iret C M dL_isRick_403 rfl (nz_b (by decide)) (Nat.le_refl 0) (Nat.le_refl 0)
theorem wL_isRick_p278 {X : Cx} {d : Nat} (hd : 46 ≤ d) (C : CtxOK X mL_isRick) {x1 : Int32} {x2 : Int32} {x3 : Int32} {x4 : Int32} {x5 : Int32} {x6 : Int32} {x7 : Int32} {x8 : Int32} {s0 : Int32} {I I' : Mm} {r : Int32}  (h : fL_isRick_p278 x1 x2 x3 x4 x5 x6 x7 x8 s0 I = some (r, I')) (M : MX X (xE X) d 0 0 (some (.int r)) S0 I') : WM X mL_isRick 278 [some (rfX X 0), some (.int x1), some (.int x2), some (.int x3), some (.int x4), some (.int x5), some (.int x6), some (.int x7), some (.int x8), none, none] [.int s0] S0 I 0 0 := by
  unfold fL_isRick_p278 at h
  refine s_istore (ls' := [some (rfX X 0), some (.int x1), some (.int x2), some (.int x3), some (.int x4), some (.int x5), some (.int x6), some (.int x7), some (.int x8), some (.int s0), none]) C dL_isRick_278 (by decide) (Nat.le_of_ble_eq_true rfl) rfl rfl ?_
  refine s_iload C dL_isRick_280 rfl ?_
  refine s_if_eq (tgt := 402) C dL_isRick_282 (by decide) (fun c => ?_) (fun c => ?_)
  · have h := it_t c h
    refine s_iconst C dL_isRick_402 ic_0 ?_
    obtain ⟨rfl, rfl⟩ := pr_e h
    exact s_iret C M dL_isRick_403 rfl (nz_b (by decide)) (Nat.le_refl 0) (Nat.le_refl 0)
  · have h := it_f c h
    refine s_iload_n C dL_isRick_285 rfl rfl ?_
    refine s_aload_n C dL_isRick_286 rfl rfl ?_
    refine s_iload_n C dL_isRick_287 rfl rfl ?_
    refine s_iconst C dL_isRick_288 ic_1 ?_
    obtain ⟨r1, I1, hh, h⟩ := bd_e h
    refine s_cV0 (st := [.int x3]) C M.rg (Nat.le_trans (by decide) hd) mwX4_rickOf mlL_28 dL_isRick_289 (wX4_rickOf (d := 5) (Nat.le_refl _)  hh) kk_0 rfl rfl (Nat.le_of_ble_eq_true rfl) ?_
    refine s_icmp_ne (tgt := 402) C dL_isRick_292 (by decide) (fun c => ?_) (fun c => ?_)
    · have h := it_f c h
      refine s_iconst C dL_isRick_402 ic_0 ?_
      obtain ⟨rfl, rfl⟩ := pr_e h
      exact s_iret C M dL_isRick_403 rfl (nz_b (by decide)) (Nat.le_refl 0) (Nat.le_refl 0)
    · have h := it_t c h
      refine s_iload C dL_isRick_295 rfl ?_
      refine s_aload_n C dL_isRick_297 rfl rfl ?_
      refine s_iload_n C dL_isRick_298 rfl rfl ?_
      refine s_bipush C dL_isRick_299 bi_7 ?_
      obtain ⟨r2, I2, hh, h⟩ := bd_e h
      refine s_cV0 (st := [.int x4]) C M.rg (Nat.le_trans (by decide) hd) mwX4_rickOf mlL_28 dL_isRick_301 (wX4_rickOf (d := 5) (Nat.le_refl _)  hh) kk_0 rfl rfl (Nat.le_of_ble_eq_true rfl) ?_
      refine s_icmp_ne (tgt := 402) C dL_isRick_304 (by decide) (fun c => ?_) (fun c => ?_)
      · have h := it_f c h
        refine s_iconst C dL_isRick_402 ic_0 ?_
        obtain ⟨rfl, rfl⟩ := pr_e h
        exact s_iret C M dL_isRick_403 rfl (nz_b (by decide)) (Nat.le_refl 0) (Nat.le_refl 0)
      · have h := it_t c h
        refine s_iload C dL_isRick_307 rfl ?_
        refine s_aload_n C dL_isRick_309 rfl rfl ?_
        refine s_iload_n C dL_isRick_310 rfl rfl ?_
        refine s_bipush C dL_isRick_311 bi_6 ?_
        obtain ⟨r3, I3, hh, h⟩ := bd_e h
        refine s_cV0 (st := [.int x5]) C M.rg (Nat.le_trans (by decide) hd) mwX4_rickOf mlL_28 dL_isRick_313 (wX4_rickOf (d := 5) (Nat.le_refl _)  hh) kk_0 rfl rfl (Nat.le_of_ble_eq_true rfl) ?_
        refine s_icmp_ne (tgt := 402) C dL_isRick_316 (by decide) (fun c => ?_) (fun c => ?_)
        · have h := it_f c h
          refine s_iconst C dL_isRick_402 ic_0 ?_
          obtain ⟨rfl, rfl⟩ := pr_e h
          exact s_iret C M dL_isRick_403 rfl (nz_b (by decide)) (Nat.le_refl 0) (Nat.le_refl 0)
        · have h := it_t c h
          refine s_iload C dL_isRick_319 rfl ?_
          refine s_aload_n C dL_isRick_321 rfl rfl ?_
          refine s_iload_n C dL_isRick_322 rfl rfl ?_
          refine s_bipush C dL_isRick_323 bi_8 ?_
          obtain ⟨r4, I4, hh, h⟩ := bd_e h
          refine s_cV0 (st := [.int x6]) C M.rg (Nat.le_trans (by decide) hd) mwX4_rickOf mlL_28 dL_isRick_325 (wX4_rickOf (d := 5) (Nat.le_refl _)  hh) kk_0 rfl rfl (Nat.le_of_ble_eq_true rfl) ?_
          refine s_icmp_ne (tgt := 402) C dL_isRick_328 (by decide) (fun c => ?_) (fun c => ?_)
          · have h := it_f c h
            refine s_iconst C dL_isRick_402 ic_0 ?_
            obtain ⟨rfl, rfl⟩ := pr_e h
            exact s_iret C M dL_isRick_403 rfl (nz_b (by decide)) (Nat.le_refl 0) (Nat.le_refl 0)
          · have h := it_t c h
            refine s_iload C dL_isRick_331 rfl ?_
            refine s_aload_n C dL_isRick_333 rfl rfl ?_
            refine s_iload_n C dL_isRick_334 rfl rfl ?_
            refine s_iconst C dL_isRick_335 ic_3 ?_
            obtain ⟨r5, I5, hh, h⟩ := bd_e h
            refine s_cV0 (st := [.int x7]) C M.rg (Nat.le_trans (by decide) hd) mwX4_rickOf mlL_28 dL_isRick_336 (wX4_rickOf (d := 5) (Nat.le_refl _)  hh) kk_0 rfl rfl (Nat.le_of_ble_eq_true rfl) ?_
            refine s_icmp_ne (tgt := 402) C dL_isRick_339 (by decide) (fun c => ?_) (fun c => ?_)
            · have h := it_f c h
              refine s_iconst C dL_isRick_402 ic_0 ?_
              obtain ⟨rfl, rfl⟩ := pr_e h
              exact s_iret C M dL_isRick_403 rfl (nz_b (by decide)) (Nat.le_refl 0) (Nat.le_refl 0)
            · have h := it_t c h
              refine s_aload_n C dL_isRick_342 rfl rfl ?_
              refine s_iload_n C dL_isRick_343 rfl rfl ?_
              obtain ⟨r6, I6, hh, h⟩ := bd_e h
              refine s_cV0 (st := []) C M.rg (Nat.le_trans (by decide) hd) mwX4_leaningShare mlL_120 dL_isRick_344 (wX4_leaningShare (d := 5) (Nat.le_refl _)  hh) kk_0 rfl rfl (Nat.le_of_ble_eq_true rfl) ?_
              refine s_iload C dL_isRick_347 rfl ?_
              refine s_if_eq (tgt := 357) C dL_isRick_349 (by decide) (fun c => ?_) (fun c => ?_)
              · have h := it_t c h
                refine s_iload C dL_isRick_357 rfl ?_
                refine s_i2f C dL_isRick_359 ?_
                refine s_iload_n C dL_isRick_360 rfl rfl ?_
                refine s_i2f C dL_isRick_361 ?_
                obtain ⟨hnan, h⟩ := it_s h
                refine s_fdiv C dL_isRick_362 hnan ?_
                obtain ⟨v1, ev1, h⟩ := ltm_e h
                refine s_top_f ev1 ?_
                refine s_fbits C M.rg (Nat.le_trans (by decide) hd) mlL_123 dL_isRick_363 (Nat.le_of_ble_eq_true rfl) ?_
                refine s_weak (ls' := [some (rfX X 0), some (.int x1), some (.int x2), none, some (.int x4), none, none, none, none, some (.int s0), none]) [true, true, true, false, true, false, false, false, false, true, false] rfl ?_
                exact wL_isRick_p366 hd C  h M
              · have h := it_f c h
                refine s_bipush C dL_isRick_352 bi_m15 ?_
                refine s_goto (tgt := 366) C dL_isRick_354 (by decide) ?_
                refine s_weak (ls' := [some (rfX X 0), some (.int x1), some (.int x2), none, some (.int x4), none, none, none, none, some (.int s0), none]) [true, true, true, false, true, false, false, false, false, true, false] rfl ?_
                exact wL_isRick_p366 hd C  h M
theorem wL_isRick_p269 {X : Cx} {d : Nat} (hd : 46 ≤ d) (C : CtxOK X mL_isRick) {x1 : Int32} {x2 : Int32} {x3 : Int32} {x4 : Int32} {x5 : Int32} {x6 : Int32} {x7 : Int32} {x8 : Int32} {I I' : Mm} {r : Int32}  (h : fL_isRick_p269 x1 x2 x3 x4 x5 x6 x7 x8 I = some (r, I')) (M : MX X (xE X) d 0 0 (some (.int r)) S0 I') : WM X mL_isRick 269 [some (rfX X 0), some (.int x1), some (.int x2), some (.int x3), some (.int x4), some (.int x5), some (.int x6), some (.int x7), some (.int x8), none, none] [] S0 I 0 0 := by
  unfold fL_isRick_p269 at h
  refine s_iload_n C dL_isRick_269 rfl rfl ?_
  refine s_if_ne (tgt := 277) C dL_isRick_270 (by decide) (fun c => ?_) (fun c => ?_)
  · have h := it_f c h
    refine s_iconst C dL_isRick_277 ic_0 ?_
    exact wL_isRick_p278 hd C  h M
  · have h := it_t c h
    refine s_iconst C dL_isRick_273 ic_1 ?_
    refine s_goto (tgt := 278) C dL_isRick_274 (by decide) ?_
    exact wL_isRick_p278 hd C  h M
theorem wL_isRick_p85 {X : Cx} {d : Nat} (hd : 46 ≤ d) (C : CtxOK X mL_isRick) : ∀ (n : Nat) {x1 : Int32} {x2 : Int32} {x3 : Int32} {x4 : Int32} {x5 : Int32} {x6 : Int32} {x7 : Int32} {x8 : Int32} {x9 : Int32} {I I' : Mm} {r : Int32}  (_ : fL_isRick_p85 n x1 x2 x3 x4 x5 x6 x7 x8 x9 I = some (r, I')) (_ : MX X (xE X) d 0 0 (some (.int r)) S0 I'), WM X mL_isRick 85 [some (rfX X 0), some (.int x1), some (.int x2), some (.int x3), some (.int x4), some (.int x5), some (.int x6), some (.int x7), some (.int x8), some (.int x9), none] [] S0 I 0 0 := by
  intro n
  induction n with
  | zero => intro x1 x2 x3 x4 x5 x6 x7 x8 x9 I I' r  h M; exact absurd h (by simp [fL_isRick_p85])
  | succ n ih =>
    intro x1 x2 x3 x4 x5 x6 x7 x8 x9 I I' r  h M
    rw [fL_isRick_p85] at h
    refine s_iload C dL_isRick_85 rfl ?_
    refine s_if_eq (tgt := 269) C dL_isRick_87 (by decide) (fun c => ?_) (fun c => ?_)
    · have h := it_t c h
      refine s_weak (ls' := [some (rfX X 0), some (.int x1), some (.int x2), some (.int x3), some (.int x4), some (.int x5), some (.int x6), some (.int x7), some (.int x8), none, none]) [true, true, true, true, true, true, true, true, true, false, false] rfl ?_
      exact wL_isRick_p269 hd C  h M
    · have h := it_f c h
      refine s_iload C dL_isRick_90 rfl ?_
      refine s_iload_n C dL_isRick_92 rfl rfl ?_
      refine s_icmp_ge (tgt := 269) C dL_isRick_93 (by decide) (fun c => ?_) (fun c => ?_)
      · have h := it_t c h
        refine s_weak (ls' := [some (rfX X 0), some (.int x1), some (.int x2), some (.int x3), some (.int x4), some (.int x5), some (.int x6), some (.int x7), some (.int x8), none, none]) [true, true, true, true, true, true, true, true, true, false, false] rfl ?_
        exact wL_isRick_p269 hd C  h M
      · have h := it_f c h
        refine s_aload_n C dL_isRick_96 rfl rfl ?_
        refine s_iload_n C dL_isRick_97 rfl rfl ?_
        refine s_iload C dL_isRick_98 rfl ?_
        obtain ⟨r1, I1, hh, h⟩ := bd_e h
        refine s_cV0 (st := []) C M.rg (Nat.le_trans (by decide) hd) mwX4_at mlL_37 dL_isRick_100 (wX4_at (d := 2) (Nat.le_refl _)  hh) kk_0 rfl rfl (Nat.le_of_ble_eq_true rfl) ?_
        refine s_istore (ls' := [some (rfX X 0), some (.int x1), some (.int x2), some (.int x3), some (.int x4), some (.int x5), some (.int x6), some (.int x7), some (.int x8), some (.int x9), some (.int r1)]) C dL_isRick_103 (by decide) (Nat.le_of_ble_eq_true rfl) rfl rfl ?_
        refine s_iload_n C dL_isRick_105 rfl rfl ?_
        refine s_aload_n C dL_isRick_106 rfl rfl ?_
        refine s_iload_n C dL_isRick_107 rfl rfl ?_
        refine s_iload C dL_isRick_108 rfl ?_
        refine s_iconst C dL_isRick_110 ic_0 ?_
        obtain ⟨r2, I2, hh, h⟩ := bd_e h
        refine s_cV0 (st := [.int x3]) C M.rg (Nat.le_trans (by decide) hd) mwX4_sheafOf mlL_85 dL_isRick_111 (wX4_sheafOf (d := 4) (Nat.le_refl _)  hh) kk_0 rfl rfl (Nat.le_of_ble_eq_true rfl) ?_
        refine s_iadd C dL_isRick_114 ?_
        obtain ⟨v1, ev1, h⟩ := ltm_e h
        refine s_top_i ev1 ?_
        refine s_istore_n (ls' := [some (rfX X 0), some (.int x1), some (.int x2), some (.int v1), some (.int x4), some (.int x5), some (.int x6), some (.int x7), some (.int x8), some (.int x9), some (.int r1)]) C dL_isRick_115 rfl (by decide) (Nat.le_of_ble_eq_true rfl) rfl rfl ?_
        refine s_iload C dL_isRick_116 rfl ?_
        refine s_aload_n C dL_isRick_118 rfl rfl ?_
        refine s_iload_n C dL_isRick_119 rfl rfl ?_
        refine s_iload C dL_isRick_120 rfl ?_
        refine s_iconst C dL_isRick_122 ic_1 ?_
        obtain ⟨r3, I3, hh, h⟩ := bd_e h
        refine s_cV0 (st := [.int x4]) C M.rg (Nat.le_trans (by decide) hd) mwX4_sheafOf mlL_85 dL_isRick_123 (wX4_sheafOf (d := 4) (Nat.le_refl _)  hh) kk_0 rfl rfl (Nat.le_of_ble_eq_true rfl) ?_
        refine s_iadd C dL_isRick_126 ?_
        obtain ⟨v2, ev2, h⟩ := ltm_e h
        refine s_top_i ev2 ?_
        refine s_istore (ls' := [some (rfX X 0), some (.int x1), some (.int x2), some (.int v1), some (.int v2), some (.int x5), some (.int x6), some (.int x7), some (.int x8), some (.int x9), some (.int r1)]) C dL_isRick_127 (by decide) (Nat.le_of_ble_eq_true rfl) rfl rfl ?_
        refine s_iload C dL_isRick_129 rfl ?_
        refine s_aload_n C dL_isRick_131 rfl rfl ?_
        refine s_iload_n C dL_isRick_132 rfl rfl ?_
        refine s_iload C dL_isRick_133 rfl ?_
        refine s_iconst C dL_isRick_135 ic_4 ?_
        obtain ⟨r4, I4, hh, h⟩ := bd_e h
        refine s_cV0 (st := [.int x5]) C M.rg (Nat.le_trans (by decide) hd) mwX4_sheafOf mlL_85 dL_isRick_136 (wX4_sheafOf (d := 4) (Nat.le_refl _)  hh) kk_0 rfl rfl (Nat.le_of_ble_eq_true rfl) ?_
        refine s_iadd C dL_isRick_139 ?_
        obtain ⟨v3, ev3, h⟩ := ltm_e h
        refine s_top_i ev3 ?_
        refine s_istore (ls' := [some (rfX X 0), some (.int x1), some (.int x2), some (.int v1), some (.int v2), some (.int v3), some (.int x6), some (.int x7), some (.int x8), some (.int x9), some (.int r1)]) C dL_isRick_140 (by decide) (Nat.le_of_ble_eq_true rfl) rfl rfl ?_
        refine s_iload C dL_isRick_142 rfl ?_
        refine s_aload_n C dL_isRick_144 rfl rfl ?_
        refine s_iload_n C dL_isRick_145 rfl rfl ?_
        refine s_iload C dL_isRick_146 rfl ?_
        refine s_iconst C dL_isRick_148 ic_2 ?_
        obtain ⟨r5, I5, hh, h⟩ := bd_e h
        refine s_cV0 (st := [.int x6]) C M.rg (Nat.le_trans (by decide) hd) mwX4_sheafOf mlL_85 dL_isRick_149 (wX4_sheafOf (d := 4) (Nat.le_refl _)  hh) kk_0 rfl rfl (Nat.le_of_ble_eq_true rfl) ?_
        refine s_iconst C dL_isRick_152 ic_1 ?_
        refine s_icmp_ne (tgt := 160) C dL_isRick_153 (by decide) (fun c => ?_) (fun c => ?_)
        · have h := it_f c h
          refine s_iconst C dL_isRick_160 ic_0 ?_
          refine s_iadd C dL_isRick_161 ?_
          obtain ⟨v4, ev4, h⟩ := ltm_e h
          refine s_top_i ev4 ?_
          refine s_istore (ls' := [some (rfX X 0), some (.int x1), some (.int x2), some (.int v1), some (.int v2), some (.int v3), some (.int v4), some (.int x7), some (.int x8), some (.int x9), some (.int r1)]) C dL_isRick_162 (by decide) (Nat.le_of_ble_eq_true rfl) rfl rfl ?_
          refine s_iload C dL_isRick_164 rfl ?_
          refine s_aload_n C dL_isRick_166 rfl rfl ?_
          refine s_iload_n C dL_isRick_167 rfl rfl ?_
          refine s_iload C dL_isRick_168 rfl ?_
          refine s_iconst C dL_isRick_170 ic_1 ?_
          obtain ⟨r6, I6, hh, h⟩ := bd_e h
          refine s_cV0 (st := [.int x7]) C M.rg (Nat.le_trans (by decide) hd) mwX4_sheafOf mlL_85 dL_isRick_171 (wX4_sheafOf (d := 4) (Nat.le_refl _)  hh) kk_0 rfl rfl (Nat.le_of_ble_eq_true rfl) ?_
          refine s_max C M.rg (Nat.le_trans (by decide) hd) mlL_88 dL_isRick_174 w_max_s w_math_i w_max_c (Nat.le_of_ble_eq_true rfl) (Nat.le_refl 0) (Nat.le_refl 0) ?_
          obtain ⟨v5, ev5, h⟩ := ltm_e h
          refine s_top_i ev5 ?_
          refine s_istore (ls' := [some (rfX X 0), some (.int x1), some (.int x2), some (.int v1), some (.int v2), some (.int v3), some (.int v4), some (.int v5), some (.int x8), some (.int x9), some (.int r1)]) C dL_isRick_177 (by decide) (Nat.le_of_ble_eq_true rfl) rfl rfl ?_
          refine s_aload_n C dL_isRick_179 rfl rfl ?_
          refine s_iload_n C dL_isRick_180 rfl rfl ?_
          refine s_iload C dL_isRick_181 rfl ?_
          obtain ⟨r7, I7, hh, h⟩ := bd_e h
          refine s_cS0 (st := []) C M.rg (Nat.le_trans (by decide) hd) mwL_isSheaf mlL_106 dL_isRick_183 (wL_isSheaf (d := 6) (Nat.le_refl _)  hh) rfl rfl (Nat.le_of_ble_eq_true rfl) ?_
          refine s_if_eq (tgt := 260) C dL_isRick_186 (by decide) (fun c => ?_) (fun c => ?_)
          · have h := it_t c h
            refine s_iconst C dL_isRick_260 ic_0 ?_
            refine s_istore (ls' := [some (rfX X 0), some (.int x1), some (.int x2), some (.int v1), some (.int v2), some (.int v3), some (.int v4), some (.int v5), some (.int 0), some (.int x9), some (.int r1)]) C dL_isRick_261 (by decide) (Nat.le_of_ble_eq_true rfl) rfl rfl ?_
            obtain ⟨v6, ev6, h⟩ := ltm_e h
            refine s_iinc (v := v6) (ls' := [some (rfX X 0), some (.int x1), some (.int x2), some (.int v1), some (.int v2), some (.int v3), some (.int v4), some (.int v5), some (.int 0), some (.int v6), some (.int r1)]) C dL_isRick_263 rfl (by decide) (Nat.le_of_ble_eq_true rfl) (by rw [ev6, ic_1]) rfl rfl ?_
            refine s_goto (tgt := 85) C dL_isRick_266 (by decide) ?_
            refine s_weak (ls' := [some (rfX X 0), some (.int x1), some (.int x2), some (.int v1), some (.int v2), some (.int v3), some (.int v4), some (.int v5), some (.int 0), some (.int v6), none]) [true, true, true, true, true, true, true, true, true, true, false] rfl ?_
            exact ih  h M
          · have h := it_f c h
            refine s_aload_n C dL_isRick_189 rfl rfl ?_
            refine s_iload_n C dL_isRick_190 rfl rfl ?_
            refine s_iload C dL_isRick_191 rfl ?_
            refine s_sipush C dL_isRick_193 si_999 ?_
            obtain ⟨r8, I8, hh, h⟩ := bd_e h
            refine s_cV0 (st := []) C M.rg (Nat.le_trans (by decide) hd) mwX4_between mlL_110 dL_isRick_196 (wX4_between (d := 5) (Nat.le_refl _)  hh) kk_0 rfl rfl (Nat.le_of_ble_eq_true rfl) ?_
            refine s_aload_n C dL_isRick_199 rfl rfl ?_
            refine s_iload_n C dL_isRick_200 rfl rfl ?_
            refine s_iload C dL_isRick_201 rfl ?_
            refine s_sipush C dL_isRick_203 si_999 ?_
            obtain ⟨r9, I9, hh, h⟩ := bd_e h
            refine s_cV0 (st := [.int r8]) C M.rg (Nat.le_trans (by decide) hd) mwX4_betweenAgain mlL_113 dL_isRick_206 (wX4_betweenAgain (d := 3) (Nat.le_refl _)  hh) kk_0 rfl rfl (Nat.le_of_ble_eq_true rfl) ?_
            refine s_icmp_ne (tgt := 260) C dL_isRick_209 (by decide) (fun c => ?_) (fun c => ?_)
            · have h := it_f c h
              refine s_iconst C dL_isRick_260 ic_0 ?_
              refine s_istore (ls' := [some (rfX X 0), some (.int x1), some (.int x2), some (.int v1), some (.int v2), some (.int v3), some (.int v4), some (.int v5), some (.int 0), some (.int x9), some (.int r1)]) C dL_isRick_261 (by decide) (Nat.le_of_ble_eq_true rfl) rfl rfl ?_
              obtain ⟨v6, ev6, h⟩ := ltm_e h
              refine s_iinc (v := v6) (ls' := [some (rfX X 0), some (.int x1), some (.int x2), some (.int v1), some (.int v2), some (.int v3), some (.int v4), some (.int v5), some (.int 0), some (.int v6), some (.int r1)]) C dL_isRick_263 rfl (by decide) (Nat.le_of_ble_eq_true rfl) (by rw [ev6, ic_1]) rfl rfl ?_
              refine s_goto (tgt := 85) C dL_isRick_266 (by decide) ?_
              refine s_weak (ls' := [some (rfX X 0), some (.int x1), some (.int x2), some (.int v1), some (.int v2), some (.int v3), some (.int v4), some (.int v5), some (.int 0), some (.int v6), none]) [true, true, true, true, true, true, true, true, true, true, false] rfl ?_
              exact ih  h M
            · have h := it_t c h
              refine s_aload_n C dL_isRick_212 rfl rfl ?_
              refine s_iload_n C dL_isRick_213 rfl rfl ?_
              refine s_iconst C dL_isRick_214 ic_0 ?_
              refine s_iload C dL_isRick_215 rfl ?_
              obtain ⟨r10, I10, hh, h⟩ := bd_e h
              refine s_cV0 (st := []) C M.rg (Nat.le_trans (by decide) hd) mwX4_between mlL_110 dL_isRick_217 (wX4_between (d := 5) (Nat.le_refl _)  hh) kk_0 rfl rfl (Nat.le_of_ble_eq_true rfl) ?_
              refine s_iload_n C dL_isRick_220 rfl rfl ?_
              refine s_icmp_ne (tgt := 260) C dL_isRick_221 (by decide) (fun c => ?_) (fun c => ?_)
              · have h := it_f c h
                refine s_iconst C dL_isRick_260 ic_0 ?_
                refine s_istore (ls' := [some (rfX X 0), some (.int x1), some (.int x2), some (.int v1), some (.int v2), some (.int v3), some (.int v4), some (.int v5), some (.int 0), some (.int x9), some (.int r1)]) C dL_isRick_261 (by decide) (Nat.le_of_ble_eq_true rfl) rfl rfl ?_
                obtain ⟨v6, ev6, h⟩ := ltm_e h
                refine s_iinc (v := v6) (ls' := [some (rfX X 0), some (.int x1), some (.int x2), some (.int v1), some (.int v2), some (.int v3), some (.int v4), some (.int v5), some (.int 0), some (.int v6), some (.int r1)]) C dL_isRick_263 rfl (by decide) (Nat.le_of_ble_eq_true rfl) (by rw [ev6, ic_1]) rfl rfl ?_
                refine s_goto (tgt := 85) C dL_isRick_266 (by decide) ?_
                refine s_weak (ls' := [some (rfX X 0), some (.int x1), some (.int x2), some (.int v1), some (.int v2), some (.int v3), some (.int v4), some (.int v5), some (.int 0), some (.int v6), none]) [true, true, true, true, true, true, true, true, true, true, false] rfl ?_
                exact ih  h M
              · have h := it_t c h
                refine s_aload_n C dL_isRick_224 rfl rfl ?_
                refine s_iload_n C dL_isRick_225 rfl rfl ?_
                refine s_sipush C dL_isRick_226 si_936 ?_
                refine s_iload C dL_isRick_229 rfl ?_
                refine s_min C M.rg (Nat.le_trans (by decide) hd) mlL_32 dL_isRick_231 w_min_s w_math_i w_min_c (Nat.le_of_ble_eq_true rfl) (Nat.le_refl 0) (Nat.le_refl 0) ?_
                obtain ⟨r11, I11, hh, h⟩ := bd_e h
                refine s_cV0 (st := []) C M.rg (Nat.le_trans (by decide) hd) mwX4_weights mlL_116 dL_isRick_234 (wX4_weights (d := 2) (Nat.le_refl _)  hh) kk_0 rfl rfl (Nat.le_of_ble_eq_true rfl) ?_
                refine s_iload C dL_isRick_237 rfl ?_
                refine s_sipush C dL_isRick_239 si_936 ?_
                refine s_iload C dL_isRick_242 rfl ?_
                refine s_min C M.rg (Nat.le_trans (by decide) hd) mlL_32 dL_isRick_244 w_min_s w_math_i w_min_c (Nat.le_of_ble_eq_true rfl) (Nat.le_refl 0) (Nat.le_refl 0) ?_
                refine s_isub C dL_isRick_247 ?_
                refine s_lshr C dL_isRick_248 ?_
                refine s_lconst (v := 1) C dL_isRick_249 (by decide +kernel) ?_
                refine s_land C dL_isRick_250 ?_
                refine s_lconst (v := 1) C dL_isRick_251 (by decide +kernel) ?_
                refine s_lcmp C dL_isRick_252 ?_
                refine s_if_ne (tgt := 260) C dL_isRick_253 (by decide) (fun c => ?_) (fun c => ?_)
                · have h := it_f c h
                  refine s_iconst C dL_isRick_260 ic_0 ?_
                  refine s_istore (ls' := [some (rfX X 0), some (.int x1), some (.int x2), some (.int v1), some (.int v2), some (.int v3), some (.int v4), some (.int v5), some (.int 0), some (.int x9), some (.int r1)]) C dL_isRick_261 (by decide) (Nat.le_of_ble_eq_true rfl) rfl rfl ?_
                  obtain ⟨v6, ev6, h⟩ := ltm_e h
                  refine s_iinc (v := v6) (ls' := [some (rfX X 0), some (.int x1), some (.int x2), some (.int v1), some (.int v2), some (.int v3), some (.int v4), some (.int v5), some (.int 0), some (.int v6), some (.int r1)]) C dL_isRick_263 rfl (by decide) (Nat.le_of_ble_eq_true rfl) (by rw [ev6, ic_1]) rfl rfl ?_
                  refine s_goto (tgt := 85) C dL_isRick_266 (by decide) ?_
                  refine s_weak (ls' := [some (rfX X 0), some (.int x1), some (.int x2), some (.int v1), some (.int v2), some (.int v3), some (.int v4), some (.int v5), some (.int 0), some (.int v6), none]) [true, true, true, true, true, true, true, true, true, true, false] rfl ?_
                  exact ih  h M
                · have h := it_t c h
                  refine s_iconst C dL_isRick_256 ic_1 ?_
                  refine s_goto (tgt := 261) C dL_isRick_257 (by decide) ?_
                  refine s_istore (ls' := [some (rfX X 0), some (.int x1), some (.int x2), some (.int v1), some (.int v2), some (.int v3), some (.int v4), some (.int v5), some (.int 1), some (.int x9), some (.int r1)]) C dL_isRick_261 (by decide) (Nat.le_of_ble_eq_true rfl) rfl rfl ?_
                  obtain ⟨v6, ev6, h⟩ := ltm_e h
                  refine s_iinc (v := v6) (ls' := [some (rfX X 0), some (.int x1), some (.int x2), some (.int v1), some (.int v2), some (.int v3), some (.int v4), some (.int v5), some (.int 1), some (.int v6), some (.int r1)]) C dL_isRick_263 rfl (by decide) (Nat.le_of_ble_eq_true rfl) (by rw [ev6, ic_1]) rfl rfl ?_
                  refine s_goto (tgt := 85) C dL_isRick_266 (by decide) ?_
                  refine s_weak (ls' := [some (rfX X 0), some (.int x1), some (.int x2), some (.int v1), some (.int v2), some (.int v3), some (.int v4), some (.int v5), some (.int 1), some (.int v6), none]) [true, true, true, true, true, true, true, true, true, true, false] rfl ?_
                  exact ih  h M
        · have h := it_t c h
          refine s_iconst C dL_isRick_156 ic_1 ?_
          refine s_goto (tgt := 161) C dL_isRick_157 (by decide) ?_
          refine s_iadd C dL_isRick_161 ?_
          obtain ⟨v4, ev4, h⟩ := ltm_e h
          refine s_top_i ev4 ?_
          refine s_istore (ls' := [some (rfX X 0), some (.int x1), some (.int x2), some (.int v1), some (.int v2), some (.int v3), some (.int v4), some (.int x7), some (.int x8), some (.int x9), some (.int r1)]) C dL_isRick_162 (by decide) (Nat.le_of_ble_eq_true rfl) rfl rfl ?_
          refine s_iload C dL_isRick_164 rfl ?_
          refine s_aload_n C dL_isRick_166 rfl rfl ?_
          refine s_iload_n C dL_isRick_167 rfl rfl ?_
          refine s_iload C dL_isRick_168 rfl ?_
          refine s_iconst C dL_isRick_170 ic_1 ?_
          obtain ⟨r6, I6, hh, h⟩ := bd_e h
          refine s_cV0 (st := [.int x7]) C M.rg (Nat.le_trans (by decide) hd) mwX4_sheafOf mlL_85 dL_isRick_171 (wX4_sheafOf (d := 4) (Nat.le_refl _)  hh) kk_0 rfl rfl (Nat.le_of_ble_eq_true rfl) ?_
          refine s_max C M.rg (Nat.le_trans (by decide) hd) mlL_88 dL_isRick_174 w_max_s w_math_i w_max_c (Nat.le_of_ble_eq_true rfl) (Nat.le_refl 0) (Nat.le_refl 0) ?_
          obtain ⟨v5, ev5, h⟩ := ltm_e h
          refine s_top_i ev5 ?_
          refine s_istore (ls' := [some (rfX X 0), some (.int x1), some (.int x2), some (.int v1), some (.int v2), some (.int v3), some (.int v4), some (.int v5), some (.int x8), some (.int x9), some (.int r1)]) C dL_isRick_177 (by decide) (Nat.le_of_ble_eq_true rfl) rfl rfl ?_
          refine s_aload_n C dL_isRick_179 rfl rfl ?_
          refine s_iload_n C dL_isRick_180 rfl rfl ?_
          refine s_iload C dL_isRick_181 rfl ?_
          obtain ⟨r7, I7, hh, h⟩ := bd_e h
          refine s_cS0 (st := []) C M.rg (Nat.le_trans (by decide) hd) mwL_isSheaf mlL_106 dL_isRick_183 (wL_isSheaf (d := 6) (Nat.le_refl _)  hh) rfl rfl (Nat.le_of_ble_eq_true rfl) ?_
          refine s_if_eq (tgt := 260) C dL_isRick_186 (by decide) (fun c => ?_) (fun c => ?_)
          · have h := it_t c h
            refine s_iconst C dL_isRick_260 ic_0 ?_
            refine s_istore (ls' := [some (rfX X 0), some (.int x1), some (.int x2), some (.int v1), some (.int v2), some (.int v3), some (.int v4), some (.int v5), some (.int 0), some (.int x9), some (.int r1)]) C dL_isRick_261 (by decide) (Nat.le_of_ble_eq_true rfl) rfl rfl ?_
            obtain ⟨v6, ev6, h⟩ := ltm_e h
            refine s_iinc (v := v6) (ls' := [some (rfX X 0), some (.int x1), some (.int x2), some (.int v1), some (.int v2), some (.int v3), some (.int v4), some (.int v5), some (.int 0), some (.int v6), some (.int r1)]) C dL_isRick_263 rfl (by decide) (Nat.le_of_ble_eq_true rfl) (by rw [ev6, ic_1]) rfl rfl ?_
            refine s_goto (tgt := 85) C dL_isRick_266 (by decide) ?_
            refine s_weak (ls' := [some (rfX X 0), some (.int x1), some (.int x2), some (.int v1), some (.int v2), some (.int v3), some (.int v4), some (.int v5), some (.int 0), some (.int v6), none]) [true, true, true, true, true, true, true, true, true, true, false] rfl ?_
            exact ih  h M
          · have h := it_f c h
            refine s_aload_n C dL_isRick_189 rfl rfl ?_
            refine s_iload_n C dL_isRick_190 rfl rfl ?_
            refine s_iload C dL_isRick_191 rfl ?_
            refine s_sipush C dL_isRick_193 si_999 ?_
            obtain ⟨r8, I8, hh, h⟩ := bd_e h
            refine s_cV0 (st := []) C M.rg (Nat.le_trans (by decide) hd) mwX4_between mlL_110 dL_isRick_196 (wX4_between (d := 5) (Nat.le_refl _)  hh) kk_0 rfl rfl (Nat.le_of_ble_eq_true rfl) ?_
            refine s_aload_n C dL_isRick_199 rfl rfl ?_
            refine s_iload_n C dL_isRick_200 rfl rfl ?_
            refine s_iload C dL_isRick_201 rfl ?_
            refine s_sipush C dL_isRick_203 si_999 ?_
            obtain ⟨r9, I9, hh, h⟩ := bd_e h
            refine s_cV0 (st := [.int r8]) C M.rg (Nat.le_trans (by decide) hd) mwX4_betweenAgain mlL_113 dL_isRick_206 (wX4_betweenAgain (d := 3) (Nat.le_refl _)  hh) kk_0 rfl rfl (Nat.le_of_ble_eq_true rfl) ?_
            refine s_icmp_ne (tgt := 260) C dL_isRick_209 (by decide) (fun c => ?_) (fun c => ?_)
            · have h := it_f c h
              refine s_iconst C dL_isRick_260 ic_0 ?_
              refine s_istore (ls' := [some (rfX X 0), some (.int x1), some (.int x2), some (.int v1), some (.int v2), some (.int v3), some (.int v4), some (.int v5), some (.int 0), some (.int x9), some (.int r1)]) C dL_isRick_261 (by decide) (Nat.le_of_ble_eq_true rfl) rfl rfl ?_
              obtain ⟨v6, ev6, h⟩ := ltm_e h
              refine s_iinc (v := v6) (ls' := [some (rfX X 0), some (.int x1), some (.int x2), some (.int v1), some (.int v2), some (.int v3), some (.int v4), some (.int v5), some (.int 0), some (.int v6), some (.int r1)]) C dL_isRick_263 rfl (by decide) (Nat.le_of_ble_eq_true rfl) (by rw [ev6, ic_1]) rfl rfl ?_
              refine s_goto (tgt := 85) C dL_isRick_266 (by decide) ?_
              refine s_weak (ls' := [some (rfX X 0), some (.int x1), some (.int x2), some (.int v1), some (.int v2), some (.int v3), some (.int v4), some (.int v5), some (.int 0), some (.int v6), none]) [true, true, true, true, true, true, true, true, true, true, false] rfl ?_
              exact ih  h M
            · have h := it_t c h
              refine s_aload_n C dL_isRick_212 rfl rfl ?_
              refine s_iload_n C dL_isRick_213 rfl rfl ?_
              refine s_iconst C dL_isRick_214 ic_0 ?_
              refine s_iload C dL_isRick_215 rfl ?_
              obtain ⟨r10, I10, hh, h⟩ := bd_e h
              refine s_cV0 (st := []) C M.rg (Nat.le_trans (by decide) hd) mwX4_between mlL_110 dL_isRick_217 (wX4_between (d := 5) (Nat.le_refl _)  hh) kk_0 rfl rfl (Nat.le_of_ble_eq_true rfl) ?_
              refine s_iload_n C dL_isRick_220 rfl rfl ?_
              refine s_icmp_ne (tgt := 260) C dL_isRick_221 (by decide) (fun c => ?_) (fun c => ?_)
              · have h := it_f c h
                refine s_iconst C dL_isRick_260 ic_0 ?_
                refine s_istore (ls' := [some (rfX X 0), some (.int x1), some (.int x2), some (.int v1), some (.int v2), some (.int v3), some (.int v4), some (.int v5), some (.int 0), some (.int x9), some (.int r1)]) C dL_isRick_261 (by decide) (Nat.le_of_ble_eq_true rfl) rfl rfl ?_
                obtain ⟨v6, ev6, h⟩ := ltm_e h
                refine s_iinc (v := v6) (ls' := [some (rfX X 0), some (.int x1), some (.int x2), some (.int v1), some (.int v2), some (.int v3), some (.int v4), some (.int v5), some (.int 0), some (.int v6), some (.int r1)]) C dL_isRick_263 rfl (by decide) (Nat.le_of_ble_eq_true rfl) (by rw [ev6, ic_1]) rfl rfl ?_
                refine s_goto (tgt := 85) C dL_isRick_266 (by decide) ?_
                refine s_weak (ls' := [some (rfX X 0), some (.int x1), some (.int x2), some (.int v1), some (.int v2), some (.int v3), some (.int v4), some (.int v5), some (.int 0), some (.int v6), none]) [true, true, true, true, true, true, true, true, true, true, false] rfl ?_
                exact ih  h M
              · have h := it_t c h
                refine s_aload_n C dL_isRick_224 rfl rfl ?_
                refine s_iload_n C dL_isRick_225 rfl rfl ?_
                refine s_sipush C dL_isRick_226 si_936 ?_
                refine s_iload C dL_isRick_229 rfl ?_
                refine s_min C M.rg (Nat.le_trans (by decide) hd) mlL_32 dL_isRick_231 w_min_s w_math_i w_min_c (Nat.le_of_ble_eq_true rfl) (Nat.le_refl 0) (Nat.le_refl 0) ?_
                obtain ⟨r11, I11, hh, h⟩ := bd_e h
                refine s_cV0 (st := []) C M.rg (Nat.le_trans (by decide) hd) mwX4_weights mlL_116 dL_isRick_234 (wX4_weights (d := 2) (Nat.le_refl _)  hh) kk_0 rfl rfl (Nat.le_of_ble_eq_true rfl) ?_
                refine s_iload C dL_isRick_237 rfl ?_
                refine s_sipush C dL_isRick_239 si_936 ?_
                refine s_iload C dL_isRick_242 rfl ?_
                refine s_min C M.rg (Nat.le_trans (by decide) hd) mlL_32 dL_isRick_244 w_min_s w_math_i w_min_c (Nat.le_of_ble_eq_true rfl) (Nat.le_refl 0) (Nat.le_refl 0) ?_
                refine s_isub C dL_isRick_247 ?_
                refine s_lshr C dL_isRick_248 ?_
                refine s_lconst (v := 1) C dL_isRick_249 (by decide +kernel) ?_
                refine s_land C dL_isRick_250 ?_
                refine s_lconst (v := 1) C dL_isRick_251 (by decide +kernel) ?_
                refine s_lcmp C dL_isRick_252 ?_
                refine s_if_ne (tgt := 260) C dL_isRick_253 (by decide) (fun c => ?_) (fun c => ?_)
                · have h := it_f c h
                  refine s_iconst C dL_isRick_260 ic_0 ?_
                  refine s_istore (ls' := [some (rfX X 0), some (.int x1), some (.int x2), some (.int v1), some (.int v2), some (.int v3), some (.int v4), some (.int v5), some (.int 0), some (.int x9), some (.int r1)]) C dL_isRick_261 (by decide) (Nat.le_of_ble_eq_true rfl) rfl rfl ?_
                  obtain ⟨v6, ev6, h⟩ := ltm_e h
                  refine s_iinc (v := v6) (ls' := [some (rfX X 0), some (.int x1), some (.int x2), some (.int v1), some (.int v2), some (.int v3), some (.int v4), some (.int v5), some (.int 0), some (.int v6), some (.int r1)]) C dL_isRick_263 rfl (by decide) (Nat.le_of_ble_eq_true rfl) (by rw [ev6, ic_1]) rfl rfl ?_
                  refine s_goto (tgt := 85) C dL_isRick_266 (by decide) ?_
                  refine s_weak (ls' := [some (rfX X 0), some (.int x1), some (.int x2), some (.int v1), some (.int v2), some (.int v3), some (.int v4), some (.int v5), some (.int 0), some (.int v6), none]) [true, true, true, true, true, true, true, true, true, true, false] rfl ?_
                  exact ih  h M
                · have h := it_t c h
                  refine s_iconst C dL_isRick_256 ic_1 ?_
                  refine s_goto (tgt := 261) C dL_isRick_257 (by decide) ?_
                  refine s_istore (ls' := [some (rfX X 0), some (.int x1), some (.int x2), some (.int v1), some (.int v2), some (.int v3), some (.int v4), some (.int v5), some (.int 1), some (.int x9), some (.int r1)]) C dL_isRick_261 (by decide) (Nat.le_of_ble_eq_true rfl) rfl rfl ?_
                  obtain ⟨v6, ev6, h⟩ := ltm_e h
                  refine s_iinc (v := v6) (ls' := [some (rfX X 0), some (.int x1), some (.int x2), some (.int v1), some (.int v2), some (.int v3), some (.int v4), some (.int v5), some (.int 1), some (.int v6), some (.int r1)]) C dL_isRick_263 rfl (by decide) (Nat.le_of_ble_eq_true rfl) (by rw [ev6, ic_1]) rfl rfl ?_
                  refine s_goto (tgt := 85) C dL_isRick_266 (by decide) ?_
                  refine s_weak (ls' := [some (rfX X 0), some (.int x1), some (.int x2), some (.int v1), some (.int v2), some (.int v3), some (.int v4), some (.int v5), some (.int 1), some (.int v6), none]) [true, true, true, true, true, true, true, true, true, true, false] rfl ?_
                  exact ih  h M
