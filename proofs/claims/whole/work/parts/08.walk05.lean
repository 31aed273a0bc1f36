theorem wX4_isSound {E : Ev} {d : Nat} (hd : 44 ≤ d) {x0 : Nat} {I I' : Mm} {r : Int32} (hx0 : kd0 x0 = 1) (h : fX4_isSound x0 I = some (r, I')) : SemM E d 0 0 mX4_isSound [rfE E x0] S0 I (some (.int r)) S0 I' := by
  unfold fX4_isSound at h
  refine SemM.ofX (E := E) (y := mX4_isSound) (args := fun E => [rfE E x0]) (r := fun E => (some (.int r))) (fun E => [some (rfE E x0), none, none]) (by decide +kernel) (Nat.le_of_ble_eq_true rfl) rfl (fun X C M => ?_)
  refine s_aload_n C dX4_isSound_0 rfl rfl ?_
  obtain ⟨r1, I1, hh, h⟩ := bd_e h
  refine s_cV0 (st := []) C M.rg (Nat.le_trans (by decide) hd) mwX1_isInOrder mlX4_282 dX4_isSound_1 (wX1_isInOrder (d := 2) (Nat.le_refl _) hx0 hh) hx0 rfl rfl (Nat.le_of_ble_eq_true rfl) ?_
  refine s_if_eq (tgt := 22) C dX4_isSound_4 (by decide) (fun c => ?_) (fun c => ?_)
  · have h := it_t c h
    refine s_iconst C dX4_isSound_22 ic_0 ?_
    obtain ⟨rfl, rfl⟩ := pr_e h
    exact s_iret C M dX4_isSound_23 rfl (nz_b (by decide)) (Nat.le_refl 0) (Nat.le_refl 0)
  · have h := it_f c h
    refine s_aload_n C dX4_isSound_7 rfl rfl ?_
    refine s_iconst C dX4_isSound_8 ic_0 ?_
    refine s_aload_n C dX4_isSound_9 rfl rfl ?_
    refine s_getI C dX4_isSound_10 hx0 foX4_111 rfl ?_
    refine s_iconst C dX4_isSound_13 ic_1 ?_
    refine s_isub C dX4_isSound_14 ?_
    refine s_iconst C dX4_isSound_15 ic_0 ?_
    obtain ⟨r2, I2, hh, h⟩ := bd_e h
    refine s_cS0 (st := []) C M.rg (Nat.le_trans (by decide) hd) mwX4_isTree mlX4_286 dX4_isSound_16 (wX4_isTree _ (d := 43) (Nat.le_refl _) hx0 hh) rfl rfl (Nat.le_of_ble_eq_true rfl) ?_
    refine s_if_ne (tgt := 24) C dX4_isSound_19 (by decide) (fun c => ?_) (fun c => ?_)
    · have h := it_f c h
      refine s_iconst C dX4_isSound_24 ic_0 ?_
      refine s_istore_n (ls' := [some (rfX X x0), some (.int 0), none]) C dX4_isSound_25 rfl (by decide) (Nat.le_of_ble_eq_true rfl) rfl rfl ?_
      exact wX4_isSound_p26 hd C _ hx0 h M
    · have h := it_t c h
      refine s_iconst C dX4_isSound_22 ic_0 ?_
      obtain ⟨rfl, rfl⟩ := pr_e h
      exact s_iret C M dX4_isSound_23 rfl (nz_b (by decide)) (Nat.le_refl 0) (Nat.le_refl 0)
theorem wX4_isBalanced_p29 {X : Cx} {d : Nat} (hd : 45 ≤ d) (C : CtxOK X mX4_isBalanced) : ∀ (n : Nat) {x1 : Int32} {I I' : Mm} {r : Int32}  (_ : fX4_isBalanced_p29 n x1 I = some (r, I')) (_ : MX X (xE X) d 0 0 (some (.int r)) S0 I'), WM X mX4_isBalanced 29 [some (rfX X 0), some (.int x1), none] [] S0 I 0 0 := by
  intro n
  induction n with
  | zero => intro x1 I I' r  h M; exact absurd h (by simp [fX4_isBalanced_p29])
  | succ n ih =>
    intro x1 I I' r  h M
    rw [fX4_isBalanced_p29] at h
    refine s_iload_n C dX4_isBalanced_29 rfl rfl ?_
    refine s_iconst C dX4_isBalanced_30 ic_3 ?_
    refine s_icmp_ge (tgt := 62) C dX4_isBalanced_31 (by decide) (fun c => ?_) (fun c => ?_)
    · have h := it_t c h
      refine s_iconst C dX4_isBalanced_62 ic_1 ?_
      obtain ⟨rfl, rfl⟩ := pr_e h
      exact s_iret C M dX4_isBalanced_63 rfl rfl (Nat.le_refl 0) (Nat.le_refl 0)
    · have h := it_f c h
      refine s_aload_n C dX4_isBalanced_34 rfl rfl ?_
      refine s_getR (b := 1) C dX4_isBalanced_35 kk_0 foX4_10 rfl rk_0_0 ?_
      refine s_iload_n C dX4_isBalanced_38 rfl rfl ?_
      obtain ⟨r1, I1, hh, h⟩ := bd_e h
      refine s_cV0 (st := []) C M.rg (Nat.le_trans (by decide) hd) mwX3_rickAt mlX4_71 dX4_isBalanced_39 (wX3_rickAt (d := 1) (Nat.le_refl _) kk_1 hh) kk_1 rfl rfl (Nat.le_of_ble_eq_true rfl) ?_
      refine s_astore_no (ls' := [some (rfX X 0), some (.int x1), some (rvE (xE X) r1)]) C dX4_isBalanced_42 rfl (by decide) (Nat.le_of_ble_eq_true rfl) rfl rfl ?_
      refine s_aload_no C dX4_isBalanced_43 rfl rfl ?_
      cases r1 with
      | none =>
        have h := on_n h
        refine s_ifnullN (tgt := 54) C dX4_isBalanced_44 (by decide) ?_
        refine s_iconst C dX4_isBalanced_54 ic_0 ?_
        obtain ⟨rfl, rfl⟩ := pr_e h
        exact s_iret C M dX4_isBalanced_55 rfl rfl (Nat.le_refl 0) (Nat.le_refl 0)
      | some q1 =>
        obtain ⟨hq1, h⟩ := it_s (on_s h)
        refine s_ifnull C dX4_isBalanced_44 ?_
        refine s_aload_n C dX4_isBalanced_47 rfl rfl ?_
        obtain ⟨r2, I2, hh, h⟩ := bd_e h
        refine s_cS0 (st := []) C M.rg (Nat.le_trans (by decide) hd) mwX4_isSound mlX4_230 dX4_isBalanced_48 (wX4_isSound (d := 44) (Nat.le_refl _) hq1 hh) rfl rfl (Nat.le_of_ble_eq_true rfl) ?_
        refine s_if_ne (tgt := 56) C dX4_isBalanced_51 (by decide) (fun c => ?_) (fun c => ?_)
        · have h := it_f c h
          obtain ⟨v1, ev1, h⟩ := ltm_e h
          refine s_iinc (v := v1) (ls' := [some (rfX X 0), some (.int v1), some (rfX X q1)]) C dX4_isBalanced_56 rfl (by decide) (Nat.le_of_ble_eq_true rfl) (by rw [ev1, ic_1]) rfl rfl ?_
          refine s_goto (tgt := 29) C dX4_isBalanced_59 (by decide) ?_
          refine s_weak (ls' := [some (rfX X 0), some (.int v1), none]) [true, true, false] rfl ?_
          exact ih  h M
        · have h := it_t c h
          refine s_iconst C dX4_isBalanced_54 ic_0 ?_
          obtain ⟨rfl, rfl⟩ := pr_e h
          exact s_iret C M dX4_isBalanced_55 rfl rfl (Nat.le_refl 0) (Nat.le_refl 0)
theorem wX4_isBalanced {E : Ev} {d : Nat} (hd : 45 ≤ d)  {I I' : Mm} {r : Int32}  (h : fX4_isBalanced  I = some (r, I')) : SemM E d 0 0 mX4_isBalanced [rfE E 0] S0 I (some (.int r)) S0 I' := by
  unfold fX4_isBalanced at h
  refine SemM.ofX (E := E) (y := mX4_isBalanced) (args := fun E => [rfE E 0]) (r := fun E => (some (.int r))) (fun E => [some (rfE E 0), none, none]) (by decide +kernel) (Nat.le_of_ble_eq_true rfl) rfl (fun X C M => ?_)
  refine s_aload_n C dX4_isBalanced_0 rfl rfl ?_
  refine s_getR (b := 1) C dX4_isBalanced_1 kk_0 foX4_10 rfl rk_0_0 ?_
  obtain ⟨r1, I1, hh, h⟩ := bd_e h
  refine s_cV0 (st := []) C M.rg (Nat.le_trans (by decide) hd) mwX3_sheaves mlX4_149 dX4_isBalanced_4 (wX3_sheaves (d := 2) (Nat.le_refl _) kk_1 hh) kk_1 rfl rfl (Nat.le_of_ble_eq_true rfl) ?_
  refine s_aload_n C dX4_isBalanced_7 rfl rfl ?_
  refine s_getR (b := 1) C dX4_isBalanced_8 kk_0 foX4_10 rfl rk_0_0 ?_
  refine s_getI C dX4_isBalanced_11 kk_1 foX4_209 rfl ?_
  refine s_aload_n C dX4_isBalanced_14 rfl rfl ?_
  refine s_getR (b := 1) C dX4_isBalanced_15 kk_0 foX4_10 rfl rk_0_0 ?_
  refine s_getI C dX4_isBalanced_18 kk_1 foX4_212 rfl ?_
  refine s_isub C dX4_isBalanced_21 ?_
  refine s_icmp_eq (tgt := 27) C dX4_isBalanced_22 (by decide) (fun c => ?_) (fun c => ?_)
  · have h := it_t c h
    refine s_iconst C dX4_isBalanced_27 ic_0 ?_
    refine s_istore_n (ls' := [some (rfX X 0), some (.int 0), none]) C dX4_isBalanced_28 rfl (by decide) (Nat.le_of_ble_eq_true rfl) rfl rfl ?_
    exact wX4_isBalanced_p29 hd C _  h M
  · have h := it_f c h
    refine s_iconst C dX4_isBalanced_25 ic_0 ?_
    obtain ⟨rfl, rfl⟩ := pr_e h
    exact s_iret C M dX4_isBalanced_26 rfl rfl (Nat.le_refl 0) (Nat.le_refl 0)
theorem wX4_shareBits_p15 {X : Cx} {d : Nat} (hd : 1 ≤ d) (C : CtxOK X mX4_shareBits) : ∀ (n : Nat) {x1 : UInt32} {x2 : Int32} {x3 : Int32} {I I' : Mm} {r : Int32}  (_ : fX4_shareBits_p15 n x1 x2 x3 I = some (r, I')) (_ : MX X (xE X) d 0 0 (some (.int r)) S0 I'), WM X mX4_shareBits 15 [none, some (.float x1), some (.int x2), some (.int x3)] [] S0 I 0 0 := by
  intro n
  induction n with
  | zero => intro x1 x2 x3 I I' r  h M; exact absurd h (by simp [fX4_shareBits_p15])
  | succ n ih =>
    intro x1 x2 x3 I I' r  h M
    rw [fX4_shareBits_p15] at h
    refine s_iload_n C dX4_shareBits_15 rfl rfl ?_
    refine s_bipush C dX4_shareBits_16 bi_64 ?_
    refine s_icmp_ge (tgt := 40) C dX4_shareBits_18 (by decide) (fun c => ?_) (fun c => ?_)
    · have h := it_t c h
      refine s_iload_n C dX4_shareBits_40 rfl rfl ?_
      refine s_bipush C dX4_shareBits_41 bi_23 ?_
      refine s_ishl C dX4_shareBits_43 ?_
      refine s_fload_n C dX4_shareBits_44 rfl rfl ?_
      refine s_fconst1 C dX4_shareBits_45 ?_
      obtain ⟨hnan, h⟩ := it_s h
      refine s_fsub C dX4_shareBits_46 hnan ?_
      obtain ⟨v1, ev1, h⟩ := ltm_e h
      refine s_top_f ev1 ?_
      refine s_ldcwf C dX4_shareBits_47 coX4_290 ?_
      obtain ⟨hnan, h⟩ := it_s h
      refine s_fmul C dX4_shareBits_50 hnan ?_
      obtain ⟨v2, ev2, h⟩ := ltm_e h
      refine s_top_f ev2 ?_
      refine s_f2i C dX4_shareBits_51 ?_
      refine s_iadd C dX4_shareBits_52 ?_
      obtain ⟨rfl, rfl⟩ := pr_e h
      exact s_iret C M dX4_shareBits_53 rfl rfl (Nat.le_refl 0) (Nat.le_refl 0)
    · have h := it_f c h
      refine s_fload_n C dX4_shareBits_21 rfl rfl ?_
      refine s_fconst1 C dX4_shareBits_22 ?_
      refine s_fcmp C dX4_shareBits_23 ?_
      refine s_if_ge (tgt := 40) C dX4_shareBits_24 (by decide) (fun c => ?_) (fun c => ?_)
      · have h := it_t c h
        refine s_iload_n C dX4_shareBits_40 rfl rfl ?_
        refine s_bipush C dX4_shareBits_41 bi_23 ?_
        refine s_ishl C dX4_shareBits_43 ?_
        refine s_fload_n C dX4_shareBits_44 rfl rfl ?_
        refine s_fconst1 C dX4_shareBits_45 ?_
        obtain ⟨hnan, h⟩ := it_s h
        refine s_fsub C dX4_shareBits_46 hnan ?_
        obtain ⟨v1, ev1, h⟩ := ltm_e h
        refine s_top_f ev1 ?_
        refine s_ldcwf C dX4_shareBits_47 coX4_290 ?_
        obtain ⟨hnan, h⟩ := it_s h
        refine s_fmul C dX4_shareBits_50 hnan ?_
        obtain ⟨v2, ev2, h⟩ := ltm_e h
        refine s_top_f ev2 ?_
        refine s_f2i C dX4_shareBits_51 ?_
        refine s_iadd C dX4_shareBits_52 ?_
        obtain ⟨rfl, rfl⟩ := pr_e h
        exact s_iret C M dX4_shareBits_53 rfl rfl (Nat.le_refl 0) (Nat.le_refl 0)
      · have h := it_f c h
        refine s_fload_n C dX4_shareBits_27 rfl rfl ?_
        refine s_fconst2 C dX4_shareBits_28 ?_
        obtain ⟨hnan, h⟩ := it_s h
        refine s_fmul C dX4_shareBits_29 hnan ?_
        obtain ⟨v1, ev1, h⟩ := ltm_e h
        refine s_top_f ev1 ?_
        refine s_fstore_n (ls' := [none, some (.float v1), some (.int x2), some (.int x3)]) C dX4_shareBits_30 rfl (by decide) (Nat.le_of_ble_eq_true rfl) rfl rfl ?_
        obtain ⟨v2, ev2, h⟩ := ltm_e h
        refine s_iinc (v := v2) (ls' := [none, some (.float v1), some (.int v2), some (.int x3)]) C dX4_shareBits_31 rfl (by decide) (Nat.le_of_ble_eq_true rfl) (by rw [ev2, ic_m1]) rfl rfl ?_
        obtain ⟨v3, ev3, h⟩ := ltm_e h
        refine s_iinc (v := v3) (ls' := [none, some (.float v1), some (.int v2), some (.int v3)]) C dX4_shareBits_34 rfl (by decide) (Nat.le_of_ble_eq_true rfl) (by rw [ev3, ic_1]) rfl rfl ?_
        refine s_goto (tgt := 15) C dX4_shareBits_37 (by decide) ?_
        exact ih  h M
theorem wX4_shareBits {E : Ev} {d : Nat} (hd : 1 ≤ d) {x0 : UInt32} {I I' : Mm} {r : Int32}  (h : fX4_shareBits x0 I = some (r, I')) : SemM E d 0 0 mX4_shareBits [.float x0] S0 I (some (.int r)) S0 I' := by
  unfold fX4_shareBits at h
  refine SemM.ofX (E := E) (y := mX4_shareBits) (args := fun E => [.float x0]) (r := fun E => (some (.int r))) (fun E => [some (.float x0), none, none, none]) (by decide +kernel) (Nat.le_of_ble_eq_true rfl) rfl (fun X C M => ?_)
  refine s_fload_n C dX4_shareBits_0 rfl rfl ?_
  refine s_fconst0 C dX4_shareBits_1 ?_
  refine s_fcmp C dX4_shareBits_2 ?_
  refine s_if_gt (tgt := 8) C dX4_shareBits_3 (by decide) (fun c => ?_) (fun c => ?_)
  · have h := it_t c h
    refine s_fload_n C dX4_shareBits_8 rfl rfl ?_
    refine s_fstore_n (ls' := [some (.float x0), some (.float x0), none, none]) C dX4_shareBits_9 rfl (by decide) (Nat.le_of_ble_eq_true rfl) rfl rfl ?_
    refine s_bipush C dX4_shareBits_10 bi_127 ?_
    refine s_istore_n (ls' := [some (.float x0), some (.float x0), some (.int 127), none]) C dX4_shareBits_12 rfl (by decide) (Nat.le_of_ble_eq_true rfl) rfl rfl ?_
    refine s_iconst C dX4_shareBits_13 ic_0 ?_
    refine s_istore_n (ls' := [some (.float x0), some (.float x0), some (.int 127), some (.int 0)]) C dX4_shareBits_14 rfl (by decide) (Nat.le_of_ble_eq_true rfl) rfl rfl ?_
    refine s_weak (ls' := [none, some (.float x0), some (.int 127), some (.int 0)]) [false, true, true, true] rfl ?_
    exact wX4_shareBits_p15 hd C _  h M
  · have h := it_f c h
    refine s_iconst C dX4_shareBits_6 ic_0 ?_
    obtain ⟨rfl, rfl⟩ := pr_e h
    exact s_iret C M dX4_shareBits_7 rfl rfl (Nat.le_refl 0) (Nat.le_refl 0)
theorem wX4_leaningShare {E : Ev} {d : Nat} (hd : 5 ≤ d) {x1 : Int32} {I I' : Mm} {r : Int32}  (h : fX4_leaningShare x1 I = some (r, I')) : SemM E d 0 0 mX4_leaningShare [rfE E 0, .int x1] S0 I (some (.int r)) S0 I' := by
  unfold fX4_leaningShare at h
  refine SemM.ofX (E := E) (y := mX4_leaningShare) (args := fun E => [rfE E 0, .int x1]) (r := fun E => (some (.int r))) (fun E => [some (rfE E 0), some (.int x1), none]) (by decide +kernel) (Nat.le_of_ble_eq_true rfl) rfl (fun X C M => ?_)
  refine s_aload_n C dX4_leaningShare_0 rfl rfl ?_
  refine s_getR (b := 1) C dX4_leaningShare_1 kk_0 foX4_10 rfl rk_0_0 ?_
  refine s_iload_n C dX4_leaningShare_4 rfl rfl ?_
  obtain ⟨r1, I1, hh, h⟩ := bd_e h
  refine s_cV0 (st := []) C M.rg (Nat.le_trans (by decide) hd) mwX3_rickAt mlX4_71 dX4_leaningShare_5 (wX3_rickAt (d := 1) (Nat.le_refl _) kk_1 hh) kk_1 rfl rfl (Nat.le_of_ble_eq_true rfl) ?_
  refine s_astore_no (ls' := [some (rfX X 0), some (.int x1), some (rvE (xE X) r1)]) C dX4_leaningShare_8 rfl (by decide) (Nat.le_of_ble_eq_true rfl) rfl rfl ?_
  refine s_aload_no C dX4_leaningShare_9 rfl rfl ?_
  cases r1 with
  | none =>
    have h := on_n h
    refine s_ifnonnullN C dX4_leaningShare_10 ?_
    refine s_bipush C dX4_leaningShare_13 bi_m11 ?_
    obtain ⟨rfl, rfl⟩ := pr_e h
    exact s_iret C M dX4_leaningShare_15 rfl rfl (Nat.le_refl 0) (Nat.le_refl 0)
  | some q1 =>
    obtain ⟨hq1, h⟩ := it_s (on_s h)
    refine s_ifnonnull (tgt := 16) C dX4_leaningShare_10 (by decide) ?_
    refine s_aload_n C dX4_leaningShare_16 rfl rfl ?_
    refine s_getI C dX4_leaningShare_17 hq1 foX4_111 rfl ?_
    refine s_if_gt (tgt := 26) C dX4_leaningShare_20 (by decide) (fun c => ?_) (fun c => ?_)
    · have h := it_t c h
      refine s_aload_n C dX4_leaningShare_26 rfl rfl ?_
      refine s_aload_n C dX4_leaningShare_27 rfl rfl ?_
      refine s_getR (b := 1) C dX4_leaningShare_28 kk_0 foX4_10 rfl rk_0_0 ?_
      refine s_getI C dX4_leaningShare_31 kk_1 foX4_95 rfl ?_
      obtain ⟨r2, I2, hh, h⟩ := bd_e h
      refine s_cV0 (st := []) C M.rg (Nat.le_trans (by decide) hd) mwX1_leaning mlX4_124 dX4_leaningShare_34 (wX1_leaning (d := 4) (Nat.le_refl _) hq1 hh) hq1 rfl rfl (Nat.le_of_ble_eq_true rfl) ?_
      refine s_i2f C dX4_leaningShare_37 ?_
      refine s_aload_n C dX4_leaningShare_38 rfl rfl ?_
      refine s_getI C dX4_leaningShare_39 hq1 foX4_111 rfl ?_
      refine s_i2f C dX4_leaningShare_42 ?_
      obtain ⟨hnan, h⟩ := it_s h
      refine s_fdiv C dX4_leaningShare_43 hnan ?_
      obtain ⟨v1, ev1, h⟩ := ltm_e h
      refine s_top_f ev1 ?_
      obtain ⟨r3, I3, hh, h⟩ := bd_e h
      refine s_cS0 (st := []) C M.rg (Nat.le_trans (by decide) hd) mwX4_shareBits mlX4_167 dX4_leaningShare_44 (wX4_shareBits (d := 1) (Nat.le_refl _)  hh) rfl rfl (Nat.le_of_ble_eq_true rfl) ?_
      obtain ⟨rfl, rfl⟩ := pr_e h
      exact s_iret C M dX4_leaningShare_47 rfl rfl (Nat.le_refl 0) (Nat.le_refl 0)
    · have h := it_f c h
      refine s_bipush C dX4_leaningShare_23 bi_m15 ?_
      obtain ⟨rfl, rfl⟩ := pr_e h
      exact s_iret C M dX4_leaningShare_25 rfl rfl (Nat.le_refl 0) (Nat.le_refl 0)
theorem wX4_limit {E : Ev} {d : Nat} (hd : 4 ≤ d) {x1 : Int32} {I I' : Mm} {r : Int32}  (h : fX4_limit x1 I = some (r, I')) : SemM E d 0 0 mX4_limit [rfE E 0, .int x1] S0 I (some (.int r)) S0 I' := by
  unfold fX4_limit at h
  refine SemM.ofX (E := E) (y := mX4_limit) (args := fun E => [rfE E 0, .int x1]) (r := fun E => (some (.int r))) (fun E => [some (rfE E 0), some (.int x1)]) (by decide +kernel) (Nat.le_of_ble_eq_true rfl) rfl (fun X C M => ?_)
  refine s_aload_n C dX4_limit_0 rfl rfl ?_
  obtain ⟨r1, I1, hh, h⟩ := bd_e h
  refine s_cV0 (st := []) C M.rg (Nat.le_trans (by decide) hd) mwX4_hold mlX4_47 dX4_limit_1 (wX4_hold (d := 3) (Nat.le_refl _)  hh) kk_0 rfl rfl (Nat.le_of_ble_eq_true rfl) ?_
  refine s_aload_n C dX4_limit_4 rfl rfl ?_
  refine s_aload_n C dX4_limit_5 rfl rfl ?_
  refine s_iload_n C dX4_limit_6 rfl rfl ?_
  obtain ⟨r2, I2, hh, h⟩ := bd_e h
  refine s_cV0 (st := [rfX X 0]) C M.rg (Nat.le_trans (by decide) hd) mwX4_limitNow mlX4_68 dX4_limit_7 (wX4_limitNow (d := 2) (Nat.le_refl _)  hh) kk_0 rfl rfl (Nat.le_of_ble_eq_true rfl) ?_
  obtain ⟨r3, I3, hh, h⟩ := bd_e h
  refine s_cV0 (st := []) C M.rg (Nat.le_trans (by decide) hd) mwX4_keep mlX4_54 dX4_limit_10 (wX4_keep (d := 1) (Nat.le_refl _)  hh) kk_0 rfl rfl (Nat.le_of_ble_eq_true rfl) ?_
  obtain ⟨rfl, rfl⟩ := pr_e h
  exact s_iret C M dX4_limit_13 rfl rfl (Nat.le_refl 0) (Nat.le_refl 0)
theorem wX4_meanBits_p52 {X : Cx} {d : Nat} (hd : 1 ≤ d) (C : CtxOK X mX4_meanBits) : ∀ (n : Nat) {x2 : UInt64} {x4 : Int64} {x6 : Int32} {I I' : Mm} {r : Int64}  (_ : fX4_meanBits_p52 n x2 x4 x6 I = some (r, I')) (_ : MX X (xE X) d 0 0 (some (.long r)) S0 I'), WM X mX4_meanBits 52 [none, none, some (.double x2), none, some (.long x4), none, some (.int x6)] [] S0 I 0 0 := by
  intro n
  induction n with
  | zero => intro x2 x4 x6 I I' r  h M; exact absurd h (by simp [fX4_meanBits_p52])
  | succ n ih =>
    intro x2 x4 x6 I I' r  h M
    rw [fX4_meanBits_p52] at h
    refine s_iload C dX4_meanBits_52 rfl ?_
    refine s_bipush C dX4_meanBits_54 bi_64 ?_
    refine s_icmp_ge (tgt := 85) C dX4_meanBits_56 (by decide) (fun c => ?_) (fun c => ?_)
    · have h := it_t c h
      refine s_lload C dX4_meanBits_85 rfl ?_
      refine s_bipush C dX4_meanBits_87 bi_52 ?_
      refine s_lshl C dX4_meanBits_89 ?_
      refine s_dload_n C dX4_meanBits_90 rfl rfl ?_
      refine s_dconst1 C dX4_meanBits_91 ?_
      obtain ⟨hnan, h⟩ := it_s h
      refine s_dsub C dX4_meanBits_92 hnan ?_
      obtain ⟨v1, ev1, h⟩ := ltm_e h
      refine s_top_d ev1 ?_
      refine s_ldcd C dX4_meanBits_93 coX4_295 ?_
      obtain ⟨hnan, h⟩ := it_s h
      refine s_dmul C dX4_meanBits_96 hnan ?_
      obtain ⟨v2, ev2, h⟩ := ltm_e h
      refine s_top_d ev2 ?_
      refine s_d2l C dX4_meanBits_97 ?_
      refine s_ladd C dX4_meanBits_98 ?_
      obtain ⟨rfl, rfl⟩ := pr_e h
      exact s_lret C M dX4_meanBits_99 rfl (Nat.le_refl 0) (Nat.le_refl 0)
    · have h := it_f c h
      refine s_dload_n C dX4_meanBits_59 rfl rfl ?_
      refine s_ldcd C dX4_meanBits_60 coX4_293 ?_
      refine s_dcmp C dX4_meanBits_63 ?_
      refine s_if_lt (tgt := 85) C dX4_meanBits_64 (by decide) (fun c => ?_) (fun c => ?_)
      · have h := it_t c h
        refine s_lload C dX4_meanBits_85 rfl ?_
        refine s_bipush C dX4_meanBits_87 bi_52 ?_
        refine s_lshl C dX4_meanBits_89 ?_
        refine s_dload_n C dX4_meanBits_90 rfl rfl ?_
        refine s_dconst1 C dX4_meanBits_91 ?_
        obtain ⟨hnan, h⟩ := it_s h
        refine s_dsub C dX4_meanBits_92 hnan ?_
        obtain ⟨v1, ev1, h⟩ := ltm_e h
        refine s_top_d ev1 ?_
        refine s_ldcd C dX4_meanBits_93 coX4_295 ?_
        obtain ⟨hnan, h⟩ := it_s h
        refine s_dmul C dX4_meanBits_96 hnan ?_
        obtain ⟨v2, ev2, h⟩ := ltm_e h
        refine s_top_d ev2 ?_
        refine s_d2l C dX4_meanBits_97 ?_
        refine s_ladd C dX4_meanBits_98 ?_
        obtain ⟨rfl, rfl⟩ := pr_e h
        exact s_lret C M dX4_meanBits_99 rfl (Nat.le_refl 0) (Nat.le_refl 0)
      · have h := it_f c h
        refine s_dload_n C dX4_meanBits_67 rfl rfl ?_
        refine s_ldcd C dX4_meanBits_68 coX4_293 ?_
        obtain ⟨hnan, h⟩ := it_s h
        refine s_ddiv C dX4_meanBits_71 hnan ?_
        obtain ⟨v1, ev1, h⟩ := ltm_e h
        refine s_top_d ev1 ?_
        refine s_dstore_n (ls' := [none, none, some (.double v1), none, some (.long x4), none, some (.int x6)]) C dX4_meanBits_72 rfl (by decide) (Nat.le_of_ble_eq_true rfl) rfl rfl ?_
        refine s_lload C dX4_meanBits_73 rfl ?_
        refine s_lconst (v := 1) C dX4_meanBits_75 (by decide +kernel) ?_
        refine s_ladd C dX4_meanBits_76 ?_
        obtain ⟨v2, ev2, h⟩ := ltm_e h
        refine s_top_l ev2 ?_
        refine s_lstore (ls' := [none, none, some (.double v1), none, some (.long v2), none, some (.int x6)]) C dX4_meanBits_77 (by decide) (Nat.le_of_ble_eq_true rfl) rfl rfl ?_
        obtain ⟨v3, ev3, h⟩ := ltm_e h
        refine s_iinc (v := v3) (ls' := [none, none, some (.double v1), none, some (.long v2), none, some (.int v3)]) C dX4_meanBits_79 rfl (by decide) (Nat.le_of_ble_eq_true rfl) (by rw [ev3, ic_1]) rfl rfl ?_
        refine s_goto (tgt := 52) C dX4_meanBits_82 (by decide) ?_
        exact ih  h M
theorem wX4_meanBits_p49 {X : Cx} {d : Nat} (hd : 1 ≤ d) (C : CtxOK X mX4_meanBits) {x2 : UInt64} {x4 : Int64} {I I' : Mm} {r : Int64}  (h : fX4_meanBits_p49 x2 x4 I = some (r, I')) (M : MX X (xE X) d 0 0 (some (.long r)) S0 I') : WM X mX4_meanBits 49 [none, none, some (.double x2), none, some (.long x4), none, none] [] S0 I 0 0 := by
  unfold fX4_meanBits_p49 at h
  refine s_iconst C dX4_meanBits_49 ic_0 ?_
  refine s_istore (ls' := [none, none, some (.double x2), none, some (.long x4), none, some (.int 0)]) C dX4_meanBits_50 (by decide) (Nat.le_of_ble_eq_true rfl) rfl rfl ?_
  exact wX4_meanBits_p52 hd C _  h M
theorem wX4_meanBits_p18 {X : Cx} {d : Nat} (hd : 1 ≤ d) (C : CtxOK X mX4_meanBits) : ∀ (n : Nat) {x2 : UInt64} {x4 : Int64} {x6 : Int32} {I I' : Mm} {r : Int64}  (_ : fX4_meanBits_p18 n x2 x4 x6 I = some (r, I')) (_ : MX X (xE X) d 0 0 (some (.long r)) S0 I'), WM X mX4_meanBits 18 [none, none, some (.double x2), none, some (.long x4), none, some (.int x6)] [] S0 I 0 0 := by
  intro n
  induction n with
  | zero => intro x2 x4 x6 I I' r  h M; exact absurd h (by simp [fX4_meanBits_p18])
  | succ n ih =>
    intro x2 x4 x6 I I' r  h M
    rw [fX4_meanBits_p18] at h
    refine s_iload C dX4_meanBits_18 rfl ?_
    refine s_bipush C dX4_meanBits_20 bi_64 ?_
    refine s_icmp_ge (tgt := 49) C dX4_meanBits_22 (by decide) (fun c => ?_) (fun c => ?_)
    · have h := it_t c h
      refine s_weak (ls' := [none, none, some (.double x2), none, some (.long x4), none, none]) [false, false, true, false, true, false, false] rfl ?_
      exact wX4_meanBits_p49 hd C  h M
    · have h := it_f c h
      refine s_dload_n C dX4_meanBits_25 rfl rfl ?_
      refine s_dconst1 C dX4_meanBits_26 ?_
      refine s_dcmp C dX4_meanBits_27 ?_
      refine s_if_ge (tgt := 49) C dX4_meanBits_28 (by decide) (fun c => ?_) (fun c => ?_)
      · have h := it_t c h
        refine s_weak (ls' := [none, none, some (.double x2), none, some (.long x4), none, none]) [false, false, true, false, true, false, false] rfl ?_
        exact wX4_meanBits_p49 hd C  h M
      · have h := it_f c h
        refine s_dload_n C dX4_meanBits_31 rfl rfl ?_
        refine s_ldcd C dX4_meanBits_32 coX4_293 ?_
        obtain ⟨hnan, h⟩ := it_s h
        refine s_dmul C dX4_meanBits_35 hnan ?_
        obtain ⟨v1, ev1, h⟩ := ltm_e h
        refine s_top_d ev1 ?_
        refine s_dstore_n (ls' := [none, none, some (.double v1), none, some (.long x4), none, some (.int x6)]) C dX4_meanBits_36 rfl (by decide) (Nat.le_of_ble_eq_true rfl) rfl rfl ?_
        refine s_lload C dX4_meanBits_37 rfl ?_
        refine s_lconst (v := 1) C dX4_meanBits_39 (by decide +kernel) ?_
        refine s_lsub C dX4_meanBits_40 ?_
        obtain ⟨v2, ev2, h⟩ := ltm_e h
        refine s_top_l ev2 ?_
        refine s_lstore (ls' := [none, none, some (.double v1), none, some (.long v2), none, some (.int x6)]) C dX4_meanBits_41 (by decide) (Nat.le_of_ble_eq_true rfl) rfl rfl ?_
        obtain ⟨v3, ev3, h⟩ := ltm_e h
        refine s_iinc (v := v3) (ls' := [none, none, some (.double v1), none, some (.long v2), none, some (.int v3)]) C dX4_meanBits_43 rfl (by decide) (Nat.le_of_ble_eq_true rfl) (by rw [ev3, ic_1]) rfl rfl ?_
        refine s_goto (tgt := 18) C dX4_meanBits_46 (by decide) ?_
        exact ih  h M
theorem wX4_meanBits {E : Ev} {d : Nat} (hd : 1 ≤ d) {x0 : UInt64} {I I' : Mm} {r : Int64}  (h : fX4_meanBits x0 I = some (r, I')) : SemM E d 0 0 mX4_meanBits [.double x0] S0 I (some (.long r)) S0 I' := by
  unfold fX4_meanBits at h
  refine SemM.ofX (E := E) (y := mX4_meanBits) (args := fun E => [.double x0]) (r := fun E => (some (.long r))) (fun E => [some (.double x0), none, none, none, none, none, none]) (by decide +kernel) (Nat.le_of_ble_eq_true rfl) rfl (fun X C M => ?_)
  refine s_dload_n C dX4_meanBits_0 rfl rfl ?_
  refine s_dconst0 C dX4_meanBits_1 ?_
  refine s_dcmp C dX4_meanBits_2 ?_
  refine s_if_gt (tgt := 8) C dX4_meanBits_3 (by decide) (fun c => ?_) (fun c => ?_)
  · have h := it_t c h
    refine s_dload_n C dX4_meanBits_8 rfl rfl ?_
    refine s_dstore_n (ls' := [some (.double x0), none, some (.double x0), none, none, none, none]) C dX4_meanBits_9 rfl (by decide) (Nat.le_of_ble_eq_true rfl) rfl rfl ?_
    refine s_ldc2 C dX4_meanBits_10 coX4_291 ?_
    refine s_lstore (ls' := [some (.double x0), none, some (.double x0), none, some (.long 1023), none, none]) C dX4_meanBits_13 (by decide) (Nat.le_of_ble_eq_true rfl) rfl rfl ?_
    refine s_iconst C dX4_meanBits_15 ic_0 ?_
    refine s_istore (ls' := [some (.double x0), none, some (.double x0), none, some (.long 1023), none, some (.int 0)]) C dX4_meanBits_16 (by decide) (Nat.le_of_ble_eq_true rfl) rfl rfl ?_
    refine s_weak (ls' := [none, none, some (.double x0), none, some (.long 1023), none, some (.int 0)]) [false, false, true, false, true, false, true] rfl ?_
    exact wX4_meanBits_p18 hd C _  h M
  · have h := it_f c h
    refine s_lconst (v := 0) C dX4_meanBits_6 (by decide +kernel) ?_
    obtain ⟨rfl, rfl⟩ := pr_e h
    exact s_lret C M dX4_meanBits_7 rfl (Nat.le_refl 0) (Nat.le_refl 0)
theorem wX4_meanDepth {E : Ev} {d : Nat} (hd : 3 ≤ d) {x1 : Int32} {I I' : Mm} {r : Int64}  (h : fX4_meanDepth x1 I = some (r, I')) : SemM E d 0 0 mX4_meanDepth [rfE E 0, .int x1] S0 I (some (.long r)) S0 I' := by
  unfold fX4_meanDepth at h
  refine SemM.ofX (E := E) (y := mX4_meanDepth) (args := fun E => [rfE E 0, .int x1]) (r := fun E => (some (.long r))) (fun E => [some (rfE E 0), some (.int x1), none]) (by decide +kernel) (Nat.le_of_ble_eq_true rfl) rfl (fun X C M => ?_)
  refine s_aload_n C dX4_meanDepth_0 rfl rfl ?_
  refine s_getR (b := 1) C dX4_meanDepth_1 kk_0 foX4_10 rfl rk_0_0 ?_
  refine s_iload_n C dX4_meanDepth_4 rfl rfl ?_
  obtain ⟨r1, I1, hh, h⟩ := bd_e h
  refine s_cV0 (st := []) C M.rg (Nat.le_trans (by decide) hd) mwX3_rickAt mlX4_71 dX4_meanDepth_5 (wX3_rickAt (d := 1) (Nat.le_refl _) kk_1 hh) kk_1 rfl rfl (Nat.le_of_ble_eq_true rfl) ?_
  refine s_astore_no (ls' := [some (rfX X 0), some (.int x1), some (rvE (xE X) r1)]) C dX4_meanDepth_8 rfl (by decide) (Nat.le_of_ble_eq_true rfl) rfl rfl ?_
  refine s_aload_no C dX4_meanDepth_9 rfl rfl ?_
  cases r1 with
  | none =>
    have h := on_n h
    refine s_ifnonnullN C dX4_meanDepth_10 ?_
    refine s_ldc2 C dX4_meanDepth_13 coX4_161 ?_
    obtain ⟨rfl, rfl⟩ := pr_e h
    exact s_lret C M dX4_meanDepth_16 rfl (Nat.le_refl 0) (Nat.le_refl 0)
  | some q1 =>
    obtain ⟨hq1, h⟩ := it_s (on_s h)
    refine s_ifnonnull (tgt := 17) C dX4_meanDepth_10 (by decide) ?_
    refine s_aload_n C dX4_meanDepth_17 rfl rfl ?_
    refine s_getI C dX4_meanDepth_18 hq1 foX4_111 rfl ?_
    refine s_if_gt (tgt := 28) C dX4_meanDepth_21 (by decide) (fun c => ?_) (fun c => ?_)
    · have h := it_t c h
      refine s_aload_n C dX4_meanDepth_28 rfl rfl ?_
      obtain ⟨r2, I2, hh, h⟩ := bd_e h
      refine s_cV0 (st := []) C M.rg (Nat.le_trans (by decide) hd) mwX1_depths mlX4_127 dX4_meanDepth_29 (wX1_depths (d := 2) (Nat.le_refl _) hq1 hh) hq1 rfl rfl (Nat.le_of_ble_eq_true rfl) ?_
      refine s_i2d C dX4_meanDepth_32 ?_
      refine s_aload_n C dX4_meanDepth_33 rfl rfl ?_
      refine s_getI C dX4_meanDepth_34 hq1 foX4_111 rfl ?_
      refine s_i2d C dX4_meanDepth_37 ?_
      obtain ⟨hnan, h⟩ := it_s h
      refine s_ddiv C dX4_meanDepth_38 hnan ?_
      obtain ⟨v1, ev1, h⟩ := ltm_e h
      refine s_top_d ev1 ?_
      obtain ⟨r3, I3, hh, h⟩ := bd_e h
      refine s_cS0 (st := []) C M.rg (Nat.le_trans (by decide) hd) mwX4_meanBits mlX4_173 dX4_meanDepth_39 (wX4_meanBits (d := 1) (Nat.le_refl _)  hh) rfl rfl (Nat.le_of_ble_eq_true rfl) ?_
      obtain ⟨rfl, rfl⟩ := pr_e h
      exact s_lret C M dX4_meanDepth_42 rfl (Nat.le_refl 0) (Nat.le_refl 0)
    · have h := it_f c h
      refine s_ldc2 C dX4_meanDepth_24 coX4_171 ?_
      obtain ⟨rfl, rfl⟩ := pr_e h
      exact s_lret C M dX4_meanDepth_27 rfl (Nat.le_refl 0) (Nat.le_refl 0)
theorem wX4_pour {E : Ev} {d : Nat} (hd : 46 ≤ d) {x1 : Int32} {x2 : Int32} {I I' : Mm} {r : Int32}  (h : fX4_pour x1 x2 I = some (r, I')) : SemM E d 0 0 mX4_pour [rfE E 0, .int x1, .int x2] S0 I (some (.int r)) S0 I' := by
  unfold fX4_pour at h
  refine SemM.ofX (E := E) (y := mX4_pour) (args := fun E => [rfE E 0, .int x1, .int x2]) (r := fun E => (some (.int r))) (fun E => [some (rfE E 0), some (.int x1), some (.int x2)]) (by decide +kernel) (Nat.le_of_ble_eq_true rfl) rfl (fun X C M => ?_)
  refine s_aload_n C dX4_pour_0 rfl rfl ?_
  obtain ⟨r1, I1, hh, h⟩ := bd_e h
  refine s_cV0 (st := []) C M.rg (Nat.le_trans (by decide) hd) mwX4_hold mlX4_47 dX4_pour_1 (wX4_hold (d := 3) (Nat.le_refl _)  hh) kk_0 rfl rfl (Nat.le_of_ble_eq_true rfl) ?_
  refine s_aload_n C dX4_pour_4 rfl rfl ?_
  refine s_aload_n C dX4_pour_5 rfl rfl ?_
  refine s_iload_n C dX4_pour_6 rfl rfl ?_
  refine s_iload_n C dX4_pour_7 rfl rfl ?_
  obtain ⟨r2, I2, hh, h⟩ := bd_e h
  refine s_cV0 (st := [rfX X 0]) C M.rg (Nat.le_trans (by decide) hd) mwX4_pourNow mlX4_65 dX4_pour_8 (wX4_pourNow (d := 45) (Nat.le_refl _)  hh) kk_0 rfl rfl (Nat.le_of_ble_eq_true rfl) ?_
  obtain ⟨r3, I3, hh, h⟩ := bd_e h
  refine s_cV0 (st := []) C M.rg (Nat.le_trans (by decide) hd) mwX4_keep mlX4_54 dX4_pour_11 (wX4_keep (d := 1) (Nat.le_refl _)  hh) kk_0 rfl rfl (Nat.le_of_ble_eq_true rfl) ?_
  obtain ⟨rfl, rfl⟩ := pr_e h
  exact s_iret C M dX4_pour_14 rfl rfl (Nat.le_refl 0) (Nat.le_refl 0)
theorem wX4_put {E : Ev} {d : Nat} (hd : 45 ≤ d) {x1 : Int32} {x2 : Int32} {x3 : Int32} {I I' : Mm} {r : Int32}  (h : fX4_put x1 x2 x3 I = some (r, I')) : SemM E d 0 0 mX4_put [rfE E 0, .int x1, .int x2, .int x3] S0 I (some (.int r)) S0 I' := by
  unfold fX4_put at h
  refine SemM.ofX (E := E) (y := mX4_put) (args := fun E => [rfE E 0, .int x1, .int x2, .int x3]) (r := fun E => (some (.int r))) (fun E => [some (rfE E 0), some (.int x1), some (.int x2), some (.int x3)]) (by decide +kernel) (Nat.le_of_ble_eq_true rfl) rfl (fun X C M => ?_)
  refine s_aload_n C dX4_put_0 rfl rfl ?_
  obtain ⟨r1, I1, hh, h⟩ := bd_e h
  refine s_cV0 (st := []) C M.rg (Nat.le_trans (by decide) hd) mwX4_hold mlX4_47 dX4_put_1 (wX4_hold (d := 3) (Nat.le_refl _)  hh) kk_0 rfl rfl (Nat.le_of_ble_eq_true rfl) ?_
  refine s_aload_n C dX4_put_4 rfl rfl ?_
  refine s_aload_n C dX4_put_5 rfl rfl ?_
  refine s_iload_n C dX4_put_6 rfl rfl ?_
  refine s_iload_n C dX4_put_7 rfl rfl ?_
  refine s_iload_n C dX4_put_8 rfl rfl ?_
  obtain ⟨r2, I2, hh, h⟩ := bd_e h
  refine s_cV0 (st := [rfX X 0]) C M.rg (Nat.le_trans (by decide) hd) mwX4_putNow mlX4_50 dX4_put_9 (wX4_putNow (d := 44) (Nat.le_refl _)  hh) kk_0 rfl rfl (Nat.le_of_ble_eq_true rfl) ?_
  obtain ⟨r3, I3, hh, h⟩ := bd_e h
  refine s_cV0 (st := []) C M.rg (Nat.le_trans (by decide) hd) mwX4_keep mlX4_54 dX4_put_12 (wX4_keep (d := 1) (Nat.le_refl _)  hh) kk_0 rfl rfl (Nat.le_of_ble_eq_true rfl) ?_
  obtain ⟨rfl, rfl⟩ := pr_e h
  exact s_iret C M dX4_put_15 rfl rfl (Nat.le_refl 0) (Nat.le_refl 0)
theorem wX4_rank {E : Ev} {d : Nat} (hd : 4 ≤ d) {x1 : Int32} {x2 : Int32} {I I' : Mm} {r : Int32}  (h : fX4_rank x1 x2 I = some (r, I')) : SemM E d 0 0 mX4_rank [rfE E 0, .int x1, .int x2] S0 I (some (.int r)) S0 I' := by
  unfold fX4_rank at h
  refine SemM.ofX (E := E) (y := mX4_rank) (args := fun E => [rfE E 0, .int x1, .int x2]) (r := fun E => (some (.int r))) (fun E => [some (rfE E 0), some (.int x1), some (.int x2), none]) (by decide +kernel) (Nat.le_of_ble_eq_true rfl) rfl (fun X C M => ?_)
  refine s_aload_n C dX4_rank_0 rfl rfl ?_
  refine s_getR (b := 1) C dX4_rank_1 kk_0 foX4_10 rfl rk_0_0 ?_
  refine s_iload_n C dX4_rank_4 rfl rfl ?_
  obtain ⟨r1, I1, hh, h⟩ := bd_e h
  refine s_cV0 (st := []) C M.rg (Nat.le_trans (by decide) hd) mwX3_rickAt mlX4_71 dX4_rank_5 (wX3_rickAt (d := 1) (Nat.le_refl _) kk_1 hh) kk_1 rfl rfl (Nat.le_of_ble_eq_true rfl) ?_
  refine s_astore_no (ls' := [some (rfX X 0), some (.int x1), some (.int x2), some (rvE (xE X) r1)]) C dX4_rank_8 rfl (by decide) (Nat.le_of_ble_eq_true rfl) rfl rfl ?_
  refine s_aload_no C dX4_rank_9 rfl rfl ?_
  cases r1 with
  | none =>
    have h := on_n h
    refine s_ifnonnullN C dX4_rank_10 ?_
    refine s_bipush C dX4_rank_13 bi_m11 ?_
    refine s_goto (tgt := 23) C dX4_rank_15 (by decide) ?_
    obtain ⟨rfl, rfl⟩ := pr_e h
    exact s_iret C M dX4_rank_23 rfl rfl (Nat.le_refl 0) (Nat.le_refl 0)
  | some q1 =>
    obtain ⟨hq1, h⟩ := it_s (on_s h)
    refine s_ifnonnull (tgt := 18) C dX4_rank_10 (by decide) ?_
    refine s_aload_n C dX4_rank_18 rfl rfl ?_
    refine s_iload_n C dX4_rank_19 rfl rfl ?_
    obtain ⟨r2, I2, hh, h⟩ := bd_e h
    refine s_cV0 (st := []) C M.rg (Nat.le_trans (by decide) hd) mwX1_lighterByParts mlX4_133 dX4_rank_20 (wX1_lighterByParts (d := 3) (Nat.le_refl _) hq1 hh) hq1 rfl rfl (Nat.le_of_ble_eq_true rfl) ?_
    obtain ⟨rfl, rfl⟩ := pr_e h
    exact s_iret C M dX4_rank_23 rfl rfl (Nat.le_refl 0) (Nat.le_refl 0)
theorem wX4_rankAgain {E : Ev} {d : Nat} (hd : 3 ≤ d) {x1 : Int32} {x2 : Int32} {I I' : Mm} {r : Int32}  (h : fX4_rankAgain x1 x2 I = some (r, I')) : SemM E d 0 0 mX4_rankAgain [rfE E 0, .int x1, .int x2] S0 I (some (.int r)) S0 I' := by
  unfold fX4_rankAgain at h
  refine SemM.ofX (E := E) (y := mX4_rankAgain) (args := fun E => [rfE E 0, .int x1, .int x2]) (r := fun E => (some (.int r))) (fun E => [some (rfE E 0), some (.int x1), some (.int x2), none]) (by decide +kernel) (Nat.le_of_ble_eq_true rfl) rfl (fun X C M => ?_)
  refine s_aload_n C dX4_rankAgain_0 rfl rfl ?_
  refine s_getR (b := 1) C dX4_rankAgain_1 kk_0 foX4_10 rfl rk_0_0 ?_
  refine s_iload_n C dX4_rankAgain_4 rfl rfl ?_
  obtain ⟨r1, I1, hh, h⟩ := bd_e h
  refine s_cV0 (st := []) C M.rg (Nat.le_trans (by decide) hd) mwX3_rickAt mlX4_71 dX4_rankAgain_5 (wX3_rickAt (d := 1) (Nat.le_refl _) kk_1 hh) kk_1 rfl rfl (Nat.le_of_ble_eq_true rfl) ?_
  refine s_astore_no (ls' := [some (rfX X 0), some (.int x1), some (.int x2), some (rvE (xE X) r1)]) C dX4_rankAgain_8 rfl (by decide) (Nat.le_of_ble_eq_true rfl) rfl rfl ?_
  refine s_aload_no C dX4_rankAgain_9 rfl rfl ?_
  cases r1 with
  | none =>
    have h := on_n h
    refine s_ifnonnullN C dX4_rankAgain_10 ?_
    refine s_bipush C dX4_rankAgain_13 bi_m11 ?_
    refine s_goto (tgt := 23) C dX4_rankAgain_15 (by decide) ?_
    obtain ⟨rfl, rfl⟩ := pr_e h
    exact s_iret C M dX4_rankAgain_23 rfl rfl (Nat.le_refl 0) (Nat.le_refl 0)
  | some q1 =>
    obtain ⟨hq1, h⟩ := it_s (on_s h)
    refine s_ifnonnull (tgt := 18) C dX4_rankAgain_10 (by decide) ?_
    refine s_aload_n C dX4_rankAgain_18 rfl rfl ?_
    refine s_iload_n C dX4_rankAgain_19 rfl rfl ?_
    obtain ⟨r2, I2, hh, h⟩ := bd_e h
    refine s_cV0 (st := []) C M.rg (Nat.le_trans (by decide) hd) mwX1_lighterOneByOne mlX4_136 dX4_rankAgain_20 (wX1_lighterOneByOne (d := 2) (Nat.le_refl _) hq1 hh) hq1 rfl rfl (Nat.le_of_ble_eq_true rfl) ?_
    obtain ⟨rfl, rfl⟩ := pr_e h
    exact s_iret C M dX4_rankAgain_23 rfl rfl (Nat.le_refl 0) (Nat.le_refl 0)
theorem wX4_reason {E : Ev} {d : Nat} (hd : 1 ≤ d) {x1 : Int32} {I I' : Mm} {r : Int32}  (h : fX4_reason x1 I = some (r, I')) : SemM E d 0 0 mX4_reason [rfE E 0, .int x1] S0 I (some (.int r)) S0 I' := by
  unfold fX4_reason at h
  refine SemM.ofX (E := E) (y := mX4_reason) (args := fun E => [rfE E 0, .int x1]) (r := fun E => (some (.int r))) (fun E => [some (rfE E 0), some (.int x1)]) (by decide +kernel) (Nat.le_of_ble_eq_true rfl) rfl (fun X C M => ?_)
  refine s_iload_n C dX4_reason_0 rfl rfl ?_
  refine s_if_eq (tgt := 11) C dX4_reason_1 (by decide) (fun c => ?_) (fun c => ?_)
  · have h := it_t c h
    refine s_aload_n C dX4_reason_11 rfl rfl ?_
    refine s_getI C dX4_reason_12 kk_0 foX4_40 rfl ?_
    obtain ⟨rfl, rfl⟩ := pr_e h
    exact s_iret C M dX4_reason_15 rfl rfl (Nat.le_refl 0) (Nat.le_refl 0)
  · have h := it_f c h
    refine s_aload_n C dX4_reason_4 rfl rfl ?_
    refine s_getI C dX4_reason_5 kk_0 foX4_44 rfl ?_
    refine s_goto (tgt := 15) C dX4_reason_8 (by decide) ?_
    obtain ⟨rfl, rfl⟩ := pr_e h
    exact s_iret C M dX4_reason_15 rfl rfl (Nat.le_refl 0) (Nat.le_refl 0)
theorem wX4_restore {E : Ev} {d : Nat} (hd : 3 ≤ d)  {I I' : Mm} {r : Int32}  (h : fX4_restore  I = some (r, I')) : SemM E d 0 0 mX4_restore [rfE E 0] S0 I (some (.int r)) S0 I' := by
  unfold fX4_restore at h
  refine SemM.ofX (E := E) (y := mX4_restore) (args := fun E => [rfE E 0]) (r := fun E => (some (.int r))) (fun E => [some (rfE E 0)]) (by decide +kernel) (Nat.le_of_ble_eq_true rfl) rfl (fun X C M => ?_)
  refine s_aload_n C dX4_restore_0 rfl rfl ?_
  refine s_getI C dX4_restore_1 kk_0 foX4_241 rfl ?_
  refine s_if_ne (tgt := 10) C dX4_restore_4 (by decide) (fun c => ?_) (fun c => ?_)
  · have h := it_f c h
    refine s_aload_n C dX4_restore_10 rfl rfl ?_
    refine s_getR (b := 1) C dX4_restore_11 kk_0 foX4_10 rfl rk_0_0 ?_
    refine s_aload_n C dX4_restore_14 rfl rfl ?_
    refine s_getR (b := 15) C dX4_restore_15 kk_0 foX4_16 rfl rk_0_1 ?_
    obtain ⟨r1, I1, hh, h⟩ := bd_e h
    refine s_cV0 (st := []) C M.rg (Nat.le_trans (by decide) hd) mwX3_copyFrom mlX4_237 dX4_restore_18 (wX3_copyFrom (d := 2) (Nat.le_refl _) kk_1 kk_15 hh) kk_1 rfl rfl (Nat.le_of_ble_eq_true rfl) ?_
    refine s_aload_n C dX4_restore_21 rfl rfl ?_
    refine s_iconst C dX4_restore_22 ic_0 ?_
    obtain ⟨I2, eI2, h⟩ := ltm_e h
    refine s_putI C dX4_restore_23 kk_0 poX4_227 rfl eI2 ?_
    refine s_aload_n C dX4_restore_26 rfl rfl ?_
    refine s_getR (b := 1) C dX4_restore_27 kk_0 foX4_10 rfl rk_0_0 ?_
    obtain ⟨r2, I3, hh, h⟩ := bd_e h
    refine s_cV0 (st := []) C M.rg (Nat.le_trans (by decide) hd) mwX3_sheaves mlX4_149 dX4_restore_30 (wX3_sheaves (d := 2) (Nat.le_refl _) kk_1 hh) kk_1 rfl rfl (Nat.le_of_ble_eq_true rfl) ?_
    obtain ⟨rfl, rfl⟩ := pr_e h
    exact s_iret C M dX4_restore_33 rfl rfl (Nat.le_refl 0) (Nat.le_refl 0)
  · have h := it_t c h
    refine s_bipush C dX4_restore_7 bi_m15 ?_
    obtain ⟨rfl, rfl⟩ := pr_e h
    exact s_iret C M dX4_restore_9 rfl rfl (Nat.le_refl 0) (Nat.le_refl 0)
theorem wX4_rickOf {E : Ev} {d : Nat} (hd : 5 ≤ d) {x1 : Int32} {x2 : Int32} {I I' : Mm} {r : Int32}  (h : fX4_rickOf x1 x2 I = some (r, I')) : SemM E d 0 0 mX4_rickOf [rfE E 0, .int x1, .int x2] S0 I (some (.int r)) S0 I' := by
  unfold fX4_rickOf at h
  refine SemM.ofX (E := E) (y := mX4_rickOf) (args := fun E => [rfE E 0, .int x1, .int x2]) (r := fun E => (some (.int r))) (fun E => [some (rfE E 0), some (.int x1), some (.int x2), none]) (by decide +kernel) (Nat.le_of_ble_eq_true rfl) rfl (fun X C M => ?_)
  refine s_aload_n C dX4_rickOf_0 rfl rfl ?_
  refine s_getR (b := 1) C dX4_rickOf_1 kk_0 foX4_10 rfl rk_0_0 ?_
  refine s_iload_n C dX4_rickOf_4 rfl rfl ?_
  obtain ⟨r1, I1, hh, h⟩ := bd_e h
  refine s_cV0 (st := []) C M.rg (Nat.le_trans (by decide) hd) mwX3_rickAt mlX4_71 dX4_rickOf_5 (wX3_rickAt (d := 1) (Nat.le_refl _) kk_1 hh) kk_1 rfl rfl (Nat.le_of_ble_eq_true rfl) ?_
  refine s_astore_no (ls' := [some (rfX X 0), some (.int x1), some (.int x2), some (rvE (xE X) r1)]) C dX4_rickOf_8 rfl (by decide) (Nat.le_of_ble_eq_true rfl) rfl rfl ?_
  refine s_aload_no C dX4_rickOf_9 rfl rfl ?_
  cases r1 with
  | none =>
    have h := on_n h
    refine s_ifnonnullN C dX4_rickOf_10 ?_
    refine s_bipush C dX4_rickOf_13 bi_m11 ?_
    obtain ⟨rfl, rfl⟩ := pr_e h
    exact s_iret C M dX4_rickOf_15 rfl rfl (Nat.le_refl 0) (Nat.le_refl 0)
  | some q1 =>
    obtain ⟨hq1, h⟩ := it_s (on_s h)
    refine s_ifnonnull (tgt := 16) C dX4_rickOf_10 (by decide) ?_
    refine s_iload_n C dX4_rickOf_16 rfl rfl ?_
    by_cases c1 : x2 = 0
    · have h := it_t c1 h
      refine s_tableIn (off := 51) (tgt := 68) C dX4_rickOf_17 (by rw [c1]; decide +kernel) (by rw [c1]; decide +kernel) (by rw [c1]; decide +kernel) (by decide) ?_
      refine s_aload_n C dX4_rickOf_68 rfl rfl ?_
      refine s_getI C dX4_rickOf_69 hq1 foX4_111 rfl ?_
      obtain ⟨rfl, rfl⟩ := pr_e h
      exact s_iret C M dX4_rickOf_72 rfl rfl (Nat.le_refl 0) (Nat.le_refl 0)
    have h := it_f c1 h
    by_cases c2 : x2 = 1
    · have h := it_t c2 h
      refine s_tableIn (off := 56) (tgt := 73) C dX4_rickOf_17 (by rw [c2]; decide +kernel) (by rw [c2]; decide +kernel) (by rw [c2]; decide +kernel) (by decide) ?_
      refine s_aload_n C dX4_rickOf_73 rfl rfl ?_
      refine s_iconst C dX4_rickOf_74 ic_0 ?_
      refine s_aload_n C dX4_rickOf_75 rfl rfl ?_
      refine s_getI C dX4_rickOf_76 hq1 foX4_111 rfl ?_
      refine s_iconst C dX4_rickOf_79 ic_1 ?_
      refine s_isub C dX4_rickOf_80 ?_
      obtain ⟨r2, I2, hh, h⟩ := bd_e h
      refine s_cV0 (st := []) C M.rg (Nat.le_trans (by decide) hd) mwX1_loadsFrom mlX4_92 dX4_rickOf_81 (wX1_loadsFrom (d := 2) (Nat.le_refl _) hq1 hh) hq1 rfl rfl (Nat.le_of_ble_eq_true rfl) ?_
      obtain ⟨rfl, rfl⟩ := pr_e h
      exact s_iret C M dX4_rickOf_84 rfl rfl (Nat.le_refl 0) (Nat.le_refl 0)
    have h := it_f c2 h
    by_cases c3 : x2 = 2
    · have h := it_t c3 h
      refine s_tableIn (off := 68) (tgt := 85) C dX4_rickOf_17 (by rw [c3]; decide +kernel) (by rw [c3]; decide +kernel) (by rw [c3]; decide +kernel) (by decide) ?_
      refine s_aload_n C dX4_rickOf_85 rfl rfl ?_
      refine s_aload_n C dX4_rickOf_86 rfl rfl ?_
      refine s_iconst C dX4_rickOf_87 ic_0 ?_
      refine s_aload_n C dX4_rickOf_88 rfl rfl ?_
      refine s_getI C dX4_rickOf_89 hq1 foX4_111 rfl ?_
      refine s_iconst C dX4_rickOf_92 ic_1 ?_
      refine s_isub C dX4_rickOf_93 ?_
      obtain ⟨r2, I2, hh, h⟩ := bd_e h
      refine s_cV0 (st := [rfX X q1]) C M.rg (Nat.le_trans (by decide) hd) mwX1_topOf mlX4_108 dX4_rickOf_94 (wX1_topOf (d := 2) (Nat.le_refl _) hq1 hh) hq1 rfl rfl (Nat.le_of_ble_eq_true rfl) ?_
      obtain ⟨r3, I3, hh, h⟩ := bd_e h
      refine s_cV0 (st := []) C M.rg (Nat.le_trans (by decide) hd) mwX1_weightAt mlX4_105 dX4_rickOf_97 (wX1_weightAt (d := 1) (Nat.le_refl _) hq1 hh) hq1 rfl rfl (Nat.le_of_ble_eq_true rfl) ?_
      obtain ⟨rfl, rfl⟩ := pr_e h
      exact s_iret C M dX4_rickOf_100 rfl rfl (Nat.le_refl 0) (Nat.le_refl 0)
    have h := it_f c3 h
    by_cases c4 : x2 = 3
    · have h := it_t c4 h
      refine s_tableIn (off := 84) (tgt := 101) C dX4_rickOf_17 (by rw [c4]; decide +kernel) (by rw [c4]; decide +kernel) (by rw [c4]; decide +kernel) (by decide) ?_
      refine s_aload_n C dX4_rickOf_101 rfl rfl ?_
      obtain ⟨r2, I2, hh, h⟩ := bd_e h
      refine s_cV0 (st := []) C M.rg (Nat.le_trans (by decide) hd) mwX1_greatestDepth mlX4_114 dX4_rickOf_102 (wX1_greatestDepth (d := 2) (Nat.le_refl _) hq1 hh) hq1 rfl rfl (Nat.le_of_ble_eq_true rfl) ?_
      obtain ⟨rfl, rfl⟩ := pr_e h
      exact s_iret C M dX4_rickOf_105 rfl rfl (Nat.le_refl 0) (Nat.le_refl 0)
    have h := it_f c4 h
    by_cases c5 : x2 = 4
    · have h := it_t c5 h
      refine s_tableIn (off := 89) (tgt := 106) C dX4_rickOf_17 (by rw [c5]; decide +kernel) (by rw [c5]; decide +kernel) (by rw [c5]; decide +kernel) (by decide) ?_
      refine s_aload_n C dX4_rickOf_106 rfl rfl ?_
      refine s_getI C dX4_rickOf_107 hq1 foX4_111 rfl ?_
      refine s_aload_n C dX4_rickOf_110 rfl rfl ?_
      refine s_getR (b := 1) C dX4_rickOf_111 kk_0 foX4_10 rfl rk_0_0 ?_
      refine s_getI C dX4_rickOf_114 kk_1 foX4_95 rfl ?_
      obtain ⟨r2, I2, hh, h⟩ := bd_e h
      refine s_cS0 (st := []) C M.rg (Nat.le_trans (by decide) hd) mwX4_depthFor mlX4_118 dX4_rickOf_117 (wX4_depthFor (d := 1) (Nat.le_refl _)  hh) rfl rfl (Nat.le_of_ble_eq_true rfl) ?_
      obtain ⟨rfl, rfl⟩ := pr_e h
      exact s_iret C M dX4_rickOf_120 rfl rfl (Nat.le_refl 0) (Nat.le_refl 0)
    have h := it_f c5 h
    by_cases c6 : x2 = 5
    · have h := it_t c6 h
      refine s_tableIn (off := 104) (tgt := 121) C dX4_rickOf_17 (by rw [c6]; decide +kernel) (by rw [c6]; decide +kernel) (by rw [c6]; decide +kernel) (by decide) ?_
      refine s_aload_n C dX4_rickOf_121 rfl rfl ?_
      refine s_getI C dX4_rickOf_122 hq1 foX4_121 rfl ?_
      obtain ⟨rfl, rfl⟩ := pr_e h
      exact s_iret C M dX4_rickOf_125 rfl rfl (Nat.le_refl 0) (Nat.le_refl 0)
    have h := it_f c6 h
    by_cases c7 : x2 = 6
    · have h := it_t c7 h
      refine s_tableIn (off := 109) (tgt := 126) C dX4_rickOf_17 (by rw [c7]; decide +kernel) (by rw [c7]; decide +kernel) (by rw [c7]; decide +kernel) (by decide) ?_
      refine s_aload_n C dX4_rickOf_126 rfl rfl ?_
      refine s_aload_n C dX4_rickOf_127 rfl rfl ?_
      refine s_getR (b := 1) C dX4_rickOf_128 kk_0 foX4_10 rfl rk_0_0 ?_
      refine s_getI C dX4_rickOf_131 kk_1 foX4_95 rfl ?_
      obtain ⟨r2, I2, hh, h⟩ := bd_e h
      refine s_cV0 (st := []) C M.rg (Nat.le_trans (by decide) hd) mwX1_leaning mlX4_124 dX4_rickOf_134 (wX1_leaning (d := 4) (Nat.le_refl _) hq1 hh) hq1 rfl rfl (Nat.le_of_ble_eq_true rfl) ?_
      obtain ⟨rfl, rfl⟩ := pr_e h
      exact s_iret C M dX4_rickOf_137 rfl rfl (Nat.le_refl 0) (Nat.le_refl 0)
    have h := it_f c7 h
    by_cases c8 : x2 = 7
    · have h := it_t c8 h
      refine s_tableIn (off := 121) (tgt := 138) C dX4_rickOf_17 (by rw [c8]; decide +kernel) (by rw [c8]; decide +kernel) (by rw [c8]; decide +kernel) (by decide) ?_
      refine s_aload_n C dX4_rickOf_138 rfl rfl ?_
      obtain ⟨r2, I2, hh, h⟩ := bd_e h
      refine s_cV0 (st := []) C M.rg (Nat.le_trans (by decide) hd) mwX1_depths mlX4_127 dX4_rickOf_139 (wX1_depths (d := 2) (Nat.le_refl _) hq1 hh) hq1 rfl rfl (Nat.le_of_ble_eq_true rfl) ?_
      obtain ⟨rfl, rfl⟩ := pr_e h
      exact s_iret C M dX4_rickOf_142 rfl rfl (Nat.le_refl 0) (Nat.le_refl 0)
    have h := it_f c8 h
    by_cases c9 : x2 = 8
    · have h := it_t c9 h
      refine s_tableIn (off := 126) (tgt := 143) C dX4_rickOf_17 (by rw [c9]; decide +kernel) (by rw [c9]; decide +kernel) (by rw [c9]; decide +kernel) (by decide) ?_
      refine s_aload_n C dX4_rickOf_143 rfl rfl ?_
      obtain ⟨r2, I2, hh, h⟩ := bd_e h
      refine s_cV0 (st := []) C M.rg (Nat.le_trans (by decide) hd) mwX1_lowest mlX4_130 dX4_rickOf_144 (wX1_lowest (d := 2) (Nat.le_refl _) hq1 hh) hq1 rfl rfl (Nat.le_of_ble_eq_true rfl) ?_
      obtain ⟨rfl, rfl⟩ := pr_e h
      exact s_iret C M dX4_rickOf_147 rfl rfl (Nat.le_refl 0) (Nat.le_refl 0)
    have h := it_f c9 h
    refine s_tableOut (tgt := 148) C dX4_rickOf_17 (by have := ne_i 0 (by decide +kernel) c1; have := ne_i 1 (by decide +kernel) c2; have := ne_i 2 (by decide +kernel) c3; have := ne_i 3 (by decide +kernel) c4; have := ne_i 4 (by decide +kernel) c5; have := ne_i 5 (by decide +kernel) c6; have := ne_i 6 (by decide +kernel) c7; have := ne_i 7 (by decide +kernel) c8; have := ne_i 8 (by decide +kernel) c9; omega) (by decide) ?_
    refine s_bipush C dX4_rickOf_148 bi_m12 ?_
    obtain ⟨rfl, rfl⟩ := pr_e h
    exact s_iret C M dX4_rickOf_150 rfl rfl (Nat.le_refl 0) (Nat.le_refl 0)
theorem wX4_run_p31 {X : Cx} {d : Nat} (hd : 47 ≤ d) (C : CtxOK X mX4_run) : ∀ (n : Nat) {x1 : Int32} {x2 : Int32} {I I' : Mm} {r : Int32}  (_ : fX4_run_p31 n x1 x2 I = some (r, I')) (_ : MX X (xE X) d 0 0 (some (.int r)) S0 I'), WM X mX4_run 31 [some (rfX X 0), some (.int x1), some (.int x2)] [] S0 I 0 0 := by
  intro n
  induction n with
  | zero => intro x1 x2 I I' r  h M; exact absurd h (by simp [fX4_run_p31])
  | succ n ih =>
    intro x1 x2 I I' r  h M
    rw [fX4_run_p31] at h
    refine s_iload_n C dX4_run_31 rfl rfl ?_
    refine s_iload_n C dX4_run_32 rfl rfl ?_
    refine s_icmp_ge (tgt := 68) C dX4_run_33 (by decide) (fun c => ?_) (fun c => ?_)
    · have h := it_t c h
      refine s_aload_n C dX4_run_68 rfl rfl ?_
      refine s_iload_n C dX4_run_69 rfl rfl ?_
      obtain ⟨r1, I1, hh, h⟩ := bd_e h
      refine s_cV0 (st := []) C M.rg (Nat.le_trans (by decide) hd) mwX4_keep mlX4_54 dX4_run_70 (wX4_keep (d := 1) (Nat.le_refl _)  hh) kk_0 rfl rfl (Nat.le_of_ble_eq_true rfl) ?_
      obtain ⟨rfl, rfl⟩ := pr_e h
      exact s_iret C M dX4_run_73 rfl rfl (Nat.le_refl 0) (Nat.le_refl 0)
    · have h := it_f c h
      refine s_iload_n C dX4_run_36 rfl rfl ?_
      refine s_bipush C dX4_run_37 bi_20 ?_
      refine s_icmp_ge (tgt := 68) C dX4_run_39 (by decide) (fun c => ?_) (fun c => ?_)
      · have h := it_t c h
        refine s_aload_n C dX4_run_68 rfl rfl ?_
        refine s_iload_n C dX4_run_69 rfl rfl ?_
        obtain ⟨r1, I1, hh, h⟩ := bd_e h
        refine s_cV0 (st := []) C M.rg (Nat.le_trans (by decide) hd) mwX4_keep mlX4_54 dX4_run_70 (wX4_keep (d := 1) (Nat.le_refl _)  hh) kk_0 rfl rfl (Nat.le_of_ble_eq_true rfl) ?_
        obtain ⟨rfl, rfl⟩ := pr_e h
        exact s_iret C M dX4_run_73 rfl rfl (Nat.le_refl 0) (Nat.le_refl 0)
      · have h := it_f c h
        refine s_aload_n C dX4_run_42 rfl rfl ?_
        refine s_iload_n C dX4_run_43 rfl rfl ?_
        obtain ⟨r1, I1, hh, h⟩ := bd_e h
        refine s_cV0 (st := []) C M.rg (Nat.le_trans (by decide) hd) mwX4_carryOut mlX4_190 dX4_run_44 (wX4_carryOut (d := 46) (Nat.le_refl _)  hh) kk_0 rfl rfl (Nat.le_of_ble_eq_true rfl) ?_
        refine s_if_ge (tgt := 62) C dX4_run_47 (by decide) (fun c => ?_) (fun c => ?_)
        · have h := it_t c h
          obtain ⟨v1, ev1, h⟩ := ltm_e h
          refine s_iinc (v := v1) (ls' := [some (rfX X 0), some (.int x1), some (.int v1)]) C dX4_run_62 rfl (by decide) (Nat.le_of_ble_eq_true rfl) (by rw [ev1, ic_1]) rfl rfl ?_
          refine s_goto (tgt := 31) C dX4_run_65 (by decide) ?_
          exact ih  h M
        · have h := it_f c h
          refine s_aload_n C dX4_run_50 rfl rfl ?_
          obtain ⟨r2, I2, hh, h⟩ := bd_e h
          refine s_cV0 (st := []) C M.rg (Nat.le_trans (by decide) hd) mwX4_giveBack mlX4_193 dX4_run_51 (wX4_giveBack (d := 3) (Nat.le_refl _)  hh) kk_0 rfl rfl (Nat.le_of_ble_eq_true rfl) ?_
          refine s_aload_n C dX4_run_54 rfl rfl ?_
          refine s_bipush C dX4_run_55 bi_6 ?_
          refine s_iload_n C dX4_run_57 rfl rfl ?_
          obtain ⟨r3, I3, hh, h⟩ := bd_e h
          refine s_cV0 (st := []) C M.rg (Nat.le_trans (by decide) hd) mwX4_refuse mlX4_196 dX4_run_58 (wX4_refuse (d := 1) (Nat.le_refl _)  hh) kk_0 rfl rfl (Nat.le_of_ble_eq_true rfl) ?_
          obtain ⟨rfl, rfl⟩ := pr_e h
          exact s_iret C M dX4_run_61 rfl rfl (Nat.le_refl 0) (Nat.le_refl 0)
theorem wX4_run {E : Ev} {d : Nat} (hd : 47 ≤ d)  {I I' : Mm} {r : Int32}  (h : fX4_run  I = some (r, I')) : SemM E d 0 0 mX4_run [rfE E 0] S0 I (some (.int r)) S0 I' := by
  unfold fX4_run at h
  refine SemM.ofX (E := E) (y := mX4_run) (args := fun E => [rfE E 0]) (r := fun E => (some (.int r))) (fun E => [some (rfE E 0), none, none]) (by decide +kernel) (Nat.le_of_ble_eq_true rfl) rfl (fun X C M => ?_)
  refine s_aload_n C dX4_run_0 rfl rfl ?_
  refine s_getR (b := 34) C dX4_run_1 kk_0 foX4_36 rfl rk_0_8 ?_
  refine s_aload_n C dX4_run_4 rfl rfl ?_
  refine s_getR (b := 30) C dX4_run_5 kk_0 foX4_26 rfl rk_0_6 ?_
  obtain ⟨r1, I1, hh, h⟩ := bd_e h
  refine s_cV0 (st := []) C M.rg (Nat.le_trans (by decide) hd) mwX0_read mlX4_183 dX4_run_8 (wX0_read (d := 4) (Nat.le_refl _) kk_30 hh) kk_34 rfl rfl (Nat.le_of_ble_eq_true rfl) ?_
  refine s_istore_n (ls' := [some (rfX X 0), some (.int r1), none]) C dX4_run_11 rfl (by decide) (Nat.le_of_ble_eq_true rfl) rfl rfl ?_
  refine s_aload_n C dX4_run_12 rfl rfl ?_
  refine s_getR (b := 30) C dX4_run_13 kk_0 foX4_26 rfl rk_0_6 ?_
  obtain ⟨r2, I2, hh, h⟩ := bd_e h
  refine s_cV0 (st := []) C M.rg (Nat.le_trans (by decide) hd) mwX2_clear mlX4_187 dX4_run_16 (wX2_clear (d := 1) (Nat.le_refl _) kk_30 hh) kk_30 rfl rfl (Nat.le_of_ble_eq_true rfl) ?_
  refine s_iload_n C dX4_run_19 rfl rfl ?_
  refine s_if_ge (tgt := 25) C dX4_run_20 (by decide) (fun c => ?_) (fun c => ?_)
  · have h := it_t c h
    refine s_aload_n C dX4_run_25 rfl rfl ?_
    obtain ⟨r3, I3, hh, h⟩ := bd_e h
    refine s_cV0 (st := []) C M.rg (Nat.le_trans (by decide) hd) mwX4_hold mlX4_47 dX4_run_26 (wX4_hold (d := 3) (Nat.le_refl _)  hh) kk_0 rfl rfl (Nat.le_of_ble_eq_true rfl) ?_
    refine s_iconst C dX4_run_29 ic_0 ?_
    refine s_istore_n (ls' := [some (rfX X 0), some (.int r1), some (.int 0)]) C dX4_run_30 rfl (by decide) (Nat.le_of_ble_eq_true rfl) rfl rfl ?_
    exact wX4_run_p31 hd C _  h M
  · have h := it_f c h
    refine s_iload_n C dX4_run_23 rfl rfl ?_
    obtain ⟨rfl, rfl⟩ := pr_e h
    exact s_iret C M dX4_run_24 rfl rfl (Nat.le_refl 0) (Nat.le_refl 0)
theorem wX4_save {E : Ev} {d : Nat} (hd : 3 ≤ d)  {I I' : Mm} {r : Int32}  (h : fX4_save  I = some (r, I')) : SemM E d 0 0 mX4_save [rfE E 0] S0 I (some (.int r)) S0 I' := by
  unfold fX4_save at h
  refine SemM.ofX (E := E) (y := mX4_save) (args := fun E => [rfE E 0]) (r := fun E => (some (.int r))) (fun E => [some (rfE E 0)]) (by decide +kernel) (Nat.le_of_ble_eq_true rfl) rfl (fun X C M => ?_)
  refine s_aload_n C dX4_save_0 rfl rfl ?_
  refine s_getR (b := 15) C dX4_save_1 kk_0 foX4_16 rfl rk_0_1 ?_
  refine s_aload_n C dX4_save_4 rfl rfl ?_
  refine s_getR (b := 1) C dX4_save_5 kk_0 foX4_10 rfl rk_0_0 ?_
  obtain ⟨r1, I1, hh, h⟩ := bd_e h
  refine s_cV0 (st := []) C M.rg (Nat.le_trans (by decide) hd) mwX3_copyFrom mlX4_237 dX4_save_8 (wX3_copyFrom (d := 2) (Nat.le_refl _) kk_15 kk_1 hh) kk_15 rfl rfl (Nat.le_of_ble_eq_true rfl) ?_
  refine s_aload_n C dX4_save_11 rfl rfl ?_
  refine s_iconst C dX4_save_12 ic_1 ?_
  obtain ⟨I2, eI2, h⟩ := ltm_e h
  refine s_putZ C dX4_save_13 kk_0 poX4_241 rfl (by decide) eI2 ?_
  refine s_aload_n C dX4_save_16 rfl rfl ?_
  refine s_getR (b := 1) C dX4_save_17 kk_0 foX4_10 rfl rk_0_0 ?_
  obtain ⟨r2, I3, hh, h⟩ := bd_e h
  refine s_cV0 (st := []) C M.rg (Nat.le_trans (by decide) hd) mwX3_sheaves mlX4_149 dX4_save_20 (wX3_sheaves (d := 2) (Nat.le_refl _) kk_1 hh) kk_1 rfl rfl (Nat.le_of_ble_eq_true rfl) ?_
  obtain ⟨rfl, rfl⟩ := pr_e h
  exact s_iret C M dX4_save_23 rfl rfl (Nat.le_refl 0) (Nat.le_refl 0)
theorem wX4_shapeOf : ∀ (n : Nat) {E : Ev} {d : Nat} (_ : 3 + n ≤ d) {x0 : Nat} {x1 : Int32} {x2 : Int32} {x3 : Int64} {x5 : Int32} {I I' : Mm} {r : Int64} (hx0 : kd0 x0 = 1) (_ : fX4_shapeOf n x0 x1 x2 x3 x5 I = some (r, I')), SemM E d 0 0 mX4_shapeOf [rfE E x0, .int x1, .int x2, .long x3, .int x5] S0 I (some (.long r)) S0 I' := by
  intro n
  induction n with
  | zero => intro E d hd x0 x1 x2 x3 x5 I I' r hx0 h; exact absurd h (by simp [fX4_shapeOf])
  | succ n ih =>
    intro E d hd x0 x1 x2 x3 x5 I I' r hx0 h
    rw [fX4_shapeOf] at h
    refine SemM.ofX (E := E) (y := mX4_shapeOf) (args := fun E => [rfE E x0, .int x1, .int x2, .long x3, .int x5]) (r := fun E => (some (.long r))) (fun E => [some (rfE E x0), some (.int x1), some (.int x2), some (.long x3), none, some (.int x5), none, none, none]) (by decide +kernel) (Nat.le_of_ble_eq_true rfl) rfl (fun X C M => ?_)
    refine s_aload_n C dX4_shapeOf_0 rfl rfl ?_
    refine s_iload_n C dX4_shapeOf_1 rfl rfl ?_
    refine s_iload_n C dX4_shapeOf_2 rfl rfl ?_
    obtain ⟨r1, I1, hh, h⟩ := bd_e h
    refine s_cV0 (st := []) C M.rg (Nat.le_trans (by omega) hd) mwX1_topOf mlX4_108 dX4_shapeOf_3 (wX1_topOf (d := 2) (Nat.le_refl _) hx0 hh) hx0 rfl rfl (Nat.le_of_ble_eq_true rfl) ?_
    refine s_istore (ls' := [some (rfX X x0), some (.int x1), some (.int x2), some (.long x3), none, some (.int x5), some (.int r1), none, none]) C dX4_shapeOf_6 (by decide) (Nat.le_of_ble_eq_true rfl) rfl rfl ?_
    refine s_iload C dX4_shapeOf_8 rfl ?_
    refine s_iconst C dX4_shapeOf_10 ic_m1 ?_
    refine s_icmp_eq (tgt := 21) C dX4_shapeOf_11 (by decide) (fun c => ?_) (fun c => ?_)
    · have h := it_t c h
      refine s_lload_n C dX4_shapeOf_21 rfl rfl ?_
      refine s_iconst C dX4_shapeOf_22 ic_1 ?_
      refine s_lshl C dX4_shapeOf_23 ?_
      obtain ⟨rfl, rfl⟩ := pr_e h
      exact s_lret C M dX4_shapeOf_24 rfl (Nat.le_refl 0) (Nat.le_refl 0)
    · have h := it_f c h
      refine s_iload C dX4_shapeOf_14 rfl ?_
      refine s_bipush C dX4_shapeOf_16 bi_30 ?_
      refine s_icmp_le (tgt := 25) C dX4_shapeOf_18 (by decide) (fun c => ?_) (fun c => ?_)
      · have h := it_t c h
        refine s_aload_n C dX4_shapeOf_25 rfl rfl ?_
        refine s_iload_n C dX4_shapeOf_26 rfl rfl ?_
        refine s_iload C dX4_shapeOf_27 rfl ?_
        refine s_iconst C dX4_shapeOf_29 ic_1 ?_
        refine s_isub C dX4_shapeOf_30 ?_
        refine s_lload_n C dX4_shapeOf_31 rfl rfl ?_
        refine s_iconst C dX4_shapeOf_32 ic_1 ?_
        refine s_lshl C dX4_shapeOf_33 ?_
        refine s_lconst (v := 1) C dX4_shapeOf_34 (by decide +kernel) ?_
        refine s_lor C dX4_shapeOf_35 ?_
        refine s_iload C dX4_shapeOf_36 rfl ?_
        refine s_iconst C dX4_shapeOf_38 ic_1 ?_
        refine s_iadd C dX4_shapeOf_39 ?_
        obtain ⟨r2, I2, hh, h⟩ := bd_e h
        refine s_cS0 (st := []) C M.rg (Nat.le_trans (by omega) hd) mwX4_shapeOf mlX4_163 dX4_shapeOf_40 (ih (d := 3 + n) (Nat.le_refl _) hx0 hh) rfl rfl (Nat.le_of_ble_eq_true rfl) ?_
        refine s_lstore (ls' := [some (rfX X x0), some (.int x1), some (.int x2), some (.long x3), none, some (.int x5), some (.int r1), some (.long r2), none]) C dX4_shapeOf_43 (by decide) (Nat.le_of_ble_eq_true rfl) rfl rfl ?_
        refine s_aload_n C dX4_shapeOf_45 rfl rfl ?_
        refine s_iload C dX4_shapeOf_46 rfl ?_
        refine s_iconst C dX4_shapeOf_48 ic_1 ?_
        refine s_iadd C dX4_shapeOf_49 ?_
        refine s_iload_n C dX4_shapeOf_50 rfl rfl ?_
        refine s_lload C dX4_shapeOf_51 rfl ?_
        refine s_iload C dX4_shapeOf_53 rfl ?_
        refine s_iconst C dX4_shapeOf_55 ic_1 ?_
        refine s_iadd C dX4_shapeOf_56 ?_
        obtain ⟨r3, I3, hh, h⟩ := bd_e h
        refine s_cS0 (st := []) C M.rg (Nat.le_trans (by omega) hd) mwX4_shapeOf mlX4_163 dX4_shapeOf_57 (ih (d := 3 + n) (Nat.le_refl _) hx0 hh) rfl rfl (Nat.le_of_ble_eq_true rfl) ?_
        obtain ⟨rfl, rfl⟩ := pr_e h
        exact s_lret C M dX4_shapeOf_60 rfl (Nat.le_refl 0) (Nat.le_refl 0)
      · have h := it_f c h
        refine s_lload_n C dX4_shapeOf_21 rfl rfl ?_
        refine s_iconst C dX4_shapeOf_22 ic_1 ?_
        refine s_lshl C dX4_shapeOf_23 ?_
        obtain ⟨rfl, rfl⟩ := pr_e h
        exact s_lret C M dX4_shapeOf_24 rfl (Nat.le_refl 0) (Nat.le_refl 0)
theorem wX4_shape {E : Ev} {d : Nat} (hd : 44 ≤ d) {x1 : Int32} {I I' : Mm} {r : Int64}  (h : fX4_shape x1 I = some (r, I')) : SemM E d 0 0 mX4_shape [rfE E 0, .int x1] S0 I (some (.long r)) S0 I' := by
  unfold fX4_shape at h
  refine SemM.ofX (E := E) (y := mX4_shape) (args := fun E => [rfE E 0, .int x1]) (r := fun E => (some (.long r))) (fun E => [some (rfE E 0), some (.int x1), none]) (by decide +kernel) (Nat.le_of_ble_eq_true rfl) rfl (fun X C M => ?_)
  refine s_aload_n C dX4_shape_0 rfl rfl ?_
  refine s_getR (b := 1) C dX4_shape_1 kk_0 foX4_10 rfl rk_0_0 ?_
  refine s_iload_n C dX4_shape_4 rfl rfl ?_
  obtain ⟨r1, I1, hh, h⟩ := bd_e h
  refine s_cV0 (st := []) C M.rg (Nat.le_trans (by decide) hd) mwX3_rickAt mlX4_71 dX4_shape_5 (wX3_rickAt (d := 1) (Nat.le_refl _) kk_1 hh) kk_1 rfl rfl (Nat.le_of_ble_eq_true rfl) ?_
  refine s_astore_no (ls' := [some (rfX X 0), some (.int x1), some (rvE (xE X) r1)]) C dX4_shape_8 rfl (by decide) (Nat.le_of_ble_eq_true rfl) rfl rfl ?_
  refine s_aload_no C dX4_shape_9 rfl rfl ?_
  cases r1 with
  | none =>
    have h := on_n h
    refine s_ifnonnullN C dX4_shape_10 ?_
    refine s_ldc2 C dX4_shape_13 coX4_161 ?_
    refine s_goto (tgt := 32) C dX4_shape_16 (by decide) ?_
    obtain ⟨rfl, rfl⟩ := pr_e h
    exact s_lret C M dX4_shape_32 rfl (Nat.le_refl 0) (Nat.le_refl 0)
  | some q1 =>
    obtain ⟨hq1, h⟩ := it_s (on_s h)
    refine s_ifnonnull (tgt := 19) C dX4_shape_10 (by decide) ?_
    refine s_aload_n C dX4_shape_19 rfl rfl ?_
    refine s_iconst C dX4_shape_20 ic_0 ?_
    refine s_aload_n C dX4_shape_21 rfl rfl ?_
    refine s_getI C dX4_shape_22 hq1 foX4_111 rfl ?_
    refine s_iconst C dX4_shape_25 ic_1 ?_
    refine s_isub C dX4_shape_26 ?_
    refine s_lconst (v := 0) C dX4_shape_27 (by decide +kernel) ?_
    refine s_iconst C dX4_shape_28 ic_0 ?_
    obtain ⟨r2, I2, hh, h⟩ := bd_e h
    refine s_cS0 (st := []) C M.rg (Nat.le_trans (by decide) hd) mwX4_shapeOf mlX4_163 dX4_shape_29 (wX4_shapeOf _ (d := 43) (Nat.le_refl _) hq1 hh) rfl rfl (Nat.le_of_ble_eq_true rfl) ?_
    obtain ⟨rfl, rfl⟩ := pr_e h
    exact s_lret C M dX4_shape_32 rfl (Nat.le_refl 0) (Nat.le_refl 0)
