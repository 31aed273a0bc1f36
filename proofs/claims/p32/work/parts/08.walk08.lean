theorem wL_isRick_p80 {X : Cx} {d : Nat} (hd : 46 ≤ d) (C : CtxOK X mL_isRick) {x1 : Int32} {x2 : Int32} {x3 : Int32} {x4 : Int32} {x5 : Int32} {x6 : Int32} {x7 : Int32} {s0 : Int32} {I I' : Mm} {r : Int32}  (h : fL_isRick_p80 x1 x2 x3 x4 x5 x6 x7 s0 I = some (r, I')) (M : MX X (xE X) d 0 0 (some (.int r)) S0 I') : WM X mL_isRick 80 [some (rfX X 0), some (.int x1), some (.int x2), some (.int x3), some (.int x4), some (.int x5), some (.int x6), some (.int x7), none, none, none] [.int s0] S0 I 0 0 := by
  unfold fL_isRick_p80 at h
  refine s_istore (ls' := [some (rfX X 0), some (.int x1), some (.int x2), some (.int x3), some (.int x4), some (.int x5), some (.int x6), some (.int x7), some (.int s0), none, none]) C dL_isRick_80 (by decide) (Nat.le_of_ble_eq_true rfl) rfl rfl ?_
  refine s_iconst C dL_isRick_82 ic_0 ?_
  refine s_istore (ls' := [some (rfX X 0), some (.int x1), some (.int x2), some (.int x3), some (.int x4), some (.int x5), some (.int x6), some (.int x7), some (.int s0), some (.int 0), none]) C dL_isRick_83 (by decide) (Nat.le_of_ble_eq_true rfl) rfl rfl ?_
  exact wL_isRick_p85 hd C _  h M
theorem wL_isRick_p79 {X : Cx} {d : Nat} (hd : 46 ≤ d) (C : CtxOK X mL_isRick) {x1 : Int32} {x2 : Int32} {x3 : Int32} {x4 : Int32} {x5 : Int32} {x6 : Int32} {x7 : Int32} {I I' : Mm} {r : Int32}  (h : fL_isRick_p79 x1 x2 x3 x4 x5 x6 x7 I = some (r, I')) (M : MX X (xE X) d 0 0 (some (.int r)) S0 I') : WM X mL_isRick 79 [some (rfX X 0), some (.int x1), some (.int x2), some (.int x3), some (.int x4), some (.int x5), some (.int x6), some (.int x7), none, none, none] [] S0 I 0 0 := by
  unfold fL_isRick_p79 at h
  refine s_iconst C dL_isRick_79 ic_0 ?_
  exact wL_isRick_p80 hd C  h M
theorem wL_isRick {E : Ev} {d : Nat} (hd : 46 ≤ d) {x1 : Int32} {I I' : Mm} {r : Int32}  (h : fL_isRick x1 I = some (r, I')) : SemM E d 0 0 mL_isRick [rfE E 0, .int x1] S0 I (some (.int r)) S0 I' := by
  unfold fL_isRick at h
  refine SemM.ofX (E := E) (y := mL_isRick) (args := fun E => [rfE E 0, .int x1]) (r := fun E => (some (.int r))) (fun E => [some (rfE E 0), some (.int x1), none, none, none, none, none, none, none, none, none]) (by decide +kernel) (Nat.le_of_ble_eq_true rfl) rfl (fun X C M => ?_)
  refine s_aload_n C dL_isRick_0 rfl rfl ?_
  refine s_iload_n C dL_isRick_1 rfl rfl ?_
  refine s_iconst C dL_isRick_2 ic_0 ?_
  obtain ⟨r1, I1, hh, h⟩ := bd_e h
  refine s_cV0 (st := []) C M.rg (Nat.le_trans (by decide) hd) mwX4_rickOf mlL_28 dL_isRick_3 (wX4_rickOf (d := 5) (Nat.le_refl _)  hh) kk_0 rfl rfl (Nat.le_of_ble_eq_true rfl) ?_
  refine s_istore_n (ls' := [some (rfX X 0), some (.int x1), some (.int r1), none, none, none, none, none, none, none, none]) C dL_isRick_6 rfl (by decide) (Nat.le_of_ble_eq_true rfl) rfl rfl ?_
  refine s_iconst C dL_isRick_7 ic_0 ?_
  refine s_istore_n (ls' := [some (rfX X 0), some (.int x1), some (.int r1), some (.int 0), none, none, none, none, none, none, none]) C dL_isRick_8 rfl (by decide) (Nat.le_of_ble_eq_true rfl) rfl rfl ?_
  refine s_iconst C dL_isRick_9 ic_0 ?_
  refine s_istore (ls' := [some (rfX X 0), some (.int x1), some (.int r1), some (.int 0), some (.int 0), none, none, none, none, none, none]) C dL_isRick_10 (by decide) (Nat.le_of_ble_eq_true rfl) rfl rfl ?_
  refine s_iconst C dL_isRick_12 ic_0 ?_
  refine s_istore (ls' := [some (rfX X 0), some (.int x1), some (.int r1), some (.int 0), some (.int 0), some (.int 0), none, none, none, none, none]) C dL_isRick_13 (by decide) (Nat.le_of_ble_eq_true rfl) rfl rfl ?_
  refine s_iconst C dL_isRick_15 ic_0 ?_
  refine s_istore (ls' := [some (rfX X 0), some (.int x1), some (.int r1), some (.int 0), some (.int 0), some (.int 0), some (.int 0), none, none, none, none]) C dL_isRick_16 (by decide) (Nat.le_of_ble_eq_true rfl) rfl rfl ?_
  refine s_iconst C dL_isRick_18 ic_m1 ?_
  refine s_istore (ls' := [some (rfX X 0), some (.int x1), some (.int r1), some (.int 0), some (.int 0), some (.int 0), some (.int 0), some (.int (-1)), none, none, none]) C dL_isRick_19 (by decide) (Nat.le_of_ble_eq_true rfl) rfl rfl ?_
  refine s_aload_n C dL_isRick_21 rfl rfl ?_
  refine s_iload_n C dL_isRick_22 rfl rfl ?_
  refine s_iload_n C dL_isRick_23 rfl rfl ?_
  obtain ⟨r2, I2, hh, h⟩ := bd_e h
  refine s_cV0 (st := []) C M.rg (Nat.le_trans (by decide) hd) mwX4_at mlL_37 dL_isRick_24 (wX4_at (d := 2) (Nat.le_refl _)  hh) kk_0 rfl rfl (Nat.le_of_ble_eq_true rfl) ?_
  refine s_bipush C dL_isRick_27 bi_m11 ?_
  refine s_icmp_ne (tgt := 79) C dL_isRick_29 (by decide) (fun c => ?_) (fun c => ?_)
  · have h := it_f c h
    exact wL_isRick_p79 hd C  h M
  · have h := it_t c h
    refine s_aload_n C dL_isRick_32 rfl rfl ?_
    refine s_iload_n C dL_isRick_33 rfl rfl ?_
    refine s_iconst C dL_isRick_34 ic_m1 ?_
    obtain ⟨r3, I3, hh, h⟩ := bd_e h
    refine s_cV0 (st := []) C M.rg (Nat.le_trans (by decide) hd) mwX4_at mlL_37 dL_isRick_35 (wX4_at (d := 2) (Nat.le_refl _)  hh) kk_0 rfl rfl (Nat.le_of_ble_eq_true rfl) ?_
    refine s_bipush C dL_isRick_38 bi_m11 ?_
    refine s_icmp_ne (tgt := 79) C dL_isRick_40 (by decide) (fun c => ?_) (fun c => ?_)
    · have h := it_f c h
      exact wL_isRick_p79 hd C  h M
    · have h := it_t c h
      refine s_iload_n C dL_isRick_43 rfl rfl ?_
      refine s_aload_n C dL_isRick_44 rfl rfl ?_
      refine s_iload_n C dL_isRick_45 rfl rfl ?_
      refine s_iconst C dL_isRick_46 ic_5 ?_
      obtain ⟨r4, I4, hh, h⟩ := bd_e h
      refine s_cV0 (st := [.int r1]) C M.rg (Nat.le_trans (by decide) hd) mwX4_rickOf mlL_28 dL_isRick_47 (wX4_rickOf (d := 5) (Nat.le_refl _)  hh) kk_0 rfl rfl (Nat.le_of_ble_eq_true rfl) ?_
      refine s_icmp_gt (tgt := 79) C dL_isRick_50 (by decide) (fun c => ?_) (fun c => ?_)
      · have h := it_t c h
        exact wL_isRick_p79 hd C  h M
      · have h := it_f c h
        refine s_aload_n C dL_isRick_53 rfl rfl ?_
        refine s_iload_n C dL_isRick_54 rfl rfl ?_
        obtain ⟨r5, I5, hh, h⟩ := bd_e h
        refine s_cV0 (st := []) C M.rg (Nat.le_trans (by decide) hd) mwX4_shape mlL_81 dL_isRick_55 (wX4_shape (d := 44) (Nat.le_refl _)  hh) kk_0 rfl rfl (Nat.le_of_ble_eq_true rfl) ?_
        refine s_bitc C M.rg (Nat.le_trans (by decide) hd) mlL_97 dL_isRick_58 (Nat.le_of_ble_eq_true rfl) ?_
        refine s_iload_n C dL_isRick_61 rfl rfl ?_
        refine s_icmp_ne (tgt := 79) C dL_isRick_62 (by decide) (fun c => ?_) (fun c => ?_)
        · have h := it_f c h
          exact wL_isRick_p79 hd C  h M
        · have h := it_t c h
          refine s_aload_n C dL_isRick_65 rfl rfl ?_
          refine s_iload_n C dL_isRick_66 rfl rfl ?_
          obtain ⟨r6, I6, hh, h⟩ := bd_e h
          refine s_cV0 (st := []) C M.rg (Nat.le_trans (by decide) hd) mwX4_tell mlL_103 dL_isRick_67 (wX4_tell (d := 45) (Nat.le_refl _)  hh) kk_0 rfl rfl (Nat.le_of_ble_eq_true rfl) ?_
          refine s_bipush C dL_isRick_70 bi_60 ?_
          refine s_icmp_gt (tgt := 79) C dL_isRick_72 (by decide) (fun c => ?_) (fun c => ?_)
          · have h := it_t c h
            exact wL_isRick_p79 hd C  h M
          · have h := it_f c h
            refine s_iconst C dL_isRick_75 ic_1 ?_
            refine s_goto (tgt := 80) C dL_isRick_76 (by decide) ?_
            exact wL_isRick_p80 hd C  h M
theorem wX1_isInOrder_p2 {X : Cx} {d : Nat} (hd : 2 ≤ d) (C : CtxOK X mX1_isInOrder) : ∀ (n : Nat) {x0 : Nat} {x1 : Int32} {I I' : Mm} {r : Int32} (hx0 : kd0 x0 = 1) (_ : fX1_isInOrder_p2 n x0 x1 I = some (r, I')) (_ : MX X (xE X) d 0 0 (some (.int r)) S0 I'), WM X mX1_isInOrder 2 [some (rfX X x0), some (.int x1)] [] S0 I 0 0 := by
  intro n
  induction n with
  | zero => intro x0 x1 I I' r hx0 h M; exact absurd h (by simp [fX1_isInOrder_p2])
  | succ n ih =>
    intro x0 x1 I I' r hx0 h M
    rw [fX1_isInOrder_p2] at h
    refine s_iload_n C dX1_isInOrder_2 rfl rfl ?_
    refine s_aload_n C dX1_isInOrder_3 rfl rfl ?_
    refine s_getI C dX1_isInOrder_4 hx0 foX1_21 rfl ?_
    refine s_icmp_ge (tgt := 33) C dX1_isInOrder_7 (by decide) (fun c => ?_) (fun c => ?_)
    · have h := it_t c h
      refine s_iconst C dX1_isInOrder_33 ic_1 ?_
      obtain ⟨rfl, rfl⟩ := pr_e h
      exact s_iret C M dX1_isInOrder_34 rfl (nz_b (by decide)) (Nat.le_refl 0) (Nat.le_refl 0)
    · have h := it_f c h
      refine s_aload_n C dX1_isInOrder_10 rfl rfl ?_
      refine s_iload_n C dX1_isInOrder_11 rfl rfl ?_
      refine s_iconst C dX1_isInOrder_12 ic_1 ?_
      refine s_isub C dX1_isInOrder_13 ?_
      obtain ⟨r1, I1, hh, h⟩ := bd_e h
      refine s_cV0 (st := []) C M.rg (Nat.le_trans (by decide) hd) mwX1_weightAt mlX1_25 dX1_isInOrder_14 (wX1_weightAt (d := 1) (Nat.le_refl _) hx0 hh) hx0 rfl rfl (Nat.le_of_ble_eq_true rfl) ?_
      refine s_aload_n C dX1_isInOrder_17 rfl rfl ?_
      refine s_iload_n C dX1_isInOrder_18 rfl rfl ?_
      obtain ⟨r2, I2, hh, h⟩ := bd_e h
      refine s_cV0 (st := [.int r1]) C M.rg (Nat.le_trans (by decide) hd) mwX1_weightAt mlX1_25 dX1_isInOrder_19 (wX1_weightAt (d := 1) (Nat.le_refl _) hx0 hh) hx0 rfl rfl (Nat.le_of_ble_eq_true rfl) ?_
      refine s_icmp_lt (tgt := 27) C dX1_isInOrder_22 (by decide) (fun c => ?_) (fun c => ?_)
      · have h := it_t c h
        obtain ⟨v1, ev1, h⟩ := ltm_e h
        refine s_iinc (v := v1) (ls' := [some (rfX X x0), some (.int v1)]) C dX1_isInOrder_27 rfl (by decide) (Nat.le_of_ble_eq_true rfl) (by rw [ev1, ic_1]) rfl rfl ?_
        refine s_goto (tgt := 2) C dX1_isInOrder_30 (by decide) ?_
        exact ih hx0 h M
      · have h := it_f c h
        refine s_iconst C dX1_isInOrder_25 ic_0 ?_
        obtain ⟨rfl, rfl⟩ := pr_e h
        exact s_iret C M dX1_isInOrder_26 rfl (nz_b (by decide)) (Nat.le_refl 0) (Nat.le_refl 0)
theorem wX1_isInOrder {E : Ev} {d : Nat} (hd : 2 ≤ d) {x0 : Nat} {I I' : Mm} {r : Int32} (hx0 : kd0 x0 = 1) (h : fX1_isInOrder x0 I = some (r, I')) : SemM E d 0 0 mX1_isInOrder [rfE E x0] S0 I (some (.int r)) S0 I' := by
  unfold fX1_isInOrder at h
  refine SemM.ofX (E := E) (y := mX1_isInOrder) (args := fun E => [rfE E x0]) (r := fun E => (some (.int r))) (fun E => [some (rfE E x0), none]) (by decide +kernel) (Nat.le_of_ble_eq_true rfl) rfl (fun X C M => ?_)
  refine s_iconst C dX1_isInOrder_0 ic_1 ?_
  refine s_istore_n (ls' := [some (rfX X x0), some (.int 1)]) C dX1_isInOrder_1 rfl (by decide) (Nat.le_of_ble_eq_true rfl) rfl rfl ?_
  exact wX1_isInOrder_p2 hd C _ hx0 h M
theorem wX4_isTree : ∀ (n : Nat) {E : Ev} {d : Nat} (_ : 3 + n ≤ d) {x0 : Nat} {x1 : Int32} {x2 : Int32} {x3 : Int32} {I I' : Mm} {r : Int32} (hx0 : kd0 x0 = 1) (_ : fX4_isTree n x0 x1 x2 x3 I = some (r, I')), SemM E d 0 0 mX4_isTree [rfE E x0, .int x1, .int x2, .int x3] S0 I (some (.int r)) S0 I' := by
  intro n
  induction n with
  | zero => intro E d hd x0 x1 x2 x3 I I' r hx0 h; exact absurd h (by simp [fX4_isTree])
  | succ n ih =>
    intro E d hd x0 x1 x2 x3 I I' r hx0 h
    rw [fX4_isTree] at h
    refine SemM.ofX (E := E) (y := mX4_isTree) (args := fun E => [rfE E x0, .int x1, .int x2, .int x3]) (r := fun E => (some (.int r))) (fun E => [some (rfE E x0), some (.int x1), some (.int x2), some (.int x3), none]) (by decide +kernel) (Nat.le_of_ble_eq_true rfl) rfl (fun X C M => ?_)
    refine s_iload_n C dX4_isTree_0 rfl rfl ?_
    refine s_iload_n C dX4_isTree_1 rfl rfl ?_
    refine s_icmp_le (tgt := 7) C dX4_isTree_2 (by decide) (fun c => ?_) (fun c => ?_)
    · have h := it_t c h
      refine s_aload_n C dX4_isTree_7 rfl rfl ?_
      refine s_iload_n C dX4_isTree_8 rfl rfl ?_
      refine s_iload_n C dX4_isTree_9 rfl rfl ?_
      obtain ⟨r1, I1, hh, h⟩ := bd_e h
      refine s_cV0 (st := []) C M.rg (Nat.le_trans (by omega) hd) mwX1_topOf mlX4_108 dX4_isTree_10 (wX1_topOf (d := 2) (Nat.le_refl _) hx0 hh) hx0 rfl rfl (Nat.le_of_ble_eq_true rfl) ?_
      refine s_istore (ls' := [some (rfX X x0), some (.int x1), some (.int x2), some (.int x3), some (.int r1)]) C dX4_isTree_13 (by decide) (Nat.le_of_ble_eq_true rfl) rfl rfl ?_
      refine s_iload_n C dX4_isTree_15 rfl rfl ?_
      refine s_bipush C dX4_isTree_16 bi_30 ?_
      refine s_icmp_gt (tgt := 65) C dX4_isTree_18 (by decide) (fun c => ?_) (fun c => ?_)
      · have h := it_t c h
        refine s_iconst C dX4_isTree_65 ic_0 ?_
        obtain ⟨rfl, rfl⟩ := pr_e h
        exact s_iret C M dX4_isTree_66 rfl (nz_b (by decide)) (Nat.le_refl 0) (Nat.le_refl 0)
      · have h := it_f c h
        refine s_aload_n C dX4_isTree_21 rfl rfl ?_
        refine s_iload C dX4_isTree_22 rfl ?_
        obtain ⟨r2, I2, hh, h⟩ := bd_e h
        refine s_cV0 (st := []) C M.rg (Nat.le_trans (by omega) hd) mwX1_depthAt mlX4_89 dX4_isTree_24 (wX1_depthAt (d := 1) (Nat.le_refl _) hx0 hh) hx0 rfl rfl (Nat.le_of_ble_eq_true rfl) ?_
        refine s_iload_n C dX4_isTree_27 rfl rfl ?_
        refine s_icmp_ne (tgt := 65) C dX4_isTree_28 (by decide) (fun c => ?_) (fun c => ?_)
        · have h := it_f c h
          refine s_iconst C dX4_isTree_65 ic_0 ?_
          obtain ⟨rfl, rfl⟩ := pr_e h
          exact s_iret C M dX4_isTree_66 rfl (nz_b (by decide)) (Nat.le_refl 0) (Nat.le_refl 0)
        · have h := it_t c h
          refine s_aload_n C dX4_isTree_31 rfl rfl ?_
          refine s_iload_n C dX4_isTree_32 rfl rfl ?_
          refine s_iload C dX4_isTree_33 rfl ?_
          refine s_iconst C dX4_isTree_35 ic_1 ?_
          refine s_isub C dX4_isTree_36 ?_
          refine s_iload_n C dX4_isTree_37 rfl rfl ?_
          refine s_iconst C dX4_isTree_38 ic_1 ?_
          refine s_iadd C dX4_isTree_39 ?_
          obtain ⟨r3, I3, hh, h⟩ := bd_e h
          refine s_cS0 (st := []) C M.rg (Nat.le_trans (by omega) hd) mwX4_isTree mlX4_286 dX4_isTree_40 (ih (d := 3 + n) (Nat.le_refl _) hx0 hh) rfl rfl (Nat.le_of_ble_eq_true rfl) ?_
          refine s_if_eq (tgt := 65) C dX4_isTree_43 (by decide) (fun c => ?_) (fun c => ?_)
          · have h := it_t c h
            refine s_iconst C dX4_isTree_65 ic_0 ?_
            obtain ⟨rfl, rfl⟩ := pr_e h
            exact s_iret C M dX4_isTree_66 rfl (nz_b (by decide)) (Nat.le_refl 0) (Nat.le_refl 0)
          · have h := it_f c h
            refine s_aload_n C dX4_isTree_46 rfl rfl ?_
            refine s_iload C dX4_isTree_47 rfl ?_
            refine s_iconst C dX4_isTree_49 ic_1 ?_
            refine s_iadd C dX4_isTree_50 ?_
            refine s_iload_n C dX4_isTree_51 rfl rfl ?_
            refine s_iload_n C dX4_isTree_52 rfl rfl ?_
            refine s_iconst C dX4_isTree_53 ic_1 ?_
            refine s_iadd C dX4_isTree_54 ?_
            obtain ⟨r4, I4, hh, h⟩ := bd_e h
            refine s_cS0 (st := []) C M.rg (Nat.le_trans (by omega) hd) mwX4_isTree mlX4_286 dX4_isTree_55 (ih (d := 3 + n) (Nat.le_refl _) hx0 hh) rfl rfl (Nat.le_of_ble_eq_true rfl) ?_
            refine s_if_eq (tgt := 65) C dX4_isTree_58 (by decide) (fun c => ?_) (fun c => ?_)
            · have h := it_t c h
              refine s_iconst C dX4_isTree_65 ic_0 ?_
              obtain ⟨rfl, rfl⟩ := pr_e h
              exact s_iret C M dX4_isTree_66 rfl (nz_b (by decide)) (Nat.le_refl 0) (Nat.le_refl 0)
            · have h := it_f c h
              refine s_iconst C dX4_isTree_61 ic_1 ?_
              refine s_goto (tgt := 66) C dX4_isTree_62 (by decide) ?_
              obtain ⟨rfl, rfl⟩ := pr_e h
              exact s_iret C M dX4_isTree_66 rfl (nz_b (by decide)) (Nat.le_refl 0) (Nat.le_refl 0)
    · have h := it_f c h
      refine s_iconst C dX4_isTree_5 ic_1 ?_
      obtain ⟨rfl, rfl⟩ := pr_e h
      exact s_iret C M dX4_isTree_6 rfl (nz_b (by decide)) (Nat.le_refl 0) (Nat.le_refl 0)
theorem wX4_isSound_p26 {X : Cx} {d : Nat} (hd : 44 ≤ d) (C : CtxOK X mX4_isSound) : ∀ (n : Nat) {x0 : Nat} {x1 : Int32} {I I' : Mm} {r : Int32} (hx0 : kd0 x0 = 1) (_ : fX4_isSound_p26 n x0 x1 I = some (r, I')) (_ : MX X (xE X) d 0 0 (some (.int r)) S0 I'), WM X mX4_isSound 26 [some (rfX X x0), some (.int x1), none] [] S0 I 0 0 := by
  intro n
  induction n with
  | zero => intro x0 x1 I I' r hx0 h M; exact absurd h (by simp [fX4_isSound_p26])
  | succ n ih =>
    intro x0 x1 I I' r hx0 h M
    rw [fX4_isSound_p26] at h
    refine s_iload_n C dX4_isSound_26 rfl rfl ?_
    refine s_aload_n C dX4_isSound_27 rfl rfl ?_
    refine s_getI C dX4_isSound_28 hx0 foX4_111 rfl ?_
    refine s_icmp_ge (tgt := 76) C dX4_isSound_31 (by decide) (fun c => ?_) (fun c => ?_)
    · have h := it_t c h
      refine s_iconst C dX4_isSound_76 ic_1 ?_
      obtain ⟨rfl, rfl⟩ := pr_e h
      exact s_iret C M dX4_isSound_77 rfl (nz_b (by decide)) (Nat.le_refl 0) (Nat.le_refl 0)
    · have h := it_f c h
      refine s_aload_n C dX4_isSound_34 rfl rfl ?_
      refine s_iload_n C dX4_isSound_35 rfl rfl ?_
      obtain ⟨r1, I1, hh, h⟩ := bd_e h
      refine s_cV0 (st := []) C M.rg (Nat.le_trans (by decide) hd) mwX1_weightAt mlX4_105 dX4_isSound_36 (wX1_weightAt (d := 1) (Nat.le_refl _) hx0 hh) hx0 rfl rfl (Nat.le_of_ble_eq_true rfl) ?_
      refine s_istore_n (ls' := [some (rfX X x0), some (.int x1), some (.int r1)]) C dX4_isSound_39 rfl (by decide) (Nat.le_of_ble_eq_true rfl) rfl rfl ?_
      refine s_aload_n C dX4_isSound_40 rfl rfl ?_
      refine s_iload_n C dX4_isSound_41 rfl rfl ?_
      obtain ⟨r2, I2, hh, h⟩ := bd_e h
      refine s_cV0 (st := []) C M.rg (Nat.le_trans (by decide) hd) mwX1_lighterByParts mlX4_133 dX4_isSound_42 (wX1_lighterByParts (d := 3) (Nat.le_refl _) hx0 hh) hx0 rfl rfl (Nat.le_of_ble_eq_true rfl) ?_
      refine s_aload_n C dX4_isSound_45 rfl rfl ?_
      refine s_iload_n C dX4_isSound_46 rfl rfl ?_
      obtain ⟨r3, I3, hh, h⟩ := bd_e h
      refine s_cV0 (st := [.int r2]) C M.rg (Nat.le_trans (by decide) hd) mwX1_lighterOneByOne mlX4_136 dX4_isSound_47 (wX1_lighterOneByOne (d := 2) (Nat.le_refl _) hx0 hh) hx0 rfl rfl (Nat.le_of_ble_eq_true rfl) ?_
      refine s_icmp_ne (tgt := 68) C dX4_isSound_50 (by decide) (fun c => ?_) (fun c => ?_)
      · have h := it_f c h
        refine s_iconst C dX4_isSound_68 ic_0 ?_
        obtain ⟨rfl, rfl⟩ := pr_e h
        exact s_iret C M dX4_isSound_69 rfl (nz_b (by decide)) (Nat.le_refl 0) (Nat.le_refl 0)
      · have h := it_t c h
        refine s_aload_n C dX4_isSound_53 rfl rfl ?_
        refine s_iconst C dX4_isSound_54 ic_0 ?_
        refine s_iload_n C dX4_isSound_55 rfl rfl ?_
        obtain ⟨r4, I4, hh, h⟩ := bd_e h
        refine s_cV0 (st := []) C M.rg (Nat.le_trans (by decide) hd) mwX1_loadsByParts mlX4_143 dX4_isSound_56 (wX1_loadsByParts (d := 4) (Nat.le_refl _) hx0 hh) hx0 rfl rfl (Nat.le_of_ble_eq_true rfl) ?_
        refine s_aload_n C dX4_isSound_59 rfl rfl ?_
        refine s_iconst C dX4_isSound_60 ic_0 ?_
        refine s_iload_n C dX4_isSound_61 rfl rfl ?_
        obtain ⟨r5, I5, hh, h⟩ := bd_e h
        refine s_cV0 (st := [.int r4]) C M.rg (Nat.le_trans (by decide) hd) mwX1_loadsOneByOne mlX4_146 dX4_isSound_62 (wX1_loadsOneByOne (d := 2) (Nat.le_refl _) hx0 hh) hx0 rfl rfl (Nat.le_of_ble_eq_true rfl) ?_
        refine s_icmp_eq (tgt := 70) C dX4_isSound_65 (by decide) (fun c => ?_) (fun c => ?_)
        · have h := it_t c h
          obtain ⟨v1, ev1, h⟩ := ltm_e h
          refine s_iinc (v := v1) (ls' := [some (rfX X x0), some (.int v1), some (.int r1)]) C dX4_isSound_70 rfl (by decide) (Nat.le_of_ble_eq_true rfl) (by rw [ev1, ic_1]) rfl rfl ?_
          refine s_goto (tgt := 26) C dX4_isSound_73 (by decide) ?_
          refine s_weak (ls' := [some (rfX X x0), some (.int v1), none]) [true, true, false] rfl ?_
          exact ih hx0 h M
        · have h := it_f c h
          refine s_iconst C dX4_isSound_68 ic_0 ?_
          obtain ⟨rfl, rfl⟩ := pr_e h
          exact s_iret C M dX4_isSound_69 rfl (nz_b (by decide)) (Nat.le_refl 0) (Nat.le_refl 0)
theorem wX4_isSound {E : Ev} {d : Nat} (hd : 44 ≤ d) {x0 : Nat} {I I' : Mm} {r : Int32} (hx0 : kd0 x0 = 1) (h : fX4_isSound x0 I = some (r, I')) : SemM E d 0 0 mX4_isSound [rfE E x0] S0 I (some (.int r)) S0 I' := by
  unfold fX4_isSound at h
  refine SemM.ofX (E := E) (y := mX4_isSound) (args := fun E => [rfE E x0]) (r := fun E => (some (.int r))) (fun E => [some (rfE E x0), none, none]) (by decide +kernel) (Nat.le_of_ble_eq_true rfl) rfl (fun X C M => ?_)
  refine s_aload_n C dX4_isSound_0 rfl rfl ?_
  obtain ⟨r1, I1, hh, h⟩ := bd_e h
  refine s_cV0 (st := []) C M.rg (Nat.le_trans (by decide) hd) mwX1_isInOrder mlX4_282 dX4_isSound_1 (wX1_isInOrder (d := 2) (Nat.le_refl _) hx0 hh) hx0 rfl rfl (Nat.le_of_ble_eq_true rfl) ?_
  refine s_if_eq (tgt := 22) C dX4_isSound_4 (by decide) (fun c => ?_) (fun c => ?_)
  · have h := it_t c h
    refine s_iconst C dX4_isSound_22 ic_0 ?_
    obtain ⟨rfl, rfl⟩ := pr_e h
    exact s_iret C M dX4_isSound_23 rfl (nz_b (by decide)) (Nat.le_refl 0) (Nat.le_refl 0)
  · have h := it_f c h
    refine s_aload_n C dX4_isSound_7 rfl rfl ?_
    refine s_iconst C dX4_isSound_8 ic_0 ?_
    refine s_aload_n C dX4_isSound_9 rfl rfl ?_
    refine s_getI C dX4_isSound_10 hx0 foX4_111 rfl ?_
    refine s_iconst C dX4_isSound_13 ic_1 ?_
    refine s_isub C dX4_isSound_14 ?_
    refine s_iconst C dX4_isSound_15 ic_0 ?_
    obtain ⟨r2, I2, hh, h⟩ := bd_e h
    refine s_cS0 (st := []) C M.rg (Nat.le_trans (by decide) hd) mwX4_isTree mlX4_286 dX4_isSound_16 (wX4_isTree _ (d := 43) (Nat.le_refl _) hx0 hh) rfl rfl (Nat.le_of_ble_eq_true rfl) ?_
    refine s_if_ne (tgt := 24) C dX4_isSound_19 (by decide) (fun c => ?_) (fun c => ?_)
    · have h := it_f c h
      refine s_iconst C dX4_isSound_24 ic_0 ?_
      refine s_istore_n (ls' := [some (rfX X x0), some (.int 0), none]) C dX4_isSound_25 rfl (by decide) (Nat.le_of_ble_eq_true rfl) rfl rfl ?_
      exact wX4_isSound_p26 hd C _ hx0 h M
    · have h := it_t c h
      refine s_iconst C dX4_isSound_22 ic_0 ?_
      obtain ⟨rfl, rfl⟩ := pr_e h
      exact s_iret C M dX4_isSound_23 rfl (nz_b (by decide)) (Nat.le_refl 0) (Nat.le_refl 0)
theorem wX4_isBalanced_p29 {X : Cx} {d : Nat} (hd : 45 ≤ d) (C : CtxOK X mX4_isBalanced) : ∀ (n : Nat) {x1 : Int32} {I I' : Mm} {r : Int32}  (_ : fX4_isBalanced_p29 n x1 I = some (r, I')) (_ : MX X (xE X) d 0 0 (some (.int r)) S0 I'), WM X mX4_isBalanced 29 [some (rfX X 0), some (.int x1), none] [] S0 I 0 0 := by
  intro n
  induction n with
  | zero => intro x1 I I' r  h M; exact absurd h (by simp [fX4_isBalanced_p29])
  | succ n ih =>
    intro x1 I I' r  h M
    rw [fX4_isBalanced_p29] at h
    refine s_iload_n C dX4_isBalanced_29 rfl rfl ?_
    refine s_iconst C dX4_isBalanced_30 ic_3 ?_
    refine s_icmp_ge (tgt := 62) C dX4_isBalanced_31 (by decide) (fun c => ?_) (fun c => ?_)
    · have h := it_t c h
      refine s_iconst C dX4_isBalanced_62 ic_1 ?_
      obtain ⟨rfl, rfl⟩ := pr_e h
      exact s_iret C M dX4_isBalanced_63 rfl rfl (Nat.le_refl 0) (Nat.le_refl 0)
    · have h := it_f c h
      refine s_aload_n C dX4_isBalanced_34 rfl rfl ?_
      refine s_getR (b := 1) C dX4_isBalanced_35 kk_0 foX4_10 rfl rk_0_0 ?_
      refine s_iload_n C dX4_isBalanced_38 rfl rfl ?_
      obtain ⟨r1, I1, hh, h⟩ := bd_e h
      refine s_cV0 (st := []) C M.rg (Nat.le_trans (by decide) hd) mwX3_rickAt mlX4_71 dX4_isBalanced_39 (wX3_rickAt (d := 1) (Nat.le_refl _) kk_1 hh) kk_1 rfl rfl (Nat.le_of_ble_eq_true rfl) ?_
      refine s_astore_no (ls' := [some (rfX X 0), some (.int x1), some (rvE (xE X) r1)]) C dX4_isBalanced_42 rfl (by decide) (Nat.le_of_ble_eq_true rfl) rfl rfl ?_
      refine s_aload_no C dX4_isBalanced_43 rfl rfl ?_
      cases r1 with
      | none =>
        have h := on_n h
        refine s_ifnullN (tgt := 54) C dX4_isBalanced_44 (by decide) ?_
        refine s_iconst C dX4_isBalanced_54 ic_0 ?_
        obtain ⟨rfl, rfl⟩ := pr_e h
        exact s_iret C M dX4_isBalanced_55 rfl rfl (Nat.le_refl 0) (Nat.le_refl 0)
      | some q1 =>
        obtain ⟨hq1, h⟩ := it_s (on_s h)
        refine s_ifnull C dX4_isBalanced_44 ?_
        refine s_aload_n C dX4_isBalanced_47 rfl rfl ?_
        obtain ⟨r2, I2, hh, h⟩ := bd_e h
        refine s_cS0 (st := []) C M.rg (Nat.le_trans (by decide) hd) mwX4_isSound mlX4_230 dX4_isBalanced_48 (wX4_isSound (d := 44) (Nat.le_refl _) hq1 hh) rfl rfl (Nat.le_of_ble_eq_true rfl) ?_
        refine s_if_ne (tgt := 56) C dX4_isBalanced_51 (by decide) (fun c => ?_) (fun c => ?_)
        · have h := it_f c h
          obtain ⟨v1, ev1, h⟩ := ltm_e h
          refine s_iinc (v := v1) (ls' := [some (rfX X 0), some (.int v1), some (rfX X q1)]) C dX4_isBalanced_56 rfl (by decide) (Nat.le_of_ble_eq_true rfl) (by rw [ev1, ic_1]) rfl rfl ?_
          refine s_goto (tgt := 29) C dX4_isBalanced_59 (by decide) ?_
          refine s_weak (ls' := [some (rfX X 0), some (.int v1), none]) [true, true, false] rfl ?_
          exact ih  h M
        · have h := it_t c h
          refine s_iconst C dX4_isBalanced_54 ic_0 ?_
          obtain ⟨rfl, rfl⟩ := pr_e h
          exact s_iret C M dX4_isBalanced_55 rfl rfl (Nat.le_refl 0) (Nat.le_refl 0)
theorem wX4_isBalanced {E : Ev} {d : Nat} (hd : 45 ≤ d)  {I I' : Mm} {r : Int32}  (h : fX4_isBalanced  I = some (r, I')) : SemM E d 0 0 mX4_isBalanced [rfE E 0] S0 I (some (.int r)) S0 I' := by
  unfold fX4_isBalanced at h
  refine SemM.ofX (E := E) (y := mX4_isBalanced) (args := fun E => [rfE E 0]) (r := fun E => (some (.int r))) (fun E => [some (rfE E 0), none, none]) (by decide +kernel) (Nat.le_of_ble_eq_true rfl) rfl (fun X C M => ?_)
  refine s_aload_n C dX4_isBalanced_0 rfl rfl ?_
  refine s_getR (b := 1) C dX4_isBalanced_1 kk_0 foX4_10 rfl rk_0_0 ?_
  obtain ⟨r1, I1, hh, h⟩ := bd_e h
  refine s_cV0 (st := []) C M.rg (Nat.le_trans (by decide) hd) mwX3_sheaves mlX4_149 dX4_isBalanced_4 (wX3_sheaves (d := 2) (Nat.le_refl _) kk_1 hh) kk_1 rfl rfl (Nat.le_of_ble_eq_true rfl) ?_
  refine s_aload_n C dX4_isBalanced_7 rfl rfl ?_
  refine s_getR (b := 1) C dX4_isBalanced_8 kk_0 foX4_10 rfl rk_0_0 ?_
  refine s_getI C dX4_isBalanced_11 kk_1 foX4_209 rfl ?_
  refine s_aload_n C dX4_isBalanced_14 rfl rfl ?_
  refine s_getR (b := 1) C dX4_isBalanced_15 kk_0 foX4_10 rfl rk_0_0 ?_
  refine s_getI C dX4_isBalanced_18 kk_1 foX4_212 rfl ?_
  refine s_isub C dX4_isBalanced_21 ?_
  refine s_icmp_eq (tgt := 27) C dX4_isBalanced_22 (by decide) (fun c => ?_) (fun c => ?_)
  · have h := it_t c h
    refine s_iconst C dX4_isBalanced_27 ic_0 ?_
    refine s_istore_n (ls' := [some (rfX X 0), some (.int 0), none]) C dX4_isBalanced_28 rfl (by decide) (Nat.le_of_ble_eq_true rfl) rfl rfl ?_
    exact wX4_isBalanced_p29 hd C _  h M
  · have h := it_f c h
    refine s_iconst C dX4_isBalanced_25 ic_0 ?_
    obtain ⟨rfl, rfl⟩ := pr_e h
    exact s_iret C M dX4_isBalanced_26 rfl rfl (Nat.le_refl 0) (Nat.le_refl 0)
theorem wL_isFit_p102 {X : Cx} {d : Nat} (hd : 47 ≤ d) (C : CtxOK X mL_isFit) {x1 : Int32} {x2 : Int32} {x3 : Int32} {I I' : Mm} {r : Int32}  (h : fL_isFit_p102 x1 x2 x3 I = some (r, I')) (M : MX X (xE X) d 0 0 (some (.int r)) S0 I') : WM X mL_isFit 102 [some (rfX X 0), some (.int x1), some (.int x2), some (.int x3), none] [] S0 I 0 0 := by
  unfold fL_isFit_p102 at h
  refine s_iload_n C dL_isFit_102 rfl rfl ?_
  refine s_if_eq (tgt := 143) C dL_isFit_103 (by decide) (fun c => ?_) (fun c => ?_)
  · have h := it_t c h
    refine s_iconst C dL_isFit_143 ic_0 ?_
    obtain ⟨rfl, rfl⟩ := pr_e h
    exact s_iret C M dL_isFit_144 rfl (nz_b (by decide)) (Nat.le_refl 0) (Nat.le_refl 0)
  · have h := it_f c h
    refine s_iload_n C dL_isFit_106 rfl rfl ?_
    refine s_aload_n C dL_isFit_107 rfl rfl ?_
    refine s_iconst C dL_isFit_108 ic_0 ?_
    obtain ⟨r1, I1, hh, h⟩ := bd_e h
    refine s_cV0 (st := [.int x2]) C M.rg (Nat.le_trans (by decide) hd) mwX4_account mlL_78 dL_isFit_109 (wX4_account (d := 4) (Nat.le_refl _)  hh) kk_0 rfl rfl (Nat.le_of_ble_eq_true rfl) ?_
    refine s_icmp_ne (tgt := 143) C dL_isFit_112 (by decide) (fun c => ?_) (fun c => ?_)
    · have h := it_f c h
      refine s_iconst C dL_isFit_143 ic_0 ?_
      obtain ⟨rfl, rfl⟩ := pr_e h
      exact s_iret C M dL_isFit_144 rfl (nz_b (by decide)) (Nat.le_refl 0) (Nat.le_refl 0)
    · have h := it_t c h
      refine s_iload_n C dL_isFit_115 rfl rfl ?_
      refine s_aload_n C dL_isFit_116 rfl rfl ?_
      refine s_iconst C dL_isFit_117 ic_1 ?_
      obtain ⟨r2, I2, hh, h⟩ := bd_e h
      refine s_cV0 (st := [.int x3]) C M.rg (Nat.le_trans (by decide) hd) mwX4_account mlL_78 dL_isFit_118 (wX4_account (d := 4) (Nat.le_refl _)  hh) kk_0 rfl rfl (Nat.le_of_ble_eq_true rfl) ?_
      refine s_icmp_ne (tgt := 143) C dL_isFit_121 (by decide) (fun c => ?_) (fun c => ?_)
      · have h := it_f c h
        refine s_iconst C dL_isFit_143 ic_0 ?_
        obtain ⟨rfl, rfl⟩ := pr_e h
        exact s_iret C M dL_isFit_144 rfl (nz_b (by decide)) (Nat.le_refl 0) (Nat.le_refl 0)
      · have h := it_t c h
        refine s_iload_n C dL_isFit_124 rfl rfl ?_
        refine s_aload_n C dL_isFit_125 rfl rfl ?_
        refine s_iconst C dL_isFit_126 ic_2 ?_
        obtain ⟨r3, I3, hh, h⟩ := bd_e h
        refine s_cV0 (st := [.int x2]) C M.rg (Nat.le_trans (by decide) hd) mwX4_account mlL_78 dL_isFit_127 (wX4_account (d := 4) (Nat.le_refl _)  hh) kk_0 rfl rfl (Nat.le_of_ble_eq_true rfl) ?_
        refine s_aload_n C dL_isFit_130 rfl rfl ?_
        refine s_iconst C dL_isFit_131 ic_3 ?_
        obtain ⟨r4, I4, hh, h⟩ := bd_e h
        refine s_cV0 (st := [.int r3, .int x2]) C M.rg (Nat.le_trans (by decide) hd) mwX4_account mlL_78 dL_isFit_132 (wX4_account (d := 4) (Nat.le_refl _)  hh) kk_0 rfl rfl (Nat.le_of_ble_eq_true rfl) ?_
        refine s_isub C dL_isFit_135 ?_
        refine s_icmp_ne (tgt := 143) C dL_isFit_136 (by decide) (fun c => ?_) (fun c => ?_)
        · have h := it_f c h
          refine s_iconst C dL_isFit_143 ic_0 ?_
          obtain ⟨rfl, rfl⟩ := pr_e h
          exact s_iret C M dL_isFit_144 rfl (nz_b (by decide)) (Nat.le_refl 0) (Nat.le_refl 0)
        · have h := it_t c h
          refine s_iconst C dL_isFit_139 ic_1 ?_
          refine s_goto (tgt := 144) C dL_isFit_140 (by decide) ?_
          obtain ⟨rfl, rfl⟩ := pr_e h
          exact s_iret C M dL_isFit_144 rfl (nz_b (by decide)) (Nat.le_refl 0) (Nat.le_refl 0)
theorem wL_isFit_p28 {X : Cx} {d : Nat} (hd : 47 ≤ d) (C : CtxOK X mL_isFit) : ∀ (n : Nat) {x1 : Int32} {x2 : Int32} {x3 : Int32} {x4 : Int32} {I I' : Mm} {r : Int32}  (_ : fL_isFit_p28 n x1 x2 x3 x4 I = some (r, I')) (_ : MX X (xE X) d 0 0 (some (.int r)) S0 I'), WM X mL_isFit 28 [some (rfX X 0), some (.int x1), some (.int x2), some (.int x3), some (.int x4)] [] S0 I 0 0 := by
  intro n
  induction n with
  | zero => intro x1 x2 x3 x4 I I' r  h M; exact absurd h (by simp [fL_isFit_p28])
  | succ n ih =>
    intro x1 x2 x3 x4 I I' r  h M
    rw [fL_isFit_p28] at h
    refine s_iload_n C dL_isFit_28 rfl rfl ?_
    refine s_if_eq (tgt := 102) C dL_isFit_29 (by decide) (fun c => ?_) (fun c => ?_)
    · have h := it_t c h
      refine s_weak (ls' := [some (rfX X 0), some (.int x1), some (.int x2), some (.int x3), none]) [true, true, true, true, false] rfl ?_
      exact wL_isFit_p102 hd C  h M
    · have h := it_f c h
      refine s_iload C dL_isFit_32 rfl ?_
      refine s_iconst C dL_isFit_34 ic_3 ?_
      refine s_icmp_ge (tgt := 102) C dL_isFit_35 (by decide) (fun c => ?_) (fun c => ?_)
      · have h := it_t c h
        refine s_weak (ls' := [some (rfX X 0), some (.int x1), some (.int x2), some (.int x3), none]) [true, true, true, true, false] rfl ?_
        exact wL_isFit_p102 hd C  h M
      · have h := it_f c h
        refine s_iload_n C dL_isFit_38 rfl rfl ?_
        refine s_aload_n C dL_isFit_39 rfl rfl ?_
        refine s_iload C dL_isFit_40 rfl ?_
        refine s_iconst C dL_isFit_42 ic_0 ?_
        obtain ⟨r1, I1, hh, h⟩ := bd_e h
        refine s_cV0 (st := [.int x2]) C M.rg (Nat.le_trans (by decide) hd) mwX4_rickOf mlL_28 dL_isFit_43 (wX4_rickOf (d := 5) (Nat.le_refl _)  hh) kk_0 rfl rfl (Nat.le_of_ble_eq_true rfl) ?_
        refine s_iadd C dL_isFit_46 ?_
        obtain ⟨v1, ev1, h⟩ := ltm_e h
        refine s_top_i ev1 ?_
        refine s_istore_n (ls' := [some (rfX X 0), some (.int x1), some (.int v1), some (.int x3), some (.int x4)]) C dL_isFit_47 rfl (by decide) (Nat.le_of_ble_eq_true rfl) rfl rfl ?_
        refine s_iload_n C dL_isFit_48 rfl rfl ?_
        refine s_aload_n C dL_isFit_49 rfl rfl ?_
        refine s_iload C dL_isFit_50 rfl ?_
        refine s_iconst C dL_isFit_52 ic_1 ?_
        obtain ⟨r2, I2, hh, h⟩ := bd_e h
        refine s_cV0 (st := [.int x3]) C M.rg (Nat.le_trans (by decide) hd) mwX4_rickOf mlL_28 dL_isFit_53 (wX4_rickOf (d := 5) (Nat.le_refl _)  hh) kk_0 rfl rfl (Nat.le_of_ble_eq_true rfl) ?_
        refine s_iadd C dL_isFit_56 ?_
        obtain ⟨v2, ev2, h⟩ := ltm_e h
        refine s_top_i ev2 ?_
        refine s_istore_n (ls' := [some (rfX X 0), some (.int x1), some (.int v1), some (.int v2), some (.int x4)]) C dL_isFit_57 rfl (by decide) (Nat.le_of_ble_eq_true rfl) rfl rfl ?_
        refine s_aload_n C dL_isFit_58 rfl rfl ?_
        refine s_iload C dL_isFit_59 rfl ?_
        obtain ⟨r3, I3, hh, h⟩ := bd_e h
        refine s_cS0 (st := []) C M.rg (Nat.le_trans (by decide) hd) mwL_isRick mlL_156 dL_isFit_61 (wL_isRick (d := 46) (Nat.le_refl _)  hh) rfl rfl (Nat.le_of_ble_eq_true rfl) ?_
        refine s_if_eq (tgt := 94) C dL_isFit_64 (by decide) (fun c => ?_) (fun c => ?_)
        · have h := it_t c h
          refine s_iconst C dL_isFit_94 ic_0 ?_
          refine s_istore_n (ls' := [some (rfX X 0), some (.int 0), some (.int v1), some (.int v2), some (.int x4)]) C dL_isFit_95 rfl (by decide) (Nat.le_of_ble_eq_true rfl) rfl rfl ?_
          obtain ⟨v3, ev3, h⟩ := ltm_e h
          refine s_iinc (v := v3) (ls' := [some (rfX X 0), some (.int 0), some (.int v1), some (.int v2), some (.int v3)]) C dL_isFit_96 rfl (by decide) (Nat.le_of_ble_eq_true rfl) (by rw [ev3, ic_1]) rfl rfl ?_
          refine s_goto (tgt := 28) C dL_isFit_99 (by decide) ?_
          exact ih  h M
        · have h := it_f c h
          refine s_aload_n C dL_isFit_67 rfl rfl ?_
          refine s_iload C dL_isFit_68 rfl ?_
          refine s_bipush C dL_isFit_70 bi_99 ?_
          obtain ⟨r4, I4, hh, h⟩ := bd_e h
          refine s_cS0 (st := []) C M.rg (Nat.le_trans (by decide) hd) mwL_areCarts mlL_160 dL_isFit_72 (wL_areCarts (d := 6) (Nat.le_refl _)  hh) rfl rfl (Nat.le_of_ble_eq_true rfl) ?_
          refine s_if_eq (tgt := 94) C dL_isFit_75 (by decide) (fun c => ?_) (fun c => ?_)
          · have h := it_t c h
            refine s_iconst C dL_isFit_94 ic_0 ?_
            refine s_istore_n (ls' := [some (rfX X 0), some (.int 0), some (.int v1), some (.int v2), some (.int x4)]) C dL_isFit_95 rfl (by decide) (Nat.le_of_ble_eq_true rfl) rfl rfl ?_
            obtain ⟨v3, ev3, h⟩ := ltm_e h
            refine s_iinc (v := v3) (ls' := [some (rfX X 0), some (.int 0), some (.int v1), some (.int v2), some (.int v3)]) C dL_isFit_96 rfl (by decide) (Nat.le_of_ble_eq_true rfl) (by rw [ev3, ic_1]) rfl rfl ?_
            refine s_goto (tgt := 28) C dL_isFit_99 (by decide) ?_
            exact ih  h M
          · have h := it_f c h
            refine s_aload_n C dL_isFit_78 rfl rfl ?_
            refine s_iload C dL_isFit_79 rfl ?_
            refine s_sipush C dL_isFit_81 si_300 ?_
            obtain ⟨r5, I5, hh, h⟩ := bd_e h
            refine s_cS0 (st := []) C M.rg (Nat.le_trans (by decide) hd) mwL_areCarts mlL_160 dL_isFit_84 (wL_areCarts (d := 6) (Nat.le_refl _)  hh) rfl rfl (Nat.le_of_ble_eq_true rfl) ?_
            refine s_if_eq (tgt := 94) C dL_isFit_87 (by decide) (fun c => ?_) (fun c => ?_)
            · have h := it_t c h
              refine s_iconst C dL_isFit_94 ic_0 ?_
              refine s_istore_n (ls' := [some (rfX X 0), some (.int 0), some (.int v1), some (.int v2), some (.int x4)]) C dL_isFit_95 rfl (by decide) (Nat.le_of_ble_eq_true rfl) rfl rfl ?_
              obtain ⟨v3, ev3, h⟩ := ltm_e h
              refine s_iinc (v := v3) (ls' := [some (rfX X 0), some (.int 0), some (.int v1), some (.int v2), some (.int v3)]) C dL_isFit_96 rfl (by decide) (Nat.le_of_ble_eq_true rfl) (by rw [ev3, ic_1]) rfl rfl ?_
              refine s_goto (tgt := 28) C dL_isFit_99 (by decide) ?_
              exact ih  h M
            · have h := it_f c h
              refine s_iconst C dL_isFit_90 ic_1 ?_
              refine s_goto (tgt := 95) C dL_isFit_91 (by decide) ?_
              refine s_istore_n (ls' := [some (rfX X 0), some (.int 1), some (.int v1), some (.int v2), some (.int x4)]) C dL_isFit_95 rfl (by decide) (Nat.le_of_ble_eq_true rfl) rfl rfl ?_
              obtain ⟨v3, ev3, h⟩ := ltm_e h
              refine s_iinc (v := v3) (ls' := [some (rfX X 0), some (.int 1), some (.int v1), some (.int v2), some (.int v3)]) C dL_isFit_96 rfl (by decide) (Nat.le_of_ble_eq_true rfl) (by rw [ev3, ic_1]) rfl rfl ?_
              refine s_goto (tgt := 28) C dL_isFit_99 (by decide) ?_
              exact ih  h M
theorem wL_isFit_p20 {X : Cx} {d : Nat} (hd : 47 ≤ d) (C : CtxOK X mL_isFit) {s0 : Int32} {I I' : Mm} {r : Int32}  (h : fL_isFit_p20 s0 I = some (r, I')) (M : MX X (xE X) d 0 0 (some (.int r)) S0 I') : WM X mL_isFit 20 [some (rfX X 0), none, none, none, none] [.int s0] S0 I 0 0 := by
  unfold fL_isFit_p20 at h
  refine s_istore_n (ls' := [some (rfX X 0), some (.int s0), none, none, none]) C dL_isFit_20 rfl (by decide) (Nat.le_of_ble_eq_true rfl) rfl rfl ?_
  refine s_iconst C dL_isFit_21 ic_0 ?_
  refine s_istore_n (ls' := [some (rfX X 0), some (.int s0), some (.int 0), none, none]) C dL_isFit_22 rfl (by decide) (Nat.le_of_ble_eq_true rfl) rfl rfl ?_
  refine s_iconst C dL_isFit_23 ic_0 ?_
  refine s_istore_n (ls' := [some (rfX X 0), some (.int s0), some (.int 0), some (.int 0), none]) C dL_isFit_24 rfl (by decide) (Nat.le_of_ble_eq_true rfl) rfl rfl ?_
  refine s_iconst C dL_isFit_25 ic_0 ?_
  refine s_istore (ls' := [some (rfX X 0), some (.int s0), some (.int 0), some (.int 0), some (.int 0)]) C dL_isFit_26 (by decide) (Nat.le_of_ble_eq_true rfl) rfl rfl ?_
  exact wL_isFit_p28 hd C _  h M
theorem wL_isFit_p19 {X : Cx} {d : Nat} (hd : 47 ≤ d) (C : CtxOK X mL_isFit)  {I I' : Mm} {r : Int32}  (h : fL_isFit_p19  I = some (r, I')) (M : MX X (xE X) d 0 0 (some (.int r)) S0 I') : WM X mL_isFit 19 [some (rfX X 0), none, none, none, none] [] S0 I 0 0 := by
  unfold fL_isFit_p19 at h
  refine s_iconst C dL_isFit_19 ic_0 ?_
  exact wL_isFit_p20 hd C  h M
theorem wL_isFit {E : Ev} {d : Nat} (hd : 47 ≤ d)  {I I' : Mm} {r : Int32}  (h : fL_isFit  I = some (r, I')) : SemM E d 0 0 mL_isFit [rfE E 0] S0 I (some (.int r)) S0 I' := by
  unfold fL_isFit at h
  refine SemM.ofX (E := E) (y := mL_isFit) (args := fun E => [rfE E 0]) (r := fun E => (some (.int r))) (fun E => [some (rfE E 0), none, none, none, none]) (by decide +kernel) (Nat.le_of_ble_eq_true rfl) rfl (fun X C M => ?_)
  refine s_aload_n C dL_isFit_0 rfl rfl ?_
  obtain ⟨r1, I1, hh, h⟩ := bd_e h
  refine s_cV0 (st := []) C M.rg (Nat.le_trans (by decide) hd) mwX4_isBalanced mlL_149 dL_isFit_1 (wX4_isBalanced (d := 45) (Nat.le_refl _)  hh) kk_0 rfl rfl (Nat.le_of_ble_eq_true rfl) ?_
  refine s_iconst C dL_isFit_4 ic_1 ?_
  refine s_icmp_ne (tgt := 19) C dL_isFit_5 (by decide) (fun c => ?_) (fun c => ?_)
  · have h := it_f c h
    exact wL_isFit_p19 hd C  h M
  · have h := it_t c h
    refine s_aload_n C dL_isFit_8 rfl rfl ?_
    obtain ⟨r2, I2, hh, h⟩ := bd_e h
    refine s_cS0 (st := []) C M.rg (Nat.le_trans (by decide) hd) mwL_areHeaviest mlL_152 dL_isFit_9 (wL_areHeaviest (d := 5) (Nat.le_refl _)  hh) rfl rfl (Nat.le_of_ble_eq_true rfl) ?_
    refine s_if_eq (tgt := 19) C dL_isFit_12 (by decide) (fun c => ?_) (fun c => ?_)
    · have h := it_t c h
      exact wL_isFit_p19 hd C  h M
    · have h := it_f c h
      refine s_iconst C dL_isFit_15 ic_1 ?_
      refine s_goto (tgt := 20) C dL_isFit_16 (by decide) ?_
      exact wL_isFit_p20 hd C  h M
theorem wL_isPut_p163 {X : Cx} {d : Nat} (hd : 46 ≤ d) (C : CtxOK X mL_isPut) {x3 : Int64} {s0 : Int32} {I I' : Mm} {r : Int32}  (h : fL_isPut_p163 x3 s0 I = some (r, I')) (M : MX X (xE X) d 0 0 (some (.int r)) S0 I') : WM X mL_isPut 163 [some (rfX X 0), none, none, some (.long x3), none, none, none, none, none, none] [.int s0] S0 I 0 0 := by
  unfold fL_isPut_p163 at h
  refine s_istore (ls' := [some (rfX X 0), none, none, some (.long x3), none, none, none, none, none, some (.int s0)]) C dL_isPut_163 (by decide) (Nat.le_of_ble_eq_true rfl) rfl rfl ?_
  refine s_iload C dL_isPut_165 rfl ?_
  refine s_if_eq (tgt := 190) C dL_isPut_167 (by decide) (fun c => ?_) (fun c => ?_)
  · have h := it_t c h
    refine s_iconst C dL_isPut_190 ic_0 ?_
    obtain ⟨rfl, rfl⟩ := pr_e h
    exact s_iret C M dL_isPut_191 rfl (nz_b (by decide)) (Nat.le_refl 0) (Nat.le_refl 0)
  · have h := it_f c h
    refine s_aload_n C dL_isPut_170 rfl rfl ?_
    obtain ⟨r1, I1, hh, h⟩ := bd_e h
    refine s_cV0 (st := []) C M.rg (Nat.le_trans (by decide) hd) mwX4_undo mlL_71 dL_isPut_171 (wX4_undo (d := 4) (Nat.le_refl _)  hh) kk_0 rfl rfl (Nat.le_of_ble_eq_true rfl) ?_
    refine s_if_lt (tgt := 190) C dL_isPut_174 (by decide) (fun c => ?_) (fun c => ?_)
    · have h := it_t c h
      refine s_iconst C dL_isPut_190 ic_0 ?_
      obtain ⟨rfl, rfl⟩ := pr_e h
      exact s_iret C M dL_isPut_191 rfl (nz_b (by decide)) (Nat.le_refl 0) (Nat.le_refl 0)
    · have h := it_f c h
      refine s_aload_n C dL_isPut_177 rfl rfl ?_
      obtain ⟨r2, I2, hh, h⟩ := bd_e h
      refine s_cS0 (st := []) C M.rg (Nat.le_trans (by decide) hd) mwL_digest mlL_163 dL_isPut_178 (wL_digest (d := 45) (Nat.le_refl _)  hh) rfl rfl (Nat.le_of_ble_eq_true rfl) ?_
      refine s_lload_n C dL_isPut_181 rfl rfl ?_
      refine s_lcmp C dL_isPut_182 ?_
      refine s_if_ne (tgt := 190) C dL_isPut_183 (by decide) (fun c => ?_) (fun c => ?_)
      · have h := it_f c h
        refine s_iconst C dL_isPut_190 ic_0 ?_
        obtain ⟨rfl, rfl⟩ := pr_e h
        exact s_iret C M dL_isPut_191 rfl (nz_b (by decide)) (Nat.le_refl 0) (Nat.le_refl 0)
      · have h := it_t c h
        refine s_iconst C dL_isPut_186 ic_1 ?_
        refine s_goto (tgt := 191) C dL_isPut_187 (by decide) ?_
        obtain ⟨rfl, rfl⟩ := pr_e h
        exact s_iret C M dL_isPut_191 rfl (nz_b (by decide)) (Nat.le_refl 0) (Nat.le_refl 0)
theorem wL_isPut_p158 {X : Cx} {d : Nat} (hd : 46 ≤ d) (C : CtxOK X mL_isPut) {x3 : Int64} {I I' : Mm} {r : Int32}  (h : fL_isPut_p158 x3 I = some (r, I')) (M : MX X (xE X) d 0 0 (some (.int r)) S0 I') : WM X mL_isPut 158 [some (rfX X 0), none, none, some (.long x3), none, none, none, none, none, none] [] S0 I 0 0 := by
  unfold fL_isPut_p158 at h
  refine s_iconst C dL_isPut_158 ic_1 ?_
  refine s_goto (tgt := 163) C dL_isPut_159 (by decide) ?_
  exact wL_isPut_p163 hd C  h M
theorem wL_isPut_p162 {X : Cx} {d : Nat} (hd : 46 ≤ d) (C : CtxOK X mL_isPut) {x3 : Int64} {I I' : Mm} {r : Int32}  (h : fL_isPut_p162 x3 I = some (r, I')) (M : MX X (xE X) d 0 0 (some (.int r)) S0 I') : WM X mL_isPut 162 [some (rfX X 0), none, none, some (.long x3), none, none, none, none, none, none] [] S0 I 0 0 := by
  unfold fL_isPut_p162 at h
  refine s_iconst C dL_isPut_162 ic_0 ?_
  exact wL_isPut_p163 hd C  h M
theorem wL_isPut_p100 {X : Cx} {d : Nat} (hd : 46 ≤ d) (C : CtxOK X mL_isPut) {x1 : Int32} {x2 : Int32} {x3 : Int64} {x5 : Int32} {x7 : Int32} {x8 : Int32} {s0 : Int32} {s1 : Int32} {s2 : Int32} {I I' : Mm} {r : Int32}  (h : fL_isPut_p100 x1 x2 x3 x5 x7 x8 s0 s1 s2 I = some (r, I')) (M : MX X (xE X) d 0 0 (some (.int r)) S0 I') : WM X mL_isPut 100 [some (rfX X 0), some (.int x1), some (.int x2), some (.long x3), none, some (.int x5), none, some (.int x7), some (.int x8), none] [.int s2, .int s1, .int s0] S0 I 0 0 := by
  unfold fL_isPut_p100 at h
  refine s_iadd C dL_isPut_100 ?_
  refine s_icmp_ne (tgt := 162) C dL_isPut_101 (by decide) (fun c => ?_) (fun c => ?_)
  · have h := it_f c h
    refine s_weak (ls' := [some (rfX X 0), none, none, some (.long x3), none, none, none, none, none, none]) [true, false, false, true, false, false, false, false, false, false] rfl ?_
    exact wL_isPut_p162 hd C  h M
  · have h := it_t c h
    refine s_aload_n C dL_isPut_104 rfl rfl ?_
    refine s_bipush C dL_isPut_105 bi_6 ?_
    obtain ⟨r1, I1, hh, h⟩ := bd_e h
    refine s_cV0 (st := []) C M.rg (Nat.le_trans (by decide) hd) mwX4_account mlL_78 dL_isPut_107 (wX4_account (d := 4) (Nat.le_refl _)  hh) kk_0 rfl rfl (Nat.le_of_ble_eq_true rfl) ?_
    refine s_iload C dL_isPut_110 rfl ?_
    refine s_iload C dL_isPut_112 rfl ?_
    refine s_iadd C dL_isPut_114 ?_
    refine s_icmp_ne (tgt := 162) C dL_isPut_115 (by decide) (fun c => ?_) (fun c => ?_)
    · have h := it_f c h
      refine s_weak (ls' := [some (rfX X 0), none, none, some (.long x3), none, none, none, none, none, none]) [true, false, false, true, false, false, false, false, false, false] rfl ?_
      exact wL_isPut_p162 hd C  h M
    · have h := it_t c h
      refine s_iload C dL_isPut_118 rfl ?_
      refine s_iload C dL_isPut_120 rfl ?_
      refine s_iconst C dL_isPut_122 ic_1 ?_
      refine s_iadd C dL_isPut_123 ?_
      refine s_icmp_gt (tgt := 162) C dL_isPut_124 (by decide) (fun c => ?_) (fun c => ?_)
      · have h := it_t c h
        refine s_weak (ls' := [some (rfX X 0), none, none, some (.long x3), none, none, none, none, none, none]) [true, false, false, true, false, false, false, false, false, false] rfl ?_
        exact wL_isPut_p162 hd C  h M
      · have h := it_f c h
        refine s_iload C dL_isPut_127 rfl ?_
        refine s_if_gt (tgt := 158) C dL_isPut_129 (by decide) (fun c => ?_) (fun c => ?_)
        · have h := it_t c h
          refine s_weak (ls' := [some (rfX X 0), none, none, some (.long x3), none, none, none, none, none, none]) [true, false, false, true, false, false, false, false, false, false] rfl ?_
          exact wL_isPut_p158 hd C  h M
        · have h := it_f c h
          refine s_aload_n C dL_isPut_132 rfl rfl ?_
          refine s_iload_n C dL_isPut_133 rfl rfl ?_
          refine s_iload_n C dL_isPut_134 rfl rfl ?_
          refine s_iconst C dL_isPut_135 ic_1 ?_
          obtain ⟨r2, I2, hh, h⟩ := bd_e h
          refine s_cV0 (st := []) C M.rg (Nat.le_trans (by decide) hd) mwX4_sheafOf mlL_85 dL_isPut_136 (wX4_sheafOf (d := 4) (Nat.le_refl _)  hh) kk_0 rfl rfl (Nat.le_of_ble_eq_true rfl) ?_
          refine s_aload_n C dL_isPut_139 rfl rfl ?_
          refine s_iload_n C dL_isPut_140 rfl rfl ?_
          refine s_iconst C dL_isPut_141 ic_4 ?_
          obtain ⟨r3, I3, hh, h⟩ := bd_e h
          refine s_cV0 (st := [.int r2]) C M.rg (Nat.le_trans (by decide) hd) mwX4_rickOf mlL_28 dL_isPut_142 (wX4_rickOf (d := 5) (Nat.le_refl _)  hh) kk_0 rfl rfl (Nat.le_of_ble_eq_true rfl) ?_
          refine s_icmp_le (tgt := 158) C dL_isPut_145 (by decide) (fun c => ?_) (fun c => ?_)
          · have h := it_t c h
            refine s_weak (ls' := [some (rfX X 0), none, none, some (.long x3), none, none, none, none, none, none]) [true, false, false, true, false, false, false, false, false, false] rfl ?_
            exact wL_isPut_p158 hd C  h M
          · have h := it_f c h
            refine s_aload_n C dL_isPut_148 rfl rfl ?_
            refine s_iload_n C dL_isPut_149 rfl rfl ?_
            refine s_bipush C dL_isPut_150 bi_6 ?_
            obtain ⟨r4, I4, hh, h⟩ := bd_e h
            refine s_cV0 (st := []) C M.rg (Nat.le_trans (by decide) hd) mwX4_rickOf mlL_28 dL_isPut_152 (wX4_rickOf (d := 5) (Nat.le_refl _)  hh) kk_0 rfl rfl (Nat.le_of_ble_eq_true rfl) ?_
            refine s_if_ne (tgt := 162) C dL_isPut_155 (by decide) (fun c => ?_) (fun c => ?_)
            · have h := it_f c h
              refine s_weak (ls' := [some (rfX X 0), none, none, some (.long x3), none, none, none, none, none, none]) [true, false, false, true, false, false, false, false, false, false] rfl ?_
              exact wL_isPut_p162 hd C  h M
            · have h := it_t c h
              refine s_weak (ls' := [some (rfX X 0), none, none, some (.long x3), none, none, none, none, none, none]) [true, false, false, true, false, false, false, false, false, false] rfl ?_
              exact wL_isPut_p158 hd C  h M
theorem wL_isPut {E : Ev} {d : Nat} (hd : 46 ≤ d) {x1 : Int32} {x2 : Int32} {I I' : Mm} {r : Int32}  (h : fL_isPut x1 x2 I = some (r, I')) : SemM E d 0 0 mL_isPut [rfE E 0, .int x1, .int x2] S0 I (some (.int r)) S0 I' := by
  unfold fL_isPut at h
  refine SemM.ofX (E := E) (y := mL_isPut) (args := fun E => [rfE E 0, .int x1, .int x2]) (r := fun E => (some (.int r))) (fun E => [some (rfE E 0), some (.int x1), some (.int x2), none, none, none, none, none, none, none]) (by decide +kernel) (Nat.le_of_ble_eq_true rfl) rfl (fun X C M => ?_)
  refine s_aload_n C dL_isPut_0 rfl rfl ?_
  obtain ⟨r1, I1, hh, h⟩ := bd_e h
  refine s_cS0 (st := []) C M.rg (Nat.le_trans (by decide) hd) mwL_digest mlL_163 dL_isPut_1 (wL_digest (d := 45) (Nat.le_refl _)  hh) rfl rfl (Nat.le_of_ble_eq_true rfl) ?_
  refine s_lstore_n (ls' := [some (rfX X 0), some (.int x1), some (.int x2), some (.long r1), none, none, none, none, none, none]) C dL_isPut_4 rfl (by decide) (Nat.le_of_ble_eq_true rfl) rfl rfl ?_
  refine s_aload_n C dL_isPut_5 rfl rfl ?_
  refine s_iload_n C dL_isPut_6 rfl rfl ?_
  refine s_iconst C dL_isPut_7 ic_0 ?_
  obtain ⟨r2, I2, hh, h⟩ := bd_e h
  refine s_cV0 (st := []) C M.rg (Nat.le_trans (by decide) hd) mwX4_rickOf mlL_28 dL_isPut_8 (wX4_rickOf (d := 5) (Nat.le_refl _)  hh) kk_0 rfl rfl (Nat.le_of_ble_eq_true rfl) ?_
  refine s_istore (ls' := [some (rfX X 0), some (.int x1), some (.int x2), some (.long r1), none, some (.int r2), none, none, none, none]) C dL_isPut_11 (by decide) (Nat.le_of_ble_eq_true rfl) rfl rfl ?_
  refine s_aload_n C dL_isPut_13 rfl rfl ?_
  refine s_iconst C dL_isPut_14 ic_4 ?_
  obtain ⟨r3, I3, hh, h⟩ := bd_e h
  refine s_cV0 (st := []) C M.rg (Nat.le_trans (by decide) hd) mwX4_account mlL_78 dL_isPut_15 (wX4_account (d := 4) (Nat.le_refl _)  hh) kk_0 rfl rfl (Nat.le_of_ble_eq_true rfl) ?_
  refine s_istore (ls' := [some (rfX X 0), some (.int x1), some (.int x2), some (.long r1), none, some (.int r2), some (.int r3), none, none, none]) C dL_isPut_18 (by decide) (Nat.le_of_ble_eq_true rfl) rfl rfl ?_
  refine s_aload_n C dL_isPut_20 rfl rfl ?_
  refine s_bipush C dL_isPut_21 bi_6 ?_
  obtain ⟨r4, I4, hh, h⟩ := bd_e h
  refine s_cV0 (st := []) C M.rg (Nat.le_trans (by decide) hd) mwX4_account mlL_78 dL_isPut_23 (wX4_account (d := 4) (Nat.le_refl _)  hh) kk_0 rfl rfl (Nat.le_of_ble_eq_true rfl) ?_
  refine s_istore (ls' := [some (rfX X 0), some (.int x1), some (.int x2), some (.long r1), none, some (.int r2), some (.int r3), some (.int r4), none, none]) C dL_isPut_26 (by decide) (Nat.le_of_ble_eq_true rfl) rfl rfl ?_
  refine s_aload_n C dL_isPut_28 rfl rfl ?_
  refine s_iload_n C dL_isPut_29 rfl rfl ?_
  refine s_iload_n C dL_isPut_30 rfl rfl ?_
  refine s_bipush C dL_isPut_31 bi_7 ?_
  obtain ⟨r5, I5, hh, h⟩ := bd_e h
  refine s_cV0 (st := []) C M.rg (Nat.le_trans (by decide) hd) mwX4_put mlL_24 dL_isPut_33 (wX4_put (d := 45) (Nat.le_refl _)  hh) kk_0 rfl rfl (Nat.le_of_ble_eq_true rfl) ?_
  refine s_istore (ls' := [some (rfX X 0), some (.int x1), some (.int x2), some (.long r1), none, some (.int r2), some (.int r3), some (.int r4), some (.int r5), none]) C dL_isPut_36 (by decide) (Nat.le_of_ble_eq_true rfl) rfl rfl ?_
  refine s_iload C dL_isPut_38 rfl ?_
  refine s_if_ge (tgt := 58) C dL_isPut_40 (by decide) (fun c => ?_) (fun c => ?_)
  · have h := it_t c h
    refine s_aload_n C dL_isPut_58 rfl rfl ?_
    refine s_iload_n C dL_isPut_59 rfl rfl ?_
    refine s_iconst C dL_isPut_60 ic_0 ?_
    obtain ⟨r6, I6, hh, h⟩ := bd_e h
    refine s_cV0 (st := []) C M.rg (Nat.le_trans (by decide) hd) mwX4_rickOf mlL_28 dL_isPut_61 (wX4_rickOf (d := 5) (Nat.le_refl _)  hh) kk_0 rfl rfl (Nat.le_of_ble_eq_true rfl) ?_
    refine s_iload C dL_isPut_64 rfl ?_
    refine s_iconst C dL_isPut_66 ic_1 ?_
    refine s_iadd C dL_isPut_67 ?_
    refine s_icmp_ne (tgt := 162) C dL_isPut_68 (by decide) (fun c => ?_) (fun c => ?_)
    · have h := it_f c h
      refine s_weak (ls' := [some (rfX X 0), none, none, some (.long r1), none, none, none, none, none, none]) [true, false, false, true, false, false, false, false, false, false] rfl ?_
      exact wL_isPut_p162 hd C  h M
    · have h := it_t c h
      refine s_aload_n C dL_isPut_71 rfl rfl ?_
      refine s_iload_n C dL_isPut_72 rfl rfl ?_
      refine s_iload_n C dL_isPut_73 rfl rfl ?_
      refine s_iconst C dL_isPut_74 ic_0 ?_
      obtain ⟨r7, I7, hh, h⟩ := bd_e h
      refine s_cV0 (st := []) C M.rg (Nat.le_trans (by decide) hd) mwX4_sheafOf mlL_85 dL_isPut_75 (wX4_sheafOf (d := 4) (Nat.le_refl _)  hh) kk_0 rfl rfl (Nat.le_of_ble_eq_true rfl) ?_
      refine s_bipush C dL_isPut_78 bi_7 ?_
      refine s_icmp_ne (tgt := 162) C dL_isPut_80 (by decide) (fun c => ?_) (fun c => ?_)
      · have h := it_f c h
        refine s_weak (ls' := [some (rfX X 0), none, none, some (.long r1), none, none, none, none, none, none]) [true, false, false, true, false, false, false, false, false, false] rfl ?_
        exact wL_isPut_p162 hd C  h M
      · have h := it_t c h
        refine s_aload_n C dL_isPut_83 rfl rfl ?_
        refine s_iconst C dL_isPut_84 ic_4 ?_
        obtain ⟨r8, I8, hh, h⟩ := bd_e h
        refine s_cV0 (st := []) C M.rg (Nat.le_trans (by decide) hd) mwX4_account mlL_78 dL_isPut_85 (wX4_account (d := 4) (Nat.le_refl _)  hh) kk_0 rfl rfl (Nat.le_of_ble_eq_true rfl) ?_
        refine s_iload C dL_isPut_88 rfl ?_
        refine s_iload C dL_isPut_90 rfl ?_
        refine s_if_le (tgt := 99) C dL_isPut_92 (by decide) (fun c => ?_) (fun c => ?_)
        · have h := it_t c h
          refine s_iconst C dL_isPut_99 ic_0 ?_
          refine s_weak (ls' := [some (rfX X 0), some (.int x1), some (.int x2), some (.long r1), none, some (.int r2), none, some (.int r4), some (.int r5), none]) [true, true, true, true, false, true, false, true, true, false] rfl ?_
          exact wL_isPut_p100 hd C  h M
        · have h := it_f c h
          refine s_iconst C dL_isPut_95 ic_1 ?_
          refine s_goto (tgt := 100) C dL_isPut_96 (by decide) ?_
          refine s_weak (ls' := [some (rfX X 0), some (.int x1), some (.int x2), some (.long r1), none, some (.int r2), none, some (.int r4), some (.int r5), none]) [true, true, true, true, false, true, false, true, true, false] rfl ?_
          exact wL_isPut_p100 hd C  h M
  · have h := it_f c h
    refine s_aload_n C dL_isPut_43 rfl rfl ?_
    obtain ⟨r6, I6, hh, h⟩ := bd_e h
    refine s_cS0 (st := []) C M.rg (Nat.le_trans (by decide) hd) mwL_digest mlL_163 dL_isPut_44 (wL_digest (d := 45) (Nat.le_refl _)  hh) rfl rfl (Nat.le_of_ble_eq_true rfl) ?_
    refine s_lload_n C dL_isPut_47 rfl rfl ?_
    refine s_lcmp C dL_isPut_48 ?_
    refine s_if_ne (tgt := 56) C dL_isPut_49 (by decide) (fun c => ?_) (fun c => ?_)
    · have h := it_f c h
      refine s_iconst C dL_isPut_56 ic_0 ?_
      obtain ⟨rfl, rfl⟩ := pr_e h
      exact s_iret C M dL_isPut_57 rfl (nz_b (by decide)) (Nat.le_refl 0) (Nat.le_refl 0)
    · have h := it_t c h
      refine s_iconst C dL_isPut_52 ic_1 ?_
      refine s_goto (tgt := 57) C dL_isPut_53 (by decide) ?_
      obtain ⟨rfl, rfl⟩ := pr_e h
      exact s_iret C M dL_isPut_57 rfl (nz_b (by decide)) (Nat.le_refl 0) (Nat.le_refl 0)
theorem wX4_reason {E : Ev} {d : Nat} (hd : 1 ≤ d) {x1 : Int32} {I I' : Mm} {r : Int32}  (h : fX4_reason x1 I = some (r, I')) : SemM E d 0 0 mX4_reason [rfE E 0, .int x1] S0 I (some (.int r)) S0 I' := by
  unfold fX4_reason at h
  refine SemM.ofX (E := E) (y := mX4_reason) (args := fun E => [rfE E 0, .int x1]) (r := fun E => (some (.int r))) (fun E => [some (rfE E 0), some (.int x1)]) (by decide +kernel) (Nat.le_of_ble_eq_true rfl) rfl (fun X C M => ?_)
  refine s_iload_n C dX4_reason_0 rfl rfl ?_
  refine s_if_eq (tgt := 11) C dX4_reason_1 (by decide) (fun c => ?_) (fun c => ?_)
  · have h := it_t c h
    refine s_aload_n C dX4_reason_11 rfl rfl ?_
    refine s_getI C dX4_reason_12 kk_0 foX4_40 rfl ?_
    obtain ⟨rfl, rfl⟩ := pr_e h
    exact s_iret C M dX4_reason_15 rfl rfl (Nat.le_refl 0) (Nat.le_refl 0)
  · have h := it_f c h
    refine s_aload_n C dX4_reason_4 rfl rfl ?_
    refine s_getI C dX4_reason_5 kk_0 foX4_44 rfl ?_
    refine s_goto (tgt := 15) C dX4_reason_8 (by decide) ?_
    obtain ⟨rfl, rfl⟩ := pr_e h
    exact s_iret C M dX4_reason_15 rfl rfl (Nat.le_refl 0) (Nat.le_refl 0)
theorem wL_law_p287 {X : Cx} {d b L k n9 : Nat} {xz : Nat → Int32} (hd : 2047 ≤ d) (hR : RG X d k n9) (C : CtxOK X mL_law) (hX : LX X b L xz) : ∀ (n : Nat) {x4 : Int64} {x6 : Int32} {x7 : Int32} {x8 : Int32} {I I' : Mm} {u : Unit}  (_ : fL_law_p287 L xz n x4 x6 x7 x8 I = some (u, I')) (_ : WM X mL_law 326 [none, some (rfX X 0), none, none, some (.long x4), none, some (.int x6), some (.int x7), none] [] S0 I' k n9), WM X mL_law 287 [none, some (rfX X 0), none, none, some (.long x4), none, some (.int x6), some (.int x7), some (.int x8)] [] S0 I k n9 := by
  intro n
  induction n with
  | zero => intro x4 x6 x7 x8 I I' u  h K; exact absurd h (by simp [fL_law_p287])
  | succ n ih =>
    intro x4 x6 x7 x8 I I' u  h K
    rw [fL_law_p287] at h
    refine s_iload C dL_law_287 rfl ?_
    refine s_iconst C dL_law_289 ic_5 ?_
    refine s_icmp_ge (tgt := 326) C dL_law_290 (by decide) (fun c => ?_) (fun c => ?_)
    · have h := it_t c h
      obtain ⟨rfl, rfl⟩ := pr_e h
      refine s_weak (ls' := [none, some (rfX X 0), none, none, some (.long x4), none, some (.int x6), some (.int x7), none]) [false, true, false, false, true, false, true, true, false] rfl ?_
      exact K
    · have h := it_f c h
      refine s_aload_n C dL_law_293 rfl rfl ?_
      refine s_iload C dL_law_294 rfl ?_
      refine s_iconst C dL_law_296 ic_3 ?_
      refine s_irem C dL_law_297 (by decide) ?_
      refine s_sipush C dL_law_298 si_700 ?_
      refine s_bipush C dL_law_301 bi_10 ?_
      refine s_iload C dL_law_303 rfl ?_
      refine s_imul C dL_law_305 ?_
      refine s_iadd C dL_law_306 ?_
      refine s_iconst C dL_law_307 ic_2 ?_
      refine s_iload C dL_law_308 rfl ?_
      refine s_imul C dL_law_310 ?_
      refine s_iadd C dL_law_311 ?_
      refine s_iconst C dL_law_312 ic_3 ?_
      refine s_iload C dL_law_313 rfl ?_
      refine s_iadd C dL_law_315 ?_
      obtain ⟨r1, I1, hh, h⟩ := bd_e h
      refine s_cV0 (st := []) C hR (Nat.le_trans (by decide) hd) mwX4_put mlL_24 dL_law_316 (wX4_put (d := 45) (Nat.le_refl _)  hh) kk_0 rfl rfl (Nat.le_of_ble_eq_true rfl) ?_
      refine s_pop C dL_law_319 rfl ?_
      obtain ⟨v1, ev1, h⟩ := ltm_e h
      refine s_iinc (v := v1) (ls' := [none, some (rfX X 0), none, none, some (.long x4), none, some (.int x6), some (.int x7), some (.int v1)]) C dL_law_320 rfl (by decide) (Nat.le_of_ble_eq_true rfl) (by rw [ev1, ic_1]) rfl rfl ?_
      refine s_goto (tgt := 287) C dL_law_323 (by decide) ?_
      exact ih  h K
theorem wL_law_p387 {X : Cx} {d b L k n9 : Nat} {xz : Nat → Int32} (hd : 2047 ≤ d) (hR : RG X d k n9) (C : CtxOK X mL_law) (hX : LX X b L xz) (K9 : ∀ (I : Mm) (ls : List (Option Value)), WM X mL_law 441 ls [.int 1] S0 I k n9) {x3 : Int32} {x4 : Int64} {x6 : Int32} {I I' : Mm}  (h : fL_law_p387 L xz x3 x4 x6 I = some (1, I')) : WM X mL_law 387 [none, some (rfX X 0), none, some (.int x3), some (.long x4), none, some (.int x6), none, none] [] S0 I k n9 := by
  unfold fL_law_p387 at h
  refine s_iload_n C dL_law_387 rfl rfl ?_
  refine s_if_eq (tgt := 440) C dL_law_388 (by decide) (fun c => ?_) (fun c => ?_)
  · have h := it_t c h
    refine s_iconst C dL_law_440 ic_0 ?_
    exact absurd (pr_e h).1 (by decide)
  · have h := it_f c h
    refine s_aload_n C dL_law_391 rfl rfl ?_
    refine s_iconst C dL_law_392 ic_0 ?_
    obtain ⟨r1, I1, hh, h⟩ := bd_e h
    refine s_cV0 (st := []) C hR (Nat.le_trans (by decide) hd) mwX4_build mlL_43 dL_law_393 (wX4_build (d := 46) (Nat.le_refl _)  hh) kk_0 rfl rfl (Nat.le_of_ble_eq_true rfl) ?_
    refine s_bipush C dL_law_396 bi_m12 ?_
    refine s_icmp_eq (tgt := 440) C dL_law_398 (by decide) (fun c => ?_) (fun c => ?_)
    · have h := it_t c h
      refine s_iconst C dL_law_440 ic_0 ?_
      exact absurd (pr_e h).1 (by decide)
    · have h := it_f c h
      refine s_aload_n C dL_law_401 rfl rfl ?_
      obtain ⟨r2, I2, hh, h⟩ := bd_e h
      refine s_cS0 (st := []) C hR (Nat.le_trans (by decide) hd) mwL_isFit mlL_176 dL_law_402 (wL_isFit (d := 47) (Nat.le_refl _)  hh) rfl rfl (Nat.le_of_ble_eq_true rfl) ?_
      refine s_if_eq (tgt := 440) C dL_law_405 (by decide) (fun c => ?_) (fun c => ?_)
      · have h := it_t c h
        refine s_iconst C dL_law_440 ic_0 ?_
        exact absurd (pr_e h).1 (by decide)
      · have h := it_f c h
        refine s_aload_n C dL_law_408 rfl rfl ?_
        obtain ⟨r3, I3, hh, h⟩ := bd_e h
        refine s_cV0 (st := []) C hR (Nat.le_trans (by decide) hd) mwX4_restore mlL_68 dL_law_409 (wX4_restore (d := 3) (Nat.le_refl _)  hh) kk_0 rfl rfl (Nat.le_of_ble_eq_true rfl) ?_
        refine s_iload C dL_law_412 rfl ?_
        refine s_icmp_ne (tgt := 440) C dL_law_414 (by decide) (fun c => ?_) (fun c => ?_)
        · have h := it_f c h
          refine s_iconst C dL_law_440 ic_0 ?_
          exact absurd (pr_e h).1 (by decide)
        · have h := it_t c h
          refine s_aload_n C dL_law_417 rfl rfl ?_
          obtain ⟨r4, I4, hh, h⟩ := bd_e h
          refine s_cS0 (st := []) C hR (Nat.le_trans (by decide) hd) mwL_digest mlL_163 dL_law_418 (wL_digest (d := 45) (Nat.le_refl _)  hh) rfl rfl (Nat.le_of_ble_eq_true rfl) ?_
          refine s_lload C dL_law_421 rfl ?_
          refine s_lcmp C dL_law_423 ?_
          refine s_if_ne (tgt := 440) C dL_law_424 (by decide) (fun c => ?_) (fun c => ?_)
          · have h := it_f c h
            refine s_iconst C dL_law_440 ic_0 ?_
            exact absurd (pr_e h).1 (by decide)
          · have h := it_t c h
            refine s_aload_n C dL_law_427 rfl rfl ?_
            obtain ⟨r5, I5, hh, h⟩ := bd_e h
            refine s_cV0 (st := []) C hR (Nat.le_trans (by decide) hd) mwX4_undo mlL_71 dL_law_428 (wX4_undo (d := 4) (Nat.le_refl _)  hh) kk_0 rfl rfl (Nat.le_of_ble_eq_true rfl) ?_
            refine s_bipush C dL_law_431 bi_m15 ?_
            refine s_icmp_ne (tgt := 440) C dL_law_433 (by decide) (fun c => ?_) (fun c => ?_)
            · have h := it_f c h
              refine s_iconst C dL_law_440 ic_0 ?_
              exact absurd (pr_e h).1 (by decide)
            · have h := it_t c h
              refine s_iconst C dL_law_436 ic_1 ?_
              refine s_goto (tgt := 441) C dL_law_437 (by decide) ?_
              exact K9 _ _
