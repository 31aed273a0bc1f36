theorem wX2_addNumber {E : Ev} {d : Nat} (hd : 2 ≤ d) {x0 : Nat} {x1 : Int32} {I I' : Mm} {r : Unit} (hx0 : kd0 x0 = 2) (h : fX2_addNumber x0 x1 I = some (r, I')) : SemM E d 0 0 mX2_addNumber [rfE E x0, .int x1] S0 I none S0 I' := by
  unfold fX2_addNumber at h
  refine SemM.ofX (E := E) (y := mX2_addNumber) (args := fun E => [rfE E x0, .int x1]) (r := fun E => none) (fun E => [some (rfE E x0), some (.int x1)]) (by decide +kernel) (Nat.le_of_ble_eq_true rfl) rfl (fun X C M => ?_)
  refine s_iload_n C dX2_addNumber_0 rfl rfl ?_
  refine s_bipush C dX2_addNumber_1 bi_100 ?_
  refine s_icmp_lt (tgt := 21) C dX2_addNumber_3 (by decide) (fun c => ?_) (fun c => ?_)
  · have h := it_t c h
    exact wX2_addNumber_p21 hd C hx0 h M
  · have h := it_f c h
    refine s_aload_n C dX2_addNumber_6 rfl rfl ?_
    refine s_bipush C dX2_addNumber_7 bi_48 ?_
    refine s_iload_n C dX2_addNumber_9 rfl rfl ?_
    refine s_bipush C dX2_addNumber_10 bi_100 ?_
    refine s_idiv C dX2_addNumber_12 (by decide) ?_
    refine s_bipush C dX2_addNumber_13 bi_10 ?_
    refine s_irem C dX2_addNumber_15 (by decide) ?_
    refine s_iadd C dX2_addNumber_16 ?_
    obtain ⟨r1, I1, hh, h⟩ := bd_e h
    refine s_cV0 (st := []) C M.rg (Nat.le_trans (by decide) hd) mwX2_add mlX2_19 dX2_addNumber_17 (wX2_add (d := 1) (Nat.le_refl _) hx0 hh) hx0 rfl rfl (Nat.le_of_ble_eq_true rfl) ?_
    refine s_pop C dX2_addNumber_20 rfl ?_
    exact wX2_addNumber_p21 hd C hx0 h M
theorem wX2_clear {E : Ev} {d : Nat} (hd : 1 ≤ d) {x0 : Nat} {I I' : Mm} {r : Unit} (hx0 : kd0 x0 = 2) (h : fX2_clear x0 I = some (r, I')) : SemM E d 0 0 mX2_clear [rfE E x0] S0 I none S0 I' := by
  unfold fX2_clear at h
  refine SemM.ofX (E := E) (y := mX2_clear) (args := fun E => [rfE E x0]) (r := fun E => none) (fun E => [some (rfE E x0)]) (by decide +kernel) (Nat.le_of_ble_eq_true rfl) rfl (fun X C M => ?_)
  refine s_aload_n C dX2_clear_0 rfl rfl ?_
  refine s_iconst C dX2_clear_1 ic_0 ?_
  obtain ⟨I1, eI1, h⟩ := ltm_e h
  refine s_putI C dX2_clear_2 hx0 poX2_15 rfl eI1 ?_
  obtain ⟨rfl, rfl⟩ := pr_e h
  exact s_vret C M dX2_clear_5 rfl (Nat.le_refl 0) (Nat.le_refl 0)
theorem wX3_rickAt {E : Ev} {d : Nat} (hd : 1 ≤ d) {x0 : Nat} {x1 : Int32} {I I' : Mm} {r : Option Nat} (hx0 : kd0 x0 = 3) (h : fX3_rickAt x0 x1 I = some (r, I')) : SemM E d 0 0 mX3_rickAt [rfE E x0, .int x1] S0 I (some (rvE E r)) S0 I' := by
  unfold fX3_rickAt at h
  refine SemM.ofX (E := E) (y := mX3_rickAt) (args := fun E => [rfE E x0, .int x1]) (r := fun E => (some (rvE E r))) (fun E => [some (rfE E x0), some (.int x1)]) (by decide +kernel) (Nat.le_of_ble_eq_true rfl) rfl (fun X C M => ?_)
  refine s_iload_n C dX3_rickAt_0 rfl rfl ?_
  refine s_if_lt (tgt := 22) C dX3_rickAt_1 (by decide) (fun c => ?_) (fun c => ?_)
  · have h := it_t c h
    refine s_null C dX3_rickAt_22 ?_
    obtain ⟨rfl, rfl⟩ := pr_e h
    exact s_aret (o := none) C M dX3_rickAt_23 rfl (Or.inl ⟨_, rfl⟩) (Nat.le_refl 0) (Nat.le_refl 0)
  · have h := it_f c h
    refine s_iload_n C dX3_rickAt_4 rfl rfl ?_
    refine s_aload_n C dX3_rickAt_5 rfl rfl ?_
    refine s_getR (b := (x0 + 1)) C dX3_rickAt_6 hx0 foX3_11 rfl (rr3 hx0) ?_
    refine s_alenR (v := 3) C dX3_rickAt_9 (kd3 hx0) (by decide) (by decide +kernel) ?_
    refine s_icmp_ge (tgt := 22) C dX3_rickAt_10 (by decide) (fun c => ?_) (fun c => ?_)
    · have h := it_t c h
      refine s_null C dX3_rickAt_22 ?_
      obtain ⟨rfl, rfl⟩ := pr_e h
      exact s_aret (o := none) C M dX3_rickAt_23 rfl (Or.inl ⟨_, rfl⟩) (Nat.le_refl 0) (Nat.le_refl 0)
    · have h := it_f c h
      refine s_aload_n C dX3_rickAt_13 rfl rfl ?_
      refine s_getR (b := (x0 + 1)) C dX3_rickAt_14 hx0 foX3_11 rfl (rr3 hx0) ?_
      refine s_iload_n C dX3_rickAt_17 rfl rfl ?_
      obtain ⟨hb, h⟩ := it_n h
      have kq1 := (kd6 (kd3 hx0) (ck_lt hb))
      refine s_aald C dX3_rickAt_18 (kd3 hx0) (by decide) hb (rr6 (kd3 hx0) (ck_lt hb)) ?_
      refine s_goto (tgt := 23) C dX3_rickAt_19 (by decide) ?_
      obtain ⟨rfl, rfl⟩ := pr_e h
      exact s_aret (o := some ((x0 + 1) + 1 + 4 * x1.toNatClampNeg)) C M dX3_rickAt_23 rfl (Or.inl ⟨_, rfl⟩) (Nat.le_refl 0) (Nat.le_refl 0)
theorem wX3_copyFrom_p2 {X : Cx} {d : Nat} (hd : 2 ≤ d) (C : CtxOK X mX3_copyFrom) : ∀ (n : Nat) {x0 : Nat} {x1 : Nat} {x2 : Int32} {I I' : Mm} {r : Unit} (hx0 : kd0 x0 = 3) (hx1 : kd0 x1 = 3) (_ : fX3_copyFrom_p2 n x0 x1 x2 I = some (r, I')) (_ : MX X (xE X) d 0 0 none S0 I'), WM X mX3_copyFrom 2 [some (rfX X x0), some (rfX X x1), some (.int x2), none, none] [] S0 I 0 0 := by
  intro n
  induction n with
  | zero => intro x0 x1 x2 I I' r hx0 hx1 h M; exact absurd h (by simp [fX3_copyFrom_p2])
  | succ n ih =>
    intro x0 x1 x2 I I' r hx0 hx1 h M
    rw [fX3_copyFrom_p2] at h
    refine s_iload_n C dX3_copyFrom_2 rfl rfl ?_
    refine s_iconst C dX3_copyFrom_3 ic_3 ?_
    refine s_icmp_ge (tgt := 41) C dX3_copyFrom_4 (by decide) (fun c => ?_) (fun c => ?_)
    · have h := it_t c h
      refine s_aload_n C dX3_copyFrom_41 rfl rfl ?_
      refine s_aload_n C dX3_copyFrom_42 rfl rfl ?_
      refine s_getI C dX3_copyFrom_43 hx1 foX3_17 rfl ?_
      obtain ⟨I1, eI1, h⟩ := ltm_e h
      refine s_putI C dX3_copyFrom_46 hx0 poX3_17 rfl eI1 ?_
      refine s_aload_n C dX3_copyFrom_49 rfl rfl ?_
      refine s_aload_n C dX3_copyFrom_50 rfl rfl ?_
      refine s_getI C dX3_copyFrom_51 hx1 foX3_47 rfl ?_
      obtain ⟨I2, eI2, h⟩ := ltm_e h
      refine s_putI C dX3_copyFrom_54 hx0 poX3_47 rfl eI2 ?_
      refine s_aload_n C dX3_copyFrom_57 rfl rfl ?_
      refine s_aload_n C dX3_copyFrom_58 rfl rfl ?_
      refine s_getI C dX3_copyFrom_59 hx1 foX3_50 rfl ?_
      obtain ⟨I3, eI3, h⟩ := ltm_e h
      refine s_putI C dX3_copyFrom_62 hx0 poX3_50 rfl eI3 ?_
      refine s_aload_n C dX3_copyFrom_65 rfl rfl ?_
      refine s_aload_n C dX3_copyFrom_66 rfl rfl ?_
      refine s_getI C dX3_copyFrom_67 hx1 foX3_53 rfl ?_
      obtain ⟨I4, eI4, h⟩ := ltm_e h
      refine s_putI C dX3_copyFrom_70 hx0 poX3_53 rfl eI4 ?_
      refine s_aload_n C dX3_copyFrom_73 rfl rfl ?_
      refine s_aload_n C dX3_copyFrom_74 rfl rfl ?_
      refine s_getI C dX3_copyFrom_75 hx1 foX3_56 rfl ?_
      obtain ⟨I5, eI5, h⟩ := ltm_e h
      refine s_putI C dX3_copyFrom_78 hx0 poX3_56 rfl eI5 ?_
      refine s_aload_n C dX3_copyFrom_81 rfl rfl ?_
      refine s_aload_n C dX3_copyFrom_82 rfl rfl ?_
      refine s_getI C dX3_copyFrom_83 hx1 foX3_59 rfl ?_
      obtain ⟨I6, eI6, h⟩ := ltm_e h
      refine s_putI C dX3_copyFrom_86 hx0 poX3_59 rfl eI6 ?_
      refine s_aload_n C dX3_copyFrom_89 rfl rfl ?_
      refine s_aload_n C dX3_copyFrom_90 rfl rfl ?_
      refine s_getI C dX3_copyFrom_91 hx1 foX3_62 rfl ?_
      obtain ⟨I7, eI7, h⟩ := ltm_e h
      refine s_putI C dX3_copyFrom_94 hx0 poX3_62 rfl eI7 ?_
      obtain ⟨rfl, rfl⟩ := pr_e h
      exact s_vret C M dX3_copyFrom_97 rfl (Nat.le_refl 0) (Nat.le_refl 0)
    · have h := it_f c h
      refine s_aload_n C dX3_copyFrom_7 rfl rfl ?_
      refine s_iload_n C dX3_copyFrom_8 rfl rfl ?_
      obtain ⟨r1, I1, hh, h⟩ := bd_e h
      refine s_cV0 (st := []) C M.rg (Nat.le_trans (by decide) hd) mwX3_rickAt mlX3_22 dX3_copyFrom_9 (wX3_rickAt (d := 1) (Nat.le_refl _) hx0 hh) hx0 rfl rfl (Nat.le_of_ble_eq_true rfl) ?_
      refine s_astore_no (ls' := [some (rfX X x0), some (rfX X x1), some (.int x2), some (rvE (xE X) r1), none]) C dX3_copyFrom_12 rfl (by decide) (Nat.le_of_ble_eq_true rfl) rfl rfl ?_
      refine s_aload_n C dX3_copyFrom_13 rfl rfl ?_
      refine s_iload_n C dX3_copyFrom_14 rfl rfl ?_
      obtain ⟨r2, I2, hh, h⟩ := bd_e h
      refine s_cV0 (st := []) C M.rg (Nat.le_trans (by decide) hd) mwX3_rickAt mlX3_22 dX3_copyFrom_15 (wX3_rickAt (d := 1) (Nat.le_refl _) hx1 hh) hx1 rfl rfl (Nat.le_of_ble_eq_true rfl) ?_
      refine s_astore_o (ls' := [some (rfX X x0), some (rfX X x1), some (.int x2), some (rvE (xE X) r1), some (rvE (xE X) r2)]) C dX3_copyFrom_18 (by decide) (Nat.le_of_ble_eq_true rfl) (ok_o rfl rfl) rfl ?_
      refine s_aload_no C dX3_copyFrom_20 rfl rfl ?_
      cases r1 with
      | none =>
        have h := on_n h
        refine s_ifnullN (tgt := 35) C dX3_copyFrom_21 (by decide) ?_
        obtain ⟨v1, ev1, h⟩ := ltm_e h
        refine s_iinc (v := v1) (ls' := [some (rfX X x0), some (rfX X x1), some (.int v1), some (.null), some (rvE (xE X) r2)]) C dX3_copyFrom_35 rfl (by decide) (Nat.le_of_ble_eq_true rfl) (by rw [ev1, ic_1]) rfl rfl ?_
        refine s_goto (tgt := 2) C dX3_copyFrom_38 (by decide) ?_
        refine s_weak (ls' := [some (rfX X x0), some (rfX X x1), some (.int v1), none, none]) [true, true, true, false, false] rfl ?_
        exact ih hx0 hx1 h M
      | some q1 =>
        obtain ⟨hq1, h⟩ := it_s (on_s h)
        refine s_ifnull C dX3_copyFrom_21 ?_
        refine s_aload_o C dX3_copyFrom_24 rfl ?_
        cases r2 with
        | none =>
          have h := on_n h
          refine s_ifnullN (tgt := 35) C dX3_copyFrom_26 (by decide) ?_
          obtain ⟨v1, ev1, h⟩ := ltm_e h
          refine s_iinc (v := v1) (ls' := [some (rfX X x0), some (rfX X x1), some (.int v1), some (rfX X q1), some (.null)]) C dX3_copyFrom_35 rfl (by decide) (Nat.le_of_ble_eq_true rfl) (by rw [ev1, ic_1]) rfl rfl ?_
          refine s_goto (tgt := 2) C dX3_copyFrom_38 (by decide) ?_
          refine s_weak (ls' := [some (rfX X x0), some (rfX X x1), some (.int v1), none, none]) [true, true, true, false, false] rfl ?_
          exact ih hx0 hx1 h M
        | some q2 =>
          obtain ⟨hq2, h⟩ := it_s (on_s h)
          refine s_ifnull C dX3_copyFrom_26 ?_
          refine s_aload_n C dX3_copyFrom_29 rfl rfl ?_
          refine s_aload C dX3_copyFrom_30 rfl ?_
          obtain ⟨r3, I3, hh, h⟩ := bd_e h
          refine s_cV0 (st := []) C M.rg (Nat.le_trans (by decide) hd) mwX1_copyFrom mlX3_43 dX3_copyFrom_32 (wX1_copyFrom (d := 1) (Nat.le_refl _) hq1 hq2 hh) hq1 rfl rfl (Nat.le_of_ble_eq_true rfl) ?_
          obtain ⟨v1, ev1, h⟩ := ltm_e h
          refine s_iinc (v := v1) (ls' := [some (rfX X x0), some (rfX X x1), some (.int v1), some (rfX X q1), some (rfX X q2)]) C dX3_copyFrom_35 rfl (by decide) (Nat.le_of_ble_eq_true rfl) (by rw [ev1, ic_1]) rfl rfl ?_
          refine s_goto (tgt := 2) C dX3_copyFrom_38 (by decide) ?_
          refine s_weak (ls' := [some (rfX X x0), some (rfX X x1), some (.int v1), none, none]) [true, true, true, false, false] rfl ?_
          exact ih hx0 hx1 h M
theorem wX3_copyFrom {E : Ev} {d : Nat} (hd : 2 ≤ d) {x0 : Nat} {x1 : Nat} {I I' : Mm} {r : Unit} (hx0 : kd0 x0 = 3) (hx1 : kd0 x1 = 3) (h : fX3_copyFrom x0 x1 I = some (r, I')) : SemM E d 0 0 mX3_copyFrom [rfE E x0, rfE E x1] S0 I none S0 I' := by
  unfold fX3_copyFrom at h
  refine SemM.ofX (E := E) (y := mX3_copyFrom) (args := fun E => [rfE E x0, rfE E x1]) (r := fun E => none) (fun E => [some (rfE E x0), some (rfE E x1), none, none, none]) (by decide +kernel) (Nat.le_of_ble_eq_true rfl) rfl (fun X C M => ?_)
  refine s_iconst C dX3_copyFrom_0 ic_0 ?_
  refine s_istore_n (ls' := [some (rfX X x0), some (rfX X x1), some (.int 0), none, none]) C dX3_copyFrom_1 rfl (by decide) (Nat.le_of_ble_eq_true rfl) rfl rfl ?_
  exact wX3_copyFrom_p2 hd C _ hx0 hx1 h M
theorem wX3_keyAfter_p20 {X : Cx} {d : Nat} (hd : 2 ≤ d) (hR : RG X d 0 0) (C : CtxOK X mX3_keyAfter) : ∀ (n : Nat) {x0 : Nat} {x1 : Int32} {x2 : Int32} {x3 : Int32} {x4 : Option Nat} {x5 : Int32} {I I' : Mm} {u : Int32} (hx0 : kd0 x0 = 3) (_ : fX3_keyAfter_p20 n x0 x1 x2 x3 x4 x5 I = some (u, I')) (_ : WM X mX3_keyAfter 88 [some (rfX X x0), some (.int x1), some (.int u), some (.int x3), none, none, none, none] [] S0 I' 0 0), WM X mX3_keyAfter 20 [some (rfX X x0), some (.int x1), some (.int x2), some (.int x3), some (rvE (xE X) x4), some (.int x5), none, none] [] S0 I 0 0 := by
  intro n
  induction n with
  | zero => intro x0 x1 x2 x3 x4 x5 I I' u hx0 h K; exact absurd h (by simp [fX3_keyAfter_p20])
  | succ n ih =>
    intro x0 x1 x2 x3 x4 x5 I I' u hx0 h K
    rw [fX3_keyAfter_p20] at h
    refine s_aload_o C dX3_keyAfter_20 rfl ?_
    cases x4 with
    | none =>
      have h := on_n h
      refine s_ifnullN (tgt := 88) C dX3_keyAfter_22 (by decide) ?_
      obtain ⟨rfl, rfl⟩ := pr_e h
      refine s_weak (ls' := [some (rfX X x0), some (.int x1), some (.int x2), some (.int x3), none, none, none, none]) [true, true, true, true, false, false, false, false] rfl ?_
      exact K
    | some q1 =>
      obtain ⟨hq1, h⟩ := it_s (on_s h)
      refine s_ifnull C dX3_keyAfter_22 ?_
      refine s_iload C dX3_keyAfter_25 rfl ?_
      refine s_aload C dX3_keyAfter_27 rfl ?_
      refine s_getI C dX3_keyAfter_29 hq1 foX3_26 rfl ?_
      refine s_icmp_ge (tgt := 88) C dX3_keyAfter_32 (by decide) (fun c => ?_) (fun c => ?_)
      · have h := it_t c h
        obtain ⟨rfl, rfl⟩ := pr_e h
        refine s_weak (ls' := [some (rfX X x0), some (.int x1), some (.int x2), some (.int x3), none, none, none, none]) [true, true, true, true, false, false, false, false] rfl ?_
        exact K
      · have h := it_f c h
        refine s_bipush C dX3_keyAfter_35 bi_99 ?_
        refine s_aload C dX3_keyAfter_37 rfl ?_
        refine s_iload C dX3_keyAfter_39 rfl ?_
        obtain ⟨r1, I1, hh, h⟩ := bd_e h
        refine s_cV0 (st := [.int 99]) C hR (Nat.le_trans (by decide) hd) mwX1_loadAt mlX3_36 dX3_keyAfter_41 (wX1_loadAt (d := 1) (Nat.le_refl _) hq1 hh) hq1 rfl rfl (Nat.le_of_ble_eq_true rfl) ?_
        refine s_isub C dX3_keyAfter_44 ?_
        obtain ⟨v1, ev1, h⟩ := ltm_e h
        refine s_top_i ev1 ?_
        refine s_istore (ls' := [some (rfX X x0), some (.int x1), some (.int x2), some (.int x3), some (rfX X q1), some (.int x5), some (.int v1), none]) C dX3_keyAfter_45 (by decide) (Nat.le_of_ble_eq_true rfl) rfl rfl ?_
        refine s_iload C dX3_keyAfter_47 rfl ?_
        refine s_sipush C dX3_keyAfter_49 si_1000 ?_
        refine s_imul C dX3_keyAfter_52 ?_
        refine s_aload C dX3_keyAfter_53 rfl ?_
        refine s_iload C dX3_keyAfter_55 rfl ?_
        obtain ⟨r2, I2, hh, h⟩ := bd_e h
        refine s_cV0 (st := [.int (v1 * 1000)]) C hR (Nat.le_trans (by decide) hd) mwX1_weightAt mlX3_40 dX3_keyAfter_57 (wX1_weightAt (d := 1) (Nat.le_refl _) hq1 hh) hq1 rfl rfl (Nat.le_of_ble_eq_true rfl) ?_
        refine s_iadd C dX3_keyAfter_60 ?_
        refine s_iconst C dX3_keyAfter_61 ic_3 ?_
        refine s_imul C dX3_keyAfter_62 ?_
        refine s_iload_n C dX3_keyAfter_63 rfl rfl ?_
        refine s_iadd C dX3_keyAfter_64 ?_
        obtain ⟨v2, ev2, h⟩ := ltm_e h
        refine s_top_i ev2 ?_
        refine s_istore (ls' := [some (rfX X x0), some (.int x1), some (.int x2), some (.int x3), some (rfX X q1), some (.int x5), some (.int v1), some (.int v2)]) C dX3_keyAfter_65 (by decide) (Nat.le_of_ble_eq_true rfl) rfl rfl ?_
        refine s_iload C dX3_keyAfter_67 rfl ?_
        refine s_iload_n C dX3_keyAfter_69 rfl rfl ?_
        refine s_icmp_le (tgt := 82) C dX3_keyAfter_70 (by decide) (fun c => ?_) (fun c => ?_)
        · have h := it_t c h
          obtain ⟨v3, ev3, h⟩ := ltm_e h
          refine s_iinc (v := v3) (ls' := [some (rfX X x0), some (.int x1), some (.int x2), some (.int x3), some (rfX X q1), some (.int v3), some (.int v1), some (.int v2)]) C dX3_keyAfter_82 rfl (by decide) (Nat.le_of_ble_eq_true rfl) (by rw [ev3, ic_1]) rfl rfl ?_
          refine s_goto (tgt := 20) C dX3_keyAfter_85 (by decide) ?_
          refine s_weak (ls' := [some (rfX X x0), some (.int x1), some (.int x2), some (.int x3), some (rfX X q1), some (.int v3), none, none]) [true, true, true, true, true, true, false, false] rfl ?_
          exact ih hx0 h K
        · have h := it_f c h
          refine s_iload C dX3_keyAfter_73 rfl ?_
          refine s_iload_n C dX3_keyAfter_75 rfl rfl ?_
          refine s_icmp_ge (tgt := 82) C dX3_keyAfter_76 (by decide) (fun c => ?_) (fun c => ?_)
          · have h := it_t c h
            obtain ⟨v3, ev3, h⟩ := ltm_e h
            refine s_iinc (v := v3) (ls' := [some (rfX X x0), some (.int x1), some (.int x2), some (.int x3), some (rfX X q1), some (.int v3), some (.int v1), some (.int v2)]) C dX3_keyAfter_82 rfl (by decide) (Nat.le_of_ble_eq_true rfl) (by rw [ev3, ic_1]) rfl rfl ?_
            refine s_goto (tgt := 20) C dX3_keyAfter_85 (by decide) ?_
            refine s_weak (ls' := [some (rfX X x0), some (.int x1), some (.int x2), some (.int x3), some (rfX X q1), some (.int v3), none, none]) [true, true, true, true, true, true, false, false] rfl ?_
            exact ih hx0 h K
          · have h := it_f c h
            refine s_iload C dX3_keyAfter_79 rfl ?_
            refine s_istore_n (ls' := [some (rfX X x0), some (.int x1), some (.int v2), some (.int x3), some (rfX X q1), some (.int x5), some (.int v1), some (.int v2)]) C dX3_keyAfter_81 rfl (by decide) (Nat.le_of_ble_eq_true rfl) rfl rfl ?_
            obtain ⟨v3, ev3, h⟩ := ltm_e h
            refine s_iinc (v := v3) (ls' := [some (rfX X x0), some (.int x1), some (.int v2), some (.int x3), some (rfX X q1), some (.int v3), some (.int v1), some (.int v2)]) C dX3_keyAfter_82 rfl (by decide) (Nat.le_of_ble_eq_true rfl) (by rw [ev3, ic_1]) rfl rfl ?_
            refine s_goto (tgt := 20) C dX3_keyAfter_85 (by decide) ?_
            refine s_weak (ls' := [some (rfX X x0), some (.int x1), some (.int v2), some (.int x3), some (rfX X q1), some (.int v3), none, none]) [true, true, true, true, true, true, false, false] rfl ?_
            exact ih hx0 h K
theorem wX3_keyAfter_p5 {X : Cx} {d : Nat} (hd : 2 ≤ d) (C : CtxOK X mX3_keyAfter) : ∀ (n : Nat) {x0 : Nat} {x1 : Int32} {x2 : Int32} {x3 : Int32} {I I' : Mm} {r : Int32} (hx0 : kd0 x0 = 3) (_ : fX3_keyAfter_p5 n x0 x1 x2 x3 I = some (r, I')) (_ : MX X (xE X) d 0 0 (some (.int r)) S0 I'), WM X mX3_keyAfter 5 [some (rfX X x0), some (.int x1), some (.int x2), some (.int x3), none, none, none, none] [] S0 I 0 0 := by
  intro n
  induction n with
  | zero => intro x0 x1 x2 x3 I I' r hx0 h M; exact absurd h (by simp [fX3_keyAfter_p5])
  | succ n ih =>
    intro x0 x1 x2 x3 I I' r hx0 h M
    rw [fX3_keyAfter_p5] at h
    refine s_iload_n C dX3_keyAfter_5 rfl rfl ?_
    refine s_iconst C dX3_keyAfter_6 ic_3 ?_
    refine s_icmp_ge (tgt := 94) C dX3_keyAfter_7 (by decide) (fun c => ?_) (fun c => ?_)
    · have h := it_t c h
      refine s_iload_n C dX3_keyAfter_94 rfl rfl ?_
      obtain ⟨rfl, rfl⟩ := pr_e h
      exact s_iret C M dX3_keyAfter_95 rfl rfl (Nat.le_refl 0) (Nat.le_refl 0)
    · have h := it_f c h
      refine s_aload_n C dX3_keyAfter_10 rfl rfl ?_
      refine s_iload_n C dX3_keyAfter_11 rfl rfl ?_
      obtain ⟨r1, I1, hh, h⟩ := bd_e h
      refine s_cV0 (st := []) C M.rg (Nat.le_trans (by decide) hd) mwX3_rickAt mlX3_22 dX3_keyAfter_12 (wX3_rickAt (d := 1) (Nat.le_refl _) hx0 hh) hx0 rfl rfl (Nat.le_of_ble_eq_true rfl) ?_
      refine s_astore_o (ls' := [some (rfX X x0), some (.int x1), some (.int x2), some (.int x3), some (rvE (xE X) r1), none, none, none]) C dX3_keyAfter_15 (by decide) (Nat.le_of_ble_eq_true rfl) rfl rfl ?_
      refine s_iconst C dX3_keyAfter_17 ic_0 ?_
      refine s_istore (ls' := [some (rfX X x0), some (.int x1), some (.int x2), some (.int x3), some (rvE (xE X) r1), some (.int 0), none, none]) C dX3_keyAfter_18 (by decide) (Nat.le_of_ble_eq_true rfl) (ok_o rfl rfl) rfl ?_
      obtain ⟨u1, I2, hh, h⟩ := bd_e h
      refine wX3_keyAfter_p20 hd M.rg C _ hx0 hh ?_
      obtain ⟨v1, ev1, h⟩ := ltm_e h
      refine s_iinc (v := v1) (ls' := [some (rfX X x0), some (.int x1), some (.int u1), some (.int v1), none, none, none, none]) C dX3_keyAfter_88 rfl (by decide) (Nat.le_of_ble_eq_true rfl) (by rw [ev1, ic_1]) rfl rfl ?_
      refine s_goto (tgt := 5) C dX3_keyAfter_91 (by decide) ?_
      exact ih hx0 h M
theorem wX3_keyAfter {E : Ev} {d : Nat} (hd : 2 ≤ d) {x0 : Nat} {x1 : Int32} {I I' : Mm} {r : Int32} (hx0 : kd0 x0 = 3) (h : fX3_keyAfter x0 x1 I = some (r, I')) : SemM E d 0 0 mX3_keyAfter [rfE E x0, .int x1] S0 I (some (.int r)) S0 I' := by
  unfold fX3_keyAfter at h
  refine SemM.ofX (E := E) (y := mX3_keyAfter) (args := fun E => [rfE E x0, .int x1]) (r := fun E => (some (.int r))) (fun E => [some (rfE E x0), some (.int x1), none, none, none, none, none, none]) (by decide +kernel) (Nat.le_of_ble_eq_true rfl) rfl (fun X C M => ?_)
  refine s_ldc C dX3_keyAfter_0 coX3_35 ?_
  refine s_istore_n (ls' := [some (rfX X x0), some (.int x1), some (.int 2147483647), none, none, none, none, none]) C dX3_keyAfter_2 rfl (by decide) (Nat.le_of_ble_eq_true rfl) rfl rfl ?_
  refine s_iconst C dX3_keyAfter_3 ic_0 ?_
  refine s_istore_n (ls' := [some (rfX X x0), some (.int x1), some (.int 2147483647), some (.int 0), none, none, none, none]) C dX3_keyAfter_4 rfl (by decide) (Nat.le_of_ble_eq_true rfl) rfl rfl ?_
  exact wX3_keyAfter_p5 hd C _ hx0 h M
theorem wX3_loads_p4 {X : Cx} {d : Nat} (hd : 3 ≤ d) (C : CtxOK X mX3_loads) : ∀ (n : Nat) {x0 : Nat} {x1 : Int32} {x2 : Int32} {I I' : Mm} {r : Int32} (hx0 : kd0 x0 = 3) (_ : fX3_loads_p4 n x0 x1 x2 I = some (r, I')) (_ : MX X (xE X) d 0 0 (some (.int r)) S0 I'), WM X mX3_loads 4 [some (rfX X x0), some (.int x1), some (.int x2), none] [] S0 I 0 0 := by
  intro n
  induction n with
  | zero => intro x0 x1 x2 I I' r hx0 h M; exact absurd h (by simp [fX3_loads_p4])
  | succ n ih =>
    intro x0 x1 x2 I I' r hx0 h M
    rw [fX3_loads_p4] at h
    refine s_iload_n C dX3_loads_4 rfl rfl ?_
    refine s_iconst C dX3_loads_5 ic_3 ?_
    refine s_icmp_ge (tgt := 39) C dX3_loads_6 (by decide) (fun c => ?_) (fun c => ?_)
    · have h := it_t c h
      refine s_iload_n C dX3_loads_39 rfl rfl ?_
      obtain ⟨rfl, rfl⟩ := pr_e h
      exact s_iret C M dX3_loads_40 rfl rfl (Nat.le_refl 0) (Nat.le_refl 0)
    · have h := it_f c h
      refine s_aload_n C dX3_loads_9 rfl rfl ?_
      refine s_iload_n C dX3_loads_10 rfl rfl ?_
      obtain ⟨r1, I1, hh, h⟩ := bd_e h
      refine s_cV0 (st := []) C M.rg (Nat.le_trans (by decide) hd) mwX3_rickAt mlX3_22 dX3_loads_11 (wX3_rickAt (d := 1) (Nat.le_refl _) hx0 hh) hx0 rfl rfl (Nat.le_of_ble_eq_true rfl) ?_
      refine s_astore_no (ls' := [some (rfX X x0), some (.int x1), some (.int x2), some (rvE (xE X) r1)]) C dX3_loads_14 rfl (by decide) (Nat.le_of_ble_eq_true rfl) rfl rfl ?_
      refine s_aload_no C dX3_loads_15 rfl rfl ?_
      cases r1 with
      | none =>
        have h := on_n h
        refine s_ifnullN (tgt := 33) C dX3_loads_16 (by decide) ?_
        obtain ⟨v1, ev1, h⟩ := ltm_e h
        refine s_iinc (v := v1) (ls' := [some (rfX X x0), some (.int x1), some (.int v1), some (.null)]) C dX3_loads_33 rfl (by decide) (Nat.le_of_ble_eq_true rfl) (by rw [ev1, ic_1]) rfl rfl ?_
        refine s_goto (tgt := 4) C dX3_loads_36 (by decide) ?_
        refine s_weak (ls' := [some (rfX X x0), some (.int x1), some (.int v1), none]) [true, true, true, false] rfl ?_
        exact ih hx0 h M
      | some q1 =>
        obtain ⟨hq1, h⟩ := it_s (on_s h)
        refine s_ifnull C dX3_loads_16 ?_
        refine s_iload_n C dX3_loads_19 rfl rfl ?_
        refine s_aload_n C dX3_loads_20 rfl rfl ?_
        refine s_iconst C dX3_loads_21 ic_0 ?_
        refine s_aload_n C dX3_loads_22 rfl rfl ?_
        refine s_getI C dX3_loads_23 hq1 foX3_26 rfl ?_
        refine s_iconst C dX3_loads_26 ic_1 ?_
        refine s_isub C dX3_loads_27 ?_
        obtain ⟨r2, I2, hh, h⟩ := bd_e h
        refine s_cV0 (st := [.int x1]) C M.rg (Nat.le_trans (by decide) hd) mwX1_loadsFrom mlX3_29 dX3_loads_28 (wX1_loadsFrom (d := 2) (Nat.le_refl _) hq1 hh) hq1 rfl rfl (Nat.le_of_ble_eq_true rfl) ?_
        refine s_iadd C dX3_loads_31 ?_
        obtain ⟨v1, ev1, h⟩ := ltm_e h
        refine s_top_i ev1 ?_
        refine s_istore_n (ls' := [some (rfX X x0), some (.int v1), some (.int x2), some (rfX X q1)]) C dX3_loads_32 rfl (by decide) (Nat.le_of_ble_eq_true rfl) rfl rfl ?_
        obtain ⟨v2, ev2, h⟩ := ltm_e h
        refine s_iinc (v := v2) (ls' := [some (rfX X x0), some (.int v1), some (.int v2), some (rfX X q1)]) C dX3_loads_33 rfl (by decide) (Nat.le_of_ble_eq_true rfl) (by rw [ev2, ic_1]) rfl rfl ?_
        refine s_goto (tgt := 4) C dX3_loads_36 (by decide) ?_
        refine s_weak (ls' := [some (rfX X x0), some (.int v1), some (.int v2), none]) [true, true, true, false] rfl ?_
        exact ih hx0 h M
theorem wX3_loads {E : Ev} {d : Nat} (hd : 3 ≤ d) {x0 : Nat} {I I' : Mm} {r : Int32} (hx0 : kd0 x0 = 3) (h : fX3_loads x0 I = some (r, I')) : SemM E d 0 0 mX3_loads [rfE E x0] S0 I (some (.int r)) S0 I' := by
  unfold fX3_loads at h
  refine SemM.ofX (E := E) (y := mX3_loads) (args := fun E => [rfE E x0]) (r := fun E => (some (.int r))) (fun E => [some (rfE E x0), none, none, none]) (by decide +kernel) (Nat.le_of_ble_eq_true rfl) rfl (fun X C M => ?_)
  refine s_iconst C dX3_loads_0 ic_0 ?_
  refine s_istore_n (ls' := [some (rfX X x0), some (.int 0), none, none]) C dX3_loads_1 rfl (by decide) (Nat.le_of_ble_eq_true rfl) rfl rfl ?_
  refine s_iconst C dX3_loads_2 ic_0 ?_
  refine s_istore_n (ls' := [some (rfX X x0), some (.int 0), some (.int 0), none]) C dX3_loads_3 rfl (by decide) (Nat.le_of_ble_eq_true rfl) rfl rfl ?_
  exact wX3_loads_p4 hd C _ hx0 h M
theorem wX3_sheaves_p4 {X : Cx} {d : Nat} (hd : 2 ≤ d) (C : CtxOK X mX3_sheaves) : ∀ (n : Nat) {x0 : Nat} {x1 : Int32} {x2 : Int32} {I I' : Mm} {r : Int32} (hx0 : kd0 x0 = 3) (_ : fX3_sheaves_p4 n x0 x1 x2 I = some (r, I')) (_ : MX X (xE X) d 0 0 (some (.int r)) S0 I'), WM X mX3_sheaves 4 [some (rfX X x0), some (.int x1), some (.int x2), none] [] S0 I 0 0 := by
  intro n
  induction n with
  | zero => intro x0 x1 x2 I I' r hx0 h M; exact absurd h (by simp [fX3_sheaves_p4])
  | succ n ih =>
    intro x0 x1 x2 I I' r hx0 h M
    rw [fX3_sheaves_p4] at h
    refine s_iload_n C dX3_sheaves_4 rfl rfl ?_
    refine s_iconst C dX3_sheaves_5 ic_3 ?_
    refine s_icmp_ge (tgt := 32) C dX3_sheaves_6 (by decide) (fun c => ?_) (fun c => ?_)
    · have h := it_t c h
      refine s_iload_n C dX3_sheaves_32 rfl rfl ?_
      obtain ⟨rfl, rfl⟩ := pr_e h
      exact s_iret C M dX3_sheaves_33 rfl rfl (Nat.le_refl 0) (Nat.le_refl 0)
    · have h := it_f c h
      refine s_aload_n C dX3_sheaves_9 rfl rfl ?_
      refine s_iload_n C dX3_sheaves_10 rfl rfl ?_
      obtain ⟨r1, I1, hh, h⟩ := bd_e h
      refine s_cV0 (st := []) C M.rg (Nat.le_trans (by decide) hd) mwX3_rickAt mlX3_22 dX3_sheaves_11 (wX3_rickAt (d := 1) (Nat.le_refl _) hx0 hh) hx0 rfl rfl (Nat.le_of_ble_eq_true rfl) ?_
      refine s_astore_no (ls' := [some (rfX X x0), some (.int x1), some (.int x2), some (rvE (xE X) r1)]) C dX3_sheaves_14 rfl (by decide) (Nat.le_of_ble_eq_true rfl) rfl rfl ?_
      refine s_aload_no C dX3_sheaves_15 rfl rfl ?_
      cases r1 with
      | none =>
        have h := on_n h
        refine s_ifnullN (tgt := 26) C dX3_sheaves_16 (by decide) ?_
        obtain ⟨v1, ev1, h⟩ := ltm_e h
        refine s_iinc (v := v1) (ls' := [some (rfX X x0), some (.int x1), some (.int v1), some (.null)]) C dX3_sheaves_26 rfl (by decide) (Nat.le_of_ble_eq_true rfl) (by rw [ev1, ic_1]) rfl rfl ?_
        refine s_goto (tgt := 4) C dX3_sheaves_29 (by decide) ?_
        refine s_weak (ls' := [some (rfX X x0), some (.int x1), some (.int v1), none]) [true, true, true, false] rfl ?_
        exact ih hx0 h M
      | some q1 =>
        obtain ⟨hq1, h⟩ := it_s (on_s h)
        refine s_ifnull C dX3_sheaves_16 ?_
        refine s_iload_n C dX3_sheaves_19 rfl rfl ?_
        refine s_aload_n C dX3_sheaves_20 rfl rfl ?_
        refine s_getI C dX3_sheaves_21 hq1 foX3_26 rfl ?_
        refine s_iadd C dX3_sheaves_24 ?_
        obtain ⟨v1, ev1, h⟩ := ltm_e h
        refine s_top_i ev1 ?_
        refine s_istore_n (ls' := [some (rfX X x0), some (.int v1), some (.int x2), some (rfX X q1)]) C dX3_sheaves_25 rfl (by decide) (Nat.le_of_ble_eq_true rfl) rfl rfl ?_
        obtain ⟨v2, ev2, h⟩ := ltm_e h
        refine s_iinc (v := v2) (ls' := [some (rfX X x0), some (.int v1), some (.int v2), some (rfX X q1)]) C dX3_sheaves_26 rfl (by decide) (Nat.le_of_ble_eq_true rfl) (by rw [ev2, ic_1]) rfl rfl ?_
        refine s_goto (tgt := 4) C dX3_sheaves_29 (by decide) ?_
        refine s_weak (ls' := [some (rfX X x0), some (.int v1), some (.int v2), none]) [true, true, true, false] rfl ?_
        exact ih hx0 h M
theorem wX3_sheaves {E : Ev} {d : Nat} (hd : 2 ≤ d) {x0 : Nat} {I I' : Mm} {r : Int32} (hx0 : kd0 x0 = 3) (h : fX3_sheaves x0 I = some (r, I')) : SemM E d 0 0 mX3_sheaves [rfE E x0] S0 I (some (.int r)) S0 I' := by
  unfold fX3_sheaves at h
  refine SemM.ofX (E := E) (y := mX3_sheaves) (args := fun E => [rfE E x0]) (r := fun E => (some (.int r))) (fun E => [some (rfE E x0), none, none, none]) (by decide +kernel) (Nat.le_of_ble_eq_true rfl) rfl (fun X C M => ?_)
  refine s_iconst C dX3_sheaves_0 ic_0 ?_
  refine s_istore_n (ls' := [some (rfX X x0), some (.int 0), none, none]) C dX3_sheaves_1 rfl (by decide) (Nat.le_of_ble_eq_true rfl) rfl rfl ?_
  refine s_iconst C dX3_sheaves_2 ic_0 ?_
  refine s_istore_n (ls' := [some (rfX X x0), some (.int 0), some (.int 0), none]) C dX3_sheaves_3 rfl (by decide) (Nat.le_of_ble_eq_true rfl) rfl rfl ?_
  exact wX3_sheaves_p4 hd C _ hx0 h M
theorem wX4_account {E : Ev} {d : Nat} (hd : 4 ≤ d) {x1 : Int32} {I I' : Mm} {r : Int32}  (h : fX4_account x1 I = some (r, I')) : SemM E d 0 0 mX4_account [rfE E 0, .int x1] S0 I (some (.int r)) S0 I' := by
  unfold fX4_account at h
  refine SemM.ofX (E := E) (y := mX4_account) (args := fun E => [rfE E 0, .int x1]) (r := fun E => (some (.int r))) (fun E => [some (rfE E 0), some (.int x1)]) (by decide +kernel) (Nat.le_of_ble_eq_true rfl) rfl (fun X C M => ?_)
  refine s_iload_n C dX4_account_0 rfl rfl ?_
  by_cases c1 : x1 = 0
  · have h := it_t c1 h
    refine s_tableIn (off := 59) (tgt := 60) C dX4_account_1 (by rw [c1]; decide +kernel) (by rw [c1]; decide +kernel) (by rw [c1]; decide +kernel) (by decide) ?_
    refine s_aload_n C dX4_account_60 rfl rfl ?_
    refine s_getR (b := 1) C dX4_account_61 kk_0 foX4_10 rfl rk_0_0 ?_
    obtain ⟨r1, I1, hh, h⟩ := bd_e h
    refine s_cV0 (st := []) C M.rg (Nat.le_trans (by decide) hd) mwX3_sheaves mlX4_149 dX4_account_64 (wX3_sheaves (d := 2) (Nat.le_refl _) kk_1 hh) kk_1 rfl rfl (Nat.le_of_ble_eq_true rfl) ?_
    obtain ⟨rfl, rfl⟩ := pr_e h
    exact s_iret C M dX4_account_67 rfl rfl (Nat.le_refl 0) (Nat.le_refl 0)
  have h := it_f c1 h
  by_cases c2 : x1 = 1
  · have h := it_t c2 h
    refine s_tableIn (off := 67) (tgt := 68) C dX4_account_1 (by rw [c2]; decide +kernel) (by rw [c2]; decide +kernel) (by rw [c2]; decide +kernel) (by decide) ?_
    refine s_aload_n C dX4_account_68 rfl rfl ?_
    refine s_getR (b := 1) C dX4_account_69 kk_0 foX4_10 rfl rk_0_0 ?_
    obtain ⟨r1, I1, hh, h⟩ := bd_e h
    refine s_cV0 (st := []) C M.rg (Nat.le_trans (by decide) hd) mwX3_loads mlX4_206 dX4_account_72 (wX3_loads (d := 3) (Nat.le_refl _) kk_1 hh) kk_1 rfl rfl (Nat.le_of_ble_eq_true rfl) ?_
    obtain ⟨rfl, rfl⟩ := pr_e h
    exact s_iret C M dX4_account_75 rfl rfl (Nat.le_refl 0) (Nat.le_refl 0)
  have h := it_f c2 h
  by_cases c3 : x1 = 2
  · have h := it_t c3 h
    refine s_tableIn (off := 75) (tgt := 76) C dX4_account_1 (by rw [c3]; decide +kernel) (by rw [c3]; decide +kernel) (by rw [c3]; decide +kernel) (by decide) ?_
    refine s_aload_n C dX4_account_76 rfl rfl ?_
    refine s_getR (b := 1) C dX4_account_77 kk_0 foX4_10 rfl rk_0_0 ?_
    refine s_getI C dX4_account_80 kk_1 foX4_209 rfl ?_
    obtain ⟨rfl, rfl⟩ := pr_e h
    exact s_iret C M dX4_account_83 rfl rfl (Nat.le_refl 0) (Nat.le_refl 0)
  have h := it_f c3 h
  by_cases c4 : x1 = 3
  · have h := it_t c4 h
    refine s_tableIn (off := 83) (tgt := 84) C dX4_account_1 (by rw [c4]; decide +kernel) (by rw [c4]; decide +kernel) (by rw [c4]; decide +kernel) (by decide) ?_
    refine s_aload_n C dX4_account_84 rfl rfl ?_
    refine s_getR (b := 1) C dX4_account_85 kk_0 foX4_10 rfl rk_0_0 ?_
    refine s_getI C dX4_account_88 kk_1 foX4_212 rfl ?_
    obtain ⟨rfl, rfl⟩ := pr_e h
    exact s_iret C M dX4_account_91 rfl rfl (Nat.le_refl 0) (Nat.le_refl 0)
  have h := it_f c4 h
  by_cases c5 : x1 = 4
  · have h := it_t c5 h
    refine s_tableIn (off := 91) (tgt := 92) C dX4_account_1 (by rw [c5]; decide +kernel) (by rw [c5]; decide +kernel) (by rw [c5]; decide +kernel) (by decide) ?_
    refine s_aload_n C dX4_account_92 rfl rfl ?_
    refine s_getR (b := 1) C dX4_account_93 kk_0 foX4_10 rfl rk_0_0 ?_
    refine s_getI C dX4_account_96 kk_1 foX4_215 rfl ?_
    obtain ⟨rfl, rfl⟩ := pr_e h
    exact s_iret C M dX4_account_99 rfl rfl (Nat.le_refl 0) (Nat.le_refl 0)
  have h := it_f c5 h
  by_cases c6 : x1 = 5
  · have h := it_t c6 h
    refine s_tableIn (off := 99) (tgt := 100) C dX4_account_1 (by rw [c6]; decide +kernel) (by rw [c6]; decide +kernel) (by rw [c6]; decide +kernel) (by decide) ?_
    refine s_aload_n C dX4_account_100 rfl rfl ?_
    refine s_getR (b := 1) C dX4_account_101 kk_0 foX4_10 rfl rk_0_0 ?_
    refine s_getI C dX4_account_104 kk_1 foX4_218 rfl ?_
    obtain ⟨rfl, rfl⟩ := pr_e h
    exact s_iret C M dX4_account_107 rfl rfl (Nat.le_refl 0) (Nat.le_refl 0)
  have h := it_f c6 h
  by_cases c7 : x1 = 6
  · have h := it_t c7 h
    refine s_tableIn (off := 107) (tgt := 108) C dX4_account_1 (by rw [c7]; decide +kernel) (by rw [c7]; decide +kernel) (by rw [c7]; decide +kernel) (by decide) ?_
    refine s_aload_n C dX4_account_108 rfl rfl ?_
    refine s_getR (b := 1) C dX4_account_109 kk_0 foX4_10 rfl rk_0_0 ?_
    refine s_getI C dX4_account_112 kk_1 foX4_221 rfl ?_
    obtain ⟨rfl, rfl⟩ := pr_e h
    exact s_iret C M dX4_account_115 rfl rfl (Nat.le_refl 0) (Nat.le_refl 0)
  have h := it_f c7 h
  by_cases c8 : x1 = 7
  · have h := it_t c8 h
    refine s_tableIn (off := 115) (tgt := 116) C dX4_account_1 (by rw [c8]; decide +kernel) (by rw [c8]; decide +kernel) (by rw [c8]; decide +kernel) (by decide) ?_
    refine s_aload_n C dX4_account_116 rfl rfl ?_
    refine s_getR (b := 1) C dX4_account_117 kk_0 foX4_10 rfl rk_0_0 ?_
    refine s_getI C dX4_account_120 kk_1 foX4_224 rfl ?_
    obtain ⟨rfl, rfl⟩ := pr_e h
    exact s_iret C M dX4_account_123 rfl rfl (Nat.le_refl 0) (Nat.le_refl 0)
  have h := it_f c8 h
  by_cases c9 : x1 = 8
  · have h := it_t c9 h
    refine s_tableIn (off := 123) (tgt := 124) C dX4_account_1 (by rw [c9]; decide +kernel) (by rw [c9]; decide +kernel) (by rw [c9]; decide +kernel) (by decide) ?_
    refine s_aload_n C dX4_account_124 rfl rfl ?_
    refine s_getR (b := 1) C dX4_account_125 kk_0 foX4_10 rfl rk_0_0 ?_
    refine s_getI C dX4_account_128 kk_1 foX4_95 rfl ?_
    obtain ⟨rfl, rfl⟩ := pr_e h
    exact s_iret C M dX4_account_131 rfl rfl (Nat.le_refl 0) (Nat.le_refl 0)
  have h := it_f c9 h
  by_cases c10 : x1 = 9
  · have h := it_t c10 h
    refine s_tableIn (off := 131) (tgt := 132) C dX4_account_1 (by rw [c10]; decide +kernel) (by rw [c10]; decide +kernel) (by rw [c10]; decide +kernel) (by decide) ?_
    refine s_aload_n C dX4_account_132 rfl rfl ?_
    refine s_getR (b := 30) C dX4_account_133 kk_0 foX4_26 rfl rk_0_6 ?_
    refine s_getI C dX4_account_136 kk_30 foX4_180 rfl ?_
    obtain ⟨rfl, rfl⟩ := pr_e h
    exact s_iret C M dX4_account_139 rfl rfl (Nat.le_refl 0) (Nat.le_refl 0)
  have h := it_f c10 h
  by_cases c11 : x1 = 10
  · have h := it_t c11 h
    refine s_tableIn (off := 139) (tgt := 140) C dX4_account_1 (by rw [c11]; decide +kernel) (by rw [c11]; decide +kernel) (by rw [c11]; decide +kernel) (by decide) ?_
    refine s_aload_n C dX4_account_140 rfl rfl ?_
    refine s_getI C dX4_account_141 kk_0 foX4_227 rfl ?_
    obtain ⟨rfl, rfl⟩ := pr_e h
    exact s_iret C M dX4_account_144 rfl rfl (Nat.le_refl 0) (Nat.le_refl 0)
  have h := it_f c11 h
  refine s_tableOut (tgt := 145) C dX4_account_1 (by have := ne_i 0 (by decide +kernel) c1; have := ne_i 1 (by decide +kernel) c2; have := ne_i 2 (by decide +kernel) c3; have := ne_i 3 (by decide +kernel) c4; have := ne_i 4 (by decide +kernel) c5; have := ne_i 5 (by decide +kernel) c6; have := ne_i 6 (by decide +kernel) c7; have := ne_i 7 (by decide +kernel) c8; have := ne_i 8 (by decide +kernel) c9; have := ne_i 9 (by decide +kernel) c10; have := ne_i 10 (by decide +kernel) c11; omega) (by decide) ?_
  refine s_bipush C dX4_account_145 bi_m12 ?_
  obtain ⟨rfl, rfl⟩ := pr_e h
  exact s_iret C M dX4_account_147 rfl rfl (Nat.le_refl 0) (Nat.le_refl 0)
theorem wX4_append {E : Ev} {d : Nat} (hd : 2 ≤ d) {x1 : Int32} {I I' : Mm} {r : Int32}  (h : fX4_append x1 I = some (r, I')) : SemM E d 0 0 mX4_append [rfE E 0, .int x1] S0 I (some (.int r)) S0 I' := by
  unfold fX4_append at h
  refine SemM.ofX (E := E) (y := mX4_append) (args := fun E => [rfE E 0, .int x1]) (r := fun E => (some (.int r))) (fun E => [some (rfE E 0), some (.int x1)]) (by decide +kernel) (Nat.le_of_ble_eq_true rfl) rfl (fun X C M => ?_)
  refine s_iload_n C dX4_append_0 rfl rfl ?_
  refine s_bipush C dX4_append_1 bi_32 ?_
  refine s_icmp_lt (tgt := 12) C dX4_append_3 (by decide) (fun c => ?_) (fun c => ?_)
  · have h := it_t c h
    refine s_bipush C dX4_append_12 bi_m12 ?_
    obtain ⟨rfl, rfl⟩ := pr_e h
    exact s_iret C M dX4_append_14 rfl rfl (Nat.le_refl 0) (Nat.le_refl 0)
  · have h := it_f c h
    refine s_iload_n C dX4_append_6 rfl rfl ?_
    refine s_bipush C dX4_append_7 bi_126 ?_
    refine s_icmp_le (tgt := 15) C dX4_append_9 (by decide) (fun c => ?_) (fun c => ?_)
    · have h := it_t c h
      refine s_aload_n C dX4_append_15 rfl rfl ?_
      refine s_getR (b := 30) C dX4_append_16 kk_0 foX4_26 rfl rk_0_6 ?_
      refine s_iload_n C dX4_append_19 rfl rfl ?_
      obtain ⟨r1, I1, hh, h⟩ := bd_e h
      refine s_cV0 (st := []) C M.rg (Nat.le_trans (by decide) hd) mwX2_add mlX4_177 dX4_append_20 (wX2_add (d := 1) (Nat.le_refl _) kk_30 hh) kk_30 rfl rfl (Nat.le_of_ble_eq_true rfl) ?_
      refine s_if_eq (tgt := 36) C dX4_append_23 (by decide) (fun c => ?_) (fun c => ?_)
      · have h := it_t c h
        refine s_bipush C dX4_append_36 bi_m13 ?_
        obtain ⟨rfl, rfl⟩ := pr_e h
        exact s_iret C M dX4_append_38 rfl rfl (Nat.le_refl 0) (Nat.le_refl 0)
      · have h := it_f c h
        refine s_aload_n C dX4_append_26 rfl rfl ?_
        refine s_getR (b := 30) C dX4_append_27 kk_0 foX4_26 rfl rk_0_6 ?_
        refine s_getI C dX4_append_30 kk_30 foX4_180 rfl ?_
        refine s_goto (tgt := 38) C dX4_append_33 (by decide) ?_
        obtain ⟨rfl, rfl⟩ := pr_e h
        exact s_iret C M dX4_append_38 rfl rfl (Nat.le_refl 0) (Nat.le_refl 0)
    · have h := it_f c h
      refine s_bipush C dX4_append_12 bi_m12 ?_
      obtain ⟨rfl, rfl⟩ := pr_e h
      exact s_iret C M dX4_append_14 rfl rfl (Nat.le_refl 0) (Nat.le_refl 0)
theorem wX4_at {E : Ev} {d : Nat} (hd : 2 ≤ d) {x1 : Int32} {x2 : Int32} {I I' : Mm} {r : Int32}  (h : fX4_at x1 x2 I = some (r, I')) : SemM E d 0 0 mX4_at [rfE E 0, .int x1, .int x2] S0 I (some (.int r)) S0 I' := by
  unfold fX4_at at h
  refine SemM.ofX (E := E) (y := mX4_at) (args := fun E => [rfE E 0, .int x1, .int x2]) (r := fun E => (some (.int r))) (fun E => [some (rfE E 0), some (.int x1), some (.int x2), none]) (by decide +kernel) (Nat.le_of_ble_eq_true rfl) rfl (fun X C M => ?_)
  refine s_aload_n C dX4_at_0 rfl rfl ?_
  refine s_getR (b := 1) C dX4_at_1 kk_0 foX4_10 rfl rk_0_0 ?_
  refine s_iload_n C dX4_at_4 rfl rfl ?_
  obtain ⟨r1, I1, hh, h⟩ := bd_e h
  refine s_cV0 (st := []) C M.rg (Nat.le_trans (by decide) hd) mwX3_rickAt mlX4_71 dX4_at_5 (wX3_rickAt (d := 1) (Nat.le_refl _) kk_1 hh) kk_1 rfl rfl (Nat.le_of_ble_eq_true rfl) ?_
  refine s_astore_no (ls' := [some (rfX X 0), some (.int x1), some (.int x2), some (rvE (xE X) r1)]) C dX4_at_8 rfl (by decide) (Nat.le_of_ble_eq_true rfl) rfl rfl ?_
  refine s_aload_no C dX4_at_9 rfl rfl ?_
  cases r1 with
  | none =>
    have h := on_n h
    refine s_ifnullN (tgt := 21) C dX4_at_10 (by decide) ?_
    refine s_bipush C dX4_at_21 bi_m11 ?_
    refine s_goto (tgt := 31) C dX4_at_23 (by decide) ?_
    obtain ⟨rfl, rfl⟩ := pr_e h
    exact s_iret C M dX4_at_31 rfl rfl (Nat.le_refl 0) (Nat.le_refl 0)
  | some q1 =>
    obtain ⟨hq1, h⟩ := it_s (on_s h)
    refine s_ifnull C dX4_at_10 ?_
    refine s_aload_n C dX4_at_13 rfl rfl ?_
    refine s_iload_n C dX4_at_14 rfl rfl ?_
    obtain ⟨r2, I2, hh, h⟩ := bd_e h
    refine s_cV0 (st := []) C M.rg (Nat.le_trans (by decide) hd) mwX1_isPlace mlX4_139 dX4_at_15 (wX1_isPlace (d := 1) (Nat.le_refl _) hq1 hh) hq1 rfl rfl (Nat.le_of_ble_eq_true rfl) ?_
    refine s_if_ne (tgt := 26) C dX4_at_18 (by decide) (fun c => ?_) (fun c => ?_)
    · have h := it_f c h
      refine s_aload_n C dX4_at_26 rfl rfl ?_
      refine s_iload_n C dX4_at_27 rfl rfl ?_
      obtain ⟨r3, I3, hh, h⟩ := bd_e h
      refine s_cV0 (st := []) C M.rg (Nat.le_trans (by decide) hd) mwX1_weightAt mlX4_105 dX4_at_28 (wX1_weightAt (d := 1) (Nat.le_refl _) hq1 hh) hq1 rfl rfl (Nat.le_of_ble_eq_true rfl) ?_
      obtain ⟨rfl, rfl⟩ := pr_e h
      exact s_iret C M dX4_at_31 rfl rfl (Nat.le_refl 0) (Nat.le_refl 0)
    · have h := it_t c h
      refine s_bipush C dX4_at_21 bi_m11 ?_
      refine s_goto (tgt := 31) C dX4_at_23 (by decide) ?_
      obtain ⟨rfl, rfl⟩ := pr_e h
      exact s_iret C M dX4_at_31 rfl rfl (Nat.le_refl 0) (Nat.le_refl 0)
theorem wX4_beforeNow {E : Ev} {d : Nat} (hd : 1 ≤ d)  {I I' : Mm} {r : Option Nat}  (h : fX4_beforeNow  I = some (r, I')) : SemM E d 0 0 mX4_beforeNow [rfE E 0] S0 I (some (rvE E r)) S0 I' := by
  unfold fX4_beforeNow at h
  refine SemM.ofX (E := E) (y := mX4_beforeNow) (args := fun E => [rfE E 0]) (r := fun E => (some (rvE E r))) (fun E => [some (rfE E 0)]) (by decide +kernel) (Nat.le_of_ble_eq_true rfl) rfl (fun X C M => ?_)
  refine s_aload_n C dX4_beforeNow_0 rfl rfl ?_
  refine s_getI C dX4_beforeNow_1 kk_0 foX4_234 rfl ?_
  refine s_if_lt (tgt := 31) C dX4_beforeNow_4 (by decide) (fun c => ?_) (fun c => ?_)
  · have h := it_t c h
    refine s_null C dX4_beforeNow_31 ?_
    obtain ⟨rfl, rfl⟩ := pr_e h
    exact s_aret (o := none) C M dX4_beforeNow_32 rfl (Or.inl ⟨_, rfl⟩) (Nat.le_refl 0) (Nat.le_refl 0)
  · have h := it_f c h
    refine s_aload_n C dX4_beforeNow_7 rfl rfl ?_
    refine s_getI C dX4_beforeNow_8 kk_0 foX4_234 rfl ?_
    refine s_aload_n C dX4_beforeNow_11 rfl rfl ?_
    refine s_getR (b := 29) C dX4_beforeNow_12 kk_0 foX4_19 rfl rk_0_3 ?_
    refine s_alenR (v := 9) C dX4_beforeNow_15 kk_29 (by decide) (by decide +kernel) ?_
    refine s_icmp_ge (tgt := 31) C dX4_beforeNow_16 (by decide) (fun c => ?_) (fun c => ?_)
    · have h := it_t c h
      refine s_null C dX4_beforeNow_31 ?_
      obtain ⟨rfl, rfl⟩ := pr_e h
      exact s_aret (o := none) C M dX4_beforeNow_32 rfl (Or.inl ⟨_, rfl⟩) (Nat.le_refl 0) (Nat.le_refl 0)
    · have h := it_f c h
      refine s_aload_n C dX4_beforeNow_19 rfl rfl ?_
      refine s_getR (b := 29) C dX4_beforeNow_20 kk_0 foX4_19 rfl rk_0_3 ?_
      refine s_aload_n C dX4_beforeNow_23 rfl rfl ?_
      refine s_getI C dX4_beforeNow_24 kk_0 foX4_234 rfl ?_
      obtain ⟨hb, h⟩ := it_n h
      have kq1 := (kd7 (ck_lt hb))
      refine s_aald C dX4_beforeNow_27 kk_29 (by decide) hb (rr7 kk_29 (ck_lt hb)) ?_
      refine s_goto (tgt := 32) C dX4_beforeNow_28 (by decide) ?_
      obtain ⟨rfl, rfl⟩ := pr_e h
      exact s_aret (o := some (37 + 14 * (I 0 4).toNatClampNeg)) C M dX4_beforeNow_32 rfl (Or.inl ⟨_, rfl⟩) (Nat.le_refl 0) (Nat.le_refl 0)
theorem wX4_between {E : Ev} {d : Nat} (hd : 5 ≤ d) {x1 : Int32} {x2 : Int32} {x3 : Int32} {I I' : Mm} {r : Int32}  (h : fX4_between x1 x2 x3 I = some (r, I')) : SemM E d 0 0 mX4_between [rfE E 0, .int x1, .int x2, .int x3] S0 I (some (.int r)) S0 I' := by
  unfold fX4_between at h
  refine SemM.ofX (E := E) (y := mX4_between) (args := fun E => [rfE E 0, .int x1, .int x2, .int x3]) (r := fun E => (some (.int r))) (fun E => [some (rfE E 0), some (.int x1), some (.int x2), some (.int x3), none]) (by decide +kernel) (Nat.le_of_ble_eq_true rfl) rfl (fun X C M => ?_)
  refine s_aload_n C dX4_between_0 rfl rfl ?_
  refine s_getR (b := 1) C dX4_between_1 kk_0 foX4_10 rfl rk_0_0 ?_
  refine s_iload_n C dX4_between_4 rfl rfl ?_
  obtain ⟨r1, I1, hh, h⟩ := bd_e h
  refine s_cV0 (st := []) C M.rg (Nat.le_trans (by decide) hd) mwX3_rickAt mlX4_71 dX4_between_5 (wX3_rickAt (d := 1) (Nat.le_refl _) kk_1 hh) kk_1 rfl rfl (Nat.le_of_ble_eq_true rfl) ?_
  refine s_astore_o (ls' := [some (rfX X 0), some (.int x1), some (.int x2), some (.int x3), some (rvE (xE X) r1)]) C dX4_between_8 (by decide) (Nat.le_of_ble_eq_true rfl) rfl rfl ?_
  refine s_aload_o C dX4_between_10 rfl ?_
  cases r1 with
  | none =>
    have h := on_n h
    refine s_ifnonnullN C dX4_between_12 ?_
    refine s_bipush C dX4_between_15 bi_m11 ?_
    refine s_goto (tgt := 27) C dX4_between_17 (by decide) ?_
    obtain ⟨rfl, rfl⟩ := pr_e h
    exact s_iret C M dX4_between_27 rfl rfl (Nat.le_refl 0) (Nat.le_refl 0)
  | some q1 =>
    obtain ⟨hq1, h⟩ := it_s (on_s h)
    refine s_ifnonnull (tgt := 20) C dX4_between_12 (by decide) ?_
    refine s_aload C dX4_between_20 rfl ?_
    refine s_iload_n C dX4_between_22 rfl rfl ?_
    refine s_iload_n C dX4_between_23 rfl rfl ?_
    obtain ⟨r2, I2, hh, h⟩ := bd_e h
    refine s_cV0 (st := []) C M.rg (Nat.le_trans (by decide) hd) mwX1_loadsByParts mlX4_143 dX4_between_24 (wX1_loadsByParts (d := 4) (Nat.le_refl _) hq1 hh) hq1 rfl rfl (Nat.le_of_ble_eq_true rfl) ?_
    obtain ⟨rfl, rfl⟩ := pr_e h
    exact s_iret C M dX4_between_27 rfl rfl (Nat.le_refl 0) (Nat.le_refl 0)
theorem wX4_betweenAgain {E : Ev} {d : Nat} (hd : 3 ≤ d) {x1 : Int32} {x2 : Int32} {x3 : Int32} {I I' : Mm} {r : Int32}  (h : fX4_betweenAgain x1 x2 x3 I = some (r, I')) : SemM E d 0 0 mX4_betweenAgain [rfE E 0, .int x1, .int x2, .int x3] S0 I (some (.int r)) S0 I' := by
  unfold fX4_betweenAgain at h
  refine SemM.ofX (E := E) (y := mX4_betweenAgain) (args := fun E => [rfE E 0, .int x1, .int x2, .int x3]) (r := fun E => (some (.int r))) (fun E => [some (rfE E 0), some (.int x1), some (.int x2), some (.int x3), none]) (by decide +kernel) (Nat.le_of_ble_eq_true rfl) rfl (fun X C M => ?_)
  refine s_aload_n C dX4_betweenAgain_0 rfl rfl ?_
  refine s_getR (b := 1) C dX4_betweenAgain_1 kk_0 foX4_10 rfl rk_0_0 ?_
  refine s_iload_n C dX4_betweenAgain_4 rfl rfl ?_
  obtain ⟨r1, I1, hh, h⟩ := bd_e h
  refine s_cV0 (st := []) C M.rg (Nat.le_trans (by decide) hd) mwX3_rickAt mlX4_71 dX4_betweenAgain_5 (wX3_rickAt (d := 1) (Nat.le_refl _) kk_1 hh) kk_1 rfl rfl (Nat.le_of_ble_eq_true rfl) ?_
  refine s_astore_o (ls' := [some (rfX X 0), some (.int x1), some (.int x2), some (.int x3), some (rvE (xE X) r1)]) C dX4_betweenAgain_8 (by decide) (Nat.le_of_ble_eq_true rfl) rfl rfl ?_
  refine s_aload_o C dX4_betweenAgain_10 rfl ?_
  cases r1 with
  | none =>
    have h := on_n h
    refine s_ifnonnullN C dX4_betweenAgain_12 ?_
    refine s_bipush C dX4_betweenAgain_15 bi_m11 ?_
    refine s_goto (tgt := 27) C dX4_betweenAgain_17 (by decide) ?_
    obtain ⟨rfl, rfl⟩ := pr_e h
    exact s_iret C M dX4_betweenAgain_27 rfl rfl (Nat.le_refl 0) (Nat.le_refl 0)
  | some q1 =>
    obtain ⟨hq1, h⟩ := it_s (on_s h)
    refine s_ifnonnull (tgt := 20) C dX4_betweenAgain_12 (by decide) ?_
    refine s_aload C dX4_betweenAgain_20 rfl ?_
    refine s_iload_n C dX4_betweenAgain_22 rfl rfl ?_
    refine s_iload_n C dX4_betweenAgain_23 rfl rfl ?_
    obtain ⟨r2, I2, hh, h⟩ := bd_e h
    refine s_cV0 (st := []) C M.rg (Nat.le_trans (by decide) hd) mwX1_loadsOneByOne mlX4_146 dX4_betweenAgain_24 (wX1_loadsOneByOne (d := 2) (Nat.le_refl _) hq1 hh) hq1 rfl rfl (Nat.le_of_ble_eq_true rfl) ?_
    obtain ⟨rfl, rfl⟩ := pr_e h
    exact s_iret C M dX4_betweenAgain_27 rfl rfl (Nat.le_refl 0) (Nat.le_refl 0)
theorem wX4_buildWhole {E : Ev} {d : Nat} (hd : 44 ≤ d) {x1 : Nat} {I I' : Mm} {r : Int32} (hx1 : kd0 x1 = 1) (h : fX4_buildWhole x1 I = some (r, I')) : SemM E d 0 0 mX4_buildWhole [rfE E 0, rfE E x1] S0 I (some (.int r)) S0 I' := by
  unfold fX4_buildWhole at h
  refine SemM.ofX (E := E) (y := mX4_buildWhole) (args := fun E => [rfE E 0, rfE E x1]) (r := fun E => (some (.int r))) (fun E => [some (rfE E 0), some (rfE E x1), none]) (by decide +kernel) (Nat.le_of_ble_eq_true rfl) rfl (fun X C M => ?_)
  refine s_aload_n C dX4_buildWhole_0 rfl rfl ?_
  obtain ⟨r1, I1, hh, h⟩ := bd_e h
  refine s_cV0 (st := []) C M.rg (Nat.le_trans (by decide) hd) mwX1_buildWhole mlX4_264 dX4_buildWhole_1 (wX1_buildWhole (d := 43) (Nat.le_refl _) hx1 hh) hx1 rfl rfl (Nat.le_of_ble_eq_true rfl) ?_
  refine s_istore_n (ls' := [some (rfX X 0), some (rfX X x1), some (.int r1)]) C dX4_buildWhole_4 rfl (by decide) (Nat.le_of_ble_eq_true rfl) rfl rfl ?_
  refine s_aload_n C dX4_buildWhole_5 rfl rfl ?_
  refine s_getR (b := 1) C dX4_buildWhole_6 kk_0 foX4_10 rfl rk_0_0 ?_
  refine s_dup C dX4_buildWhole_9 rfl ?_
  refine s_getI C dX4_buildWhole_10 kk_1 foX4_218 rfl ?_
  refine s_iconst C dX4_buildWhole_13 ic_1 ?_
  refine s_iadd C dX4_buildWhole_14 ?_
  obtain ⟨I2, eI2, h⟩ := ltm_e h
  refine s_putI C dX4_buildWhole_15 kk_1 poX4_218 rfl eI2 ?_
  refine s_aload_n C dX4_buildWhole_18 rfl rfl ?_
  refine s_getR (b := 1) C dX4_buildWhole_19 kk_0 foX4_10 rfl rk_0_0 ?_
  refine s_dup C dX4_buildWhole_22 rfl ?_
  refine s_getI C dX4_buildWhole_23 kk_1 foX4_221 rfl ?_
  refine s_aload_n C dX4_buildWhole_26 rfl rfl ?_
  refine s_getI C dX4_buildWhole_27 hx1 foX4_111 rfl ?_
  refine s_iadd C dX4_buildWhole_30 ?_
  obtain ⟨I3, eI3, h⟩ := ltm_e h
  refine s_putI C dX4_buildWhole_31 kk_1 poX4_221 rfl eI3 ?_
  refine s_iload_n C dX4_buildWhole_34 rfl rfl ?_
  obtain ⟨rfl, rfl⟩ := pr_e h
  exact s_iret C M dX4_buildWhole_35 rfl rfl (Nat.le_refl 0) (Nat.le_refl 0)
theorem wX4_refuse {E : Ev} {d : Nat} (hd : 1 ≤ d) {x1 : Int32} {x2 : Int32} {I I' : Mm} {r : Int32}  (h : fX4_refuse x1 x2 I = some (r, I')) : SemM E d 0 0 mX4_refuse [rfE E 0, .int x1, .int x2] S0 I (some (.int r)) S0 I' := by
  unfold fX4_refuse at h
  refine SemM.ofX (E := E) (y := mX4_refuse) (args := fun E => [rfE E 0, .int x1, .int x2]) (r := fun E => (some (.int r))) (fun E => [some (rfE E 0), some (.int x1), some (.int x2)]) (by decide +kernel) (Nat.le_of_ble_eq_true rfl) rfl (fun X C M => ?_)
  refine s_aload_n C dX4_refuse_0 rfl rfl ?_
  refine s_iload_n C dX4_refuse_1 rfl rfl ?_
  obtain ⟨I1, eI1, h⟩ := ltm_e h
  refine s_putI C dX4_refuse_2 kk_0 poX4_40 rfl eI1 ?_
  refine s_aload_n C dX4_refuse_5 rfl rfl ?_
  refine s_iload_n C dX4_refuse_6 rfl rfl ?_
  obtain ⟨I2, eI2, h⟩ := ltm_e h
  refine s_putI C dX4_refuse_7 kk_0 poX4_44 rfl eI2 ?_
  refine s_bipush C dX4_refuse_10 bi_m14 ?_
  obtain ⟨rfl, rfl⟩ := pr_e h
  exact s_iret C M dX4_refuse_12 rfl rfl (Nat.le_refl 0) (Nat.le_refl 0)
theorem wX4_buildNow {E : Ev} {d : Nat} (hd : 45 ≤ d) {x1 : Int32} {I I' : Mm} {r : Int32}  (h : fX4_buildNow x1 I = some (r, I')) : SemM E d 0 0 mX4_buildNow [rfE E 0, .int x1] S0 I (some (.int r)) S0 I' := by
  unfold fX4_buildNow at h
  refine SemM.ofX (E := E) (y := mX4_buildNow) (args := fun E => [rfE E 0, .int x1]) (r := fun E => (some (.int r))) (fun E => [some (rfE E 0), some (.int x1), none]) (by decide +kernel) (Nat.le_of_ble_eq_true rfl) rfl (fun X C M => ?_)
  refine s_aload_n C dX4_buildNow_0 rfl rfl ?_
  refine s_getR (b := 1) C dX4_buildNow_1 kk_0 foX4_10 rfl rk_0_0 ?_
  refine s_iload_n C dX4_buildNow_4 rfl rfl ?_
  obtain ⟨r1, I1, hh, h⟩ := bd_e h
  refine s_cV0 (st := []) C M.rg (Nat.le_trans (by decide) hd) mwX3_rickAt mlX4_71 dX4_buildNow_5 (wX3_rickAt (d := 1) (Nat.le_refl _) kk_1 hh) kk_1 rfl rfl (Nat.le_of_ble_eq_true rfl) ?_
  refine s_astore_no (ls' := [some (rfX X 0), some (.int x1), some (rvE (xE X) r1)]) C dX4_buildNow_8 rfl (by decide) (Nat.le_of_ble_eq_true rfl) rfl rfl ?_
  refine s_aload_no C dX4_buildNow_9 rfl rfl ?_
  cases r1 with
  | none =>
    have h := on_n h
    refine s_ifnonnullN C dX4_buildNow_10 ?_
    refine s_bipush C dX4_buildNow_13 bi_m11 ?_
    obtain ⟨rfl, rfl⟩ := pr_e h
    exact s_iret C M dX4_buildNow_15 rfl rfl (Nat.le_refl 0) (Nat.le_refl 0)
  | some q1 =>
    obtain ⟨hq1, h⟩ := it_s (on_s h)
    refine s_ifnonnull (tgt := 16) C dX4_buildNow_10 (by decide) ?_
    refine s_aload_n C dX4_buildNow_16 rfl rfl ?_
    refine s_getI C dX4_buildNow_17 hq1 foX4_111 rfl ?_
    refine s_if_gt (tgt := 30) C dX4_buildNow_20 (by decide) (fun c => ?_) (fun c => ?_)
    · have h := it_t c h
      refine s_aload_n C dX4_buildNow_30 rfl rfl ?_
      refine s_aload_n C dX4_buildNow_31 rfl rfl ?_
      obtain ⟨r2, I2, hh, h⟩ := bd_e h
      refine s_cV0 (st := []) C M.rg (Nat.le_trans (by decide) hd) mwX4_buildWhole mlX4_260 dX4_buildNow_32 (wX4_buildWhole (d := 44) (Nat.le_refl _) hq1 hh) kk_0 rfl rfl (Nat.le_of_ble_eq_true rfl) ?_
      obtain ⟨rfl, rfl⟩ := pr_e h
      exact s_iret C M dX4_buildNow_35 rfl rfl (Nat.le_refl 0) (Nat.le_refl 0)
    · have h := it_f c h
      refine s_aload_n C dX4_buildNow_23 rfl rfl ?_
      refine s_iconst C dX4_buildNow_24 ic_5 ?_
      refine s_iload_n C dX4_buildNow_25 rfl rfl ?_
      obtain ⟨r2, I2, hh, h⟩ := bd_e h
      refine s_cV0 (st := []) C M.rg (Nat.le_trans (by decide) hd) mwX4_refuse mlX4_196 dX4_buildNow_26 (wX4_refuse (d := 1) (Nat.le_refl _)  hh) kk_0 rfl rfl (Nat.le_of_ble_eq_true rfl) ?_
      obtain ⟨rfl, rfl⟩ := pr_e h
      exact s_iret C M dX4_buildNow_29 rfl rfl (Nat.le_refl 0) (Nat.le_refl 0)
theorem wX4_hold {E : Ev} {d : Nat} (hd : 3 ≤ d)  {I I' : Mm} {r : Unit}  (h : fX4_hold  I = some (r, I')) : SemM E d 0 0 mX4_hold [rfE E 0] S0 I none S0 I' := by
  unfold fX4_hold at h
  refine SemM.ofX (E := E) (y := mX4_hold) (args := fun E => [rfE E 0]) (r := fun E => none) (fun E => [some (rfE E 0), none]) (by decide +kernel) (Nat.le_of_ble_eq_true rfl) rfl (fun X C M => ?_)
  refine s_aload_n C dX4_hold_0 rfl rfl ?_
  obtain ⟨r1, I1, hh, h⟩ := bd_e h
  refine s_cV0 (st := []) C M.rg (Nat.le_trans (by decide) hd) mwX4_beforeNow mlX4_272 dX4_hold_1 (wX4_beforeNow (d := 1) (Nat.le_refl _)  hh) kk_0 rfl rfl (Nat.le_of_ble_eq_true rfl) ?_
  refine s_astore_no (ls' := [some (rfX X 0), some (rvE (xE X) r1)]) C dX4_hold_4 rfl (by decide) (Nat.le_of_ble_eq_true rfl) rfl rfl ?_
  refine s_aload_no C dX4_hold_5 rfl rfl ?_
  cases r1 with
  | none =>
    have h := on_n h
    refine s_ifnullN (tgt := 17) C dX4_hold_6 (by decide) ?_
    obtain ⟨rfl, rfl⟩ := pr_e h
    exact s_vret C M dX4_hold_17 rfl (Nat.le_refl 0) (Nat.le_refl 0)
  | some q1 =>
    obtain ⟨hq1, h⟩ := it_s (on_s h)
    refine s_ifnull C dX4_hold_6 ?_
    refine s_aload_n C dX4_hold_9 rfl rfl ?_
    refine s_aload_n C dX4_hold_10 rfl rfl ?_
    refine s_getR (b := 1) C dX4_hold_11 kk_0 foX4_10 rfl rk_0_0 ?_
    obtain ⟨r2, I2, hh, h⟩ := bd_e h
    refine s_cV0 (st := []) C M.rg (Nat.le_trans (by decide) hd) mwX3_copyFrom mlX4_237 dX4_hold_14 (wX3_copyFrom (d := 2) (Nat.le_refl _) hq1 kk_1 hh) hq1 rfl rfl (Nat.le_of_ble_eq_true rfl) ?_
    obtain ⟨rfl, rfl⟩ := pr_e h
    exact s_vret C M dX4_hold_17 rfl (Nat.le_refl 0) (Nat.le_refl 0)
theorem wX4_keep {E : Ev} {d : Nat} (hd : 1 ≤ d) {x1 : Int32} {I I' : Mm} {r : Int32}  (h : fX4_keep x1 I = some (r, I')) : SemM E d 0 0 mX4_keep [rfE E 0, .int x1] S0 I (some (.int r)) S0 I' := by
  unfold fX4_keep at h
  refine SemM.ofX (E := E) (y := mX4_keep) (args := fun E => [rfE E 0, .int x1]) (r := fun E => (some (.int r))) (fun E => [some (rfE E 0), some (.int x1)]) (by decide +kernel) (Nat.le_of_ble_eq_true rfl) rfl (fun X C M => ?_)
  refine s_iload_n C dX4_keep_0 rfl rfl ?_
  refine s_if_lt (tgt := 32) C dX4_keep_1 (by decide) (fun c => ?_) (fun c => ?_)
  · have h := it_t c h
    refine s_iload_n C dX4_keep_32 rfl rfl ?_
    obtain ⟨rfl, rfl⟩ := pr_e h
    exact s_iret C M dX4_keep_33 rfl rfl (Nat.le_refl 0) (Nat.le_refl 0)
  · have h := it_f c h
    refine s_aload_n C dX4_keep_4 rfl rfl ?_
    refine s_aload_n C dX4_keep_5 rfl rfl ?_
    refine s_getI C dX4_keep_6 kk_0 foX4_234 rfl ?_
    refine s_iconst C dX4_keep_9 ic_1 ?_
    refine s_iadd C dX4_keep_10 ?_
    refine s_bipush C dX4_keep_11 bi_9 ?_
    refine s_irem C dX4_keep_13 (by decide) ?_
    obtain ⟨I1, eI1, h⟩ := ltm_e h
    refine s_putI C dX4_keep_14 kk_0 poX4_234 rfl eI1 ?_
    refine s_aload_n C dX4_keep_17 rfl rfl ?_
    refine s_aload_n C dX4_keep_18 rfl rfl ?_
    refine s_getI C dX4_keep_19 kk_0 foX4_227 rfl ?_
    refine s_iconst C dX4_keep_22 ic_1 ?_
    refine s_iadd C dX4_keep_23 ?_
    refine s_bipush C dX4_keep_24 bi_8 ?_
    refine s_min C M.rg (Nat.le_trans (by decide) hd) mlX4_276 dX4_keep_26 w_min_s w_math_i w_min_c (Nat.le_of_ble_eq_true rfl) (Nat.le_refl 0) (Nat.le_refl 0) ?_
    obtain ⟨I2, eI2, h⟩ := ltm_e h
    refine s_putI C dX4_keep_29 kk_0 poX4_227 rfl eI2 ?_
    refine s_iload_n C dX4_keep_32 rfl rfl ?_
    obtain ⟨rfl, rfl⟩ := pr_e h
    exact s_iret C M dX4_keep_33 rfl rfl (Nat.le_refl 0) (Nat.le_refl 0)
theorem wX4_build {E : Ev} {d : Nat} (hd : 46 ≤ d) {x1 : Int32} {I I' : Mm} {r : Int32}  (h : fX4_build x1 I = some (r, I')) : SemM E d 0 0 mX4_build [rfE E 0, .int x1] S0 I (some (.int r)) S0 I' := by
  unfold fX4_build at h
  refine SemM.ofX (E := E) (y := mX4_build) (args := fun E => [rfE E 0, .int x1]) (r := fun E => (some (.int r))) (fun E => [some (rfE E 0), some (.int x1)]) (by decide +kernel) (Nat.le_of_ble_eq_true rfl) rfl (fun X C M => ?_)
  refine s_aload_n C dX4_build_0 rfl rfl ?_
  obtain ⟨r1, I1, hh, h⟩ := bd_e h
  refine s_cV0 (st := []) C M.rg (Nat.le_trans (by decide) hd) mwX4_hold mlX4_47 dX4_build_1 (wX4_hold (d := 3) (Nat.le_refl _)  hh) kk_0 rfl rfl (Nat.le_of_ble_eq_true rfl) ?_
  refine s_aload_n C dX4_build_4 rfl rfl ?_
  refine s_aload_n C dX4_build_5 rfl rfl ?_
  refine s_iload_n C dX4_build_6 rfl rfl ?_
  obtain ⟨r2, I2, hh, h⟩ := bd_e h
  refine s_cV0 (st := [rfX X 0]) C M.rg (Nat.le_trans (by decide) hd) mwX4_buildNow mlX4_62 dX4_build_7 (wX4_buildNow (d := 45) (Nat.le_refl _)  hh) kk_0 rfl rfl (Nat.le_of_ble_eq_true rfl) ?_
  obtain ⟨r3, I3, hh, h⟩ := bd_e h
  refine s_cV0 (st := []) C M.rg (Nat.le_trans (by decide) hd) mwX4_keep mlX4_54 dX4_build_10 (wX4_keep (d := 1) (Nat.le_refl _)  hh) kk_0 rfl rfl (Nat.le_of_ble_eq_true rfl) ?_
  obtain ⟨rfl, rfl⟩ := pr_e h
  exact s_iret C M dX4_build_13 rfl rfl (Nat.le_refl 0) (Nat.le_refl 0)
theorem wX4_limitNow {E : Ev} {d : Nat} (hd : 2 ≤ d) {x1 : Int32} {I I' : Mm} {r : Int32}  (h : fX4_limitNow x1 I = some (r, I')) : SemM E d 0 0 mX4_limitNow [rfE E 0, .int x1] S0 I (some (.int r)) S0 I' := by
  unfold fX4_limitNow at h
  refine SemM.ofX (E := E) (y := mX4_limitNow) (args := fun E => [rfE E 0, .int x1]) (r := fun E => (some (.int r))) (fun E => [some (rfE E 0), some (.int x1), none]) (by decide +kernel) (Nat.le_of_ble_eq_true rfl) rfl (fun X C M => ?_)
  refine s_iload_n C dX4_limitNow_0 rfl rfl ?_
  refine s_bipush C dX4_limitNow_1 bi_55 ?_
  refine s_icmp_lt (tgt := 12) C dX4_limitNow_3 (by decide) (fun c => ?_) (fun c => ?_)
  · have h := it_t c h
    refine s_bipush C dX4_limitNow_12 bi_m12 ?_
    obtain ⟨rfl, rfl⟩ := pr_e h
    exact s_iret C M dX4_limitNow_14 rfl rfl (Nat.le_refl 0) (Nat.le_refl 0)
  · have h := it_f c h
    refine s_iload_n C dX4_limitNow_6 rfl rfl ?_
    refine s_bipush C dX4_limitNow_7 bi_90 ?_
    refine s_icmp_le (tgt := 15) C dX4_limitNow_9 (by decide) (fun c => ?_) (fun c => ?_)
    · have h := it_t c h
      refine s_iload_n C dX4_limitNow_15 rfl rfl ?_
      refine s_aload_n C dX4_limitNow_16 rfl rfl ?_
      refine s_getR (b := 1) C dX4_limitNow_17 kk_0 foX4_10 rfl rk_0_0 ?_
      refine s_getI C dX4_limitNow_20 kk_1 foX4_95 rfl ?_
      refine s_icmp_ne (tgt := 33) C dX4_limitNow_23 (by decide) (fun c => ?_) (fun c => ?_)
      · have h := it_f c h
        refine s_aload_n C dX4_limitNow_33 rfl rfl ?_
        refine s_getR (b := 1) C dX4_limitNow_34 kk_0 foX4_10 rfl rk_0_0 ?_
        refine s_getI C dX4_limitNow_37 kk_1 foX4_95 rfl ?_
        obtain ⟨v1, ev1, h⟩ := ltm_e h
        refine s_top_i ev1 ?_
        refine s_istore_n (ls' := [some (rfX X 0), some (.int x1), some (.int v1)]) C dX4_limitNow_40 rfl (by decide) (Nat.le_of_ble_eq_true rfl) rfl rfl ?_
        refine s_aload_n C dX4_limitNow_41 rfl rfl ?_
        refine s_getR (b := 1) C dX4_limitNow_42 kk_0 foX4_10 rfl rk_0_0 ?_
        refine s_iload_n C dX4_limitNow_45 rfl rfl ?_
        obtain ⟨I1, eI1, h⟩ := ltm_e h
        refine s_putI C dX4_limitNow_46 kk_1 poX4_95 rfl eI1 ?_
        refine s_iload_n C dX4_limitNow_49 rfl rfl ?_
        obtain ⟨rfl, rfl⟩ := pr_e h
        exact s_iret C M dX4_limitNow_50 rfl rfl (Nat.le_refl 0) (Nat.le_refl 0)
      · have h := it_t c h
        refine s_aload_n C dX4_limitNow_26 rfl rfl ?_
        refine s_iconst C dX4_limitNow_27 ic_4 ?_
        refine s_iload_n C dX4_limitNow_28 rfl rfl ?_
        obtain ⟨r1, I1, hh, h⟩ := bd_e h
        refine s_cV0 (st := []) C M.rg (Nat.le_trans (by decide) hd) mwX4_refuse mlX4_196 dX4_limitNow_29 (wX4_refuse (d := 1) (Nat.le_refl _)  hh) kk_0 rfl rfl (Nat.le_of_ble_eq_true rfl) ?_
        obtain ⟨rfl, rfl⟩ := pr_e h
        exact s_iret C M dX4_limitNow_32 rfl rfl (Nat.le_refl 0) (Nat.le_refl 0)
    · have h := it_f c h
      refine s_bipush C dX4_limitNow_12 bi_m12 ?_
      obtain ⟨rfl, rfl⟩ := pr_e h
      exact s_iret C M dX4_limitNow_14 rfl rfl (Nat.le_refl 0) (Nat.le_refl 0)
