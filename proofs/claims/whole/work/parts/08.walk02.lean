theorem wX1_lay {E : Ev} {d : Nat} (hd : 3 ≤ d) {x0 : Nat} {x1 : Int32} {x2 : Int32} {I I' : Mm} {r : Int32} (hx0 : kd0 x0 = 1) (h : fX1_lay x0 x1 x2 I = some (r, I')) : SemM E d 0 0 mX1_lay [rfE E x0, .int x1, .int x2] S0 I (some (.int r)) S0 I' := by
  unfold fX1_lay at h
  refine SemM.ofX (E := E) (y := mX1_lay) (args := fun E => [rfE E x0, .int x1, .int x2]) (r := fun E => (some (.int r))) (fun E => [some (rfE E x0), some (.int x1), some (.int x2), none, none, none]) (by decide +kernel) (Nat.le_of_ble_eq_true rfl) rfl (fun X C M => ?_)
  refine s_aload_n C dX1_lay_0 rfl rfl ?_
  refine s_getI C dX1_lay_1 hx0 foX1_21 rfl ?_
  refine s_if_lt (tgt := 16) C dX1_lay_4 (by decide) (fun c => ?_) (fun c => ?_)
  · have h := it_t c h
    refine s_iconst C dX1_lay_16 ic_m1 ?_
    obtain ⟨rfl, rfl⟩ := pr_e h
    exact s_iret C M dX1_lay_17 rfl rfl (Nat.le_refl 0) (Nat.le_refl 0)
  · have h := it_f c h
    refine s_aload_n C dX1_lay_7 rfl rfl ?_
    refine s_getI C dX1_lay_8 hx0 foX1_21 rfl ?_
    refine s_bipush C dX1_lay_11 bi_30 ?_
    refine s_icmp_lt (tgt := 18) C dX1_lay_13 (by decide) (fun c => ?_) (fun c => ?_)
    · have h := it_t c h
      refine s_aload_n C dX1_lay_18 rfl rfl ?_
      refine s_iload_n C dX1_lay_19 rfl rfl ?_
      obtain ⟨r1, I1, hh, h⟩ := bd_e h
      refine s_cV0 (st := []) C M.rg (Nat.le_trans (by decide) hd) mwX1_lighterOneByOne mlX1_65 dX1_lay_20 (wX1_lighterOneByOne (d := 2) (Nat.le_refl _) hx0 hh) hx0 rfl rfl (Nat.le_of_ble_eq_true rfl) ?_
      refine s_istore_n (ls' := [some (rfX X x0), some (.int x1), some (.int x2), some (.int r1), none, none]) C dX1_lay_23 rfl (by decide) (Nat.le_of_ble_eq_true rfl) rfl rfl ?_
      refine s_aload_n C dX1_lay_24 rfl rfl ?_
      refine s_iload_n C dX1_lay_25 rfl rfl ?_
      refine s_iconst C dX1_lay_26 ic_1 ?_
      refine s_isub C dX1_lay_27 ?_
      obtain ⟨r2, I2, hh, h⟩ := bd_e h
      refine s_cV0 (st := []) C M.rg (Nat.le_trans (by decide) hd) mwX1_depthAt mlX1_29 dX1_lay_28 (wX1_depthAt (d := 1) (Nat.le_refl _) hx0 hh) hx0 rfl rfl (Nat.le_of_ble_eq_true rfl) ?_
      refine s_aload_n C dX1_lay_31 rfl rfl ?_
      refine s_iload_n C dX1_lay_32 rfl rfl ?_
      obtain ⟨r3, I3, hh, h⟩ := bd_e h
      refine s_cV0 (st := [.int r2]) C M.rg (Nat.le_trans (by decide) hd) mwX1_depthAt mlX1_29 dX1_lay_33 (wX1_depthAt (d := 1) (Nat.le_refl _) hx0 hh) hx0 rfl rfl (Nat.le_of_ble_eq_true rfl) ?_
      refine s_max C M.rg (Nat.le_trans (by decide) hd) mlX1_32 dX1_lay_36 w_max_s w_math_i w_max_c (Nat.le_of_ble_eq_true rfl) (Nat.le_refl 0) (Nat.le_refl 0) ?_
      refine s_iconst C dX1_lay_39 ic_1 ?_
      refine s_iadd C dX1_lay_40 ?_
      obtain ⟨v1, ev1, h⟩ := ltm_e h
      refine s_top_i ev1 ?_
      refine s_istore (ls' := [some (rfX X x0), some (.int x1), some (.int x2), some (.int r1), some (.int v1), none]) C dX1_lay_41 (by decide) (Nat.le_of_ble_eq_true rfl) rfl rfl ?_
      refine s_aload_n C dX1_lay_43 rfl rfl ?_
      refine s_getI C dX1_lay_44 hx0 foX1_21 rfl ?_
      obtain ⟨v2, ev2, h⟩ := ltm_e h
      refine s_top_i ev2 ?_
      refine s_istore (ls' := [some (rfX X x0), some (.int x1), some (.int x2), some (.int r1), some (.int v1), some (.int v2)]) C dX1_lay_47 (by decide) (Nat.le_of_ble_eq_true rfl) rfl rfl ?_
      exact wX1_lay_p49 hd C _ hx0 h M
    · have h := it_f c h
      refine s_iconst C dX1_lay_16 ic_m1 ?_
      obtain ⟨rfl, rfl⟩ := pr_e h
      exact s_iret C M dX1_lay_17 rfl rfl (Nat.le_refl 0) (Nat.le_refl 0)
theorem wX1_leaning_p4 {X : Cx} {d : Nat} (hd : 4 ≤ d) (C : CtxOK X mX1_leaning) : ∀ (n : Nat) {x0 : Nat} {x1 : Int32} {x2 : Int32} {x3 : Int32} {I I' : Mm} {r : Int32} (hx0 : kd0 x0 = 1) (_ : fX1_leaning_p4 n x0 x1 x2 x3 I = some (r, I')) (_ : MX X (xE X) d 0 0 (some (.int r)) S0 I'), WM X mX1_leaning 4 [some (rfX X x0), some (.int x1), some (.int x2), some (.int x3)] [] S0 I 0 0 := by
  intro n
  induction n with
  | zero => intro x0 x1 x2 x3 I I' r hx0 h M; exact absurd h (by simp [fX1_leaning_p4])
  | succ n ih =>
    intro x0 x1 x2 x3 I I' r hx0 h M
    rw [fX1_leaning_p4] at h
    refine s_iload_n C dX1_leaning_4 rfl rfl ?_
    refine s_aload_n C dX1_leaning_5 rfl rfl ?_
    refine s_getI C dX1_leaning_6 hx0 foX1_21 rfl ?_
    refine s_icmp_ge (tgt := 30) C dX1_leaning_9 (by decide) (fun c => ?_) (fun c => ?_)
    · have h := it_t c h
      refine s_iload_n C dX1_leaning_30 rfl rfl ?_
      obtain ⟨rfl, rfl⟩ := pr_e h
      exact s_iret C M dX1_leaning_31 rfl rfl (Nat.le_refl 0) (Nat.le_refl 0)
    · have h := it_f c h
      refine s_aload_n C dX1_leaning_12 rfl rfl ?_
      refine s_iload_n C dX1_leaning_13 rfl rfl ?_
      refine s_iload_n C dX1_leaning_14 rfl rfl ?_
      obtain ⟨r1, I1, hh, h⟩ := bd_e h
      refine s_cV0 (st := []) C M.rg (Nat.le_trans (by decide) hd) mwX1_leans mlX1_51 dX1_leaning_15 (wX1_leans (d := 3) (Nat.le_refl _) hx0 hh) hx0 rfl rfl (Nat.le_of_ble_eq_true rfl) ?_
      refine s_if_eq (tgt := 24) C dX1_leaning_18 (by decide) (fun c => ?_) (fun c => ?_)
      · have h := it_t c h
        obtain ⟨v1, ev1, h⟩ := ltm_e h
        refine s_iinc (v := v1) (ls' := [some (rfX X x0), some (.int x1), some (.int x2), some (.int v1)]) C dX1_leaning_24 rfl (by decide) (Nat.le_of_ble_eq_true rfl) (by rw [ev1, ic_1]) rfl rfl ?_
        refine s_goto (tgt := 4) C dX1_leaning_27 (by decide) ?_
        exact ih hx0 h M
      · have h := it_f c h
        obtain ⟨v1, ev1, h⟩ := ltm_e h
        refine s_iinc (v := v1) (ls' := [some (rfX X x0), some (.int x1), some (.int v1), some (.int x3)]) C dX1_leaning_21 rfl (by decide) (Nat.le_of_ble_eq_true rfl) (by rw [ev1, ic_1]) rfl rfl ?_
        obtain ⟨v2, ev2, h⟩ := ltm_e h
        refine s_iinc (v := v2) (ls' := [some (rfX X x0), some (.int x1), some (.int v1), some (.int v2)]) C dX1_leaning_24 rfl (by decide) (Nat.le_of_ble_eq_true rfl) (by rw [ev2, ic_1]) rfl rfl ?_
        refine s_goto (tgt := 4) C dX1_leaning_27 (by decide) ?_
        exact ih hx0 h M
theorem wX1_leaning {E : Ev} {d : Nat} (hd : 4 ≤ d) {x0 : Nat} {x1 : Int32} {I I' : Mm} {r : Int32} (hx0 : kd0 x0 = 1) (h : fX1_leaning x0 x1 I = some (r, I')) : SemM E d 0 0 mX1_leaning [rfE E x0, .int x1] S0 I (some (.int r)) S0 I' := by
  unfold fX1_leaning at h
  refine SemM.ofX (E := E) (y := mX1_leaning) (args := fun E => [rfE E x0, .int x1]) (r := fun E => (some (.int r))) (fun E => [some (rfE E x0), some (.int x1), none, none]) (by decide +kernel) (Nat.le_of_ble_eq_true rfl) rfl (fun X C M => ?_)
  refine s_iconst C dX1_leaning_0 ic_0 ?_
  refine s_istore_n (ls' := [some (rfX X x0), some (.int x1), some (.int 0), none]) C dX1_leaning_1 rfl (by decide) (Nat.le_of_ble_eq_true rfl) rfl rfl ?_
  refine s_iconst C dX1_leaning_2 ic_0 ?_
  refine s_istore_n (ls' := [some (rfX X x0), some (.int x1), some (.int 0), some (.int 0)]) C dX1_leaning_3 rfl (by decide) (Nat.le_of_ble_eq_true rfl) rfl rfl ?_
  exact wX1_leaning_p4 hd C _ hx0 h M
theorem wX1_raise_p2 {X : Cx} {d : Nat} (hd : 2 ≤ d) (C : CtxOK X mX1_raise) : ∀ (n : Nat) {x0 : Nat} {x2 : Int32} {x3 : Int32} {I I' : Mm} {r : Unit} (hx0 : kd0 x0 = 1) (_ : fX1_raise_p2 n x0 x2 x3 I = some (r, I')) (_ : MX X (xE X) d 0 0 none S0 I'), WM X mX1_raise 2 [some (rfX X x0), none, some (.int x2), some (.int x3)] [] S0 I 0 0 := by
  intro n
  induction n with
  | zero => intro x0 x2 x3 I I' r hx0 h M; exact absurd h (by simp [fX1_raise_p2])
  | succ n ih =>
    intro x0 x2 x3 I I' r hx0 h M
    rw [fX1_raise_p2] at h
    refine s_iload_n C dX1_raise_2 rfl rfl ?_
    refine s_iload_n C dX1_raise_3 rfl rfl ?_
    refine s_icmp_gt (tgt := 33) C dX1_raise_4 (by decide) (fun c => ?_) (fun c => ?_)
    · have h := it_t c h
      obtain ⟨rfl, rfl⟩ := pr_e h
      exact s_vret C M dX1_raise_33 rfl (Nat.le_refl 0) (Nat.le_refl 0)
    · have h := it_f c h
      refine s_iload_n C dX1_raise_7 rfl rfl ?_
      refine s_aload_n C dX1_raise_8 rfl rfl ?_
      refine s_getI C dX1_raise_9 hx0 foX1_21 rfl ?_
      refine s_icmp_ge (tgt := 33) C dX1_raise_12 (by decide) (fun c => ?_) (fun c => ?_)
      · have h := it_t c h
        obtain ⟨rfl, rfl⟩ := pr_e h
        exact s_vret C M dX1_raise_33 rfl (Nat.le_refl 0) (Nat.le_refl 0)
      · have h := it_f c h
        refine s_aload_n C dX1_raise_15 rfl rfl ?_
        refine s_iload_n C dX1_raise_16 rfl rfl ?_
        refine s_aload_n C dX1_raise_17 rfl rfl ?_
        refine s_iload_n C dX1_raise_18 rfl rfl ?_
        obtain ⟨r1, I1, hh, h⟩ := bd_e h
        refine s_cV0 (st := [.int x3, rfX X x0]) C M.rg (Nat.le_trans (by decide) hd) mwX1_depthAt mlX1_29 dX1_raise_19 (wX1_depthAt (d := 1) (Nat.le_refl _) hx0 hh) hx0 rfl rfl (Nat.le_of_ble_eq_true rfl) ?_
        refine s_iconst C dX1_raise_22 ic_1 ?_
        refine s_isub C dX1_raise_23 ?_
        obtain ⟨r2, I2, hh, h⟩ := bd_e h
        refine s_cV0 (st := []) C M.rg (Nat.le_trans (by decide) hd) mwX1_setDepth mlX1_76 dX1_raise_24 (wX1_setDepth (d := 1) (Nat.le_refl _) hx0 hh) hx0 rfl rfl (Nat.le_of_ble_eq_true rfl) ?_
        obtain ⟨v1, ev1, h⟩ := ltm_e h
        refine s_iinc (v := v1) (ls' := [some (rfX X x0), none, some (.int x2), some (.int v1)]) C dX1_raise_27 rfl (by decide) (Nat.le_of_ble_eq_true rfl) (by rw [ev1, ic_1]) rfl rfl ?_
        refine s_goto (tgt := 2) C dX1_raise_30 (by decide) ?_
        exact ih hx0 h M
theorem wX1_raise {E : Ev} {d : Nat} (hd : 2 ≤ d) {x0 : Nat} {x1 : Int32} {x2 : Int32} {I I' : Mm} {r : Unit} (hx0 : kd0 x0 = 1) (h : fX1_raise x0 x1 x2 I = some (r, I')) : SemM E d 0 0 mX1_raise [rfE E x0, .int x1, .int x2] S0 I none S0 I' := by
  unfold fX1_raise at h
  refine SemM.ofX (E := E) (y := mX1_raise) (args := fun E => [rfE E x0, .int x1, .int x2]) (r := fun E => none) (fun E => [some (rfE E x0), some (.int x1), some (.int x2), none]) (by decide +kernel) (Nat.le_of_ble_eq_true rfl) rfl (fun X C M => ?_)
  refine s_iload_n C dX1_raise_0 rfl rfl ?_
  refine s_istore_n (ls' := [some (rfX X x0), some (.int x1), some (.int x2), some (.int x1)]) C dX1_raise_1 rfl (by decide) (Nat.le_of_ble_eq_true rfl) rfl rfl ?_
  refine s_weak (ls' := [some (rfX X x0), none, some (.int x2), some (.int x1)]) [true, false, true, true] rfl ?_
  exact wX1_raise_p2 hd C _ hx0 h M
theorem wX1_lift_p73 {X : Cx} {d : Nat} (hd : 3 ≤ d) (C : CtxOK X mX1_lift) : ∀ (n : Nat) {x0 : Nat} {x4 : Int32} {I I' : Mm} {r : Unit} (hx0 : kd0 x0 = 1) (_ : fX1_lift_p73 n x0 x4 I = some (r, I')) (_ : MX X (xE X) d 0 0 none S0 I'), WM X mX1_lift 73 [some (rfX X x0), none, none, none, some (.int x4)] [] S0 I 0 0 := by
  intro n
  induction n with
  | zero => intro x0 x4 I I' r hx0 h M; exact absurd h (by simp [fX1_lift_p73])
  | succ n ih =>
    intro x0 x4 I I' r hx0 h M
    rw [fX1_lift_p73] at h
    refine s_iload C dX1_lift_73 rfl ?_
    refine s_aload_n C dX1_lift_75 rfl rfl ?_
    refine s_getI C dX1_lift_76 hx0 foX1_21 rfl ?_
    refine s_iconst C dX1_lift_79 ic_1 ?_
    refine s_isub C dX1_lift_80 ?_
    refine s_icmp_ge (tgt := 120) C dX1_lift_81 (by decide) (fun c => ?_) (fun c => ?_)
    · have h := it_t c h
      refine s_aload_n C dX1_lift_120 rfl rfl ?_
      refine s_dup C dX1_lift_121 rfl ?_
      refine s_getI C dX1_lift_122 hx0 foX1_21 rfl ?_
      refine s_iconst C dX1_lift_125 ic_1 ?_
      refine s_isub C dX1_lift_126 ?_
      obtain ⟨I1, eI1, h⟩ := ltm_e h
      refine s_putI C dX1_lift_127 hx0 poX1_21 rfl eI1 ?_
      obtain ⟨rfl, rfl⟩ := pr_e h
      exact s_vret C M dX1_lift_130 rfl (Nat.le_refl 0) (Nat.le_refl 0)
    · have h := it_f c h
      refine s_aload_n C dX1_lift_84 rfl rfl ?_
      refine s_iload C dX1_lift_85 rfl ?_
      refine s_aload_n C dX1_lift_87 rfl rfl ?_
      refine s_iload C dX1_lift_88 rfl ?_
      refine s_iconst C dX1_lift_90 ic_1 ?_
      refine s_iadd C dX1_lift_91 ?_
      obtain ⟨r1, I1, hh, h⟩ := bd_e h
      refine s_cV0 (st := [.int x4, rfX X x0]) C M.rg (Nat.le_trans (by decide) hd) mwX1_weightAt mlX1_25 dX1_lift_92 (wX1_weightAt (d := 1) (Nat.le_refl _) hx0 hh) hx0 rfl rfl (Nat.le_of_ble_eq_true rfl) ?_
      refine s_aload_n C dX1_lift_95 rfl rfl ?_
      refine s_iload C dX1_lift_96 rfl ?_
      refine s_iconst C dX1_lift_98 ic_1 ?_
      refine s_iadd C dX1_lift_99 ?_
      obtain ⟨r2, I2, hh, h⟩ := bd_e h
      refine s_cV0 (st := [.int r1, .int x4, rfX X x0]) C M.rg (Nat.le_trans (by decide) hd) mwX1_loadAt mlX1_48 dX1_lift_100 (wX1_loadAt (d := 1) (Nat.le_refl _) hx0 hh) hx0 rfl rfl (Nat.le_of_ble_eq_true rfl) ?_
      refine s_aload_n C dX1_lift_103 rfl rfl ?_
      refine s_iload C dX1_lift_104 rfl ?_
      refine s_iconst C dX1_lift_106 ic_1 ?_
      refine s_iadd C dX1_lift_107 ?_
      obtain ⟨r3, I3, hh, h⟩ := bd_e h
      refine s_cV0 (st := [.int r2, .int r1, .int x4, rfX X x0]) C M.rg (Nat.le_trans (by decide) hd) mwX1_depthAt mlX1_29 dX1_lift_108 (wX1_depthAt (d := 1) (Nat.le_refl _) hx0 hh) hx0 rfl rfl (Nat.le_of_ble_eq_true rfl) ?_
      obtain ⟨r4, I4, hh, h⟩ := bd_e h
      refine s_cV0 (st := []) C M.rg (Nat.le_trans (by decide) hd) mwX1_set mlX1_68 dX1_lift_111 (wX1_set (d := 1) (Nat.le_refl _) hx0 hh) hx0 rfl rfl (Nat.le_of_ble_eq_true rfl) ?_
      obtain ⟨v1, ev1, h⟩ := ltm_e h
      refine s_iinc (v := v1) (ls' := [some (rfX X x0), none, none, none, some (.int v1)]) C dX1_lift_114 rfl (by decide) (Nat.le_of_ble_eq_true rfl) (by rw [ev1, ic_1]) rfl rfl ?_
      refine s_goto (tgt := 73) C dX1_lift_117 (by decide) ?_
      exact ih hx0 h M
theorem wX1_lift_p70 {X : Cx} {d : Nat} (hd : 3 ≤ d) (C : CtxOK X mX1_lift) {x0 : Nat} {x1 : Int32} {I I' : Mm} {r : Unit} (hx0 : kd0 x0 = 1) (h : fX1_lift_p70 x0 x1 I = some (r, I')) (M : MX X (xE X) d 0 0 none S0 I') : WM X mX1_lift 70 [some (rfX X x0), some (.int x1), none, none, none] [] S0 I 0 0 := by
  unfold fX1_lift_p70 at h
  refine s_iload_n C dX1_lift_70 rfl rfl ?_
  refine s_istore (ls' := [some (rfX X x0), some (.int x1), none, none, some (.int x1)]) C dX1_lift_71 (by decide) (Nat.le_of_ble_eq_true rfl) rfl rfl ?_
  refine s_weak (ls' := [some (rfX X x0), none, none, none, some (.int x1)]) [true, false, false, false, true] rfl ?_
  exact wX1_lift_p73 hd C _ hx0 h M
theorem wX1_lift_p64 {X : Cx} {d : Nat} (hd : 3 ≤ d) (C : CtxOK X mX1_lift) {x0 : Nat} {x1 : Int32} {x2 : Int32} {x3 : Int32} {I I' : Mm} {r : Unit} (hx0 : kd0 x0 = 1) (h : fX1_lift_p64 x0 x1 x2 x3 I = some (r, I')) (M : MX X (xE X) d 0 0 none S0 I') : WM X mX1_lift 64 [some (rfX X x0), some (.int x1), some (.int x2), some (.int x3), none] [] S0 I 0 0 := by
  unfold fX1_lift_p64 at h
  refine s_aload_n C dX1_lift_64 rfl rfl ?_
  refine s_iload_n C dX1_lift_65 rfl rfl ?_
  refine s_iload_n C dX1_lift_66 rfl rfl ?_
  obtain ⟨r1, I1, hh, h⟩ := bd_e h
  refine s_cV0 (st := []) C M.rg (Nat.le_trans (by decide) hd) mwX1_raise mlX1_72 dX1_lift_67 (wX1_raise (d := 2) (Nat.le_refl _) hx0 hh) hx0 rfl rfl (Nat.le_of_ble_eq_true rfl) ?_
  refine s_weak (ls' := [some (rfX X x0), some (.int x1), none, none, none]) [true, true, false, false, false] rfl ?_
  exact wX1_lift_p70 hd C hx0 h M
theorem wX1_lift {E : Ev} {d : Nat} (hd : 3 ≤ d) {x0 : Nat} {x1 : Int32} {I I' : Mm} {r : Unit} (hx0 : kd0 x0 = 1) (h : fX1_lift x0 x1 I = some (r, I')) : SemM E d 0 0 mX1_lift [rfE E x0, .int x1] S0 I none S0 I' := by
  unfold fX1_lift at h
  refine SemM.ofX (E := E) (y := mX1_lift) (args := fun E => [rfE E x0, .int x1]) (r := fun E => none) (fun E => [some (rfE E x0), some (.int x1), none, none, none]) (by decide +kernel) (Nat.le_of_ble_eq_true rfl) rfl (fun X C M => ?_)
  refine s_aload_n C dX1_lift_0 rfl rfl ?_
  refine s_iload_n C dX1_lift_1 rfl rfl ?_
  obtain ⟨r1, I1, hh, h⟩ := bd_e h
  refine s_cV0 (st := []) C M.rg (Nat.le_trans (by decide) hd) mwX1_isPlace mlX1_44 dX1_lift_2 (wX1_isPlace (d := 1) (Nat.le_refl _) hx0 hh) hx0 rfl rfl (Nat.le_of_ble_eq_true rfl) ?_
  refine s_if_ne (tgt := 9) C dX1_lift_5 (by decide) (fun c => ?_) (fun c => ?_)
  · have h := it_f c h
    refine s_aload_n C dX1_lift_9 rfl rfl ?_
    refine s_iload_n C dX1_lift_10 rfl rfl ?_
    obtain ⟨r2, I2, hh, h⟩ := bd_e h
    refine s_cV0 (st := []) C M.rg (Nat.le_trans (by decide) hd) mwX1_firstOf mlX1_38 dX1_lift_11 (wX1_firstOf (d := 2) (Nat.le_refl _) hx0 hh) hx0 rfl rfl (Nat.le_of_ble_eq_true rfl) ?_
    refine s_istore_n (ls' := [some (rfX X x0), some (.int x1), some (.int r2), none, none]) C dX1_lift_14 rfl (by decide) (Nat.le_of_ble_eq_true rfl) rfl rfl ?_
    refine s_aload_n C dX1_lift_15 rfl rfl ?_
    refine s_iload_n C dX1_lift_16 rfl rfl ?_
    obtain ⟨r3, I3, hh, h⟩ := bd_e h
    refine s_cV0 (st := []) C M.rg (Nat.le_trans (by decide) hd) mwX1_lastOf mlX1_41 dX1_lift_17 (wX1_lastOf (d := 2) (Nat.le_refl _) hx0 hh) hx0 rfl rfl (Nat.le_of_ble_eq_true rfl) ?_
    refine s_istore_n (ls' := [some (rfX X x0), some (.int x1), some (.int r2), some (.int r3), none]) C dX1_lift_20 rfl (by decide) (Nat.le_of_ble_eq_true rfl) rfl rfl ?_
    refine s_iload_n C dX1_lift_21 rfl rfl ?_
    refine s_iload_n C dX1_lift_22 rfl rfl ?_
    refine s_icmp_ge (tgt := 64) C dX1_lift_23 (by decide) (fun c => ?_) (fun c => ?_)
    · have h := it_t c h
      exact wX1_lift_p64 hd C hx0 h M
    · have h := it_f c h
      refine s_iload_n C dX1_lift_26 rfl rfl ?_
      refine s_iload_n C dX1_lift_27 rfl rfl ?_
      refine s_icmp_ge (tgt := 64) C dX1_lift_28 (by decide) (fun c => ?_) (fun c => ?_)
      · have h := it_t c h
        exact wX1_lift_p64 hd C hx0 h M
      · have h := it_f c h
        refine s_iload_n C dX1_lift_31 rfl rfl ?_
        refine s_iconst C dX1_lift_32 ic_1 ?_
        refine s_iadd C dX1_lift_33 ?_
        obtain ⟨v1, ev1, h⟩ := ltm_e h
        refine s_top_i ev1 ?_
        refine s_istore (ls' := [some (rfX X x0), some (.int x1), some (.int r2), some (.int r3), some (.int v1)]) C dX1_lift_34 (by decide) (Nat.le_of_ble_eq_true rfl) rfl rfl ?_
        refine s_aload_n C dX1_lift_36 rfl rfl ?_
        refine s_iload C dX1_lift_37 rfl ?_
        refine s_iconst C dX1_lift_39 ic_1 ?_
        refine s_iadd C dX1_lift_40 ?_
        refine s_aload_n C dX1_lift_41 rfl rfl ?_
        refine s_iload C dX1_lift_42 rfl ?_
        obtain ⟨r4, I4, hh, h⟩ := bd_e h
        refine s_cV0 (st := [.int (v1 + 1), rfX X x0]) C M.rg (Nat.le_trans (by decide) hd) mwX1_lastOf mlX1_41 dX1_lift_44 (wX1_lastOf (d := 2) (Nat.le_refl _) hx0 hh) hx0 rfl rfl (Nat.le_of_ble_eq_true rfl) ?_
        obtain ⟨r5, I5, hh, h⟩ := bd_e h
        refine s_cV0 (st := []) C M.rg (Nat.le_trans (by decide) hd) mwX1_raise mlX1_72 dX1_lift_47 (wX1_raise (d := 2) (Nat.le_refl _) hx0 hh) hx0 rfl rfl (Nat.le_of_ble_eq_true rfl) ?_
        refine s_aload_n C dX1_lift_50 rfl rfl ?_
        refine s_iload C dX1_lift_51 rfl ?_
        refine s_aload_n C dX1_lift_53 rfl rfl ?_
        refine s_iload_n C dX1_lift_54 rfl rfl ?_
        obtain ⟨r6, I6, hh, h⟩ := bd_e h
        refine s_cV0 (st := [.int v1, rfX X x0]) C M.rg (Nat.le_trans (by decide) hd) mwX1_depthAt mlX1_29 dX1_lift_55 (wX1_depthAt (d := 1) (Nat.le_refl _) hx0 hh) hx0 rfl rfl (Nat.le_of_ble_eq_true rfl) ?_
        obtain ⟨r7, I7, hh, h⟩ := bd_e h
        refine s_cV0 (st := []) C M.rg (Nat.le_trans (by decide) hd) mwX1_setDepth mlX1_76 dX1_lift_58 (wX1_setDepth (d := 1) (Nat.le_refl _) hx0 hh) hx0 rfl rfl (Nat.le_of_ble_eq_true rfl) ?_
        refine s_goto (tgt := 70) C dX1_lift_61 (by decide) ?_
        refine s_weak (ls' := [some (rfX X x0), some (.int x1), none, none, none]) [true, true, false, false, false] rfl ?_
        exact wX1_lift_p70 hd C hx0 h M
  · have h := it_t c h
    obtain ⟨rfl, rfl⟩ := pr_e h
    exact s_vret C M dX1_lift_8 rfl (Nat.le_refl 0) (Nat.le_refl 0)
theorem wX1_topOf_p9 {X : Cx} {d : Nat} (hd : 2 ≤ d) (C : CtxOK X mX1_topOf) : ∀ (n : Nat) {x0 : Nat} {x2 : Int32} {x3 : Int32} {x4 : Int32} {I I' : Mm} {r : Int32} (hx0 : kd0 x0 = 1) (_ : fX1_topOf_p9 n x0 x2 x3 x4 I = some (r, I')) (_ : MX X (xE X) d 0 0 (some (.int r)) S0 I'), WM X mX1_topOf 9 [some (rfX X x0), none, some (.int x2), some (.int x3), some (.int x4)] [] S0 I 0 0 := by
  intro n
  induction n with
  | zero => intro x0 x2 x3 x4 I I' r hx0 h M; exact absurd h (by simp [fX1_topOf_p9])
  | succ n ih =>
    intro x0 x2 x3 x4 I I' r hx0 h M
    rw [fX1_topOf_p9] at h
    refine s_iload C dX1_topOf_9 rfl ?_
    refine s_iload_n C dX1_topOf_11 rfl rfl ?_
    refine s_icmp_gt (tgt := 52) C dX1_topOf_12 (by decide) (fun c => ?_) (fun c => ?_)
    · have h := it_t c h
      refine s_iload_n C dX1_topOf_52 rfl rfl ?_
      obtain ⟨rfl, rfl⟩ := pr_e h
      exact s_iret C M dX1_topOf_53 rfl rfl (Nat.le_refl 0) (Nat.le_refl 0)
    · have h := it_f c h
      refine s_iload C dX1_topOf_15 rfl ?_
      refine s_aload_n C dX1_topOf_17 rfl rfl ?_
      refine s_getI C dX1_topOf_18 hx0 foX1_21 rfl ?_
      refine s_icmp_ge (tgt := 52) C dX1_topOf_21 (by decide) (fun c => ?_) (fun c => ?_)
      · have h := it_t c h
        refine s_iload_n C dX1_topOf_52 rfl rfl ?_
        obtain ⟨rfl, rfl⟩ := pr_e h
        exact s_iret C M dX1_topOf_53 rfl rfl (Nat.le_refl 0) (Nat.le_refl 0)
      · have h := it_f c h
        refine s_iload_n C dX1_topOf_24 rfl rfl ?_
        refine s_iconst C dX1_topOf_25 ic_m1 ?_
        refine s_icmp_eq (tgt := 43) C dX1_topOf_26 (by decide) (fun c => ?_) (fun c => ?_)
        · have h := it_t c h
          refine s_iload C dX1_topOf_43 rfl ?_
          refine s_istore_n (ls' := [some (rfX X x0), none, some (.int x2), some (.int x4), some (.int x4)]) C dX1_topOf_45 rfl (by decide) (Nat.le_of_ble_eq_true rfl) rfl rfl ?_
          obtain ⟨v1, ev1, h⟩ := ltm_e h
          refine s_iinc (v := v1) (ls' := [some (rfX X x0), none, some (.int x2), some (.int x4), some (.int v1)]) C dX1_topOf_46 rfl (by decide) (Nat.le_of_ble_eq_true rfl) (by rw [ev1, ic_1]) rfl rfl ?_
          refine s_goto (tgt := 9) C dX1_topOf_49 (by decide) ?_
          exact ih hx0 h M
        · have h := it_f c h
          refine s_aload_n C dX1_topOf_29 rfl rfl ?_
          refine s_iload C dX1_topOf_30 rfl ?_
          obtain ⟨r1, I1, hh, h⟩ := bd_e h
          refine s_cV0 (st := []) C M.rg (Nat.le_trans (by decide) hd) mwX1_depthAt mlX1_29 dX1_topOf_32 (wX1_depthAt (d := 1) (Nat.le_refl _) hx0 hh) hx0 rfl rfl (Nat.le_of_ble_eq_true rfl) ?_
          refine s_aload_n C dX1_topOf_35 rfl rfl ?_
          refine s_iload_n C dX1_topOf_36 rfl rfl ?_
          obtain ⟨r2, I2, hh, h⟩ := bd_e h
          refine s_cV0 (st := [.int r1]) C M.rg (Nat.le_trans (by decide) hd) mwX1_depthAt mlX1_29 dX1_topOf_37 (wX1_depthAt (d := 1) (Nat.le_refl _) hx0 hh) hx0 rfl rfl (Nat.le_of_ble_eq_true rfl) ?_
          refine s_icmp_ge (tgt := 46) C dX1_topOf_40 (by decide) (fun c => ?_) (fun c => ?_)
          · have h := it_t c h
            obtain ⟨v1, ev1, h⟩ := ltm_e h
            refine s_iinc (v := v1) (ls' := [some (rfX X x0), none, some (.int x2), some (.int x3), some (.int v1)]) C dX1_topOf_46 rfl (by decide) (Nat.le_of_ble_eq_true rfl) (by rw [ev1, ic_1]) rfl rfl ?_
            refine s_goto (tgt := 9) C dX1_topOf_49 (by decide) ?_
            exact ih hx0 h M
          · have h := it_f c h
            refine s_iload C dX1_topOf_43 rfl ?_
            refine s_istore_n (ls' := [some (rfX X x0), none, some (.int x2), some (.int x4), some (.int x4)]) C dX1_topOf_45 rfl (by decide) (Nat.le_of_ble_eq_true rfl) rfl rfl ?_
            obtain ⟨v1, ev1, h⟩ := ltm_e h
            refine s_iinc (v := v1) (ls' := [some (rfX X x0), none, some (.int x2), some (.int x4), some (.int v1)]) C dX1_topOf_46 rfl (by decide) (Nat.le_of_ble_eq_true rfl) (by rw [ev1, ic_1]) rfl rfl ?_
            refine s_goto (tgt := 9) C dX1_topOf_49 (by decide) ?_
            exact ih hx0 h M
theorem wX1_topOf {E : Ev} {d : Nat} (hd : 2 ≤ d) {x0 : Nat} {x1 : Int32} {x2 : Int32} {I I' : Mm} {r : Int32} (hx0 : kd0 x0 = 1) (h : fX1_topOf x0 x1 x2 I = some (r, I')) : SemM E d 0 0 mX1_topOf [rfE E x0, .int x1, .int x2] S0 I (some (.int r)) S0 I' := by
  unfold fX1_topOf at h
  refine SemM.ofX (E := E) (y := mX1_topOf) (args := fun E => [rfE E x0, .int x1, .int x2]) (r := fun E => (some (.int r))) (fun E => [some (rfE E x0), some (.int x1), some (.int x2), none, none]) (by decide +kernel) (Nat.le_of_ble_eq_true rfl) rfl (fun X C M => ?_)
  refine s_iconst C dX1_topOf_0 ic_m1 ?_
  refine s_istore_n (ls' := [some (rfX X x0), some (.int x1), some (.int x2), some (.int (-1)), none]) C dX1_topOf_1 rfl (by decide) (Nat.le_of_ble_eq_true rfl) rfl rfl ?_
  refine s_iload_n C dX1_topOf_2 rfl rfl ?_
  refine s_iconst C dX1_topOf_3 ic_0 ?_
  refine s_max C M.rg (Nat.le_trans (by decide) hd) mlX1_32 dX1_topOf_4 w_max_s w_math_i w_max_c (Nat.le_of_ble_eq_true rfl) (Nat.le_refl 0) (Nat.le_refl 0) ?_
  obtain ⟨v1, ev1, h⟩ := ltm_e h
  refine s_top_i ev1 ?_
  refine s_istore (ls' := [some (rfX X x0), some (.int x1), some (.int x2), some (.int (-1)), some (.int v1)]) C dX1_topOf_7 (by decide) (Nat.le_of_ble_eq_true rfl) rfl rfl ?_
  refine s_weak (ls' := [some (rfX X x0), none, some (.int x2), some (.int (-1)), some (.int v1)]) [true, false, true, true, true] rfl ?_
  exact wX1_topOf_p9 hd C _ hx0 h M
theorem wX1_lighterByParts_p15 {X : Cx} {d : Nat} (hd : 3 ≤ d) (C : CtxOK X mX1_lighterByParts) : ∀ (n : Nat) {x0 : Nat} {x1 : Int32} {x2 : Int32} {x3 : Int32} {x4 : Int32} {x5 : Int32} {I I' : Mm} {r : Int32} (hx0 : kd0 x0 = 1) (_ : fX1_lighterByParts_p15 n x0 x1 x2 x3 x4 x5 I = some (r, I')) (_ : MX X (xE X) d 0 0 (some (.int r)) S0 I'), WM X mX1_lighterByParts 15 [some (rfX X x0), some (.int x1), some (.int x2), some (.int x3), some (.int x4), some (.int x5), none] [] S0 I 0 0 := by
  intro n
  induction n with
  | zero => intro x0 x1 x2 x3 x4 x5 I I' r hx0 h M; exact absurd h (by simp [fX1_lighterByParts_p15])
  | succ n ih =>
    intro x0 x1 x2 x3 x4 x5 I I' r hx0 h M
    rw [fX1_lighterByParts_p15] at h
    refine s_iload C dX1_lighterByParts_15 rfl ?_
    refine s_bipush C dX1_lighterByParts_17 bi_30 ?_
    refine s_icmp_ge (tgt := 76) C dX1_lighterByParts_19 (by decide) (fun c => ?_) (fun c => ?_)
    · have h := it_t c h
      refine s_iload_n C dX1_lighterByParts_76 rfl rfl ?_
      obtain ⟨rfl, rfl⟩ := pr_e h
      exact s_iret C M dX1_lighterByParts_77 rfl rfl (Nat.le_refl 0) (Nat.le_refl 0)
    · have h := it_f c h
      refine s_iload_n C dX1_lighterByParts_22 rfl rfl ?_
      refine s_iload C dX1_lighterByParts_23 rfl ?_
      refine s_icmp_gt (tgt := 76) C dX1_lighterByParts_25 (by decide) (fun c => ?_) (fun c => ?_)
      · have h := it_t c h
        refine s_iload_n C dX1_lighterByParts_76 rfl rfl ?_
        obtain ⟨rfl, rfl⟩ := pr_e h
        exact s_iret C M dX1_lighterByParts_77 rfl rfl (Nat.le_refl 0) (Nat.le_refl 0)
      · have h := it_f c h
        refine s_aload_n C dX1_lighterByParts_28 rfl rfl ?_
        refine s_iload_n C dX1_lighterByParts_29 rfl rfl ?_
        refine s_iload C dX1_lighterByParts_30 rfl ?_
        obtain ⟨r1, I1, hh, h⟩ := bd_e h
        refine s_cV0 (st := []) C M.rg (Nat.le_trans (by decide) hd) mwX1_topOf mlX1_55 dX1_lighterByParts_32 (wX1_topOf (d := 2) (Nat.le_refl _) hx0 hh) hx0 rfl rfl (Nat.le_of_ble_eq_true rfl) ?_
        refine s_istore (ls' := [some (rfX X x0), some (.int x1), some (.int x2), some (.int x3), some (.int x4), some (.int x5), some (.int r1)]) C dX1_lighterByParts_35 (by decide) (Nat.le_of_ble_eq_true rfl) rfl rfl ?_
        refine s_aload_n C dX1_lighterByParts_37 rfl rfl ?_
        refine s_iload C dX1_lighterByParts_38 rfl ?_
        obtain ⟨r2, I2, hh, h⟩ := bd_e h
        refine s_cV0 (st := []) C M.rg (Nat.le_trans (by decide) hd) mwX1_weightAt mlX1_25 dX1_lighterByParts_40 (wX1_weightAt (d := 1) (Nat.le_refl _) hx0 hh) hx0 rfl rfl (Nat.le_of_ble_eq_true rfl) ?_
        refine s_iload_n C dX1_lighterByParts_43 rfl rfl ?_
        refine s_icmp_ge (tgt := 64) C dX1_lighterByParts_44 (by decide) (fun c => ?_) (fun c => ?_)
        · have h := it_t c h
          refine s_iload C dX1_lighterByParts_64 rfl ?_
          refine s_iconst C dX1_lighterByParts_66 ic_1 ?_
          refine s_isub C dX1_lighterByParts_67 ?_
          obtain ⟨v1, ev1, h⟩ := ltm_e h
          refine s_top_i ev1 ?_
          refine s_istore (ls' := [some (rfX X x0), some (.int x1), some (.int x2), some (.int x3), some (.int v1), some (.int x5), some (.int r1)]) C dX1_lighterByParts_68 (by decide) (Nat.le_of_ble_eq_true rfl) rfl rfl ?_
          obtain ⟨v2, ev2, h⟩ := ltm_e h
          refine s_iinc (v := v2) (ls' := [some (rfX X x0), some (.int x1), some (.int x2), some (.int x3), some (.int v1), some (.int v2), some (.int r1)]) C dX1_lighterByParts_70 rfl (by decide) (Nat.le_of_ble_eq_true rfl) (by rw [ev2, ic_1]) rfl rfl ?_
          refine s_goto (tgt := 15) C dX1_lighterByParts_73 (by decide) ?_
          refine s_weak (ls' := [some (rfX X x0), some (.int x1), some (.int x2), some (.int x3), some (.int v1), some (.int v2), none]) [true, true, true, true, true, true, false] rfl ?_
          exact ih hx0 h M
        · have h := it_f c h
          refine s_iload_n C dX1_lighterByParts_47 rfl rfl ?_
          refine s_iload C dX1_lighterByParts_48 rfl ?_
          refine s_iload_n C dX1_lighterByParts_50 rfl rfl ?_
          refine s_isub C dX1_lighterByParts_51 ?_
          refine s_iconst C dX1_lighterByParts_52 ic_1 ?_
          refine s_iadd C dX1_lighterByParts_53 ?_
          refine s_iadd C dX1_lighterByParts_54 ?_
          obtain ⟨v1, ev1, h⟩ := ltm_e h
          refine s_top_i ev1 ?_
          refine s_istore_n (ls' := [some (rfX X x0), some (.int x1), some (.int v1), some (.int x3), some (.int x4), some (.int x5), some (.int r1)]) C dX1_lighterByParts_55 rfl (by decide) (Nat.le_of_ble_eq_true rfl) rfl rfl ?_
          refine s_iload C dX1_lighterByParts_56 rfl ?_
          refine s_iconst C dX1_lighterByParts_58 ic_1 ?_
          refine s_iadd C dX1_lighterByParts_59 ?_
          obtain ⟨v2, ev2, h⟩ := ltm_e h
          refine s_top_i ev2 ?_
          refine s_istore_n (ls' := [some (rfX X x0), some (.int x1), some (.int v1), some (.int v2), some (.int x4), some (.int x5), some (.int r1)]) C dX1_lighterByParts_60 rfl (by decide) (Nat.le_of_ble_eq_true rfl) rfl rfl ?_
          refine s_goto (tgt := 70) C dX1_lighterByParts_61 (by decide) ?_
          obtain ⟨v3, ev3, h⟩ := ltm_e h
          refine s_iinc (v := v3) (ls' := [some (rfX X x0), some (.int x1), some (.int v1), some (.int v2), some (.int x4), some (.int v3), some (.int r1)]) C dX1_lighterByParts_70 rfl (by decide) (Nat.le_of_ble_eq_true rfl) (by rw [ev3, ic_1]) rfl rfl ?_
          refine s_goto (tgt := 15) C dX1_lighterByParts_73 (by decide) ?_
          refine s_weak (ls' := [some (rfX X x0), some (.int x1), some (.int v1), some (.int v2), some (.int x4), some (.int v3), none]) [true, true, true, true, true, true, false] rfl ?_
          exact ih hx0 h M
theorem wX1_lighterByParts {E : Ev} {d : Nat} (hd : 3 ≤ d) {x0 : Nat} {x1 : Int32} {I I' : Mm} {r : Int32} (hx0 : kd0 x0 = 1) (h : fX1_lighterByParts x0 x1 I = some (r, I')) : SemM E d 0 0 mX1_lighterByParts [rfE E x0, .int x1] S0 I (some (.int r)) S0 I' := by
  unfold fX1_lighterByParts at h
  refine SemM.ofX (E := E) (y := mX1_lighterByParts) (args := fun E => [rfE E x0, .int x1]) (r := fun E => (some (.int r))) (fun E => [some (rfE E x0), some (.int x1), none, none, none, none, none]) (by decide +kernel) (Nat.le_of_ble_eq_true rfl) rfl (fun X C M => ?_)
  refine s_iconst C dX1_lighterByParts_0 ic_0 ?_
  refine s_istore_n (ls' := [some (rfX X x0), some (.int x1), some (.int 0), none, none, none, none]) C dX1_lighterByParts_1 rfl (by decide) (Nat.le_of_ble_eq_true rfl) rfl rfl ?_
  refine s_iconst C dX1_lighterByParts_2 ic_0 ?_
  refine s_istore_n (ls' := [some (rfX X x0), some (.int x1), some (.int 0), some (.int 0), none, none, none]) C dX1_lighterByParts_3 rfl (by decide) (Nat.le_of_ble_eq_true rfl) rfl rfl ?_
  refine s_aload_n C dX1_lighterByParts_4 rfl rfl ?_
  refine s_getI C dX1_lighterByParts_5 hx0 foX1_21 rfl ?_
  refine s_iconst C dX1_lighterByParts_8 ic_1 ?_
  refine s_isub C dX1_lighterByParts_9 ?_
  obtain ⟨v1, ev1, h⟩ := ltm_e h
  refine s_top_i ev1 ?_
  refine s_istore (ls' := [some (rfX X x0), some (.int x1), some (.int 0), some (.int 0), some (.int v1), none, none]) C dX1_lighterByParts_10 (by decide) (Nat.le_of_ble_eq_true rfl) rfl rfl ?_
  refine s_iconst C dX1_lighterByParts_12 ic_0 ?_
  refine s_istore (ls' := [some (rfX X x0), some (.int x1), some (.int 0), some (.int 0), some (.int v1), some (.int 0), none]) C dX1_lighterByParts_13 (by decide) (Nat.le_of_ble_eq_true rfl) rfl rfl ?_
  exact wX1_lighterByParts_p15 hd C _ hx0 h M
theorem wX1_loadsFrom_p9 {X : Cx} {d : Nat} (hd : 2 ≤ d) (C : CtxOK X mX1_loadsFrom) : ∀ (n : Nat) {x0 : Nat} {x2 : Int32} {x3 : Int32} {x4 : Int32} {I I' : Mm} {r : Int32} (hx0 : kd0 x0 = 1) (_ : fX1_loadsFrom_p9 n x0 x2 x3 x4 I = some (r, I')) (_ : MX X (xE X) d 0 0 (some (.int r)) S0 I'), WM X mX1_loadsFrom 9 [some (rfX X x0), none, some (.int x2), some (.int x3), some (.int x4)] [] S0 I 0 0 := by
  intro n
  induction n with
  | zero => intro x0 x2 x3 x4 I I' r hx0 h M; exact absurd h (by simp [fX1_loadsFrom_p9])
  | succ n ih =>
    intro x0 x2 x3 x4 I I' r hx0 h M
    rw [fX1_loadsFrom_p9] at h
    refine s_iload C dX1_loadsFrom_9 rfl ?_
    refine s_iload_n C dX1_loadsFrom_11 rfl rfl ?_
    refine s_icmp_gt (tgt := 39) C dX1_loadsFrom_12 (by decide) (fun c => ?_) (fun c => ?_)
    · have h := it_t c h
      refine s_iload_n C dX1_loadsFrom_39 rfl rfl ?_
      obtain ⟨rfl, rfl⟩ := pr_e h
      exact s_iret C M dX1_loadsFrom_40 rfl rfl (Nat.le_refl 0) (Nat.le_refl 0)
    · have h := it_f c h
      refine s_iload C dX1_loadsFrom_15 rfl ?_
      refine s_aload_n C dX1_loadsFrom_17 rfl rfl ?_
      refine s_getI C dX1_loadsFrom_18 hx0 foX1_21 rfl ?_
      refine s_icmp_ge (tgt := 39) C dX1_loadsFrom_21 (by decide) (fun c => ?_) (fun c => ?_)
      · have h := it_t c h
        refine s_iload_n C dX1_loadsFrom_39 rfl rfl ?_
        obtain ⟨rfl, rfl⟩ := pr_e h
        exact s_iret C M dX1_loadsFrom_40 rfl rfl (Nat.le_refl 0) (Nat.le_refl 0)
      · have h := it_f c h
        refine s_iload_n C dX1_loadsFrom_24 rfl rfl ?_
        refine s_aload_n C dX1_loadsFrom_25 rfl rfl ?_
        refine s_iload C dX1_loadsFrom_26 rfl ?_
        obtain ⟨r1, I1, hh, h⟩ := bd_e h
        refine s_cV0 (st := [.int x3]) C M.rg (Nat.le_trans (by decide) hd) mwX1_loadAt mlX1_48 dX1_loadsFrom_28 (wX1_loadAt (d := 1) (Nat.le_refl _) hx0 hh) hx0 rfl rfl (Nat.le_of_ble_eq_true rfl) ?_
        refine s_iadd C dX1_loadsFrom_31 ?_
        obtain ⟨v1, ev1, h⟩ := ltm_e h
        refine s_top_i ev1 ?_
        refine s_istore_n (ls' := [some (rfX X x0), none, some (.int x2), some (.int v1), some (.int x4)]) C dX1_loadsFrom_32 rfl (by decide) (Nat.le_of_ble_eq_true rfl) rfl rfl ?_
        obtain ⟨v2, ev2, h⟩ := ltm_e h
        refine s_iinc (v := v2) (ls' := [some (rfX X x0), none, some (.int x2), some (.int v1), some (.int v2)]) C dX1_loadsFrom_33 rfl (by decide) (Nat.le_of_ble_eq_true rfl) (by rw [ev2, ic_1]) rfl rfl ?_
        refine s_goto (tgt := 9) C dX1_loadsFrom_36 (by decide) ?_
        exact ih hx0 h M
theorem wX1_loadsFrom {E : Ev} {d : Nat} (hd : 2 ≤ d) {x0 : Nat} {x1 : Int32} {x2 : Int32} {I I' : Mm} {r : Int32} (hx0 : kd0 x0 = 1) (h : fX1_loadsFrom x0 x1 x2 I = some (r, I')) : SemM E d 0 0 mX1_loadsFrom [rfE E x0, .int x1, .int x2] S0 I (some (.int r)) S0 I' := by
  unfold fX1_loadsFrom at h
  refine SemM.ofX (E := E) (y := mX1_loadsFrom) (args := fun E => [rfE E x0, .int x1, .int x2]) (r := fun E => (some (.int r))) (fun E => [some (rfE E x0), some (.int x1), some (.int x2), none, none]) (by decide +kernel) (Nat.le_of_ble_eq_true rfl) rfl (fun X C M => ?_)
  refine s_iconst C dX1_loadsFrom_0 ic_0 ?_
  refine s_istore_n (ls' := [some (rfX X x0), some (.int x1), some (.int x2), some (.int 0), none]) C dX1_loadsFrom_1 rfl (by decide) (Nat.le_of_ble_eq_true rfl) rfl rfl ?_
  refine s_iload_n C dX1_loadsFrom_2 rfl rfl ?_
  refine s_iconst C dX1_loadsFrom_3 ic_0 ?_
  refine s_max C M.rg (Nat.le_trans (by decide) hd) mlX1_32 dX1_loadsFrom_4 w_max_s w_math_i w_max_c (Nat.le_of_ble_eq_true rfl) (Nat.le_refl 0) (Nat.le_refl 0) ?_
  obtain ⟨v1, ev1, h⟩ := ltm_e h
  refine s_top_i ev1 ?_
  refine s_istore (ls' := [some (rfX X x0), some (.int x1), some (.int x2), some (.int 0), some (.int v1)]) C dX1_loadsFrom_7 (by decide) (Nat.le_of_ble_eq_true rfl) rfl rfl ?_
  refine s_weak (ls' := [some (rfX X x0), none, some (.int x2), some (.int 0), some (.int v1)]) [true, false, true, true, true] rfl ?_
  exact wX1_loadsFrom_p9 hd C _ hx0 h M
theorem wX1_loadsOfLighter_p16 {X : Cx} {d : Nat} (hd : 3 ≤ d) (C : CtxOK X mX1_loadsOfLighter) : ∀ (n : Nat) {x0 : Nat} {x1 : Int64} {x3 : Int32} {x4 : Int32} {x5 : Int32} {x6 : Int32} {I I' : Mm} {r : Int32} (hx0 : kd0 x0 = 1) (_ : fX1_loadsOfLighter_p16 n x0 x1 x3 x4 x5 x6 I = some (r, I')) (_ : MX X (xE X) d 0 0 (some (.int r)) S0 I'), WM X mX1_loadsOfLighter 16 [some (rfX X x0), some (.long x1), none, some (.int x3), some (.int x4), some (.int x5), some (.int x6), none] [] S0 I 0 0 := by
  intro n
  induction n with
  | zero => intro x0 x1 x3 x4 x5 x6 I I' r hx0 h M; exact absurd h (by simp [fX1_loadsOfLighter_p16])
  | succ n ih =>
    intro x0 x1 x3 x4 x5 x6 I I' r hx0 h M
    rw [fX1_loadsOfLighter_p16] at h
    refine s_iload C dX1_loadsOfLighter_16 rfl ?_
    refine s_bipush C dX1_loadsOfLighter_18 bi_30 ?_
    refine s_icmp_ge (tgt := 84) C dX1_loadsOfLighter_20 (by decide) (fun c => ?_) (fun c => ?_)
    · have h := it_t c h
      refine s_iload_n C dX1_loadsOfLighter_84 rfl rfl ?_
      obtain ⟨rfl, rfl⟩ := pr_e h
      exact s_iret C M dX1_loadsOfLighter_85 rfl rfl (Nat.le_refl 0) (Nat.le_refl 0)
    · have h := it_f c h
      refine s_iload C dX1_loadsOfLighter_23 rfl ?_
      refine s_iload C dX1_loadsOfLighter_25 rfl ?_
      refine s_icmp_gt (tgt := 84) C dX1_loadsOfLighter_27 (by decide) (fun c => ?_) (fun c => ?_)
      · have h := it_t c h
        refine s_iload_n C dX1_loadsOfLighter_84 rfl rfl ?_
        obtain ⟨rfl, rfl⟩ := pr_e h
        exact s_iret C M dX1_loadsOfLighter_85 rfl rfl (Nat.le_refl 0) (Nat.le_refl 0)
      · have h := it_f c h
        refine s_aload_n C dX1_loadsOfLighter_30 rfl rfl ?_
        refine s_iload C dX1_loadsOfLighter_31 rfl ?_
        refine s_iload C dX1_loadsOfLighter_33 rfl ?_
        obtain ⟨r1, I1, hh, h⟩ := bd_e h
        refine s_cV0 (st := []) C M.rg (Nat.le_trans (by decide) hd) mwX1_topOf mlX1_55 dX1_loadsOfLighter_35 (wX1_topOf (d := 2) (Nat.le_refl _) hx0 hh) hx0 rfl rfl (Nat.le_of_ble_eq_true rfl) ?_
        refine s_istore (ls' := [some (rfX X x0), some (.long x1), none, some (.int x3), some (.int x4), some (.int x5), some (.int x6), some (.int r1)]) C dX1_loadsOfLighter_38 (by decide) (Nat.le_of_ble_eq_true rfl) rfl rfl ?_
        refine s_aload_n C dX1_loadsOfLighter_40 rfl rfl ?_
        refine s_iload C dX1_loadsOfLighter_41 rfl ?_
        obtain ⟨r2, I2, hh, h⟩ := bd_e h
        refine s_cV0 (st := []) C M.rg (Nat.le_trans (by decide) hd) mwX1_weightAt mlX1_25 dX1_loadsOfLighter_43 (wX1_weightAt (d := 1) (Nat.le_refl _) hx0 hh) hx0 rfl rfl (Nat.le_of_ble_eq_true rfl) ?_
        refine s_i2l C dX1_loadsOfLighter_46 ?_
        refine s_lload_n C dX1_loadsOfLighter_47 rfl rfl ?_
        refine s_lcmp C dX1_loadsOfLighter_48 ?_
        refine s_if_ge (tgt := 72) C dX1_loadsOfLighter_49 (by decide) (fun c => ?_) (fun c => ?_)
        · have h := it_t c h
          refine s_iload C dX1_loadsOfLighter_72 rfl ?_
          refine s_iconst C dX1_loadsOfLighter_74 ic_1 ?_
          refine s_isub C dX1_loadsOfLighter_75 ?_
          obtain ⟨v1, ev1, h⟩ := ltm_e h
          refine s_top_i ev1 ?_
          refine s_istore (ls' := [some (rfX X x0), some (.long x1), none, some (.int x3), some (.int x4), some (.int v1), some (.int x6), some (.int r1)]) C dX1_loadsOfLighter_76 (by decide) (Nat.le_of_ble_eq_true rfl) rfl rfl ?_
          obtain ⟨v2, ev2, h⟩ := ltm_e h
          refine s_iinc (v := v2) (ls' := [some (rfX X x0), some (.long x1), none, some (.int x3), some (.int x4), some (.int v1), some (.int v2), some (.int r1)]) C dX1_loadsOfLighter_78 rfl (by decide) (Nat.le_of_ble_eq_true rfl) (by rw [ev2, ic_1]) rfl rfl ?_
          refine s_goto (tgt := 16) C dX1_loadsOfLighter_81 (by decide) ?_
          refine s_weak (ls' := [some (rfX X x0), some (.long x1), none, some (.int x3), some (.int x4), some (.int v1), some (.int v2), none]) [true, true, false, true, true, true, true, false] rfl ?_
          exact ih hx0 h M
        · have h := it_f c h
          refine s_iload_n C dX1_loadsOfLighter_52 rfl rfl ?_
          refine s_aload_n C dX1_loadsOfLighter_53 rfl rfl ?_
          refine s_iload C dX1_loadsOfLighter_54 rfl ?_
          refine s_iload C dX1_loadsOfLighter_56 rfl ?_
          obtain ⟨r3, I3, hh, h⟩ := bd_e h
          refine s_cV0 (st := [.int x3]) C M.rg (Nat.le_trans (by decide) hd) mwX1_loadsFrom mlX1_62 dX1_loadsOfLighter_58 (wX1_loadsFrom (d := 2) (Nat.le_refl _) hx0 hh) hx0 rfl rfl (Nat.le_of_ble_eq_true rfl) ?_
          refine s_iadd C dX1_loadsOfLighter_61 ?_
          obtain ⟨v1, ev1, h⟩ := ltm_e h
          refine s_top_i ev1 ?_
          refine s_istore_n (ls' := [some (rfX X x0), some (.long x1), none, some (.int v1), some (.int x4), some (.int x5), some (.int x6), some (.int r1)]) C dX1_loadsOfLighter_62 rfl (by decide) (Nat.le_of_ble_eq_true rfl) rfl rfl ?_
          refine s_iload C dX1_loadsOfLighter_63 rfl ?_
          refine s_iconst C dX1_loadsOfLighter_65 ic_1 ?_
          refine s_iadd C dX1_loadsOfLighter_66 ?_
          obtain ⟨v2, ev2, h⟩ := ltm_e h
          refine s_top_i ev2 ?_
          refine s_istore (ls' := [some (rfX X x0), some (.long x1), none, some (.int v1), some (.int v2), some (.int x5), some (.int x6), some (.int r1)]) C dX1_loadsOfLighter_67 (by decide) (Nat.le_of_ble_eq_true rfl) rfl rfl ?_
          refine s_goto (tgt := 78) C dX1_loadsOfLighter_69 (by decide) ?_
          obtain ⟨v3, ev3, h⟩ := ltm_e h
          refine s_iinc (v := v3) (ls' := [some (rfX X x0), some (.long x1), none, some (.int v1), some (.int v2), some (.int x5), some (.int v3), some (.int r1)]) C dX1_loadsOfLighter_78 rfl (by decide) (Nat.le_of_ble_eq_true rfl) (by rw [ev3, ic_1]) rfl rfl ?_
          refine s_goto (tgt := 16) C dX1_loadsOfLighter_81 (by decide) ?_
          refine s_weak (ls' := [some (rfX X x0), some (.long x1), none, some (.int v1), some (.int v2), some (.int x5), some (.int v3), none]) [true, true, false, true, true, true, true, false] rfl ?_
          exact ih hx0 h M
theorem wX1_loadsOfLighter {E : Ev} {d : Nat} (hd : 3 ≤ d) {x0 : Nat} {x1 : Int64} {I I' : Mm} {r : Int32} (hx0 : kd0 x0 = 1) (h : fX1_loadsOfLighter x0 x1 I = some (r, I')) : SemM E d 0 0 mX1_loadsOfLighter [rfE E x0, .long x1] S0 I (some (.int r)) S0 I' := by
  unfold fX1_loadsOfLighter at h
  refine SemM.ofX (E := E) (y := mX1_loadsOfLighter) (args := fun E => [rfE E x0, .long x1]) (r := fun E => (some (.int r))) (fun E => [some (rfE E x0), some (.long x1), none, none, none, none, none, none]) (by decide +kernel) (Nat.le_of_ble_eq_true rfl) rfl (fun X C M => ?_)
  refine s_iconst C dX1_loadsOfLighter_0 ic_0 ?_
  refine s_istore_n (ls' := [some (rfX X x0), some (.long x1), none, some (.int 0), none, none, none, none]) C dX1_loadsOfLighter_1 rfl (by decide) (Nat.le_of_ble_eq_true rfl) rfl rfl ?_
  refine s_iconst C dX1_loadsOfLighter_2 ic_0 ?_
  refine s_istore (ls' := [some (rfX X x0), some (.long x1), none, some (.int 0), some (.int 0), none, none, none]) C dX1_loadsOfLighter_3 (by decide) (Nat.le_of_ble_eq_true rfl) rfl rfl ?_
  refine s_aload_n C dX1_loadsOfLighter_5 rfl rfl ?_
  refine s_getI C dX1_loadsOfLighter_6 hx0 foX1_21 rfl ?_
  refine s_iconst C dX1_loadsOfLighter_9 ic_1 ?_
  refine s_isub C dX1_loadsOfLighter_10 ?_
  obtain ⟨v1, ev1, h⟩ := ltm_e h
  refine s_top_i ev1 ?_
  refine s_istore (ls' := [some (rfX X x0), some (.long x1), none, some (.int 0), some (.int 0), some (.int v1), none, none]) C dX1_loadsOfLighter_11 (by decide) (Nat.le_of_ble_eq_true rfl) rfl rfl ?_
  refine s_iconst C dX1_loadsOfLighter_13 ic_0 ?_
  refine s_istore (ls' := [some (rfX X x0), some (.long x1), none, some (.int 0), some (.int 0), some (.int v1), some (.int 0), none]) C dX1_loadsOfLighter_14 (by decide) (Nat.le_of_ble_eq_true rfl) rfl rfl ?_
  exact wX1_loadsOfLighter_p16 hd C _ hx0 h M
theorem wX1_loadsByParts {E : Ev} {d : Nat} (hd : 4 ≤ d) {x0 : Nat} {x1 : Int32} {x2 : Int32} {I I' : Mm} {r : Int32} (hx0 : kd0 x0 = 1) (h : fX1_loadsByParts x0 x1 x2 I = some (r, I')) : SemM E d 0 0 mX1_loadsByParts [rfE E x0, .int x1, .int x2] S0 I (some (.int r)) S0 I' := by
  unfold fX1_loadsByParts at h
  refine SemM.ofX (E := E) (y := mX1_loadsByParts) (args := fun E => [rfE E x0, .int x1, .int x2]) (r := fun E => (some (.int r))) (fun E => [some (rfE E x0), some (.int x1), some (.int x2)]) (by decide +kernel) (Nat.le_of_ble_eq_true rfl) rfl (fun X C M => ?_)
  refine s_iload_n C dX1_loadsByParts_0 rfl rfl ?_
  refine s_iload_n C dX1_loadsByParts_1 rfl rfl ?_
  refine s_icmp_le (tgt := 9) C dX1_loadsByParts_2 (by decide) (fun c => ?_) (fun c => ?_)
  · have h := it_t c h
    refine s_aload_n C dX1_loadsByParts_9 rfl rfl ?_
    refine s_iload_n C dX1_loadsByParts_10 rfl rfl ?_
    refine s_i2l C dX1_loadsByParts_11 ?_
    refine s_lconst (v := 1) C dX1_loadsByParts_12 (by decide +kernel) ?_
    refine s_ladd C dX1_loadsByParts_13 ?_
    obtain ⟨r1, I1, hh, h⟩ := bd_e h
    refine s_cV0 (st := []) C M.rg (Nat.le_trans (by decide) hd) mwX1_loadsOfLighter mlX1_58 dX1_loadsByParts_14 (wX1_loadsOfLighter (d := 3) (Nat.le_refl _) hx0 hh) hx0 rfl rfl (Nat.le_of_ble_eq_true rfl) ?_
    refine s_aload_n C dX1_loadsByParts_17 rfl rfl ?_
    refine s_iload_n C dX1_loadsByParts_18 rfl rfl ?_
    refine s_i2l C dX1_loadsByParts_19 ?_
    obtain ⟨r2, I2, hh, h⟩ := bd_e h
    refine s_cV0 (st := [.int r1]) C M.rg (Nat.le_trans (by decide) hd) mwX1_loadsOfLighter mlX1_58 dX1_loadsByParts_20 (wX1_loadsOfLighter (d := 3) (Nat.le_refl _) hx0 hh) hx0 rfl rfl (Nat.le_of_ble_eq_true rfl) ?_
    refine s_isub C dX1_loadsByParts_23 ?_
    obtain ⟨rfl, rfl⟩ := pr_e h
    exact s_iret C M dX1_loadsByParts_24 rfl rfl (Nat.le_refl 0) (Nat.le_refl 0)
  · have h := it_f c h
    refine s_iconst C dX1_loadsByParts_5 ic_0 ?_
    refine s_goto (tgt := 24) C dX1_loadsByParts_6 (by decide) ?_
    obtain ⟨rfl, rfl⟩ := pr_e h
    exact s_iret C M dX1_loadsByParts_24 rfl rfl (Nat.le_refl 0) (Nat.le_refl 0)
theorem wX1_loadsOneByOne_p5 {X : Cx} {d : Nat} (hd : 2 ≤ d) (C : CtxOK X mX1_loadsOneByOne) : ∀ (n : Nat) {x0 : Nat} {x1 : Int32} {x2 : Int32} {x3 : Int32} {x4 : Int32} {I I' : Mm} {r : Int32} (hx0 : kd0 x0 = 1) (_ : fX1_loadsOneByOne_p5 n x0 x1 x2 x3 x4 I = some (r, I')) (_ : MX X (xE X) d 0 0 (some (.int r)) S0 I'), WM X mX1_loadsOneByOne 5 [some (rfX X x0), some (.int x1), some (.int x2), some (.int x3), some (.int x4)] [] S0 I 0 0 := by
  intro n
  induction n with
  | zero => intro x0 x1 x2 x3 x4 I I' r hx0 h M; exact absurd h (by simp [fX1_loadsOneByOne_p5])
  | succ n ih =>
    intro x0 x1 x2 x3 x4 I I' r hx0 h M
    rw [fX1_loadsOneByOne_p5] at h
    refine s_iload C dX1_loadsOneByOne_5 rfl ?_
    refine s_aload_n C dX1_loadsOneByOne_7 rfl rfl ?_
    refine s_getI C dX1_loadsOneByOne_8 hx0 foX1_21 rfl ?_
    refine s_icmp_ge (tgt := 49) C dX1_loadsOneByOne_11 (by decide) (fun c => ?_) (fun c => ?_)
    · have h := it_t c h
      refine s_iload_n C dX1_loadsOneByOne_49 rfl rfl ?_
      obtain ⟨rfl, rfl⟩ := pr_e h
      exact s_iret C M dX1_loadsOneByOne_50 rfl rfl (Nat.le_refl 0) (Nat.le_refl 0)
    · have h := it_f c h
      refine s_aload_n C dX1_loadsOneByOne_14 rfl rfl ?_
      refine s_iload C dX1_loadsOneByOne_15 rfl ?_
      obtain ⟨r1, I1, hh, h⟩ := bd_e h
      refine s_cV0 (st := []) C M.rg (Nat.le_trans (by decide) hd) mwX1_weightAt mlX1_25 dX1_loadsOneByOne_17 (wX1_weightAt (d := 1) (Nat.le_refl _) hx0 hh) hx0 rfl rfl (Nat.le_of_ble_eq_true rfl) ?_
      refine s_iload_n C dX1_loadsOneByOne_20 rfl rfl ?_
      refine s_icmp_lt (tgt := 43) C dX1_loadsOneByOne_21 (by decide) (fun c => ?_) (fun c => ?_)
      · have h := it_t c h
        obtain ⟨v1, ev1, h⟩ := ltm_e h
        refine s_iinc (v := v1) (ls' := [some (rfX X x0), some (.int x1), some (.int x2), some (.int x3), some (.int v1)]) C dX1_loadsOneByOne_43 rfl (by decide) (Nat.le_of_ble_eq_true rfl) (by rw [ev1, ic_1]) rfl rfl ?_
        refine s_goto (tgt := 5) C dX1_loadsOneByOne_46 (by decide) ?_
        exact ih hx0 h M
      · have h := it_f c h
        refine s_aload_n C dX1_loadsOneByOne_24 rfl rfl ?_
        refine s_iload C dX1_loadsOneByOne_25 rfl ?_
        obtain ⟨r2, I2, hh, h⟩ := bd_e h
        refine s_cV0 (st := []) C M.rg (Nat.le_trans (by decide) hd) mwX1_weightAt mlX1_25 dX1_loadsOneByOne_27 (wX1_weightAt (d := 1) (Nat.le_refl _) hx0 hh) hx0 rfl rfl (Nat.le_of_ble_eq_true rfl) ?_
        refine s_iload_n C dX1_loadsOneByOne_30 rfl rfl ?_
        refine s_icmp_gt (tgt := 43) C dX1_loadsOneByOne_31 (by decide) (fun c => ?_) (fun c => ?_)
        · have h := it_t c h
          obtain ⟨v1, ev1, h⟩ := ltm_e h
          refine s_iinc (v := v1) (ls' := [some (rfX X x0), some (.int x1), some (.int x2), some (.int x3), some (.int v1)]) C dX1_loadsOneByOne_43 rfl (by decide) (Nat.le_of_ble_eq_true rfl) (by rw [ev1, ic_1]) rfl rfl ?_
          refine s_goto (tgt := 5) C dX1_loadsOneByOne_46 (by decide) ?_
          exact ih hx0 h M
        · have h := it_f c h
          refine s_iload_n C dX1_loadsOneByOne_34 rfl rfl ?_
          refine s_aload_n C dX1_loadsOneByOne_35 rfl rfl ?_
          refine s_iload C dX1_loadsOneByOne_36 rfl ?_
          obtain ⟨r3, I3, hh, h⟩ := bd_e h
          refine s_cV0 (st := [.int x3]) C M.rg (Nat.le_trans (by decide) hd) mwX1_loadAt mlX1_48 dX1_loadsOneByOne_38 (wX1_loadAt (d := 1) (Nat.le_refl _) hx0 hh) hx0 rfl rfl (Nat.le_of_ble_eq_true rfl) ?_
          refine s_iadd C dX1_loadsOneByOne_41 ?_
          obtain ⟨v1, ev1, h⟩ := ltm_e h
          refine s_top_i ev1 ?_
          refine s_istore_n (ls' := [some (rfX X x0), some (.int x1), some (.int x2), some (.int v1), some (.int x4)]) C dX1_loadsOneByOne_42 rfl (by decide) (Nat.le_of_ble_eq_true rfl) rfl rfl ?_
          obtain ⟨v2, ev2, h⟩ := ltm_e h
          refine s_iinc (v := v2) (ls' := [some (rfX X x0), some (.int x1), some (.int x2), some (.int v1), some (.int v2)]) C dX1_loadsOneByOne_43 rfl (by decide) (Nat.le_of_ble_eq_true rfl) (by rw [ev2, ic_1]) rfl rfl ?_
          refine s_goto (tgt := 5) C dX1_loadsOneByOne_46 (by decide) ?_
          exact ih hx0 h M
theorem wX1_loadsOneByOne {E : Ev} {d : Nat} (hd : 2 ≤ d) {x0 : Nat} {x1 : Int32} {x2 : Int32} {I I' : Mm} {r : Int32} (hx0 : kd0 x0 = 1) (h : fX1_loadsOneByOne x0 x1 x2 I = some (r, I')) : SemM E d 0 0 mX1_loadsOneByOne [rfE E x0, .int x1, .int x2] S0 I (some (.int r)) S0 I' := by
  unfold fX1_loadsOneByOne at h
  refine SemM.ofX (E := E) (y := mX1_loadsOneByOne) (args := fun E => [rfE E x0, .int x1, .int x2]) (r := fun E => (some (.int r))) (fun E => [some (rfE E x0), some (.int x1), some (.int x2), none, none]) (by decide +kernel) (Nat.le_of_ble_eq_true rfl) rfl (fun X C M => ?_)
  refine s_iconst C dX1_loadsOneByOne_0 ic_0 ?_
  refine s_istore_n (ls' := [some (rfX X x0), some (.int x1), some (.int x2), some (.int 0), none]) C dX1_loadsOneByOne_1 rfl (by decide) (Nat.le_of_ble_eq_true rfl) rfl rfl ?_
  refine s_iconst C dX1_loadsOneByOne_2 ic_0 ?_
  refine s_istore (ls' := [some (rfX X x0), some (.int x1), some (.int x2), some (.int 0), some (.int 0)]) C dX1_loadsOneByOne_3 (by decide) (Nat.le_of_ble_eq_true rfl) rfl rfl ?_
  exact wX1_loadsOneByOne_p5 hd C _ hx0 h M
theorem wX1_lowest_p4 {X : Cx} {d : Nat} (hd : 2 ≤ d) (C : CtxOK X mX1_lowest) : ∀ (n : Nat) {x0 : Nat} {x1 : Int32} {x2 : Int32} {I I' : Mm} {r : Int32} (hx0 : kd0 x0 = 1) (_ : fX1_lowest_p4 n x0 x1 x2 I = some (r, I')) (_ : MX X (xE X) d 0 0 (some (.int r)) S0 I'), WM X mX1_lowest 4 [some (rfX X x0), some (.int x1), some (.int x2)] [] S0 I 0 0 := by
  intro n
  induction n with
  | zero => intro x0 x1 x2 I I' r hx0 h M; exact absurd h (by simp [fX1_lowest_p4])
  | succ n ih =>
    intro x0 x1 x2 I I' r hx0 h M
    rw [fX1_lowest_p4] at h
    refine s_iload_n C dX1_lowest_4 rfl rfl ?_
    refine s_aload_n C dX1_lowest_5 rfl rfl ?_
    refine s_getI C dX1_lowest_6 hx0 foX1_21 rfl ?_
    refine s_icmp_ge (tgt := 51) C dX1_lowest_9 (by decide) (fun c => ?_) (fun c => ?_)
    · have h := it_t c h
      refine s_iload_n C dX1_lowest_51 rfl rfl ?_
      obtain ⟨rfl, rfl⟩ := pr_e h
      exact s_iret C M dX1_lowest_52 rfl rfl (Nat.le_refl 0) (Nat.le_refl 0)
    · have h := it_f c h
      refine s_aload_n C dX1_lowest_12 rfl rfl ?_
      refine s_iload_n C dX1_lowest_13 rfl rfl ?_
      refine s_iconst C dX1_lowest_14 ic_1 ?_
      refine s_isub C dX1_lowest_15 ?_
      obtain ⟨r1, I1, hh, h⟩ := bd_e h
      refine s_cV0 (st := []) C M.rg (Nat.le_trans (by decide) hd) mwX1_depthAt mlX1_29 dX1_lowest_16 (wX1_depthAt (d := 1) (Nat.le_refl _) hx0 hh) hx0 rfl rfl (Nat.le_of_ble_eq_true rfl) ?_
      refine s_aload_n C dX1_lowest_19 rfl rfl ?_
      refine s_iload_n C dX1_lowest_20 rfl rfl ?_
      obtain ⟨r2, I2, hh, h⟩ := bd_e h
      refine s_cV0 (st := [.int r1]) C M.rg (Nat.le_trans (by decide) hd) mwX1_depthAt mlX1_29 dX1_lowest_21 (wX1_depthAt (d := 1) (Nat.le_refl _) hx0 hh) hx0 rfl rfl (Nat.le_of_ble_eq_true rfl) ?_
      refine s_icmp_gt (tgt := 45) C dX1_lowest_24 (by decide) (fun c => ?_) (fun c => ?_)
      · have h := it_t c h
        obtain ⟨v1, ev1, h⟩ := ltm_e h
        refine s_iinc (v := v1) (ls' := [some (rfX X x0), some (.int x1), some (.int v1)]) C dX1_lowest_45 rfl (by decide) (Nat.le_of_ble_eq_true rfl) (by rw [ev1, ic_1]) rfl rfl ?_
        refine s_goto (tgt := 4) C dX1_lowest_48 (by decide) ?_
        exact ih hx0 h M
      · have h := it_f c h
        refine s_aload_n C dX1_lowest_27 rfl rfl ?_
        refine s_iload_n C dX1_lowest_28 rfl rfl ?_
        refine s_iconst C dX1_lowest_29 ic_1 ?_
        refine s_iadd C dX1_lowest_30 ?_
        obtain ⟨r3, I3, hh, h⟩ := bd_e h
        refine s_cV0 (st := []) C M.rg (Nat.le_trans (by decide) hd) mwX1_depthAt mlX1_29 dX1_lowest_31 (wX1_depthAt (d := 1) (Nat.le_refl _) hx0 hh) hx0 rfl rfl (Nat.le_of_ble_eq_true rfl) ?_
        refine s_aload_n C dX1_lowest_34 rfl rfl ?_
        refine s_iload_n C dX1_lowest_35 rfl rfl ?_
        obtain ⟨r4, I4, hh, h⟩ := bd_e h
        refine s_cV0 (st := [.int r3]) C M.rg (Nat.le_trans (by decide) hd) mwX1_depthAt mlX1_29 dX1_lowest_36 (wX1_depthAt (d := 1) (Nat.le_refl _) hx0 hh) hx0 rfl rfl (Nat.le_of_ble_eq_true rfl) ?_
        refine s_icmp_gt (tgt := 45) C dX1_lowest_39 (by decide) (fun c => ?_) (fun c => ?_)
        · have h := it_t c h
          obtain ⟨v1, ev1, h⟩ := ltm_e h
          refine s_iinc (v := v1) (ls' := [some (rfX X x0), some (.int x1), some (.int v1)]) C dX1_lowest_45 rfl (by decide) (Nat.le_of_ble_eq_true rfl) (by rw [ev1, ic_1]) rfl rfl ?_
          refine s_goto (tgt := 4) C dX1_lowest_48 (by decide) ?_
          exact ih hx0 h M
        · have h := it_f c h
          obtain ⟨v1, ev1, h⟩ := ltm_e h
          refine s_iinc (v := v1) (ls' := [some (rfX X x0), some (.int v1), some (.int x2)]) C dX1_lowest_42 rfl (by decide) (Nat.le_of_ble_eq_true rfl) (by rw [ev1, ic_1]) rfl rfl ?_
          obtain ⟨v2, ev2, h⟩ := ltm_e h
          refine s_iinc (v := v2) (ls' := [some (rfX X x0), some (.int v1), some (.int v2)]) C dX1_lowest_45 rfl (by decide) (Nat.le_of_ble_eq_true rfl) (by rw [ev2, ic_1]) rfl rfl ?_
          refine s_goto (tgt := 4) C dX1_lowest_48 (by decide) ?_
          exact ih hx0 h M
theorem wX1_lowest {E : Ev} {d : Nat} (hd : 2 ≤ d) {x0 : Nat} {I I' : Mm} {r : Int32} (hx0 : kd0 x0 = 1) (h : fX1_lowest x0 I = some (r, I')) : SemM E d 0 0 mX1_lowest [rfE E x0] S0 I (some (.int r)) S0 I' := by
  unfold fX1_lowest at h
  refine SemM.ofX (E := E) (y := mX1_lowest) (args := fun E => [rfE E x0]) (r := fun E => (some (.int r))) (fun E => [some (rfE E x0), none, none]) (by decide +kernel) (Nat.le_of_ble_eq_true rfl) rfl (fun X C M => ?_)
  refine s_iconst C dX1_lowest_0 ic_0 ?_
  refine s_istore_n (ls' := [some (rfX X x0), some (.int 0), none]) C dX1_lowest_1 rfl (by decide) (Nat.le_of_ble_eq_true rfl) rfl rfl ?_
  refine s_iconst C dX1_lowest_2 ic_0 ?_
  refine s_istore_n (ls' := [some (rfX X x0), some (.int 0), some (.int 0)]) C dX1_lowest_3 rfl (by decide) (Nat.le_of_ble_eq_true rfl) rfl rfl ?_
  exact wX1_lowest_p4 hd C _ hx0 h M
theorem wX2_add {E : Ev} {d : Nat} (hd : 1 ≤ d) {x0 : Nat} {x1 : Int32} {I I' : Mm} {r : Int32} (hx0 : kd0 x0 = 2) (h : fX2_add x0 x1 I = some (r, I')) : SemM E d 0 0 mX2_add [rfE E x0, .int x1] S0 I (some (.int r)) S0 I' := by
  unfold fX2_add at h
  refine SemM.ofX (E := E) (y := mX2_add) (args := fun E => [rfE E x0, .int x1]) (r := fun E => (some (.int r))) (fun E => [some (rfE E x0), some (.int x1)]) (by decide +kernel) (Nat.le_of_ble_eq_true rfl) rfl (fun X C M => ?_)
  refine s_aload_n C dX2_add_0 rfl rfl ?_
  refine s_getI C dX2_add_1 hx0 foX2_15 rfl ?_
  refine s_if_lt (tgt := 16) C dX2_add_4 (by decide) (fun c => ?_) (fun c => ?_)
  · have h := it_t c h
    refine s_iconst C dX2_add_16 ic_0 ?_
    obtain ⟨rfl, rfl⟩ := pr_e h
    exact s_iret C M dX2_add_17 rfl (nz_b (by decide)) (Nat.le_refl 0) (Nat.le_refl 0)
  · have h := it_f c h
    refine s_aload_n C dX2_add_7 rfl rfl ?_
    refine s_getI C dX2_add_8 hx0 foX2_15 rfl ?_
    refine s_bipush C dX2_add_11 bi_60 ?_
    refine s_icmp_lt (tgt := 18) C dX2_add_13 (by decide) (fun c => ?_) (fun c => ?_)
    · have h := it_t c h
      refine s_aload_n C dX2_add_18 rfl rfl ?_
      refine s_getR (b := (x0 + 1)) C dX2_add_19 hx0 foX2_9 rfl (rr2 hx0) ?_
      refine s_aload_n C dX2_add_22 rfl rfl ?_
      refine s_getI C dX2_add_23 hx0 foX2_15 rfl ?_
      refine s_iload_n C dX2_add_26 rfl rfl ?_
      obtain ⟨hb, h⟩ := it_n h
      obtain ⟨I1, eI1, h⟩ := ltm_e h
      refine s_ast (q := (I x0 1).toNatClampNeg) C dX2_add_27 (kd2 hx0) (by decide) rfl hb eI1 ?_
      refine s_aload_n C dX2_add_28 rfl rfl ?_
      refine s_dup C dX2_add_29 rfl ?_
      refine s_getI C dX2_add_30 hx0 foX2_15 rfl ?_
      refine s_iconst C dX2_add_33 ic_1 ?_
      refine s_iadd C dX2_add_34 ?_
      obtain ⟨I2, eI2, h⟩ := ltm_e h
      refine s_putI C dX2_add_35 hx0 poX2_15 rfl eI2 ?_
      refine s_iconst C dX2_add_38 ic_1 ?_
      obtain ⟨rfl, rfl⟩ := pr_e h
      exact s_iret C M dX2_add_39 rfl (nz_b (by decide)) (Nat.le_refl 0) (Nat.le_refl 0)
    · have h := it_f c h
      refine s_iconst C dX2_add_16 ic_0 ?_
      obtain ⟨rfl, rfl⟩ := pr_e h
      exact s_iret C M dX2_add_17 rfl (nz_b (by decide)) (Nat.le_refl 0) (Nat.le_refl 0)
theorem wX2_addNumber_p21 {X : Cx} {d : Nat} (hd : 2 ≤ d) (C : CtxOK X mX2_addNumber) {x0 : Nat} {x1 : Int32} {I I' : Mm} {r : Unit} (hx0 : kd0 x0 = 2) (h : fX2_addNumber_p21 x0 x1 I = some (r, I')) (M : MX X (xE X) d 0 0 none S0 I') : WM X mX2_addNumber 21 [some (rfX X x0), some (.int x1)] [] S0 I 0 0 := by
  unfold fX2_addNumber_p21 at h
  refine s_iload_n C dX2_addNumber_21 rfl rfl ?_
  refine s_bipush C dX2_addNumber_22 bi_10 ?_
  refine s_icmp_lt (tgt := 42) C dX2_addNumber_24 (by decide) (fun c => ?_) (fun c => ?_)
  · have h := it_t c h
    refine s_aload_n C dX2_addNumber_42 rfl rfl ?_
    refine s_bipush C dX2_addNumber_43 bi_48 ?_
    refine s_iload_n C dX2_addNumber_45 rfl rfl ?_
    refine s_bipush C dX2_addNumber_46 bi_10 ?_
    refine s_irem C dX2_addNumber_48 (by decide) ?_
    refine s_iadd C dX2_addNumber_49 ?_
    obtain ⟨r1, I1, hh, h⟩ := bd_e h
    refine s_cV0 (st := []) C M.rg (Nat.le_trans (by decide) hd) mwX2_add mlX2_19 dX2_addNumber_50 (wX2_add (d := 1) (Nat.le_refl _) hx0 hh) hx0 rfl rfl (Nat.le_of_ble_eq_true rfl) ?_
    refine s_pop C dX2_addNumber_53 rfl ?_
    obtain ⟨rfl, rfl⟩ := pr_e h
    exact s_vret C M dX2_addNumber_54 rfl (Nat.le_refl 0) (Nat.le_refl 0)
  · have h := it_f c h
    refine s_aload_n C dX2_addNumber_27 rfl rfl ?_
    refine s_bipush C dX2_addNumber_28 bi_48 ?_
    refine s_iload_n C dX2_addNumber_30 rfl rfl ?_
    refine s_bipush C dX2_addNumber_31 bi_10 ?_
    refine s_idiv C dX2_addNumber_33 (by decide) ?_
    refine s_bipush C dX2_addNumber_34 bi_10 ?_
    refine s_irem C dX2_addNumber_36 (by decide) ?_
    refine s_iadd C dX2_addNumber_37 ?_
    obtain ⟨r1, I1, hh, h⟩ := bd_e h
    refine s_cV0 (st := []) C M.rg (Nat.le_trans (by decide) hd) mwX2_add mlX2_19 dX2_addNumber_38 (wX2_add (d := 1) (Nat.le_refl _) hx0 hh) hx0 rfl rfl (Nat.le_of_ble_eq_true rfl) ?_
    refine s_pop C dX2_addNumber_41 rfl ?_
    refine s_aload_n C dX2_addNumber_42 rfl rfl ?_
    refine s_bipush C dX2_addNumber_43 bi_48 ?_
    refine s_iload_n C dX2_addNumber_45 rfl rfl ?_
    refine s_bipush C dX2_addNumber_46 bi_10 ?_
    refine s_irem C dX2_addNumber_48 (by decide) ?_
    refine s_iadd C dX2_addNumber_49 ?_
    obtain ⟨r2, I2, hh, h⟩ := bd_e h
    refine s_cV0 (st := []) C M.rg (Nat.le_trans (by decide) hd) mwX2_add mlX2_19 dX2_addNumber_50 (wX2_add (d := 1) (Nat.le_refl _) hx0 hh) hx0 rfl rfl (Nat.le_of_ble_eq_true rfl) ?_
    refine s_pop C dX2_addNumber_53 rfl ?_
    obtain ⟨rfl, rfl⟩ := pr_e h
    exact s_vret C M dX2_addNumber_54 rfl (Nat.le_refl 0) (Nat.le_refl 0)
