theorem wL_areCarts_p48 {X : Cx} {d : Nat} (hd : 6 ≤ d) (C : CtxOK X mL_areCarts) {x1 : Int32} {x2 : Int32} {x3 : Int32} {x4 : Int32} {x5 : Int32} {s0 : Int32} {I I' : Mm} {r : Int32}  (h : fL_areCarts_p48 x1 x2 x3 x4 x5 s0 I = some (r, I')) (M : MX X (xE X) d 0 0 (some (.int r)) S0 I') : WM X mL_areCarts 48 [some (rfX X 0), some (.int x1), some (.int x2), some (.int x3), some (.int x4), some (.int x5), none, none, none, none] [.int s0] S0 I 0 0 := by
  unfold fL_areCarts_p48 at h
  refine s_istore (ls' := [some (rfX X 0), some (.int x1), some (.int x2), some (.int x3), some (.int x4), some (.int x5), some (.int s0), none, none, none]) C dL_areCarts_48 (by decide) (Nat.le_of_ble_eq_true rfl) rfl rfl ?_
  refine s_iconst C dL_areCarts_50 ic_0 ?_
  refine s_istore (ls' := [some (rfX X 0), some (.int x1), some (.int x2), some (.int x3), some (.int x4), some (.int x5), some (.int s0), some (.int 0), none, none]) C dL_areCarts_51 (by decide) (Nat.le_of_ble_eq_true rfl) rfl rfl ?_
  exact wL_areCarts_p53 hd C _  h M
theorem wL_areCarts_p47 {X : Cx} {d : Nat} (hd : 6 ≤ d) (C : CtxOK X mL_areCarts) {x1 : Int32} {x2 : Int32} {x3 : Int32} {x4 : Int32} {x5 : Int32} {I I' : Mm} {r : Int32}  (h : fL_areCarts_p47 x1 x2 x3 x4 x5 I = some (r, I')) (M : MX X (xE X) d 0 0 (some (.int r)) S0 I') : WM X mL_areCarts 47 [some (rfX X 0), some (.int x1), some (.int x2), some (.int x3), some (.int x4), some (.int x5), none, none, none, none] [] S0 I 0 0 := by
  unfold fL_areCarts_p47 at h
  refine s_iconst C dL_areCarts_47 ic_0 ?_
  exact wL_areCarts_p48 hd C  h M
theorem wL_areCarts_p40 {X : Cx} {d : Nat} (hd : 6 ≤ d) (C : CtxOK X mL_areCarts) {x1 : Int32} {x2 : Int32} {x3 : Int32} {x4 : Int32} {x5 : Int32} {s0 : Int32} {s1 : Int32} {I I' : Mm} {r : Int32}  (h : fL_areCarts_p40 x1 x2 x3 x4 x5 s0 s1 I = some (r, I')) (M : MX X (xE X) d 0 0 (some (.int r)) S0 I') : WM X mL_areCarts 40 [some (rfX X 0), some (.int x1), some (.int x2), some (.int x3), some (.int x4), some (.int x5), none, none, none, none] [.int s1, .int s0] S0 I 0 0 := by
  unfold fL_areCarts_p40 at h
  refine s_icmp_ne (tgt := 47) C dL_areCarts_40 (by decide) (fun c => ?_) (fun c => ?_)
  · have h := it_f c h
    exact wL_areCarts_p47 hd C  h M
  · have h := it_t c h
    refine s_iconst C dL_areCarts_43 ic_1 ?_
    refine s_goto (tgt := 48) C dL_areCarts_44 (by decide) ?_
    exact wL_areCarts_p48 hd C  h M
theorem wL_areCarts_p26 {X : Cx} {d : Nat} (hd : 6 ≤ d) (C : CtxOK X mL_areCarts) {x1 : Int32} {x2 : Int32} {x3 : Int32} {x4 : Int32} {x5 : Int32} {s0 : Int32} {I I' : Mm} {r : Int32}  (h : fL_areCarts_p26 x1 x2 x3 x4 x5 s0 I = some (r, I')) (M : MX X (xE X) d 0 0 (some (.int r)) S0 I') : WM X mL_areCarts 26 [some (rfX X 0), some (.int x1), some (.int x2), some (.int x3), some (.int x4), some (.int x5), none, none, none, none] [.int s0] S0 I 0 0 := by
  unfold fL_areCarts_p26 at h
  refine s_aload_n C dL_areCarts_26 rfl rfl ?_
  refine s_iload_n C dL_areCarts_27 rfl rfl ?_
  refine s_iconst C dL_areCarts_28 ic_0 ?_
  obtain ⟨r1, I1, hh, h⟩ := bd_e h
  refine s_cV0 (st := [.int s0]) C M.rg (Nat.le_trans (by decide) hd) mwX4_rickOf mlL_28 dL_areCarts_29 (wX4_rickOf (d := 5) (Nat.le_refl _)  hh) kk_0 rfl rfl (Nat.le_of_ble_eq_true rfl) ?_
  refine s_if_ne (tgt := 39) C dL_areCarts_32 (by decide) (fun c => ?_) (fun c => ?_)
  · have h := it_f c h
    refine s_iconst C dL_areCarts_39 ic_0 ?_
    exact wL_areCarts_p40 hd C  h M
  · have h := it_t c h
    refine s_iconst C dL_areCarts_35 ic_1 ?_
    refine s_goto (tgt := 40) C dL_areCarts_36 (by decide) ?_
    exact wL_areCarts_p40 hd C  h M
theorem wL_areCarts {E : Ev} {d : Nat} (hd : 6 ≤ d) {x1 : Int32} {x2 : Int32} {I I' : Mm} {r : Int32}  (h : fL_areCarts x1 x2 I = some (r, I')) : SemM E d 0 0 mL_areCarts [rfE E 0, .int x1, .int x2] S0 I (some (.int r)) S0 I' := by
  unfold fL_areCarts at h
  refine SemM.ofX (E := E) (y := mL_areCarts) (args := fun E => [rfE E 0, .int x1, .int x2]) (r := fun E => (some (.int r))) (fun E => [some (rfE E 0), some (.int x1), some (.int x2), none, none, none, none, none, none, none]) (by decide +kernel) (Nat.le_of_ble_eq_true rfl) rfl (fun X C M => ?_)
  refine s_aload_n C dL_areCarts_0 rfl rfl ?_
  refine s_iload_n C dL_areCarts_1 rfl rfl ?_
  refine s_iload_n C dL_areCarts_2 rfl rfl ?_
  obtain ⟨r1, I1, hh, h⟩ := bd_e h
  refine s_cV0 (st := []) C M.rg (Nat.le_trans (by decide) hd) mwX4_carts mlL_140 dL_areCarts_3 (wX4_carts (d := 3) (Nat.le_refl _)  hh) kk_0 rfl rfl (Nat.le_of_ble_eq_true rfl) ?_
  refine s_istore_n (ls' := [some (rfX X 0), some (.int x1), some (.int x2), some (.int r1), none, none, none, none, none, none]) C dL_areCarts_6 rfl (by decide) (Nat.le_of_ble_eq_true rfl) rfl rfl ?_
  refine s_iconst C dL_areCarts_7 ic_0 ?_
  refine s_istore (ls' := [some (rfX X 0), some (.int x1), some (.int x2), some (.int r1), some (.int 0), none, none, none, none, none]) C dL_areCarts_8 (by decide) (Nat.le_of_ble_eq_true rfl) rfl rfl ?_
  refine s_iconst C dL_areCarts_10 ic_0 ?_
  refine s_istore (ls' := [some (rfX X 0), some (.int x1), some (.int x2), some (.int r1), some (.int 0), some (.int 0), none, none, none, none]) C dL_areCarts_11 (by decide) (Nat.le_of_ble_eq_true rfl) rfl rfl ?_
  refine s_iload_n C dL_areCarts_13 rfl rfl ?_
  refine s_if_lt (tgt := 47) C dL_areCarts_14 (by decide) (fun c => ?_) (fun c => ?_)
  · have h := it_t c h
    exact wL_areCarts_p47 hd C  h M
  · have h := it_f c h
    refine s_iload_n C dL_areCarts_17 rfl rfl ?_
    refine s_if_ne (tgt := 25) C dL_areCarts_18 (by decide) (fun c => ?_) (fun c => ?_)
    · have h := it_f c h
      refine s_iconst C dL_areCarts_25 ic_0 ?_
      exact wL_areCarts_p26 hd C  h M
    · have h := it_t c h
      refine s_iconst C dL_areCarts_21 ic_1 ?_
      refine s_goto (tgt := 26) C dL_areCarts_22 (by decide) ?_
      exact wL_areCarts_p26 hd C  h M
theorem wX3_loads_p4 {X : Cx} {d : Nat} (hd : 3 ≤ d) (C : CtxOK X mX3_loads) : ∀ (n : Nat) {x0 : Nat} {x1 : Int32} {x2 : Int32} {I I' : Mm} {r : Int32} (hx0 : kd0 x0 = 3) (_ : fX3_loads_p4 n x0 x1 x2 I = some (r, I')) (_ : MX X (xE X) d 0 0 (some (.int r)) S0 I'), WM X mX3_loads 4 [some (rfX X x0), some (.int x1), some (.int x2), none] [] S0 I 0 0 := by
  intro n
  induction n with
  | zero => intro x0 x1 x2 I I' r hx0 h M; exact absurd h (by simp [fX3_loads_p4])
  | succ n ih =>
    intro x0 x1 x2 I I' r hx0 h M
    rw [fX3_loads_p4] at h
    refine s_iload_n C dX3_loads_4 rfl rfl ?_
    refine s_iconst C dX3_loads_5 ic_3 ?_
    refine s_icmp_ge (tgt := 39) C dX3_loads_6 (by decide) (fun c => ?_) (fun c => ?_)
    · have h := it_t c h
      refine s_iload_n C dX3_loads_39 rfl rfl ?_
      obtain ⟨rfl, rfl⟩ := pr_e h
      exact s_iret C M dX3_loads_40 rfl rfl (Nat.le_refl 0) (Nat.le_refl 0)
    · have h := it_f c h
      refine s_aload_n C dX3_loads_9 rfl rfl ?_
      refine s_iload_n C dX3_loads_10 rfl rfl ?_
      obtain ⟨r1, I1, hh, h⟩ := bd_e h
      refine s_cV0 (st := []) C M.rg (Nat.le_trans (by decide) hd) mwX3_rickAt mlX3_22 dX3_loads_11 (wX3_rickAt (d := 1) (Nat.le_refl _) hx0 hh) hx0 rfl rfl (Nat.le_of_ble_eq_true rfl) ?_
      refine s_astore_no (ls' := [some (rfX X x0), some (.int x1), some (.int x2), some (rvE (xE X) r1)]) C dX3_loads_14 rfl (by decide) (Nat.le_of_ble_eq_true rfl) rfl rfl ?_
      refine s_aload_no C dX3_loads_15 rfl rfl ?_
      cases r1 with
      | none =>
        have h := on_n h
        refine s_ifnullN (tgt := 33) C dX3_loads_16 (by decide) ?_
        obtain ⟨v1, ev1, h⟩ := ltm_e h
        refine s_iinc (v := v1) (ls' := [some (rfX X x0), some (.int x1), some (.int v1), some (.null)]) C dX3_loads_33 rfl (by decide) (Nat.le_of_ble_eq_true rfl) (by rw [ev1, ic_1]) rfl rfl ?_
        refine s_goto (tgt := 4) C dX3_loads_36 (by decide) ?_
        refine s_weak (ls' := [some (rfX X x0), some (.int x1), some (.int v1), none]) [true, true, true, false] rfl ?_
        exact ih hx0 h M
      | some q1 =>
        obtain ⟨hq1, h⟩ := it_s (on_s h)
        refine s_ifnull C dX3_loads_16 ?_
        refine s_iload_n C dX3_loads_19 rfl rfl ?_
        refine s_aload_n C dX3_loads_20 rfl rfl ?_
        refine s_iconst C dX3_loads_21 ic_0 ?_
        refine s_aload_n C dX3_loads_22 rfl rfl ?_
        refine s_getI C dX3_loads_23 hq1 foX3_26 rfl ?_
        refine s_iconst C dX3_loads_26 ic_1 ?_
        refine s_isub C dX3_loads_27 ?_
        obtain ⟨r2, I2, hh, h⟩ := bd_e h
        refine s_cV0 (st := [.int x1]) C M.rg (Nat.le_trans (by decide) hd) mwX1_loadsFrom mlX3_29 dX3_loads_28 (wX1_loadsFrom (d := 2) (Nat.le_refl _) hq1 hh) hq1 rfl rfl (Nat.le_of_ble_eq_true rfl) ?_
        refine s_iadd C dX3_loads_31 ?_
        obtain ⟨v1, ev1, h⟩ := ltm_e h
        refine s_top_i ev1 ?_
        refine s_istore_n (ls' := [some (rfX X x0), some (.int v1), some (.int x2), some (rfX X q1)]) C dX3_loads_32 rfl (by decide) (Nat.le_of_ble_eq_true rfl) rfl rfl ?_
        obtain ⟨v2, ev2, h⟩ := ltm_e h
        refine s_iinc (v := v2) (ls' := [some (rfX X x0), some (.int v1), some (.int v2), some (rfX X q1)]) C dX3_loads_33 rfl (by decide) (Nat.le_of_ble_eq_true rfl) (by rw [ev2, ic_1]) rfl rfl ?_
        refine s_goto (tgt := 4) C dX3_loads_36 (by decide) ?_
        refine s_weak (ls' := [some (rfX X x0), some (.int v1), some (.int v2), none]) [true, true, true, false] rfl ?_
        exact ih hx0 h M
theorem wX3_loads {E : Ev} {d : Nat} (hd : 3 ≤ d) {x0 : Nat} {I I' : Mm} {r : Int32} (hx0 : kd0 x0 = 3) (h : fX3_loads x0 I = some (r, I')) : SemM E d 0 0 mX3_loads [rfE E x0] S0 I (some (.int r)) S0 I' := by
  unfold fX3_loads at h
  refine SemM.ofX (E := E) (y := mX3_loads) (args := fun E => [rfE E x0]) (r := fun E => (some (.int r))) (fun E => [some (rfE E x0), none, none, none]) (by decide +kernel) (Nat.le_of_ble_eq_true rfl) rfl (fun X C M => ?_)
  refine s_iconst C dX3_loads_0 ic_0 ?_
  refine s_istore_n (ls' := [some (rfX X x0), some (.int 0), none, none]) C dX3_loads_1 rfl (by decide) (Nat.le_of_ble_eq_true rfl) rfl rfl ?_
  refine s_iconst C dX3_loads_2 ic_0 ?_
  refine s_istore_n (ls' := [some (rfX X x0), some (.int 0), some (.int 0), none]) C dX3_loads_3 rfl (by decide) (Nat.le_of_ble_eq_true rfl) rfl rfl ?_
  exact wX3_loads_p4 hd C _ hx0 h M
theorem wX4_account {E : Ev} {d : Nat} (hd : 4 ≤ d) {x1 : Int32} {I I' : Mm} {r : Int32}  (h : fX4_account x1 I = some (r, I')) : SemM E d 0 0 mX4_account [rfE E 0, .int x1] S0 I (some (.int r)) S0 I' := by
  unfold fX4_account at h
  refine SemM.ofX (E := E) (y := mX4_account) (args := fun E => [rfE E 0, .int x1]) (r := fun E => (some (.int r))) (fun E => [some (rfE E 0), some (.int x1)]) (by decide +kernel) (Nat.le_of_ble_eq_true rfl) rfl (fun X C M => ?_)
  refine s_iload_n C dX4_account_0 rfl rfl ?_
  by_cases c1 : x1 = 0
  · have h := it_t c1 h
    refine s_tableIn (off := 59) (tgt := 60) C dX4_account_1 (by rw [c1]; decide +kernel) (by rw [c1]; decide +kernel) (by rw [c1]; decide +kernel) (by decide) ?_
    refine s_aload_n C dX4_account_60 rfl rfl ?_
    refine s_getR (b := 1) C dX4_account_61 kk_0 foX4_10 rfl rk_0_0 ?_
    obtain ⟨r1, I1, hh, h⟩ := bd_e h
    refine s_cV0 (st := []) C M.rg (Nat.le_trans (by decide) hd) mwX3_sheaves mlX4_149 dX4_account_64 (wX3_sheaves (d := 2) (Nat.le_refl _) kk_1 hh) kk_1 rfl rfl (Nat.le_of_ble_eq_true rfl) ?_
    obtain ⟨rfl, rfl⟩ := pr_e h
    exact s_iret C M dX4_account_67 rfl rfl (Nat.le_refl 0) (Nat.le_refl 0)
  have h := it_f c1 h
  by_cases c2 : x1 = 1
  · have h := it_t c2 h
    refine s_tableIn (off := 67) (tgt := 68) C dX4_account_1 (by rw [c2]; decide +kernel) (by rw [c2]; decide +kernel) (by rw [c2]; decide +kernel) (by decide) ?_
    refine s_aload_n C dX4_account_68 rfl rfl ?_
    refine s_getR (b := 1) C dX4_account_69 kk_0 foX4_10 rfl rk_0_0 ?_
    obtain ⟨r1, I1, hh, h⟩ := bd_e h
    refine s_cV0 (st := []) C M.rg (Nat.le_trans (by decide) hd) mwX3_loads mlX4_206 dX4_account_72 (wX3_loads (d := 3) (Nat.le_refl _) kk_1 hh) kk_1 rfl rfl (Nat.le_of_ble_eq_true rfl) ?_
    obtain ⟨rfl, rfl⟩ := pr_e h
    exact s_iret C M dX4_account_75 rfl rfl (Nat.le_refl 0) (Nat.le_refl 0)
  have h := it_f c2 h
  by_cases c3 : x1 = 2
  · have h := it_t c3 h
    refine s_tableIn (off := 75) (tgt := 76) C dX4_account_1 (by rw [c3]; decide +kernel) (by rw [c3]; decide +kernel) (by rw [c3]; decide +kernel) (by decide) ?_
    refine s_aload_n C dX4_account_76 rfl rfl ?_
    refine s_getR (b := 1) C dX4_account_77 kk_0 foX4_10 rfl rk_0_0 ?_
    refine s_getI C dX4_account_80 kk_1 foX4_209 rfl ?_
    obtain ⟨rfl, rfl⟩ := pr_e h
    exact s_iret C M dX4_account_83 rfl rfl (Nat.le_refl 0) (Nat.le_refl 0)
  have h := it_f c3 h
  by_cases c4 : x1 = 3
  · have h := it_t c4 h
    refine s_tableIn (off := 83) (tgt := 84) C dX4_account_1 (by rw [c4]; decide +kernel) (by rw [c4]; decide +kernel) (by rw [c4]; decide +kernel) (by decide) ?_
    refine s_aload_n C dX4_account_84 rfl rfl ?_
    refine s_getR (b := 1) C dX4_account_85 kk_0 foX4_10 rfl rk_0_0 ?_
    refine s_getI C dX4_account_88 kk_1 foX4_212 rfl ?_
    obtain ⟨rfl, rfl⟩ := pr_e h
    exact s_iret C M dX4_account_91 rfl rfl (Nat.le_refl 0) (Nat.le_refl 0)
  have h := it_f c4 h
  by_cases c5 : x1 = 4
  · have h := it_t c5 h
    refine s_tableIn (off := 91) (tgt := 92) C dX4_account_1 (by rw [c5]; decide +kernel) (by rw [c5]; decide +kernel) (by rw [c5]; decide +kernel) (by decide) ?_
    refine s_aload_n C dX4_account_92 rfl rfl ?_
    refine s_getR (b := 1) C dX4_account_93 kk_0 foX4_10 rfl rk_0_0 ?_
    refine s_getI C dX4_account_96 kk_1 foX4_215 rfl ?_
    obtain ⟨rfl, rfl⟩ := pr_e h
    exact s_iret C M dX4_account_99 rfl rfl (Nat.le_refl 0) (Nat.le_refl 0)
  have h := it_f c5 h
  by_cases c6 : x1 = 5
  · have h := it_t c6 h
    refine s_tableIn (off := 99) (tgt := 100) C dX4_account_1 (by rw [c6]; decide +kernel) (by rw [c6]; decide +kernel) (by rw [c6]; decide +kernel) (by decide) ?_
    refine s_aload_n C dX4_account_100 rfl rfl ?_
    refine s_getR (b := 1) C dX4_account_101 kk_0 foX4_10 rfl rk_0_0 ?_
    refine s_getI C dX4_account_104 kk_1 foX4_218 rfl ?_
    obtain ⟨rfl, rfl⟩ := pr_e h
    exact s_iret C M dX4_account_107 rfl rfl (Nat.le_refl 0) (Nat.le_refl 0)
  have h := it_f c6 h
  by_cases c7 : x1 = 6
  · have h := it_t c7 h
    refine s_tableIn (off := 107) (tgt := 108) C dX4_account_1 (by rw [c7]; decide +kernel) (by rw [c7]; decide +kernel) (by rw [c7]; decide +kernel) (by decide) ?_
    refine s_aload_n C dX4_account_108 rfl rfl ?_
    refine s_getR (b := 1) C dX4_account_109 kk_0 foX4_10 rfl rk_0_0 ?_
    refine s_getI C dX4_account_112 kk_1 foX4_221 rfl ?_
    obtain ⟨rfl, rfl⟩ := pr_e h
    exact s_iret C M dX4_account_115 rfl rfl (Nat.le_refl 0) (Nat.le_refl 0)
  have h := it_f c7 h
  by_cases c8 : x1 = 7
  · have h := it_t c8 h
    refine s_tableIn (off := 115) (tgt := 116) C dX4_account_1 (by rw [c8]; decide +kernel) (by rw [c8]; decide +kernel) (by rw [c8]; decide +kernel) (by decide) ?_
    refine s_aload_n C dX4_account_116 rfl rfl ?_
    refine s_getR (b := 1) C dX4_account_117 kk_0 foX4_10 rfl rk_0_0 ?_
    refine s_getI C dX4_account_120 kk_1 foX4_224 rfl ?_
    obtain ⟨rfl, rfl⟩ := pr_e h
    exact s_iret C M dX4_account_123 rfl rfl (Nat.le_refl 0) (Nat.le_refl 0)
  have h := it_f c8 h
  by_cases c9 : x1 = 8
  · have h := it_t c9 h
    refine s_tableIn (off := 123) (tgt := 124) C dX4_account_1 (by rw [c9]; decide +kernel) (by rw [c9]; decide +kernel) (by rw [c9]; decide +kernel) (by decide) ?_
    refine s_aload_n C dX4_account_124 rfl rfl ?_
    refine s_getR (b := 1) C dX4_account_125 kk_0 foX4_10 rfl rk_0_0 ?_
    refine s_getI C dX4_account_128 kk_1 foX4_95 rfl ?_
    obtain ⟨rfl, rfl⟩ := pr_e h
    exact s_iret C M dX4_account_131 rfl rfl (Nat.le_refl 0) (Nat.le_refl 0)
  have h := it_f c9 h
  by_cases c10 : x1 = 9
  · have h := it_t c10 h
    refine s_tableIn (off := 131) (tgt := 132) C dX4_account_1 (by rw [c10]; decide +kernel) (by rw [c10]; decide +kernel) (by rw [c10]; decide +kernel) (by decide) ?_
    refine s_aload_n C dX4_account_132 rfl rfl ?_
    refine s_getR (b := 30) C dX4_account_133 kk_0 foX4_26 rfl rk_0_6 ?_
    refine s_getI C dX4_account_136 kk_30 foX4_180 rfl ?_
    obtain ⟨rfl, rfl⟩ := pr_e h
    exact s_iret C M dX4_account_139 rfl rfl (Nat.le_refl 0) (Nat.le_refl 0)
  have h := it_f c10 h
  by_cases c11 : x1 = 10
  · have h := it_t c11 h
    refine s_tableIn (off := 139) (tgt := 140) C dX4_account_1 (by rw [c11]; decide +kernel) (by rw [c11]; decide +kernel) (by rw [c11]; decide +kernel) (by decide) ?_
    refine s_aload_n C dX4_account_140 rfl rfl ?_
    refine s_getI C dX4_account_141 kk_0 foX4_227 rfl ?_
    obtain ⟨rfl, rfl⟩ := pr_e h
    exact s_iret C M dX4_account_144 rfl rfl (Nat.le_refl 0) (Nat.le_refl 0)
  have h := it_f c11 h
  refine s_tableOut (tgt := 145) C dX4_account_1 (by have := ne_i 0 (by decide +kernel) c1; have := ne_i 1 (by decide +kernel) c2; have := ne_i 2 (by decide +kernel) c3; have := ne_i 3 (by decide +kernel) c4; have := ne_i 4 (by decide +kernel) c5; have := ne_i 5 (by decide +kernel) c6; have := ne_i 6 (by decide +kernel) c7; have := ne_i 7 (by decide +kernel) c8; have := ne_i 8 (by decide +kernel) c9; have := ne_i 9 (by decide +kernel) c10; have := ne_i 10 (by decide +kernel) c11; omega) (by decide) ?_
  refine s_bipush C dX4_account_145 bi_m12 ?_
  obtain ⟨rfl, rfl⟩ := pr_e h
  exact s_iret C M dX4_account_147 rfl rfl (Nat.le_refl 0) (Nat.le_refl 0)
theorem wX3_keyAfter_p20 {X : Cx} {d : Nat} (hd : 2 ≤ d) (hR : RG X d 0 0) (C : CtxOK X mX3_keyAfter) : ∀ (n : Nat) {x0 : Nat} {x1 : Int32} {x2 : Int32} {x3 : Int32} {x4 : Option Nat} {x5 : Int32} {I I' : Mm} {u : Int32} (hx0 : kd0 x0 = 3) (_ : fX3_keyAfter_p20 n x0 x1 x2 x3 x4 x5 I = some (u, I')) (_ : WM X mX3_keyAfter 88 [some (rfX X x0), some (.int x1), some (.int u), some (.int x3), none, none, none, none] [] S0 I' 0 0), WM X mX3_keyAfter 20 [some (rfX X x0), some (.int x1), some (.int x2), some (.int x3), some (rvE (xE X) x4), some (.int x5), none, none] [] S0 I 0 0 := by
  intro n
  induction n with
  | zero => intro x0 x1 x2 x3 x4 x5 I I' u hx0 h K; exact absurd h (by simp [fX3_keyAfter_p20])
  | succ n ih =>
    intro x0 x1 x2 x3 x4 x5 I I' u hx0 h K
    rw [fX3_keyAfter_p20] at h
    refine s_aload_o C dX3_keyAfter_20 rfl ?_
    cases x4 with
    | none =>
      have h := on_n h
      refine s_ifnullN (tgt := 88) C dX3_keyAfter_22 (by decide) ?_
      obtain ⟨rfl, rfl⟩ := pr_e h
      refine s_weak (ls' := [some (rfX X x0), some (.int x1), some (.int x2), some (.int x3), none, none, none, none]) [true, true, true, true, false, false, false, false] rfl ?_
      exact K
    | some q1 =>
      obtain ⟨hq1, h⟩ := it_s (on_s h)
      refine s_ifnull C dX3_keyAfter_22 ?_
      refine s_iload C dX3_keyAfter_25 rfl ?_
      refine s_aload C dX3_keyAfter_27 rfl ?_
      refine s_getI C dX3_keyAfter_29 hq1 foX3_26 rfl ?_
      refine s_icmp_ge (tgt := 88) C dX3_keyAfter_32 (by decide) (fun c => ?_) (fun c => ?_)
      · have h := it_t c h
        obtain ⟨rfl, rfl⟩ := pr_e h
        refine s_weak (ls' := [some (rfX X x0), some (.int x1), some (.int x2), some (.int x3), none, none, none, none]) [true, true, true, true, false, false, false, false] rfl ?_
        exact K
      · have h := it_f c h
        refine s_bipush C dX3_keyAfter_35 bi_99 ?_
        refine s_aload C dX3_keyAfter_37 rfl ?_
        refine s_iload C dX3_keyAfter_39 rfl ?_
        obtain ⟨r1, I1, hh, h⟩ := bd_e h
        refine s_cV0 (st := [.int 99]) C hR (Nat.le_trans (by decide) hd) mwX1_loadAt mlX3_36 dX3_keyAfter_41 (wX1_loadAt (d := 1) (Nat.le_refl _) hq1 hh) hq1 rfl rfl (Nat.le_of_ble_eq_true rfl) ?_
        refine s_isub C dX3_keyAfter_44 ?_
        obtain ⟨v1, ev1, h⟩ := ltm_e h
        refine s_top_i ev1 ?_
        refine s_istore (ls' := [some (rfX X x0), some (.int x1), some (.int x2), some (.int x3), some (rfX X q1), some (.int x5), some (.int v1), none]) C dX3_keyAfter_45 (by decide) (Nat.le_of_ble_eq_true rfl) rfl rfl ?_
        refine s_iload C dX3_keyAfter_47 rfl ?_
        refine s_sipush C dX3_keyAfter_49 si_1000 ?_
        refine s_imul C dX3_keyAfter_52 ?_
        refine s_aload C dX3_keyAfter_53 rfl ?_
        refine s_iload C dX3_keyAfter_55 rfl ?_
        obtain ⟨r2, I2, hh, h⟩ := bd_e h
        refine s_cV0 (st := [.int (v1 * 1000)]) C hR (Nat.le_trans (by decide) hd) mwX1_weightAt mlX3_40 dX3_keyAfter_57 (wX1_weightAt (d := 1) (Nat.le_refl _) hq1 hh) hq1 rfl rfl (Nat.le_of_ble_eq_true rfl) ?_
        refine s_iadd C dX3_keyAfter_60 ?_
        refine s_iconst C dX3_keyAfter_61 ic_3 ?_
        refine s_imul C dX3_keyAfter_62 ?_
        refine s_iload_n C dX3_keyAfter_63 rfl rfl ?_
        refine s_iadd C dX3_keyAfter_64 ?_
        obtain ⟨v2, ev2, h⟩ := ltm_e h
        refine s_top_i ev2 ?_
        refine s_istore (ls' := [some (rfX X x0), some (.int x1), some (.int x2), some (.int x3), some (rfX X q1), some (.int x5), some (.int v1), some (.int v2)]) C dX3_keyAfter_65 (by decide) (Nat.le_of_ble_eq_true rfl) rfl rfl ?_
        refine s_iload C dX3_keyAfter_67 rfl ?_
        refine s_iload_n C dX3_keyAfter_69 rfl rfl ?_
        refine s_icmp_le (tgt := 82) C dX3_keyAfter_70 (by decide) (fun c => ?_) (fun c => ?_)
        · have h := it_t c h
          obtain ⟨v3, ev3, h⟩ := ltm_e h
          refine s_iinc (v := v3) (ls' := [some (rfX X x0), some (.int x1), some (.int x2), some (.int x3), some (rfX X q1), some (.int v3), some (.int v1), some (.int v2)]) C dX3_keyAfter_82 rfl (by decide) (Nat.le_of_ble_eq_true rfl) (by rw [ev3, ic_1]) rfl rfl ?_
          refine s_goto (tgt := 20) C dX3_keyAfter_85 (by decide) ?_
          refine s_weak (ls' := [some (rfX X x0), some (.int x1), some (.int x2), some (.int x3), some (rfX X q1), some (.int v3), none, none]) [true, true, true, true, true, true, false, false] rfl ?_
          exact ih hx0 h K
        · have h := it_f c h
          refine s_iload C dX3_keyAfter_73 rfl ?_
          refine s_iload_n C dX3_keyAfter_75 rfl rfl ?_
          refine s_icmp_ge (tgt := 82) C dX3_keyAfter_76 (by decide) (fun c => ?_) (fun c => ?_)
          · have h := it_t c h
            obtain ⟨v3, ev3, h⟩ := ltm_e h
            refine s_iinc (v := v3) (ls' := [some (rfX X x0), some (.int x1), some (.int x2), some (.int x3), some (rfX X q1), some (.int v3), some (.int v1), some (.int v2)]) C dX3_keyAfter_82 rfl (by decide) (Nat.le_of_ble_eq_true rfl) (by rw [ev3, ic_1]) rfl rfl ?_
            refine s_goto (tgt := 20) C dX3_keyAfter_85 (by decide) ?_
            refine s_weak (ls' := [some (rfX X x0), some (.int x1), some (.int x2), some (.int x3), some (rfX X q1), some (.int v3), none, none]) [true, true, true, true, true, true, false, false] rfl ?_
            exact ih hx0 h K
          · have h := it_f c h
            refine s_iload C dX3_keyAfter_79 rfl ?_
            refine s_istore_n (ls' := [some (rfX X x0), some (.int x1), some (.int v2), some (.int x3), some (rfX X q1), some (.int x5), some (.int v1), some (.int v2)]) C dX3_keyAfter_81 rfl (by decide) (Nat.le_of_ble_eq_true rfl) rfl rfl ?_
            obtain ⟨v3, ev3, h⟩ := ltm_e h
            refine s_iinc (v := v3) (ls' := [some (rfX X x0), some (.int x1), some (.int v2), some (.int x3), some (rfX X q1), some (.int v3), some (.int v1), some (.int v2)]) C dX3_keyAfter_82 rfl (by decide) (Nat.le_of_ble_eq_true rfl) (by rw [ev3, ic_1]) rfl rfl ?_
            refine s_goto (tgt := 20) C dX3_keyAfter_85 (by decide) ?_
            refine s_weak (ls' := [some (rfX X x0), some (.int x1), some (.int v2), some (.int x3), some (rfX X q1), some (.int v3), none, none]) [true, true, true, true, true, true, false, false] rfl ?_
            exact ih hx0 h K
theorem wX3_keyAfter_p5 {X : Cx} {d : Nat} (hd : 2 ≤ d) (C : CtxOK X mX3_keyAfter) : ∀ (n : Nat) {x0 : Nat} {x1 : Int32} {x2 : Int32} {x3 : Int32} {I I' : Mm} {r : Int32} (hx0 : kd0 x0 = 3) (_ : fX3_keyAfter_p5 n x0 x1 x2 x3 I = some (r, I')) (_ : MX X (xE X) d 0 0 (some (.int r)) S0 I'), WM X mX3_keyAfter 5 [some (rfX X x0), some (.int x1), some (.int x2), some (.int x3), none, none, none, none] [] S0 I 0 0 := by
  intro n
  induction n with
  | zero => intro x0 x1 x2 x3 I I' r hx0 h M; exact absurd h (by simp [fX3_keyAfter_p5])
  | succ n ih =>
    intro x0 x1 x2 x3 I I' r hx0 h M
    rw [fX3_keyAfter_p5] at h
    refine s_iload_n C dX3_keyAfter_5 rfl rfl ?_
    refine s_iconst C dX3_keyAfter_6 ic_3 ?_
    refine s_icmp_ge (tgt := 94) C dX3_keyAfter_7 (by decide) (fun c => ?_) (fun c => ?_)
    · have h := it_t c h
      refine s_iload_n C dX3_keyAfter_94 rfl rfl ?_
      obtain ⟨rfl, rfl⟩ := pr_e h
      exact s_iret C M dX3_keyAfter_95 rfl rfl (Nat.le_refl 0) (Nat.le_refl 0)
    · have h := it_f c h
      refine s_aload_n C dX3_keyAfter_10 rfl rfl ?_
      refine s_iload_n C dX3_keyAfter_11 rfl rfl ?_
      obtain ⟨r1, I1, hh, h⟩ := bd_e h
      refine s_cV0 (st := []) C M.rg (Nat.le_trans (by decide) hd) mwX3_rickAt mlX3_22 dX3_keyAfter_12 (wX3_rickAt (d := 1) (Nat.le_refl _) hx0 hh) hx0 rfl rfl (Nat.le_of_ble_eq_true rfl) ?_
      refine s_astore_o (ls' := [some (rfX X x0), some (.int x1), some (.int x2), some (.int x3), some (rvE (xE X) r1), none, none, none]) C dX3_keyAfter_15 (by decide) (Nat.le_of_ble_eq_true rfl) rfl rfl ?_
      refine s_iconst C dX3_keyAfter_17 ic_0 ?_
      refine s_istore (ls' := [some (rfX X x0), some (.int x1), some (.int x2), some (.int x3), some (rvE (xE X) r1), some (.int 0), none, none]) C dX3_keyAfter_18 (by decide) (Nat.le_of_ble_eq_true rfl) (ok_o rfl rfl) rfl ?_
      obtain ⟨u1, I2, hh, h⟩ := bd_e h
      refine wX3_keyAfter_p20 hd M.rg C _ hx0 hh ?_
      obtain ⟨v1, ev1, h⟩ := ltm_e h
      refine s_iinc (v := v1) (ls' := [some (rfX X x0), some (.int x1), some (.int u1), some (.int v1), none, none, none, none]) C dX3_keyAfter_88 rfl (by decide) (Nat.le_of_ble_eq_true rfl) (by rw [ev1, ic_1]) rfl rfl ?_
      refine s_goto (tgt := 5) C dX3_keyAfter_91 (by decide) ?_
      exact ih hx0 h M
theorem wX3_keyAfter {E : Ev} {d : Nat} (hd : 2 ≤ d) {x0 : Nat} {x1 : Int32} {I I' : Mm} {r : Int32} (hx0 : kd0 x0 = 3) (h : fX3_keyAfter x0 x1 I = some (r, I')) : SemM E d 0 0 mX3_keyAfter [rfE E x0, .int x1] S0 I (some (.int r)) S0 I' := by
  unfold fX3_keyAfter at h
  refine SemM.ofX (E := E) (y := mX3_keyAfter) (args := fun E => [rfE E x0, .int x1]) (r := fun E => (some (.int r))) (fun E => [some (rfE E x0), some (.int x1), none, none, none, none, none, none]) (by decide +kernel) (Nat.le_of_ble_eq_true rfl) rfl (fun X C M => ?_)
  refine s_ldc C dX3_keyAfter_0 coX3_35 ?_
  refine s_istore_n (ls' := [some (rfX X x0), some (.int x1), some (.int 2147483647), none, none, none, none, none]) C dX3_keyAfter_2 rfl (by decide) (Nat.le_of_ble_eq_true rfl) rfl rfl ?_
  refine s_iconst C dX3_keyAfter_3 ic_0 ?_
  refine s_istore_n (ls' := [some (rfX X x0), some (.int x1), some (.int 2147483647), some (.int 0), none, none, none, none]) C dX3_keyAfter_4 rfl (by decide) (Nat.le_of_ble_eq_true rfl) rfl rfl ?_
  exact wX3_keyAfter_p5 hd C _ hx0 h M
theorem wX4_heaviest_p22 {X : Cx} {d : Nat} (hd : 3 ≤ d) (C : CtxOK X mX4_heaviest) : ∀ (n : Nat) {x1 : Int32} {x2 : Int32} {x3 : Int32} {I I' : Mm} {r : Int32}  (_ : fX4_heaviest_p22 n x1 x2 x3 I = some (r, I')) (_ : MX X (xE X) d 0 0 (some (.int r)) S0 I'), WM X mX4_heaviest 22 [some (rfX X 0), some (.int x1), some (.int x2), some (.int x3)] [] S0 I 0 0 := by
  intro n
  induction n with
  | zero => intro x1 x2 x3 I I' r  h M; exact absurd h (by simp [fX4_heaviest_p22])
  | succ n ih =>
    intro x1 x2 x3 I I' r  h M
    rw [fX4_heaviest_p22] at h
    refine s_iload_n C dX4_heaviest_22 rfl rfl ?_
    refine s_iload_n C dX4_heaviest_23 rfl rfl ?_
    refine s_icmp_gt (tgt := 42) C dX4_heaviest_24 (by decide) (fun c => ?_) (fun c => ?_)
    · have h := it_t c h
      refine s_iload_n C dX4_heaviest_42 rfl rfl ?_
      refine s_iconst C dX4_heaviest_43 ic_3 ?_
      refine s_irem C dX4_heaviest_44 (by decide) ?_
      refine s_sipush C dX4_heaviest_45 si_1000 ?_
      refine s_imul C dX4_heaviest_48 ?_
      refine s_iload_n C dX4_heaviest_49 rfl rfl ?_
      refine s_iconst C dX4_heaviest_50 ic_3 ?_
      refine s_idiv C dX4_heaviest_51 (by decide) ?_
      refine s_sipush C dX4_heaviest_52 si_1000 ?_
      refine s_irem C dX4_heaviest_55 (by decide) ?_
      refine s_iadd C dX4_heaviest_56 ?_
      obtain ⟨rfl, rfl⟩ := pr_e h
      exact s_iret C M dX4_heaviest_57 rfl rfl (Nat.le_refl 0) (Nat.le_refl 0)
    · have h := it_f c h
      refine s_aload_n C dX4_heaviest_27 rfl rfl ?_
      refine s_getR (b := 1) C dX4_heaviest_28 kk_0 foX4_10 rfl rk_0_0 ?_
      refine s_iload_n C dX4_heaviest_31 rfl rfl ?_
      obtain ⟨r1, I1, hh, h⟩ := bd_e h
      refine s_cV0 (st := []) C M.rg (Nat.le_trans (by decide) hd) mwX3_keyAfter mlX4_152 dX4_heaviest_32 (wX3_keyAfter (d := 2) (Nat.le_refl _) kk_1 hh) kk_1 rfl rfl (Nat.le_of_ble_eq_true rfl) ?_
      refine s_istore_n (ls' := [some (rfX X 0), some (.int x1), some (.int r1), some (.int x3)]) C dX4_heaviest_35 rfl (by decide) (Nat.le_of_ble_eq_true rfl) rfl rfl ?_
      obtain ⟨v1, ev1, h⟩ := ltm_e h
      refine s_iinc (v := v1) (ls' := [some (rfX X 0), some (.int x1), some (.int r1), some (.int v1)]) C dX4_heaviest_36 rfl (by decide) (Nat.le_of_ble_eq_true rfl) (by rw [ev1, ic_1]) rfl rfl ?_
      refine s_goto (tgt := 22) C dX4_heaviest_39 (by decide) ?_
      exact ih  h M
theorem wX4_heaviest {E : Ev} {d : Nat} (hd : 3 ≤ d) {x1 : Int32} {I I' : Mm} {r : Int32}  (h : fX4_heaviest x1 I = some (r, I')) : SemM E d 0 0 mX4_heaviest [rfE E 0, .int x1] S0 I (some (.int r)) S0 I' := by
  unfold fX4_heaviest at h
  refine SemM.ofX (E := E) (y := mX4_heaviest) (args := fun E => [rfE E 0, .int x1]) (r := fun E => (some (.int r))) (fun E => [some (rfE E 0), some (.int x1), none, none]) (by decide +kernel) (Nat.le_of_ble_eq_true rfl) rfl (fun X C M => ?_)
  refine s_iload_n C dX4_heaviest_0 rfl rfl ?_
  refine s_if_lt (tgt := 15) C dX4_heaviest_1 (by decide) (fun c => ?_) (fun c => ?_)
  · have h := it_t c h
    refine s_bipush C dX4_heaviest_15 bi_m11 ?_
    obtain ⟨rfl, rfl⟩ := pr_e h
    exact s_iret C M dX4_heaviest_17 rfl rfl (Nat.le_refl 0) (Nat.le_refl 0)
  · have h := it_f c h
    refine s_iload_n C dX4_heaviest_4 rfl rfl ?_
    refine s_aload_n C dX4_heaviest_5 rfl rfl ?_
    refine s_getR (b := 1) C dX4_heaviest_6 kk_0 foX4_10 rfl rk_0_0 ?_
    obtain ⟨r1, I1, hh, h⟩ := bd_e h
    refine s_cV0 (st := [.int x1]) C M.rg (Nat.le_trans (by decide) hd) mwX3_sheaves mlX4_149 dX4_heaviest_9 (wX3_sheaves (d := 2) (Nat.le_refl _) kk_1 hh) kk_1 rfl rfl (Nat.le_of_ble_eq_true rfl) ?_
    refine s_icmp_lt (tgt := 18) C dX4_heaviest_12 (by decide) (fun c => ?_) (fun c => ?_)
    · have h := it_t c h
      refine s_iconst C dX4_heaviest_18 ic_m1 ?_
      refine s_istore_n (ls' := [some (rfX X 0), some (.int x1), some (.int (-1)), none]) C dX4_heaviest_19 rfl (by decide) (Nat.le_of_ble_eq_true rfl) rfl rfl ?_
      refine s_iconst C dX4_heaviest_20 ic_0 ?_
      refine s_istore_n (ls' := [some (rfX X 0), some (.int x1), some (.int (-1)), some (.int 0)]) C dX4_heaviest_21 rfl (by decide) (Nat.le_of_ble_eq_true rfl) rfl rfl ?_
      exact wX4_heaviest_p22 hd C _  h M
    · have h := it_f c h
      refine s_bipush C dX4_heaviest_15 bi_m11 ?_
      obtain ⟨rfl, rfl⟩ := pr_e h
      exact s_iret C M dX4_heaviest_17 rfl rfl (Nat.le_refl 0) (Nat.le_refl 0)
theorem wL_areHeaviest_p34 {X : Cx} {d : Nat} (hd : 5 ≤ d) (C : CtxOK X mL_areHeaviest) : ∀ (n : Nat) {x1 : Int32} {x2 : Int32} {x3 : Int32} {I I' : Mm} {r : Int32}  (_ : fL_areHeaviest_p34 n x1 x2 x3 I = some (r, I')) (_ : MX X (xE X) d 0 0 (some (.int r)) S0 I'), WM X mL_areHeaviest 34 [some (rfX X 0), some (.int x1), some (.int x2), some (.int x3), none, none, none, none] [] S0 I 0 0 := by
  intro n
  induction n with
  | zero => intro x1 x2 x3 I I' r  h M; exact absurd h (by simp [fL_areHeaviest_p34])
  | succ n ih =>
    intro x1 x2 x3 I I' r  h M
    rw [fL_areHeaviest_p34] at h
    refine s_iload_n C dL_areHeaviest_34 rfl rfl ?_
    refine s_if_eq (tgt := 150) C dL_areHeaviest_35 (by decide) (fun c => ?_) (fun c => ?_)
    · have h := it_t c h
      refine s_iload_n C dL_areHeaviest_150 rfl rfl ?_
      obtain ⟨hz, h⟩ := it_s h
      obtain ⟨rfl, rfl⟩ := pr_e h
      exact s_iret C M dL_areHeaviest_151 rfl (nz_b hz) (Nat.le_refl 0) (Nat.le_refl 0)
    · have h := it_f c h
      refine s_iload_n C dL_areHeaviest_38 rfl rfl ?_
      refine s_iload_n C dL_areHeaviest_39 rfl rfl ?_
      refine s_icmp_ge (tgt := 150) C dL_areHeaviest_40 (by decide) (fun c => ?_) (fun c => ?_)
      · have h := it_t c h
        refine s_iload_n C dL_areHeaviest_150 rfl rfl ?_
        obtain ⟨hz, h⟩ := it_s h
        obtain ⟨rfl, rfl⟩ := pr_e h
        exact s_iret C M dL_areHeaviest_151 rfl (nz_b hz) (Nat.le_refl 0) (Nat.le_refl 0)
      · have h := it_f c h
        refine s_aload_n C dL_areHeaviest_43 rfl rfl ?_
        refine s_iload_n C dL_areHeaviest_44 rfl rfl ?_
        refine s_iconst C dL_areHeaviest_45 ic_1 ?_
        refine s_isub C dL_areHeaviest_46 ?_
        obtain ⟨r1, I1, hh, h⟩ := bd_e h
        refine s_cV0 (st := []) C M.rg (Nat.le_trans (by decide) hd) mwX4_heaviest mlL_146 dL_areHeaviest_47 (wX4_heaviest (d := 3) (Nat.le_refl _)  hh) kk_0 rfl rfl (Nat.le_of_ble_eq_true rfl) ?_
        refine s_istore (ls' := [some (rfX X 0), some (.int x1), some (.int x2), some (.int x3), some (.int r1), none, none, none]) C dL_areHeaviest_50 (by decide) (Nat.le_of_ble_eq_true rfl) rfl rfl ?_
        refine s_aload_n C dL_areHeaviest_52 rfl rfl ?_
        refine s_iload_n C dL_areHeaviest_53 rfl rfl ?_
        obtain ⟨r2, I2, hh, h⟩ := bd_e h
        refine s_cV0 (st := []) C M.rg (Nat.le_trans (by decide) hd) mwX4_heaviest mlL_146 dL_areHeaviest_54 (wX4_heaviest (d := 3) (Nat.le_refl _)  hh) kk_0 rfl rfl (Nat.le_of_ble_eq_true rfl) ?_
        refine s_istore (ls' := [some (rfX X 0), some (.int x1), some (.int x2), some (.int x3), some (.int r1), some (.int r2), none, none]) C dL_areHeaviest_57 (by decide) (Nat.le_of_ble_eq_true rfl) rfl rfl ?_
        refine s_aload_n C dL_areHeaviest_59 rfl rfl ?_
        refine s_iload C dL_areHeaviest_60 rfl ?_
        refine s_sipush C dL_areHeaviest_62 si_1000 ?_
        refine s_idiv C dL_areHeaviest_65 (by decide) ?_
        refine s_iload C dL_areHeaviest_66 rfl ?_
        refine s_sipush C dL_areHeaviest_68 si_1000 ?_
        refine s_irem C dL_areHeaviest_71 (by decide) ?_
        refine s_iconst C dL_areHeaviest_72 ic_0 ?_
        obtain ⟨r3, I3, hh, h⟩ := bd_e h
        refine s_cV0 (st := []) C M.rg (Nat.le_trans (by decide) hd) mwX4_sheafOf mlL_85 dL_areHeaviest_73 (wX4_sheafOf (d := 4) (Nat.le_refl _)  hh) kk_0 rfl rfl (Nat.le_of_ble_eq_true rfl) ?_
        refine s_aload_n C dL_areHeaviest_76 rfl rfl ?_
        refine s_iload C dL_areHeaviest_77 rfl ?_
        refine s_sipush C dL_areHeaviest_79 si_1000 ?_
        refine s_idiv C dL_areHeaviest_82 (by decide) ?_
        refine s_iload C dL_areHeaviest_83 rfl ?_
        refine s_sipush C dL_areHeaviest_85 si_1000 ?_
        refine s_irem C dL_areHeaviest_88 (by decide) ?_
        refine s_iconst C dL_areHeaviest_89 ic_0 ?_
        obtain ⟨r4, I4, hh, h⟩ := bd_e h
        refine s_cV0 (st := [.int r3]) C M.rg (Nat.le_trans (by decide) hd) mwX4_sheafOf mlL_85 dL_areHeaviest_90 (wX4_sheafOf (d := 4) (Nat.le_refl _)  hh) kk_0 rfl rfl (Nat.le_of_ble_eq_true rfl) ?_
        refine s_isub C dL_areHeaviest_93 ?_
        obtain ⟨v1, ev1, h⟩ := ltm_e h
        refine s_top_i ev1 ?_
        refine s_istore (ls' := [some (rfX X 0), some (.int x1), some (.int x2), some (.int x3), some (.int r1), some (.int r2), some (.int v1), none]) C dL_areHeaviest_94 (by decide) (Nat.le_of_ble_eq_true rfl) rfl rfl ?_
        refine s_iload C dL_areHeaviest_96 rfl ?_
        refine s_sipush C dL_areHeaviest_98 si_1000 ?_
        refine s_irem C dL_areHeaviest_101 (by decide) ?_
        refine s_iload C dL_areHeaviest_102 rfl ?_
        refine s_sipush C dL_areHeaviest_104 si_1000 ?_
        refine s_irem C dL_areHeaviest_107 (by decide) ?_
        refine s_isub C dL_areHeaviest_108 ?_
        obtain ⟨v2, ev2, h⟩ := ltm_e h
        refine s_top_i ev2 ?_
        refine s_istore (ls' := [some (rfX X 0), some (.int x1), some (.int x2), some (.int x3), some (.int r1), some (.int r2), some (.int v1), some (.int v2)]) C dL_areHeaviest_109 (by decide) (Nat.le_of_ble_eq_true rfl) rfl rfl ?_
        refine s_iload C dL_areHeaviest_111 rfl ?_
        refine s_if_gt (tgt := 138) C dL_areHeaviest_113 (by decide) (fun c => ?_) (fun c => ?_)
        · have h := it_t c h
          refine s_iconst C dL_areHeaviest_138 ic_1 ?_
          refine s_goto (tgt := 143) C dL_areHeaviest_139 (by decide) ?_
          refine s_istore_n (ls' := [some (rfX X 0), some (.int x1), some (.int 1), some (.int x3), some (.int r1), some (.int r2), some (.int v1), some (.int v2)]) C dL_areHeaviest_143 rfl (by decide) (Nat.le_of_ble_eq_true rfl) rfl rfl ?_
          obtain ⟨v3, ev3, h⟩ := ltm_e h
          refine s_iinc (v := v3) (ls' := [some (rfX X 0), some (.int x1), some (.int 1), some (.int v3), some (.int r1), some (.int r2), some (.int v1), some (.int v2)]) C dL_areHeaviest_144 rfl (by decide) (Nat.le_of_ble_eq_true rfl) (by rw [ev3, ic_1]) rfl rfl ?_
          refine s_goto (tgt := 34) C dL_areHeaviest_147 (by decide) ?_
          refine s_weak (ls' := [some (rfX X 0), some (.int x1), some (.int 1), some (.int v3), none, none, none, none]) [true, true, true, true, false, false, false, false] rfl ?_
          exact ih  h M
        · have h := it_f c h
          refine s_iload C dL_areHeaviest_116 rfl ?_
          refine s_if_ne (tgt := 142) C dL_areHeaviest_118 (by decide) (fun c => ?_) (fun c => ?_)
          · have h := it_f c h
            refine s_iconst C dL_areHeaviest_142 ic_0 ?_
            refine s_istore_n (ls' := [some (rfX X 0), some (.int x1), some (.int 0), some (.int x3), some (.int r1), some (.int r2), some (.int v1), some (.int v2)]) C dL_areHeaviest_143 rfl (by decide) (Nat.le_of_ble_eq_true rfl) rfl rfl ?_
            obtain ⟨v3, ev3, h⟩ := ltm_e h
            refine s_iinc (v := v3) (ls' := [some (rfX X 0), some (.int x1), some (.int 0), some (.int v3), some (.int r1), some (.int r2), some (.int v1), some (.int v2)]) C dL_areHeaviest_144 rfl (by decide) (Nat.le_of_ble_eq_true rfl) (by rw [ev3, ic_1]) rfl rfl ?_
            refine s_goto (tgt := 34) C dL_areHeaviest_147 (by decide) ?_
            refine s_weak (ls' := [some (rfX X 0), some (.int x1), some (.int 0), some (.int v3), none, none, none, none]) [true, true, true, true, false, false, false, false] rfl ?_
            exact ih  h M
          · have h := it_t c h
            refine s_iload C dL_areHeaviest_121 rfl ?_
            refine s_if_gt (tgt := 138) C dL_areHeaviest_123 (by decide) (fun c => ?_) (fun c => ?_)
            · have h := it_t c h
              refine s_iconst C dL_areHeaviest_138 ic_1 ?_
              refine s_goto (tgt := 143) C dL_areHeaviest_139 (by decide) ?_
              refine s_istore_n (ls' := [some (rfX X 0), some (.int x1), some (.int 1), some (.int x3), some (.int r1), some (.int r2), some (.int v1), some (.int v2)]) C dL_areHeaviest_143 rfl (by decide) (Nat.le_of_ble_eq_true rfl) rfl rfl ?_
              obtain ⟨v3, ev3, h⟩ := ltm_e h
              refine s_iinc (v := v3) (ls' := [some (rfX X 0), some (.int x1), some (.int 1), some (.int v3), some (.int r1), some (.int r2), some (.int v1), some (.int v2)]) C dL_areHeaviest_144 rfl (by decide) (Nat.le_of_ble_eq_true rfl) (by rw [ev3, ic_1]) rfl rfl ?_
              refine s_goto (tgt := 34) C dL_areHeaviest_147 (by decide) ?_
              refine s_weak (ls' := [some (rfX X 0), some (.int x1), some (.int 1), some (.int v3), none, none, none, none]) [true, true, true, true, false, false, false, false] rfl ?_
              exact ih  h M
            · have h := it_f c h
              refine s_iload C dL_areHeaviest_126 rfl ?_
              refine s_if_ne (tgt := 142) C dL_areHeaviest_128 (by decide) (fun c => ?_) (fun c => ?_)
              · have h := it_f c h
                refine s_iconst C dL_areHeaviest_142 ic_0 ?_
                refine s_istore_n (ls' := [some (rfX X 0), some (.int x1), some (.int 0), some (.int x3), some (.int r1), some (.int r2), some (.int v1), some (.int v2)]) C dL_areHeaviest_143 rfl (by decide) (Nat.le_of_ble_eq_true rfl) rfl rfl ?_
                obtain ⟨v3, ev3, h⟩ := ltm_e h
                refine s_iinc (v := v3) (ls' := [some (rfX X 0), some (.int x1), some (.int 0), some (.int v3), some (.int r1), some (.int r2), some (.int v1), some (.int v2)]) C dL_areHeaviest_144 rfl (by decide) (Nat.le_of_ble_eq_true rfl) (by rw [ev3, ic_1]) rfl rfl ?_
                refine s_goto (tgt := 34) C dL_areHeaviest_147 (by decide) ?_
                refine s_weak (ls' := [some (rfX X 0), some (.int x1), some (.int 0), some (.int v3), none, none, none, none]) [true, true, true, true, false, false, false, false] rfl ?_
                exact ih  h M
              · have h := it_t c h
                refine s_iload C dL_areHeaviest_131 rfl ?_
                refine s_iload C dL_areHeaviest_133 rfl ?_
                refine s_icmp_ge (tgt := 142) C dL_areHeaviest_135 (by decide) (fun c => ?_) (fun c => ?_)
                · have h := it_t c h
                  refine s_iconst C dL_areHeaviest_142 ic_0 ?_
                  refine s_istore_n (ls' := [some (rfX X 0), some (.int x1), some (.int 0), some (.int x3), some (.int r1), some (.int r2), some (.int v1), some (.int v2)]) C dL_areHeaviest_143 rfl (by decide) (Nat.le_of_ble_eq_true rfl) rfl rfl ?_
                  obtain ⟨v3, ev3, h⟩ := ltm_e h
                  refine s_iinc (v := v3) (ls' := [some (rfX X 0), some (.int x1), some (.int 0), some (.int v3), some (.int r1), some (.int r2), some (.int v1), some (.int v2)]) C dL_areHeaviest_144 rfl (by decide) (Nat.le_of_ble_eq_true rfl) (by rw [ev3, ic_1]) rfl rfl ?_
                  refine s_goto (tgt := 34) C dL_areHeaviest_147 (by decide) ?_
                  refine s_weak (ls' := [some (rfX X 0), some (.int x1), some (.int 0), some (.int v3), none, none, none, none]) [true, true, true, true, false, false, false, false] rfl ?_
                  exact ih  h M
                · have h := it_f c h
                  refine s_iconst C dL_areHeaviest_138 ic_1 ?_
                  refine s_goto (tgt := 143) C dL_areHeaviest_139 (by decide) ?_
                  refine s_istore_n (ls' := [some (rfX X 0), some (.int x1), some (.int 1), some (.int x3), some (.int r1), some (.int r2), some (.int v1), some (.int v2)]) C dL_areHeaviest_143 rfl (by decide) (Nat.le_of_ble_eq_true rfl) rfl rfl ?_
                  obtain ⟨v3, ev3, h⟩ := ltm_e h
                  refine s_iinc (v := v3) (ls' := [some (rfX X 0), some (.int x1), some (.int 1), some (.int v3), some (.int r1), some (.int r2), some (.int v1), some (.int v2)]) C dL_areHeaviest_144 rfl (by decide) (Nat.le_of_ble_eq_true rfl) (by rw [ev3, ic_1]) rfl rfl ?_
                  refine s_goto (tgt := 34) C dL_areHeaviest_147 (by decide) ?_
                  refine s_weak (ls' := [some (rfX X 0), some (.int x1), some (.int 1), some (.int v3), none, none, none, none]) [true, true, true, true, false, false, false, false] rfl ?_
                  exact ih  h M
theorem wL_areHeaviest_p31 {X : Cx} {d : Nat} (hd : 5 ≤ d) (C : CtxOK X mL_areHeaviest) {x1 : Int32} {s0 : Int32} {I I' : Mm} {r : Int32}  (h : fL_areHeaviest_p31 x1 s0 I = some (r, I')) (M : MX X (xE X) d 0 0 (some (.int r)) S0 I') : WM X mL_areHeaviest 31 [some (rfX X 0), some (.int x1), none, none, none, none, none, none] [.int s0] S0 I 0 0 := by
  unfold fL_areHeaviest_p31 at h
  refine s_istore_n (ls' := [some (rfX X 0), some (.int x1), some (.int s0), none, none, none, none, none]) C dL_areHeaviest_31 rfl (by decide) (Nat.le_of_ble_eq_true rfl) rfl rfl ?_
  refine s_iconst C dL_areHeaviest_32 ic_1 ?_
  refine s_istore_n (ls' := [some (rfX X 0), some (.int x1), some (.int s0), some (.int 1), none, none, none, none]) C dL_areHeaviest_33 rfl (by decide) (Nat.le_of_ble_eq_true rfl) rfl rfl ?_
  exact wL_areHeaviest_p34 hd C _  h M
theorem wL_areHeaviest_p30 {X : Cx} {d : Nat} (hd : 5 ≤ d) (C : CtxOK X mL_areHeaviest) {x1 : Int32} {I I' : Mm} {r : Int32}  (h : fL_areHeaviest_p30 x1 I = some (r, I')) (M : MX X (xE X) d 0 0 (some (.int r)) S0 I') : WM X mL_areHeaviest 30 [some (rfX X 0), some (.int x1), none, none, none, none, none, none] [] S0 I 0 0 := by
  unfold fL_areHeaviest_p30 at h
  refine s_iconst C dL_areHeaviest_30 ic_0 ?_
  exact wL_areHeaviest_p31 hd C  h M
theorem wL_areHeaviest {E : Ev} {d : Nat} (hd : 5 ≤ d)  {I I' : Mm} {r : Int32}  (h : fL_areHeaviest  I = some (r, I')) : SemM E d 0 0 mL_areHeaviest [rfE E 0] S0 I (some (.int r)) S0 I' := by
  unfold fL_areHeaviest at h
  refine SemM.ofX (E := E) (y := mL_areHeaviest) (args := fun E => [rfE E 0]) (r := fun E => (some (.int r))) (fun E => [some (rfE E 0), none, none, none, none, none, none, none]) (by decide +kernel) (Nat.le_of_ble_eq_true rfl) rfl (fun X C M => ?_)
  refine s_aload_n C dL_areHeaviest_0 rfl rfl ?_
  refine s_iconst C dL_areHeaviest_1 ic_0 ?_
  obtain ⟨r1, I1, hh, h⟩ := bd_e h
  refine s_cV0 (st := []) C M.rg (Nat.le_trans (by decide) hd) mwX4_account mlL_78 dL_areHeaviest_2 (wX4_account (d := 4) (Nat.le_refl _)  hh) kk_0 rfl rfl (Nat.le_of_ble_eq_true rfl) ?_
  refine s_istore_n (ls' := [some (rfX X 0), some (.int r1), none, none, none, none, none, none]) C dL_areHeaviest_5 rfl (by decide) (Nat.le_of_ble_eq_true rfl) rfl rfl ?_
  refine s_aload_n C dL_areHeaviest_6 rfl rfl ?_
  refine s_iload_n C dL_areHeaviest_7 rfl rfl ?_
  obtain ⟨r2, I2, hh, h⟩ := bd_e h
  refine s_cV0 (st := []) C M.rg (Nat.le_trans (by decide) hd) mwX4_heaviest mlL_146 dL_areHeaviest_8 (wX4_heaviest (d := 3) (Nat.le_refl _)  hh) kk_0 rfl rfl (Nat.le_of_ble_eq_true rfl) ?_
  refine s_bipush C dL_areHeaviest_11 bi_m11 ?_
  refine s_icmp_ne (tgt := 30) C dL_areHeaviest_13 (by decide) (fun c => ?_) (fun c => ?_)
  · have h := it_f c h
    exact wL_areHeaviest_p30 hd C  h M
  · have h := it_t c h
    refine s_aload_n C dL_areHeaviest_16 rfl rfl ?_
    refine s_iconst C dL_areHeaviest_17 ic_m1 ?_
    obtain ⟨r3, I3, hh, h⟩ := bd_e h
    refine s_cV0 (st := []) C M.rg (Nat.le_trans (by decide) hd) mwX4_heaviest mlL_146 dL_areHeaviest_18 (wX4_heaviest (d := 3) (Nat.le_refl _)  hh) kk_0 rfl rfl (Nat.le_of_ble_eq_true rfl) ?_
    refine s_bipush C dL_areHeaviest_21 bi_m11 ?_
    refine s_icmp_ne (tgt := 30) C dL_areHeaviest_23 (by decide) (fun c => ?_) (fun c => ?_)
    · have h := it_f c h
      exact wL_areHeaviest_p30 hd C  h M
    · have h := it_t c h
      refine s_iconst C dL_areHeaviest_26 ic_1 ?_
      refine s_goto (tgt := 31) C dL_areHeaviest_27 (by decide) ?_
      exact wL_areHeaviest_p31 hd C  h M
theorem wX4_shapeOf : ∀ (n : Nat) {E : Ev} {d : Nat} (_ : 3 + n ≤ d) {x0 : Nat} {x1 : Int32} {x2 : Int32} {x3 : Int64} {x5 : Int32} {I I' : Mm} {r : Int64} (hx0 : kd0 x0 = 1) (_ : fX4_shapeOf n x0 x1 x2 x3 x5 I = some (r, I')), SemM E d 0 0 mX4_shapeOf [rfE E x0, .int x1, .int x2, .long x3, .int x5] S0 I (some (.long r)) S0 I' := by
  intro n
  induction n with
  | zero => intro E d hd x0 x1 x2 x3 x5 I I' r hx0 h; exact absurd h (by simp [fX4_shapeOf])
  | succ n ih =>
    intro E d hd x0 x1 x2 x3 x5 I I' r hx0 h
    rw [fX4_shapeOf] at h
    refine SemM.ofX (E := E) (y := mX4_shapeOf) (args := fun E => [rfE E x0, .int x1, .int x2, .long x3, .int x5]) (r := fun E => (some (.long r))) (fun E => [some (rfE E x0), some (.int x1), some (.int x2), some (.long x3), none, some (.int x5), none, none, none]) (by decide +kernel) (Nat.le_of_ble_eq_true rfl) rfl (fun X C M => ?_)
    refine s_aload_n C dX4_shapeOf_0 rfl rfl ?_
    refine s_iload_n C dX4_shapeOf_1 rfl rfl ?_
    refine s_iload_n C dX4_shapeOf_2 rfl rfl ?_
    obtain ⟨r1, I1, hh, h⟩ := bd_e h
    refine s_cV0 (st := []) C M.rg (Nat.le_trans (by omega) hd) mwX1_topOf mlX4_108 dX4_shapeOf_3 (wX1_topOf (d := 2) (Nat.le_refl _) hx0 hh) hx0 rfl rfl (Nat.le_of_ble_eq_true rfl) ?_
    refine s_istore (ls' := [some (rfX X x0), some (.int x1), some (.int x2), some (.long x3), none, some (.int x5), some (.int r1), none, none]) C dX4_shapeOf_6 (by decide) (Nat.le_of_ble_eq_true rfl) rfl rfl ?_
    refine s_iload C dX4_shapeOf_8 rfl ?_
    refine s_iconst C dX4_shapeOf_10 ic_m1 ?_
    refine s_icmp_eq (tgt := 21) C dX4_shapeOf_11 (by decide) (fun c => ?_) (fun c => ?_)
    · have h := it_t c h
      refine s_lload_n C dX4_shapeOf_21 rfl rfl ?_
      refine s_iconst C dX4_shapeOf_22 ic_1 ?_
      refine s_lshl C dX4_shapeOf_23 ?_
      obtain ⟨rfl, rfl⟩ := pr_e h
      exact s_lret C M dX4_shapeOf_24 rfl (Nat.le_refl 0) (Nat.le_refl 0)
    · have h := it_f c h
      refine s_iload C dX4_shapeOf_14 rfl ?_
      refine s_bipush C dX4_shapeOf_16 bi_30 ?_
      refine s_icmp_le (tgt := 25) C dX4_shapeOf_18 (by decide) (fun c => ?_) (fun c => ?_)
      · have h := it_t c h
        refine s_aload_n C dX4_shapeOf_25 rfl rfl ?_
        refine s_iload_n C dX4_shapeOf_26 rfl rfl ?_
        refine s_iload C dX4_shapeOf_27 rfl ?_
        refine s_iconst C dX4_shapeOf_29 ic_1 ?_
        refine s_isub C dX4_shapeOf_30 ?_
        refine s_lload_n C dX4_shapeOf_31 rfl rfl ?_
        refine s_iconst C dX4_shapeOf_32 ic_1 ?_
        refine s_lshl C dX4_shapeOf_33 ?_
        refine s_lconst (v := 1) C dX4_shapeOf_34 (by decide +kernel) ?_
        refine s_lor C dX4_shapeOf_35 ?_
        refine s_iload C dX4_shapeOf_36 rfl ?_
        refine s_iconst C dX4_shapeOf_38 ic_1 ?_
        refine s_iadd C dX4_shapeOf_39 ?_
        obtain ⟨r2, I2, hh, h⟩ := bd_e h
        refine s_cS0 (st := []) C M.rg (Nat.le_trans (by omega) hd) mwX4_shapeOf mlX4_163 dX4_shapeOf_40 (ih (d := 3 + n) (Nat.le_refl _) hx0 hh) rfl rfl (Nat.le_of_ble_eq_true rfl) ?_
        refine s_lstore (ls' := [some (rfX X x0), some (.int x1), some (.int x2), some (.long x3), none, some (.int x5), some (.int r1), some (.long r2), none]) C dX4_shapeOf_43 (by decide) (Nat.le_of_ble_eq_true rfl) rfl rfl ?_
        refine s_aload_n C dX4_shapeOf_45 rfl rfl ?_
        refine s_iload C dX4_shapeOf_46 rfl ?_
        refine s_iconst C dX4_shapeOf_48 ic_1 ?_
        refine s_iadd C dX4_shapeOf_49 ?_
        refine s_iload_n C dX4_shapeOf_50 rfl rfl ?_
        refine s_lload C dX4_shapeOf_51 rfl ?_
        refine s_iload C dX4_shapeOf_53 rfl ?_
        refine s_iconst C dX4_shapeOf_55 ic_1 ?_
        refine s_iadd C dX4_shapeOf_56 ?_
        obtain ⟨r3, I3, hh, h⟩ := bd_e h
        refine s_cS0 (st := []) C M.rg (Nat.le_trans (by omega) hd) mwX4_shapeOf mlX4_163 dX4_shapeOf_57 (ih (d := 3 + n) (Nat.le_refl _) hx0 hh) rfl rfl (Nat.le_of_ble_eq_true rfl) ?_
        obtain ⟨rfl, rfl⟩ := pr_e h
        exact s_lret C M dX4_shapeOf_60 rfl (Nat.le_refl 0) (Nat.le_refl 0)
      · have h := it_f c h
        refine s_lload_n C dX4_shapeOf_21 rfl rfl ?_
        refine s_iconst C dX4_shapeOf_22 ic_1 ?_
        refine s_lshl C dX4_shapeOf_23 ?_
        obtain ⟨rfl, rfl⟩ := pr_e h
        exact s_lret C M dX4_shapeOf_24 rfl (Nat.le_refl 0) (Nat.le_refl 0)
theorem wX4_shape {E : Ev} {d : Nat} (hd : 44 ≤ d) {x1 : Int32} {I I' : Mm} {r : Int64}  (h : fX4_shape x1 I = some (r, I')) : SemM E d 0 0 mX4_shape [rfE E 0, .int x1] S0 I (some (.long r)) S0 I' := by
  unfold fX4_shape at h
  refine SemM.ofX (E := E) (y := mX4_shape) (args := fun E => [rfE E 0, .int x1]) (r := fun E => (some (.long r))) (fun E => [some (rfE E 0), some (.int x1), none]) (by decide +kernel) (Nat.le_of_ble_eq_true rfl) rfl (fun X C M => ?_)
  refine s_aload_n C dX4_shape_0 rfl rfl ?_
  refine s_getR (b := 1) C dX4_shape_1 kk_0 foX4_10 rfl rk_0_0 ?_
  refine s_iload_n C dX4_shape_4 rfl rfl ?_
  obtain ⟨r1, I1, hh, h⟩ := bd_e h
  refine s_cV0 (st := []) C M.rg (Nat.le_trans (by decide) hd) mwX3_rickAt mlX4_71 dX4_shape_5 (wX3_rickAt (d := 1) (Nat.le_refl _) kk_1 hh) kk_1 rfl rfl (Nat.le_of_ble_eq_true rfl) ?_
  refine s_astore_no (ls' := [some (rfX X 0), some (.int x1), some (rvE (xE X) r1)]) C dX4_shape_8 rfl (by decide) (Nat.le_of_ble_eq_true rfl) rfl rfl ?_
  refine s_aload_no C dX4_shape_9 rfl rfl ?_
  cases r1 with
  | none =>
    have h := on_n h
    refine s_ifnonnullN C dX4_shape_10 ?_
    refine s_ldc2 C dX4_shape_13 coX4_161 ?_
    refine s_goto (tgt := 32) C dX4_shape_16 (by decide) ?_
    obtain ⟨rfl, rfl⟩ := pr_e h
    exact s_lret C M dX4_shape_32 rfl (Nat.le_refl 0) (Nat.le_refl 0)
  | some q1 =>
    obtain ⟨hq1, h⟩ := it_s (on_s h)
    refine s_ifnonnull (tgt := 19) C dX4_shape_10 (by decide) ?_
    refine s_aload_n C dX4_shape_19 rfl rfl ?_
    refine s_iconst C dX4_shape_20 ic_0 ?_
    refine s_aload_n C dX4_shape_21 rfl rfl ?_
    refine s_getI C dX4_shape_22 hq1 foX4_111 rfl ?_
    refine s_iconst C dX4_shape_25 ic_1 ?_
    refine s_isub C dX4_shape_26 ?_
    refine s_lconst (v := 0) C dX4_shape_27 (by decide +kernel) ?_
    refine s_iconst C dX4_shape_28 ic_0 ?_
    obtain ⟨r2, I2, hh, h⟩ := bd_e h
    refine s_cS0 (st := []) C M.rg (Nat.le_trans (by decide) hd) mwX4_shapeOf mlX4_163 dX4_shape_29 (wX4_shapeOf _ (d := 43) (Nat.le_refl _) hq1 hh) rfl rfl (Nat.le_of_ble_eq_true rfl) ?_
    obtain ⟨rfl, rfl⟩ := pr_e h
    exact s_lret C M dX4_shape_32 rfl (Nat.le_refl 0) (Nat.le_refl 0)
theorem wL_digest_p65 {X : Cx} {d : Nat} (hd : 45 ≤ d) (hR : RG X d 0 0) (C : CtxOK X mL_digest) : ∀ (n : Nat) {x1 : Int64} {x3 : Int32} {x4 : Int32} {I I' : Mm} {u : Int64}  (_ : fL_digest_p65 n x1 x3 x4 I = some (u, I')) (_ : WM X mL_digest 115 [some (rfX X 0), some (.long u), none, some (.int x3), none, none] [] S0 I' 0 0), WM X mL_digest 65 [some (rfX X 0), some (.long x1), none, some (.int x3), some (.int x4), none] [] S0 I 0 0 := by
  intro n
  induction n with
  | zero => intro x1 x3 x4 I I' u  h K; exact absurd h (by simp [fL_digest_p65])
  | succ n ih =>
    intro x1 x3 x4 I I' u  h K
    rw [fL_digest_p65] at h
    refine s_iload C dL_digest_65 rfl ?_
    refine s_aload_n C dL_digest_67 rfl rfl ?_
    refine s_iload_n C dL_digest_68 rfl rfl ?_
    refine s_iconst C dL_digest_69 ic_0 ?_
    obtain ⟨r1, I1, hh, h⟩ := bd_e h
    refine s_cV0 (st := [.int x4]) C hR (Nat.le_trans (by decide) hd) mwX4_rickOf mlL_28 dL_digest_70 (wX4_rickOf (d := 5) (Nat.le_refl _)  hh) kk_0 rfl rfl (Nat.le_of_ble_eq_true rfl) ?_
    refine s_icmp_ge (tgt := 115) C dL_digest_73 (by decide) (fun c => ?_) (fun c => ?_)
    · have h := it_t c h
      obtain ⟨rfl, rfl⟩ := pr_e h
      refine s_weak (ls' := [some (rfX X 0), some (.long x1), none, some (.int x3), none, none]) [true, true, false, true, false, false] rfl ?_
      exact K
    · have h := it_f c h
      refine s_aload_n C dL_digest_76 rfl rfl ?_
      refine s_iload_n C dL_digest_77 rfl rfl ?_
      refine s_iload C dL_digest_78 rfl ?_
      obtain ⟨r2, I2, hh, h⟩ := bd_e h
      refine s_cV0 (st := []) C hR (Nat.le_trans (by decide) hd) mwX4_at mlL_37 dL_digest_80 (wX4_at (d := 2) (Nat.le_refl _)  hh) kk_0 rfl rfl (Nat.le_of_ble_eq_true rfl) ?_
      refine s_istore (ls' := [some (rfX X 0), some (.long x1), none, some (.int x3), some (.int x4), some (.int r2)]) C dL_digest_83 (by decide) (Nat.le_of_ble_eq_true rfl) rfl rfl ?_
      refine s_ldc2 C dL_digest_85 coL_76 ?_
      refine s_ldc2 C dL_digest_88 coL_76 ?_
      refine s_lload_n C dL_digest_91 rfl rfl ?_
      refine s_lmul C dL_digest_92 ?_
      refine s_iload C dL_digest_93 rfl ?_
      refine s_i2l C dL_digest_95 ?_
      refine s_ladd C dL_digest_96 ?_
      refine s_lmul C dL_digest_97 ?_
      refine s_aload_n C dL_digest_98 rfl rfl ?_
      refine s_iload_n C dL_digest_99 rfl rfl ?_
      refine s_iload C dL_digest_100 rfl ?_
      refine s_iconst C dL_digest_102 ic_0 ?_
      obtain ⟨r3, I3, hh, h⟩ := bd_e h
      refine s_cV0 (st := [.long (31 * ((31 * x1) + (r2.toInt64)))]) C hR (Nat.le_trans (by decide) hd) mwX4_sheafOf mlL_85 dL_digest_103 (wX4_sheafOf (d := 4) (Nat.le_refl _)  hh) kk_0 rfl rfl (Nat.le_of_ble_eq_true rfl) ?_
      refine s_i2l C dL_digest_106 ?_
      refine s_ladd C dL_digest_107 ?_
      obtain ⟨v1, ev1, h⟩ := ltm_e h
      refine s_top_l ev1 ?_
      refine s_lstore_n (ls' := [some (rfX X 0), some (.long v1), none, some (.int x3), some (.int x4), some (.int r2)]) C dL_digest_108 rfl (by decide) (Nat.le_of_ble_eq_true rfl) rfl rfl ?_
      obtain ⟨v2, ev2, h⟩ := ltm_e h
      refine s_iinc (v := v2) (ls' := [some (rfX X 0), some (.long v1), none, some (.int x3), some (.int v2), some (.int r2)]) C dL_digest_109 rfl (by decide) (Nat.le_of_ble_eq_true rfl) (by rw [ev2, ic_1]) rfl rfl ?_
      refine s_goto (tgt := 65) C dL_digest_112 (by decide) ?_
      refine s_weak (ls' := [some (rfX X 0), some (.long v1), none, some (.int x3), some (.int v2), none]) [true, true, false, true, true, false] rfl ?_
      exact ih  h K
theorem wL_digest_p33 {X : Cx} {d : Nat} (hd : 45 ≤ d) (C : CtxOK X mL_digest) : ∀ (n : Nat) {x1 : Int64} {x3 : Int32} {I I' : Mm} {r : Int64}  (_ : fL_digest_p33 n x1 x3 I = some (r, I')) (_ : MX X (xE X) d 0 0 (some (.long r)) S0 I'), WM X mL_digest 33 [some (rfX X 0), some (.long x1), none, some (.int x3), none, none] [] S0 I 0 0 := by
  intro n
  induction n with
  | zero => intro x1 x3 I I' r  h M; exact absurd h (by simp [fL_digest_p33])
  | succ n ih =>
    intro x1 x3 I I' r  h M
    rw [fL_digest_p33] at h
    refine s_iload_n C dL_digest_33 rfl rfl ?_
    refine s_iconst C dL_digest_34 ic_3 ?_
    refine s_icmp_ge (tgt := 121) C dL_digest_35 (by decide) (fun c => ?_) (fun c => ?_)
    · have h := it_t c h
      refine s_lload_n C dL_digest_121 rfl rfl ?_
      obtain ⟨rfl, rfl⟩ := pr_e h
      exact s_lret C M dL_digest_122 rfl (Nat.le_refl 0) (Nat.le_refl 0)
    · have h := it_f c h
      refine s_ldc2 C dL_digest_38 coL_76 ?_
      refine s_ldc2 C dL_digest_41 coL_76 ?_
      refine s_lload_n C dL_digest_44 rfl rfl ?_
      refine s_lmul C dL_digest_45 ?_
      refine s_aload_n C dL_digest_46 rfl rfl ?_
      refine s_iload_n C dL_digest_47 rfl rfl ?_
      obtain ⟨r1, I1, hh, h⟩ := bd_e h
      refine s_cV0 (st := [.long (31 * x1), .long 31]) C M.rg (Nat.le_trans (by decide) hd) mwX4_shape mlL_81 dL_digest_48 (wX4_shape (d := 44) (Nat.le_refl _)  hh) kk_0 rfl rfl (Nat.le_of_ble_eq_true rfl) ?_
      refine s_ladd C dL_digest_51 ?_
      refine s_lmul C dL_digest_52 ?_
      refine s_aload_n C dL_digest_53 rfl rfl ?_
      refine s_iload_n C dL_digest_54 rfl rfl ?_
      refine s_iconst C dL_digest_55 ic_5 ?_
      obtain ⟨r2, I2, hh, h⟩ := bd_e h
      refine s_cV0 (st := [.long (31 * ((31 * x1) + r1))]) C M.rg (Nat.le_trans (by decide) hd) mwX4_rickOf mlL_28 dL_digest_56 (wX4_rickOf (d := 5) (Nat.le_refl _)  hh) kk_0 rfl rfl (Nat.le_of_ble_eq_true rfl) ?_
      refine s_i2l C dL_digest_59 ?_
      refine s_ladd C dL_digest_60 ?_
      obtain ⟨v1, ev1, h⟩ := ltm_e h
      refine s_top_l ev1 ?_
      refine s_lstore_n (ls' := [some (rfX X 0), some (.long v1), none, some (.int x3), none, none]) C dL_digest_61 rfl (by decide) (Nat.le_of_ble_eq_true rfl) rfl rfl ?_
      refine s_iconst C dL_digest_62 ic_0 ?_
      refine s_istore (ls' := [some (rfX X 0), some (.long v1), none, some (.int x3), some (.int 0), none]) C dL_digest_63 (by decide) (Nat.le_of_ble_eq_true rfl) rfl rfl ?_
      obtain ⟨u1, I3, hh, h⟩ := bd_e h
      refine wL_digest_p65 hd M.rg C _  hh ?_
      obtain ⟨v2, ev2, h⟩ := ltm_e h
      refine s_iinc (v := v2) (ls' := [some (rfX X 0), some (.long u1), none, some (.int v2), none, none]) C dL_digest_115 rfl (by decide) (Nat.le_of_ble_eq_true rfl) (by rw [ev2, ic_1]) rfl rfl ?_
      refine s_goto (tgt := 33) C dL_digest_118 (by decide) ?_
      exact ih  h M
theorem wL_digest_p6 {X : Cx} {d : Nat} (hd : 45 ≤ d) (C : CtxOK X mL_digest) : ∀ (n : Nat) {x1 : Int64} {x3 : Int32} {I I' : Mm} {r : Int64}  (_ : fL_digest_p6 n x1 x3 I = some (r, I')) (_ : MX X (xE X) d 0 0 (some (.long r)) S0 I'), WM X mL_digest 6 [some (rfX X 0), some (.long x1), none, some (.int x3), none, none] [] S0 I 0 0 := by
  intro n
  induction n with
  | zero => intro x1 x3 I I' r  h M; exact absurd h (by simp [fL_digest_p6])
  | succ n ih =>
    intro x1 x3 I I' r  h M
    rw [fL_digest_p6] at h
    refine s_iload_n C dL_digest_6 rfl rfl ?_
    refine s_bipush C dL_digest_7 bi_9 ?_
    refine s_icmp_ge (tgt := 31) C dL_digest_9 (by decide) (fun c => ?_) (fun c => ?_)
    · have h := it_t c h
      refine s_iconst C dL_digest_31 ic_0 ?_
      refine s_istore_n (ls' := [some (rfX X 0), some (.long x1), none, some (.int 0), none, none]) C dL_digest_32 rfl (by decide) (Nat.le_of_ble_eq_true rfl) rfl rfl ?_
      exact wL_digest_p33 hd C _  h M
    · have h := it_f c h
      refine s_ldc2 C dL_digest_12 coL_76 ?_
      refine s_lload_n C dL_digest_15 rfl rfl ?_
      refine s_lmul C dL_digest_16 ?_
      refine s_aload_n C dL_digest_17 rfl rfl ?_
      refine s_iload_n C dL_digest_18 rfl rfl ?_
      obtain ⟨r1, I1, hh, h⟩ := bd_e h
      refine s_cV0 (st := [.long (31 * x1)]) C M.rg (Nat.le_trans (by decide) hd) mwX4_account mlL_78 dL_digest_19 (wX4_account (d := 4) (Nat.le_refl _)  hh) kk_0 rfl rfl (Nat.le_of_ble_eq_true rfl) ?_
      refine s_i2l C dL_digest_22 ?_
      refine s_ladd C dL_digest_23 ?_
      obtain ⟨v1, ev1, h⟩ := ltm_e h
      refine s_top_l ev1 ?_
      refine s_lstore_n (ls' := [some (rfX X 0), some (.long v1), none, some (.int x3), none, none]) C dL_digest_24 rfl (by decide) (Nat.le_of_ble_eq_true rfl) rfl rfl ?_
      obtain ⟨v2, ev2, h⟩ := ltm_e h
      refine s_iinc (v := v2) (ls' := [some (rfX X 0), some (.long v1), none, some (.int v2), none, none]) C dL_digest_25 rfl (by decide) (Nat.le_of_ble_eq_true rfl) (by rw [ev2, ic_1]) rfl rfl ?_
      refine s_goto (tgt := 6) C dL_digest_28 (by decide) ?_
      exact ih  h M
