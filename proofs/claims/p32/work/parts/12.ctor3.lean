/-! ===== the constructor of LeaningRicks, from the empty world ===== -/
def E0 : Sx := (0, fun _ => 9, fun _ _ => none)
def Z0 : Mm := fun _ _ => 0
def sA0 : Sx := gr E0 4
def sA1 : Sx := sr (yardS (gr sA0 3) 1) 0 0 1
def iA1 : Mm := wr Z0 1 1 70
def sA2 : Sx := sr (yardS (gr sA1 3) 15) 0 1 15
def iA2 : Mm := wr iA1 15 1 70
def sA3 : Sx := sr (gr sA2 7) 0 3 29
def sA4 : Sx := sr (rowS (gr sA3 2) 30) 0 6 30
def sA5 : Sx := sr (rowS (gr sA4 2) 32) 0 7 32
def sB0 : Sx := sr (ordS (gr sA5 0) 34) 0 8 34
def iB0 : Mm := wr (wr iA2 0 9 (-15)) 0 10 (-15)
theorem s_S {X : Cx} {y : Yd} {pc : Nat} {ls : List (Option Value)} {st : List Value} {S S' : Sx} {I I' : Mm} {k n : Nat} (hS : S = S') (hI : I = I') (K : WM X y pc ls st S' I' k n) : WM X y pc ls st S I k n := hS ▸ hI ▸ K
def sB1 : Sx := sr (yardS (gr sB0 3) 37) 29 0 37
def iB1 : Mm := wr iB0 37 1 70
def sB2 : Sx := sr (yardS (gr sB1 3) 51) 29 1 51
def iB2 : Mm := wr iB1 51 1 70
def sB3 : Sx := sr (yardS (gr sB2 3) 65) 29 2 65
def iB3 : Mm := wr iB2 65 1 70
def sB4 : Sx := sr (yardS (gr sB3 3) 79) 29 3 79
def iB4 : Mm := wr iB3 79 1 70
def sB5 : Sx := sr (yardS (gr sB4 3) 93) 29 4 93
def iB5 : Mm := wr iB4 93 1 70
def sB6 : Sx := sr (yardS (gr sB5 3) 107) 29 5 107
def iB6 : Mm := wr iB5 107 1 70
def sB7 : Sx := sr (yardS (gr sB6 3) 121) 29 6 121
def iB7 : Mm := wr iB6 121 1 70
def sB8 : Sx := sr (yardS (gr sB7 3) 135) 29 7 135
def iB8 : Mm := wr iB7 135 1 70
def sB9 : Sx := sr (yardS (gr sB8 3) 149) 29 8 149
def iB9 : Mm := wr iB8 149 1 70
theorem rw_F {S : Sx} {I : Mm} {r : Nat} (h : r < S.1) (f : Fsh S I) : Fsh (rowS S r) I := (f.gr).sr (by show r < S.1 + 1; omega)
theorem od_F {S : Sx} {I : Mm} {r : Nat} (h : r < S.1) (f : Fsh S I) : Fsh (ordS S r) I := (((f.gr (c := 30)).sr (a := r) (j := 0) (v := S.1) (by show r < S.1 + 1; omega)).gr (c := 70)).sr (by show r < S.1 + 1 + 1; omega)
theorem fE0 : Fsh E0 Z0 := fun _ _ _ => ⟨rfl, rfl⟩
theorem fA0 : Fsh sA0 Z0 := fE0.gr
theorem fA1 : Fsh sA1 iA1 := ((yd_F (by decide) (fA0.gr (c := 3))).sr (by decide)).wr (by decide)
theorem fA2 : Fsh sA2 iA2 := ((yd_F (by decide) (fA1.gr (c := 3))).sr (by decide)).wr (by decide)
theorem fA3 : Fsh sA3 iA2 := (fA2.gr (c := 7)).sr (by decide)
theorem fA4 : Fsh sA4 iA2 := (rw_F (by decide) (fA3.gr (c := 2))).sr (by decide)
theorem fA5 : Fsh sA5 iA2 := (rw_F (by decide) (fA4.gr (c := 2))).sr (by decide)
theorem fB0 : Fsh sB0 iB0 := (((od_F (by decide) (fA5.gr (c := 0))).sr (by decide)).wr (by decide)).wr (by decide)
theorem fB1 : Fsh sB1 iB1 := ((yd_F (by decide +kernel) (fB0.gr (c := 3))).sr (by decide +kernel)).wr (by decide +kernel)
theorem fB2 : Fsh sB2 iB2 := ((yd_F (by decide +kernel) (fB1.gr (c := 3))).sr (by decide +kernel)).wr (by decide +kernel)
theorem fB3 : Fsh sB3 iB3 := ((yd_F (by decide +kernel) (fB2.gr (c := 3))).sr (by decide +kernel)).wr (by decide +kernel)
theorem fB4 : Fsh sB4 iB4 := ((yd_F (by decide +kernel) (fB3.gr (c := 3))).sr (by decide +kernel)).wr (by decide +kernel)
theorem fB5 : Fsh sB5 iB5 := ((yd_F (by decide +kernel) (fB4.gr (c := 3))).sr (by decide +kernel)).wr (by decide +kernel)
theorem fB6 : Fsh sB6 iB6 := ((yd_F (by decide +kernel) (fB5.gr (c := 3))).sr (by decide +kernel)).wr (by decide +kernel)
theorem fB7 : Fsh sB7 iB7 := ((yd_F (by decide +kernel) (fB6.gr (c := 3))).sr (by decide +kernel)).wr (by decide +kernel)
theorem fB8 : Fsh sB8 iB8 := ((yd_F (by decide +kernel) (fB7.gr (c := 3))).sr (by decide +kernel)).wr (by decide +kernel)
theorem fB9 : Fsh sB9 iB9 := ((yd_F (by decide +kernel) (fB8.gr (c := 3))).sr (by decide +kernel)).wr (by decide +kernel)
set_option maxRecDepth 100000 in
set_option maxHeartbeats 4000000 in
theorem wX4_init {E : Ev} {d : Nat} (hd : 3 ≤ d) : SemM E d 162 3473 mX4_init [rfE E 0] sA0 Z0 none sB9 iB9 := by
  refine SemM.ofX (E := E) (y := mX4_init) (args := fun E => [rfE E 0]) (r := fun _ => none) (fun E => [some (rfE E 0), none]) (by decide +kernel) (Nat.le_of_ble_eq_true rfl) rfl (fun X C M => ?_)
  have hd1 : 1 ≤ d := Nat.le_trans (by decide) hd
  refine s_aload_n C dX4_init_0 rfl rfl ?_
  refine s_oinit C M.rg hd1 wo_l4 wo_i wo_c dX4_init_1 (Nat.le_of_ble_eq_true rfl) ?_
  refine s_aload_n C dX4_init_4 rfl rfl ?_
  refine s_new (c := 3) tyX3 C dX4_init_5 rfl (by decide) gX3 tyX3_ok df_3 wk_4y wi_3 wz_3 fA0 M.rg (by decide) (by decide) ?_
  refine s_dup C dX4_init_8 rfl ?_
  refine s_cI (st := [rfX X 1, rfX X 0]) (d' := 2) (mc := 13) (ms := 288) C M.rg (Nat.le_trans (by decide) hd) rfl rfl wm_3 wz_3 wc_3 ⟨by decide +kernel, by decide +kernel, by decide +kernel⟩ (by decide) (Or.inl wl_43) dX4_init_9 (wX3_init (Nat.le_refl 2) (S := gr sA0 3) (r := 1) (by decide +kernel) (by decide +kernel) fA0.gr) rfl rfl (Nat.le_of_ble_eq_true rfl) (by decide) (by decide) ?_
  refine s_putR (b := 1) (c := 4) (j := 0) C dX4_init_12 (by decide +kernel) TX4 tyX4 rfl (by decide) (by decide) gX4 rfl wf_4_0 tyX4_ok nmX4 rfl rfl rfl (nr_O _) rfl ?_
  refine s_S (S' := sA1) (I' := iA1) rfl rfl ?_
  refine s_aload_n C dX4_init_15 rfl rfl ?_
  refine s_new (c := 3) tyX3 C dX4_init_16 rfl (by decide) gX3 tyX3_ok df_3 wk_4y wi_3 wz_3 fA1 M.rg (by decide) (by decide) ?_
  refine s_dup C dX4_init_19 rfl ?_
  refine s_cI (st := [rfX X 15, rfX X 0]) (d' := 2) (mc := 13) (ms := 288) C M.rg (Nat.le_trans (by decide) hd) rfl rfl wm_3 wz_3 wc_3 ⟨by decide +kernel, by decide +kernel, by decide +kernel⟩ (by decide) (Or.inl wl_43) dX4_init_20 (wX3_init (Nat.le_refl 2) (S := gr sA1 3) (r := 15) (by decide +kernel) (by decide +kernel) fA1.gr) rfl rfl (Nat.le_of_ble_eq_true rfl) (by decide) (by decide) ?_
  refine s_putR (b := 15) (c := 4) (j := 1) C dX4_init_23 (by decide +kernel) TX4 tyX4 rfl (by decide) (by decide) gX4 rfl wf_4_1 tyX4_ok nmX4 rfl rfl rfl (nr_O _) rfl ?_
  refine s_S (S' := sA2) (I' := iA2) rfl rfl ?_
  refine s_aload_n C dX4_init_26 rfl rfl ?_
  refine s_bipush C dX4_init_27 bi_9 ?_
  refine s_anew (c := 7) (m := 9) (Cn := "LeaningRicks$Yard") C dX4_init_29 (Or.inr ⟨rfl, rfl⟩) rfl wk_4y (by decide) (by decide) fA2 M.rg (by decide) (by decide) ?_
  refine s_putR (b := 29) (c := 4) (j := 3) C dX4_init_32 (by decide +kernel) TX4 tyX4 rfl (by decide) (by decide) gX4 rfl wf_4_3 tyX4_ok nmX4 rfl rfl rfl (nr_A _) rfl ?_
  refine s_S (S' := sA3) (I' := iA2) rfl rfl ?_
  refine s_aload_n C dX4_init_35 rfl rfl ?_
  refine s_new (c := 2) tyX2 C dX4_init_36 rfl (by decide) gX2 tyX2_ok df_2 wk_4r wi_2 wz_2 fA3 M.rg (by decide) (by decide) ?_
  refine s_dup C dX4_init_39 rfl ?_
  refine s_cI (st := [rfX X 30, rfX X 0]) (d' := 1) (mc := 1) (ms := 60) C M.rg (Nat.le_trans (by decide) hd) rfl rfl wm_2 wz_2 wc_2 ⟨by decide +kernel, by decide +kernel, by decide +kernel⟩ (by decide) (Or.inr ⟨_, wl_42⟩) dX4_init_40 (wX2_init (Nat.le_refl 1) (S := gr sA3 2) (r := 30) (by decide +kernel) (by decide +kernel) fA3.gr) rfl rfl (Nat.le_of_ble_eq_true rfl) (by decide) (by decide) ?_
  refine s_putR (b := 30) (c := 4) (j := 6) C dX4_init_43 (by decide +kernel) TX4 tyX4 rfl (by decide) (by decide) gX4 rfl wf_4_6 tyX4_ok nmX4 rfl rfl rfl (nr_O _) rfl ?_
  refine s_S (S' := sA4) (I' := iA2) rfl rfl ?_
  refine s_aload_n C dX4_init_46 rfl rfl ?_
  refine s_new (c := 2) tyX2 C dX4_init_47 rfl (by decide) gX2 tyX2_ok df_2 wk_4r wi_2 wz_2 fA4 M.rg (by decide) (by decide) ?_
  refine s_dup C dX4_init_50 rfl ?_
  refine s_cI (st := [rfX X 32, rfX X 0]) (d' := 1) (mc := 1) (ms := 60) C M.rg (Nat.le_trans (by decide) hd) rfl rfl wm_2 wz_2 wc_2 ⟨by decide +kernel, by decide +kernel, by decide +kernel⟩ (by decide) (Or.inr ⟨_, wl_42⟩) dX4_init_51 (wX2_init (Nat.le_refl 1) (S := gr sA4 2) (r := 32) (by decide +kernel) (by decide +kernel) fA4.gr) rfl rfl (Nat.le_of_ble_eq_true rfl) (by decide) (by decide) ?_
  refine s_putR (b := 32) (c := 4) (j := 7) C dX4_init_54 (by decide +kernel) TX4 tyX4 rfl (by decide) (by decide) gX4 rfl wf_4_7 tyX4_ok nmX4 rfl rfl rfl (nr_O _) rfl ?_
  refine s_S (S' := sA5) (I' := iA2) rfl rfl ?_
  refine s_aload_n C dX4_init_57 rfl rfl ?_
  refine s_new (c := 0) tyX0 C dX4_init_58 rfl (by decide) gX0 tyX0_ok df_0 wk_4o wi_0 wz_0 fA5 M.rg (by decide) (by decide) ?_
  refine s_dup C dX4_init_61 rfl ?_
  refine s_cI (st := [rfX X 34, rfX X 0]) (d' := 1) (mc := 2) (ms := 80) C M.rg (Nat.le_trans (by decide) hd) rfl rfl wm_0 wz_0 wc_0 ⟨by decide +kernel, by decide +kernel, by decide +kernel⟩ (by decide) (Or.inr ⟨_, wl_40⟩) dX4_init_62 (wX0_init (Nat.le_refl 1) (S := gr sA5 0) (r := 34) (by decide +kernel) (by decide +kernel) fA5.gr) rfl rfl (Nat.le_of_ble_eq_true rfl) (by decide) (by decide) ?_
  refine s_putR (b := 34) (c := 4) (j := 8) C dX4_init_65 (by decide +kernel) TX4 tyX4 rfl (by decide) (by decide) gX4 rfl wf_4_8 tyX4_ok nmX4 rfl rfl rfl (nr_O _) rfl ?_
  refine s_aload_n C dX4_init_68 rfl rfl ?_
  refine s_bipush C dX4_init_69 bi_m15 ?_
  refine s_putI C dX4_init_71 (by decide +kernel) poX4_40 rfl rfl ?_
  refine s_aload_n C dX4_init_74 rfl rfl ?_
  refine s_bipush C dX4_init_75 bi_m15 ?_
  refine s_putI C dX4_init_77 (by decide +kernel) poX4_44 rfl rfl ?_
  refine s_S (S' := sB0) (I' := iB0) rfl rfl ?_
  refine s_iconst C dX4_init_80 ic_0 ?_
  refine s_istore_n (ls' := [some (rfX X 0), some (.int 0)]) C dX4_init_81 rfl (by decide) (Nat.le_of_ble_eq_true rfl) rfl rfl ?_
  refine s_iload_n C dX4_init_82 rfl rfl ?_
  refine s_aload_n C dX4_init_83 rfl rfl ?_
  refine s_getR (b := 29) C dX4_init_84 (by decide +kernel) foX4_19 rfl (by decide +kernel) ?_
  refine s_alenR (v := 9) C dX4_init_87 (m := 7) (by decide +kernel) (by decide) (by decide +kernel) ?_
  refine s_icmp_ge (tgt := 110) C dX4_init_88 (by decide) (fun c => absurd c (by decide)) (fun c => ?_)
  refine s_aload_n C dX4_init_91 rfl rfl ?_
  refine s_getR (b := 29) C dX4_init_92 (by decide +kernel) foX4_19 rfl (by decide +kernel) ?_
  refine s_iload_n C dX4_init_95 rfl rfl ?_
  refine s_new (c := 3) tyX3 C dX4_init_96 rfl (by decide) gX3 tyX3_ok df_3 wk_4y wi_3 wz_3 fB0 M.rg (by decide) (by decide) ?_
  refine s_dup C dX4_init_99 rfl ?_
  refine s_cI (st := [rfX X 37, .int 0, rfX X 29]) (d' := 2) (mc := 13) (ms := 288) C M.rg (Nat.le_trans (by decide) hd) rfl rfl wm_3 wz_3 wc_3 ⟨by decide +kernel, by decide +kernel, by decide +kernel⟩ (by decide) (Or.inl wl_43) dX4_init_100 (wX3_init (Nat.le_refl 2) (S := gr sB0 3) (r := 37) (by decide +kernel) (by decide +kernel) fB0.gr) rfl rfl (Nat.le_of_ble_eq_true rfl) (by decide) (by decide) ?_
  refine s_aast (b := 37) (c := 7) (ci := 3) (q := 0) C dX4_init_103 (by decide +kernel) (Or.inr ⟨rfl, rfl⟩) (by decide +kernel) (by decide) (by decide) ?_
  refine s_iinc (v := 1) (ls' := [some (rfX X 0), some (.int 1)]) C dX4_init_104 rfl (by decide) (Nat.le_of_ble_eq_true rfl) (by decide) rfl rfl ?_
  refine s_goto (tgt := 82) C dX4_init_107 (by decide) ?_
  refine s_S (S' := sB1) (I' := iB1) rfl rfl ?_
  refine s_iload_n C dX4_init_82 rfl rfl ?_
  refine s_aload_n C dX4_init_83 rfl rfl ?_
  refine s_getR (b := 29) C dX4_init_84 (by decide +kernel) foX4_19 rfl (by decide +kernel) ?_
  refine s_alenR (v := 9) C dX4_init_87 (m := 7) (by decide +kernel) (by decide) (by decide +kernel) ?_
  refine s_icmp_ge (tgt := 110) C dX4_init_88 (by decide) (fun c => absurd c (by decide)) (fun c => ?_)
  refine s_aload_n C dX4_init_91 rfl rfl ?_
  refine s_getR (b := 29) C dX4_init_92 (by decide +kernel) foX4_19 rfl (by decide +kernel) ?_
  refine s_iload_n C dX4_init_95 rfl rfl ?_
  refine s_new (c := 3) tyX3 C dX4_init_96 rfl (by decide) gX3 tyX3_ok df_3 wk_4y wi_3 wz_3 fB1 M.rg (by decide) (by decide) ?_
  refine s_dup C dX4_init_99 rfl ?_
  refine s_cI (st := [rfX X 51, .int 1, rfX X 29]) (d' := 2) (mc := 13) (ms := 288) C M.rg (Nat.le_trans (by decide) hd) rfl rfl wm_3 wz_3 wc_3 ⟨by decide +kernel, by decide +kernel, by decide +kernel⟩ (by decide) (Or.inl wl_43) dX4_init_100 (wX3_init (Nat.le_refl 2) (S := gr sB1 3) (r := 51) (by decide +kernel) (by decide +kernel) fB1.gr) rfl rfl (Nat.le_of_ble_eq_true rfl) (by decide) (by decide) ?_
  refine s_aast (b := 51) (c := 7) (ci := 3) (q := 1) C dX4_init_103 (by decide +kernel) (Or.inr ⟨rfl, rfl⟩) (by decide +kernel) (by decide) (by decide) ?_
  refine s_iinc (v := 2) (ls' := [some (rfX X 0), some (.int 2)]) C dX4_init_104 rfl (by decide) (Nat.le_of_ble_eq_true rfl) (by decide) rfl rfl ?_
  refine s_goto (tgt := 82) C dX4_init_107 (by decide) ?_
  refine s_S (S' := sB2) (I' := iB2) rfl rfl ?_
  refine s_iload_n C dX4_init_82 rfl rfl ?_
  refine s_aload_n C dX4_init_83 rfl rfl ?_
  refine s_getR (b := 29) C dX4_init_84 (by decide +kernel) foX4_19 rfl (by decide +kernel) ?_
  refine s_alenR (v := 9) C dX4_init_87 (m := 7) (by decide +kernel) (by decide) (by decide +kernel) ?_
  refine s_icmp_ge (tgt := 110) C dX4_init_88 (by decide) (fun c => absurd c (by decide)) (fun c => ?_)
  refine s_aload_n C dX4_init_91 rfl rfl ?_
  refine s_getR (b := 29) C dX4_init_92 (by decide +kernel) foX4_19 rfl (by decide +kernel) ?_
  refine s_iload_n C dX4_init_95 rfl rfl ?_
  refine s_new (c := 3) tyX3 C dX4_init_96 rfl (by decide) gX3 tyX3_ok df_3 wk_4y wi_3 wz_3 fB2 M.rg (by decide) (by decide) ?_
  refine s_dup C dX4_init_99 rfl ?_
  refine s_cI (st := [rfX X 65, .int 2, rfX X 29]) (d' := 2) (mc := 13) (ms := 288) C M.rg (Nat.le_trans (by decide) hd) rfl rfl wm_3 wz_3 wc_3 ⟨by decide +kernel, by decide +kernel, by decide +kernel⟩ (by decide) (Or.inl wl_43) dX4_init_100 (wX3_init (Nat.le_refl 2) (S := gr sB2 3) (r := 65) (by decide +kernel) (by decide +kernel) fB2.gr) rfl rfl (Nat.le_of_ble_eq_true rfl) (by decide) (by decide) ?_
  refine s_aast (b := 65) (c := 7) (ci := 3) (q := 2) C dX4_init_103 (by decide +kernel) (Or.inr ⟨rfl, rfl⟩) (by decide +kernel) (by decide) (by decide) ?_
  refine s_iinc (v := 3) (ls' := [some (rfX X 0), some (.int 3)]) C dX4_init_104 rfl (by decide) (Nat.le_of_ble_eq_true rfl) (by decide) rfl rfl ?_
  refine s_goto (tgt := 82) C dX4_init_107 (by decide) ?_
  refine s_S (S' := sB3) (I' := iB3) rfl rfl ?_
  refine s_iload_n C dX4_init_82 rfl rfl ?_
  refine s_aload_n C dX4_init_83 rfl rfl ?_
  refine s_getR (b := 29) C dX4_init_84 (by decide +kernel) foX4_19 rfl (by decide +kernel) ?_
  refine s_alenR (v := 9) C dX4_init_87 (m := 7) (by decide +kernel) (by decide) (by decide +kernel) ?_
  refine s_icmp_ge (tgt := 110) C dX4_init_88 (by decide) (fun c => absurd c (by decide)) (fun c => ?_)
  refine s_aload_n C dX4_init_91 rfl rfl ?_
  refine s_getR (b := 29) C dX4_init_92 (by decide +kernel) foX4_19 rfl (by decide +kernel) ?_
  refine s_iload_n C dX4_init_95 rfl rfl ?_
  refine s_new (c := 3) tyX3 C dX4_init_96 rfl (by decide) gX3 tyX3_ok df_3 wk_4y wi_3 wz_3 fB3 M.rg (by decide) (by decide) ?_
  refine s_dup C dX4_init_99 rfl ?_
  refine s_cI (st := [rfX X 79, .int 3, rfX X 29]) (d' := 2) (mc := 13) (ms := 288) C M.rg (Nat.le_trans (by decide) hd) rfl rfl wm_3 wz_3 wc_3 ⟨by decide +kernel, by decide +kernel, by decide +kernel⟩ (by decide) (Or.inl wl_43) dX4_init_100 (wX3_init (Nat.le_refl 2) (S := gr sB3 3) (r := 79) (by decide +kernel) (by decide +kernel) fB3.gr) rfl rfl (Nat.le_of_ble_eq_true rfl) (by decide) (by decide) ?_
  refine s_aast (b := 79) (c := 7) (ci := 3) (q := 3) C dX4_init_103 (by decide +kernel) (Or.inr ⟨rfl, rfl⟩) (by decide +kernel) (by decide) (by decide) ?_
  refine s_iinc (v := 4) (ls' := [some (rfX X 0), some (.int 4)]) C dX4_init_104 rfl (by decide) (Nat.le_of_ble_eq_true rfl) (by decide) rfl rfl ?_
  refine s_goto (tgt := 82) C dX4_init_107 (by decide) ?_
  refine s_S (S' := sB4) (I' := iB4) rfl rfl ?_
  refine s_iload_n C dX4_init_82 rfl rfl ?_
  refine s_aload_n C dX4_init_83 rfl rfl ?_
  refine s_getR (b := 29) C dX4_init_84 (by decide +kernel) foX4_19 rfl (by decide +kernel) ?_
  refine s_alenR (v := 9) C dX4_init_87 (m := 7) (by decide +kernel) (by decide) (by decide +kernel) ?_
  refine s_icmp_ge (tgt := 110) C dX4_init_88 (by decide) (fun c => absurd c (by decide)) (fun c => ?_)
  refine s_aload_n C dX4_init_91 rfl rfl ?_
  refine s_getR (b := 29) C dX4_init_92 (by decide +kernel) foX4_19 rfl (by decide +kernel) ?_
  refine s_iload_n C dX4_init_95 rfl rfl ?_
  refine s_new (c := 3) tyX3 C dX4_init_96 rfl (by decide) gX3 tyX3_ok df_3 wk_4y wi_3 wz_3 fB4 M.rg (by decide) (by decide) ?_
  refine s_dup C dX4_init_99 rfl ?_
  refine s_cI (st := [rfX X 93, .int 4, rfX X 29]) (d' := 2) (mc := 13) (ms := 288) C M.rg (Nat.le_trans (by decide) hd) rfl rfl wm_3 wz_3 wc_3 ⟨by decide +kernel, by decide +kernel, by decide +kernel⟩ (by decide) (Or.inl wl_43) dX4_init_100 (wX3_init (Nat.le_refl 2) (S := gr sB4 3) (r := 93) (by decide +kernel) (by decide +kernel) fB4.gr) rfl rfl (Nat.le_of_ble_eq_true rfl) (by decide) (by decide) ?_
  refine s_aast (b := 93) (c := 7) (ci := 3) (q := 4) C dX4_init_103 (by decide +kernel) (Or.inr ⟨rfl, rfl⟩) (by decide +kernel) (by decide) (by decide) ?_
  refine s_iinc (v := 5) (ls' := [some (rfX X 0), some (.int 5)]) C dX4_init_104 rfl (by decide) (Nat.le_of_ble_eq_true rfl) (by decide) rfl rfl ?_
  refine s_goto (tgt := 82) C dX4_init_107 (by decide) ?_
  refine s_S (S' := sB5) (I' := iB5) rfl rfl ?_
  refine s_iload_n C dX4_init_82 rfl rfl ?_
  refine s_aload_n C dX4_init_83 rfl rfl ?_
  refine s_getR (b := 29) C dX4_init_84 (by decide +kernel) foX4_19 rfl (by decide +kernel) ?_
  refine s_alenR (v := 9) C dX4_init_87 (m := 7) (by decide +kernel) (by decide) (by decide +kernel) ?_
  refine s_icmp_ge (tgt := 110) C dX4_init_88 (by decide) (fun c => absurd c (by decide)) (fun c => ?_)
  refine s_aload_n C dX4_init_91 rfl rfl ?_
  refine s_getR (b := 29) C dX4_init_92 (by decide +kernel) foX4_19 rfl (by decide +kernel) ?_
  refine s_iload_n C dX4_init_95 rfl rfl ?_
  refine s_new (c := 3) tyX3 C dX4_init_96 rfl (by decide) gX3 tyX3_ok df_3 wk_4y wi_3 wz_3 fB5 M.rg (by decide) (by decide) ?_
  refine s_dup C dX4_init_99 rfl ?_
  refine s_cI (st := [rfX X 107, .int 5, rfX X 29]) (d' := 2) (mc := 13) (ms := 288) C M.rg (Nat.le_trans (by decide) hd) rfl rfl wm_3 wz_3 wc_3 ⟨by decide +kernel, by decide +kernel, by decide +kernel⟩ (by decide) (Or.inl wl_43) dX4_init_100 (wX3_init (Nat.le_refl 2) (S := gr sB5 3) (r := 107) (by decide +kernel) (by decide +kernel) fB5.gr) rfl rfl (Nat.le_of_ble_eq_true rfl) (by decide) (by decide) ?_
  refine s_aast (b := 107) (c := 7) (ci := 3) (q := 5) C dX4_init_103 (by decide +kernel) (Or.inr ⟨rfl, rfl⟩) (by decide +kernel) (by decide) (by decide) ?_
  refine s_iinc (v := 6) (ls' := [some (rfX X 0), some (.int 6)]) C dX4_init_104 rfl (by decide) (Nat.le_of_ble_eq_true rfl) (by decide) rfl rfl ?_
  refine s_goto (tgt := 82) C dX4_init_107 (by decide) ?_
  refine s_S (S' := sB6) (I' := iB6) rfl rfl ?_
  refine s_iload_n C dX4_init_82 rfl rfl ?_
  refine s_aload_n C dX4_init_83 rfl rfl ?_
  refine s_getR (b := 29) C dX4_init_84 (by decide +kernel) foX4_19 rfl (by decide +kernel) ?_
  refine s_alenR (v := 9) C dX4_init_87 (m := 7) (by decide +kernel) (by decide) (by decide +kernel) ?_
  refine s_icmp_ge (tgt := 110) C dX4_init_88 (by decide) (fun c => absurd c (by decide)) (fun c => ?_)
  refine s_aload_n C dX4_init_91 rfl rfl ?_
  refine s_getR (b := 29) C dX4_init_92 (by decide +kernel) foX4_19 rfl (by decide +kernel) ?_
  refine s_iload_n C dX4_init_95 rfl rfl ?_
  refine s_new (c := 3) tyX3 C dX4_init_96 rfl (by decide) gX3 tyX3_ok df_3 wk_4y wi_3 wz_3 fB6 M.rg (by decide) (by decide) ?_
  refine s_dup C dX4_init_99 rfl ?_
  refine s_cI (st := [rfX X 121, .int 6, rfX X 29]) (d' := 2) (mc := 13) (ms := 288) C M.rg (Nat.le_trans (by decide) hd) rfl rfl wm_3 wz_3 wc_3 ⟨by decide +kernel, by decide +kernel, by decide +kernel⟩ (by decide) (Or.inl wl_43) dX4_init_100 (wX3_init (Nat.le_refl 2) (S := gr sB6 3) (r := 121) (by decide +kernel) (by decide +kernel) fB6.gr) rfl rfl (Nat.le_of_ble_eq_true rfl) (by decide) (by decide) ?_
  refine s_aast (b := 121) (c := 7) (ci := 3) (q := 6) C dX4_init_103 (by decide +kernel) (Or.inr ⟨rfl, rfl⟩) (by decide +kernel) (by decide) (by decide) ?_
  refine s_iinc (v := 7) (ls' := [some (rfX X 0), some (.int 7)]) C dX4_init_104 rfl (by decide) (Nat.le_of_ble_eq_true rfl) (by decide) rfl rfl ?_
  refine s_goto (tgt := 82) C dX4_init_107 (by decide) ?_
  refine s_S (S' := sB7) (I' := iB7) rfl rfl ?_
  refine s_iload_n C dX4_init_82 rfl rfl ?_
  refine s_aload_n C dX4_init_83 rfl rfl ?_
  refine s_getR (b := 29) C dX4_init_84 (by decide +kernel) foX4_19 rfl (by decide +kernel) ?_
  refine s_alenR (v := 9) C dX4_init_87 (m := 7) (by decide +kernel) (by decide) (by decide +kernel) ?_
  refine s_icmp_ge (tgt := 110) C dX4_init_88 (by decide) (fun c => absurd c (by decide)) (fun c => ?_)
  refine s_aload_n C dX4_init_91 rfl rfl ?_
  refine s_getR (b := 29) C dX4_init_92 (by decide +kernel) foX4_19 rfl (by decide +kernel) ?_
  refine s_iload_n C dX4_init_95 rfl rfl ?_
  refine s_new (c := 3) tyX3 C dX4_init_96 rfl (by decide) gX3 tyX3_ok df_3 wk_4y wi_3 wz_3 fB7 M.rg (by decide) (by decide) ?_
  refine s_dup C dX4_init_99 rfl ?_
  refine s_cI (st := [rfX X 135, .int 7, rfX X 29]) (d' := 2) (mc := 13) (ms := 288) C M.rg (Nat.le_trans (by decide) hd) rfl rfl wm_3 wz_3 wc_3 ⟨by decide +kernel, by decide +kernel, by decide +kernel⟩ (by decide) (Or.inl wl_43) dX4_init_100 (wX3_init (Nat.le_refl 2) (S := gr sB7 3) (r := 135) (by decide +kernel) (by decide +kernel) fB7.gr) rfl rfl (Nat.le_of_ble_eq_true rfl) (by decide) (by decide) ?_
  refine s_aast (b := 135) (c := 7) (ci := 3) (q := 7) C dX4_init_103 (by decide +kernel) (Or.inr ⟨rfl, rfl⟩) (by decide +kernel) (by decide) (by decide) ?_
  refine s_iinc (v := 8) (ls' := [some (rfX X 0), some (.int 8)]) C dX4_init_104 rfl (by decide) (Nat.le_of_ble_eq_true rfl) (by decide) rfl rfl ?_
  refine s_goto (tgt := 82) C dX4_init_107 (by decide) ?_
  refine s_S (S' := sB8) (I' := iB8) rfl rfl ?_
  refine s_iload_n C dX4_init_82 rfl rfl ?_
  refine s_aload_n C dX4_init_83 rfl rfl ?_
  refine s_getR (b := 29) C dX4_init_84 (by decide +kernel) foX4_19 rfl (by decide +kernel) ?_
  refine s_alenR (v := 9) C dX4_init_87 (m := 7) (by decide +kernel) (by decide) (by decide +kernel) ?_
  refine s_icmp_ge (tgt := 110) C dX4_init_88 (by decide) (fun c => absurd c (by decide)) (fun c => ?_)
  refine s_aload_n C dX4_init_91 rfl rfl ?_
  refine s_getR (b := 29) C dX4_init_92 (by decide +kernel) foX4_19 rfl (by decide +kernel) ?_
  refine s_iload_n C dX4_init_95 rfl rfl ?_
  refine s_new (c := 3) tyX3 C dX4_init_96 rfl (by decide) gX3 tyX3_ok df_3 wk_4y wi_3 wz_3 fB8 M.rg (by decide) (by decide) ?_
  refine s_dup C dX4_init_99 rfl ?_
  refine s_cI (st := [rfX X 149, .int 8, rfX X 29]) (d' := 2) (mc := 13) (ms := 288) C M.rg (Nat.le_trans (by decide) hd) rfl rfl wm_3 wz_3 wc_3 ⟨by decide +kernel, by decide +kernel, by decide +kernel⟩ (by decide) (Or.inl wl_43) dX4_init_100 (wX3_init (Nat.le_refl 2) (S := gr sB8 3) (r := 149) (by decide +kernel) (by decide +kernel) fB8.gr) rfl rfl (Nat.le_of_ble_eq_true rfl) (by decide) (by decide) ?_
  refine s_aast (b := 149) (c := 7) (ci := 3) (q := 8) C dX4_init_103 (by decide +kernel) (Or.inr ⟨rfl, rfl⟩) (by decide +kernel) (by decide) (by decide) ?_
  refine s_iinc (v := 9) (ls' := [some (rfX X 0), some (.int 9)]) C dX4_init_104 rfl (by decide) (Nat.le_of_ble_eq_true rfl) (by decide) rfl rfl ?_
  refine s_goto (tgt := 82) C dX4_init_107 (by decide) ?_
  refine s_S (S' := sB9) (I' := iB9) rfl rfl ?_
  refine s_iload_n C dX4_init_82 rfl rfl ?_
  refine s_aload_n C dX4_init_83 rfl rfl ?_
  refine s_getR (b := 29) C dX4_init_84 (by decide +kernel) foX4_19 rfl (by decide +kernel) ?_
  refine s_alenR (v := 9) C dX4_init_87 (m := 7) (by decide +kernel) (by decide) (by decide +kernel) ?_
  refine s_icmp_ge (tgt := 110) C dX4_init_88 (by decide) (fun c => ?_) (fun c => absurd (by decide) c)
  exact s_vret C M dX4_init_110 rfl (by decide) (by decide)
