/-! ===== the constructors ===== -/
theorem wo_i : Cond.instanceMethod Lib.objectInit ∈ lw_good := gw_mem 40 (by decide +kernel) (by decide +kernel)
theorem wo_c : Cond.code Lib.objectInit ⟨#[0xb1]⟩ 1 none ∈ lw_good := gw_mem 41 (by decide +kernel) (by decide +kernel)
theorem wa_i : Cond.arrayClass .int ∈ lw_good := gw_mem 74 (by decide +kernel) (by decide +kernel)
theorem wo_l0 : Cond.methodLink RX0 3 Lib.objectInit ∈ lw_good := gw_mem 128 (by decide +kernel) (by decide +kernel)
theorem wi_0 : Cond.instantiable RX0 (nfs 0) ∈ lw_good := gw_mem 124 (by decide +kernel) (by decide +kernel)
theorem wz_0 : Cond.initialized RX0 ∈ lw_good := gw_mem 24 (by decide +kernel) (by decide +kernel)
theorem wm_0 : Cond.instanceMethod yX0_init ∈ lw_good := gw_mem 126 (by decide +kernel) (by decide +kernel)
theorem wc_0 : Cond.code mX0_init.1 mX0_init.2.1 mX0_init.2.2.1 mX0_init.2.2.2 ∈ lw_good := gw_mem 127 (by decide +kernel) (by decide +kernel)
theorem df_0 : ∀ j, j < nfs 0 → defaultValue (tyX0 j) = if isR 0 j then .null else .int 0 := by decide +kernel
theorem wf_0_0 : Cond.fieldLink RX0 9 RX0 (TX0 0).2.1 (TX0 0).2.2.1 ∈ lw_good := gw_mem 129 (by decide +kernel) (by decide +kernel)
theorem wf_0_1 : Cond.fieldLink RX0 15 RX0 (TX0 1).2.1 (TX0 1).2.2.1 ∈ lw_good := gw_mem 130 (by decide +kernel) (by decide +kernel)
theorem wo_l1 : Cond.methodLink RX1 3 Lib.objectInit ∈ lw_good := gw_mem 54 (by decide +kernel) (by decide +kernel)
theorem wi_1 : Cond.instantiable RX1 (nfs 1) ∈ lw_good := gw_mem 50 (by decide +kernel) (by decide +kernel)
theorem wz_1 : Cond.initialized RX1 ∈ lw_good := gw_mem 22 (by decide +kernel) (by decide +kernel)
theorem wm_1 : Cond.instanceMethod yX1_init ∈ lw_good := gw_mem 52 (by decide +kernel) (by decide +kernel)
theorem wc_1 : Cond.code mX1_init.1 mX1_init.2.1 mX1_init.2.2.1 mX1_init.2.2.2 ∈ lw_good := gw_mem 53 (by decide +kernel) (by decide +kernel)
theorem df_1 : ∀ j, j < nfs 1 → defaultValue (tyX1 j) = if isR 1 j then .null else .int 0 := by decide +kernel
theorem wf_1_0 : Cond.fieldLink RX1 9 RX1 (TX1 0).2.1 (TX1 0).2.2.1 ∈ lw_good := gw_mem 55 (by decide +kernel) (by decide +kernel)
theorem wf_1_1 : Cond.fieldLink RX1 15 RX1 (TX1 1).2.1 (TX1 1).2.2.1 ∈ lw_good := gw_mem 56 (by decide +kernel) (by decide +kernel)
theorem wf_1_2 : Cond.fieldLink RX1 18 RX1 (TX1 2).2.1 (TX1 2).2.2.1 ∈ lw_good := gw_mem 57 (by decide +kernel) (by decide +kernel)
theorem wo_l2 : Cond.methodLink RX2 3 Lib.objectInit ∈ lw_good := gw_mem 113 (by decide +kernel) (by decide +kernel)
theorem wi_2 : Cond.instantiable RX2 (nfs 2) ∈ lw_good := gw_mem 109 (by decide +kernel) (by decide +kernel)
theorem wz_2 : Cond.initialized RX2 ∈ lw_good := gw_mem 23 (by decide +kernel) (by decide +kernel)
theorem wm_2 : Cond.instanceMethod yX2_init ∈ lw_good := gw_mem 111 (by decide +kernel) (by decide +kernel)
theorem wc_2 : Cond.code mX2_init.1 mX2_init.2.1 mX2_init.2.2.1 mX2_init.2.2.2 ∈ lw_good := gw_mem 112 (by decide +kernel) (by decide +kernel)
theorem df_2 : ∀ j, j < nfs 2 → defaultValue (tyX2 j) = if isR 2 j then .null else .int 0 := by decide +kernel
theorem wf_2_0 : Cond.fieldLink RX2 9 RX2 (TX2 0).2.1 (TX2 0).2.2.1 ∈ lw_good := gw_mem 114 (by decide +kernel) (by decide +kernel)
theorem wo_l3 : Cond.methodLink RX3 3 Lib.objectInit ∈ lw_good := gw_mem 47 (by decide +kernel) (by decide +kernel)
theorem wi_3 : Cond.instantiable RX3 (nfs 3) ∈ lw_good := gw_mem 43 (by decide +kernel) (by decide +kernel)
theorem wz_3 : Cond.initialized RX3 ∈ lw_good := gw_mem 21 (by decide +kernel) (by decide +kernel)
theorem wm_3 : Cond.instanceMethod yX3_init ∈ lw_good := gw_mem 45 (by decide +kernel) (by decide +kernel)
theorem wc_3 : Cond.code mX3_init.1 mX3_init.2.1 mX3_init.2.2.1 mX3_init.2.2.2 ∈ lw_good := gw_mem 46 (by decide +kernel) (by decide +kernel)
theorem df_3 : ∀ j, j < nfs 3 → defaultValue (tyX3 j) = if isR 3 j then .null else .int 0 := by decide +kernel
theorem wf_3_0 : Cond.fieldLink RX3 11 RX3 (TX3 0).2.1 (TX3 0).2.2.1 ∈ lw_good := gw_mem 75 (by decide +kernel) (by decide +kernel)
theorem wo_l4 : Cond.methodLink RX4 1 Lib.objectInit ∈ lw_good := gw_mem 39 (by decide +kernel) (by decide +kernel)
theorem wi_4 : Cond.instantiable RX4 (nfs 4) ∈ lw_good := gw_mem 35 (by decide +kernel) (by decide +kernel)
theorem wz_4 : Cond.initialized RX4 ∈ lw_good := gw_mem 20 (by decide +kernel) (by decide +kernel)
theorem wm_4 : Cond.instanceMethod yX4_init ∈ lw_good := gw_mem 37 (by decide +kernel) (by decide +kernel)
theorem wc_4 : Cond.code mX4_init.1 mX4_init.2.1 mX4_init.2.2.1 mX4_init.2.2.2 ∈ lw_good := gw_mem 38 (by decide +kernel) (by decide +kernel)
theorem df_4 : ∀ j, j < nfs 4 → defaultValue (tyX4 j) = if isR 4 j then .null else .int 0 := by decide +kernel
theorem wf_4_0 : Cond.fieldLink RX4 10 RX4 (TX4 0).2.1 (TX4 0).2.2.1 ∈ lw_good := gw_mem 142 (by decide +kernel) (by decide +kernel)
theorem wf_4_1 : Cond.fieldLink RX4 16 RX4 (TX4 1).2.1 (TX4 1).2.2.1 ∈ lw_good := gw_mem 143 (by decide +kernel) (by decide +kernel)
theorem wf_4_3 : Cond.fieldLink RX4 19 RX4 (TX4 3).2.1 (TX4 3).2.2.1 ∈ lw_good := gw_mem 145 (by decide +kernel) (by decide +kernel)
theorem wf_4_6 : Cond.fieldLink RX4 26 RX4 (TX4 6).2.1 (TX4 6).2.2.1 ∈ lw_good := gw_mem 148 (by decide +kernel) (by decide +kernel)
theorem wf_4_7 : Cond.fieldLink RX4 30 RX4 (TX4 7).2.1 (TX4 7).2.2.1 ∈ lw_good := gw_mem 149 (by decide +kernel) (by decide +kernel)
theorem wf_4_8 : Cond.fieldLink RX4 36 RX4 (TX4 8).2.1 (TX4 8).2.2.1 ∈ lw_good := gw_mem 150 (by decide +kernel) (by decide +kernel)
theorem wk_37 : Cond.classLink RX3 9 "LeaningRicks$Rick" ∈ lw_good := gw_mem 48 (by decide +kernel) (by decide +kernel)
theorem wk_4y : Cond.classLink RX4 7 "LeaningRicks$Yard" ∈ lw_good := gw_mem 42 (by decide +kernel) (by decide +kernel)
theorem wk_4r : Cond.classLink RX4 23 RX2 ∈ lw_good := gw_mem 108 (by decide +kernel) (by decide +kernel)
theorem wk_4o : Cond.classLink RX4 33 RX0 ∈ lw_good := gw_mem 123 (by decide +kernel) (by decide +kernel)
theorem wk_L4 : Cond.classLink RL 1 RX4 ∈ lw_good := gw_mem 34 (by decide +kernel) (by decide +kernel)
theorem wl_L4 : Cond.methodLink RL 167 yX4_init ∈ lw_good := gw_mem 36 (by decide +kernel) (by decide +kernel)
theorem wl_43 : Cond.methodLink RX4 9 yX3_init ∈ lw_good := gw_mem 44 (by decide +kernel) (by decide +kernel)
theorem wl_31 : Cond.methodLinkNest RX3 21 yX1_init "LeaningRicks" ∈ lw_nest := nw_mem 51 (by decide +kernel) (by decide +kernel)
theorem wl_42 : Cond.methodLinkNest RX4 25 yX2_init "LeaningRicks" ∈ lw_nest := nw_mem 110 (by decide +kernel) (by decide +kernel)
theorem wl_40 : Cond.methodLinkNest RX4 35 yX0_init "LeaningRicks" ∈ lw_nest := nw_mem 125 (by decide +kernel) (by decide +kernel)
theorem kd_gr {S : Sx} {c a : Nat} (h : a < S.1) : (gr S c).2.1 a = S.2.1 a := if_neg (by omega)
def rickS (S : Sx) (r : Nat) : Sx := sr (gr (sr (gr (sr (gr S 40) r 0 S.1) 40) r 1 (S.1 + 1)) 40) r 2 (S.1 + 2)
def rowS (S : Sx) (r : Nat) : Sx := sr (gr S 70) r 0 S.1
def ordS (S : Sx) (r : Nat) : Sx := sr (gr (sr (gr S 30) r 0 S.1) 70) r 1 (S.1 + 1)
def stepY (A i : Nat) (S : Sx) : Sx := sr (rickS (gr S 1) S.1) A i S.1
def yardS (S : Sx) (r : Nat) : Sx := stepY S.1 2 (stepY S.1 1 (stepY S.1 0 (sr (gr S 6) r 0 S.1)))
theorem nr_A (C : String) : ∀ q : Nat, narrow (.array (.object C)) (.ref q) = .ref q ∧ fits (.array (.object C)) (.ref q) = true := fun _ => ⟨rfl, rfl⟩
theorem nr_I : ∀ q : Nat, narrow (.array .int) (.ref q) = .ref q ∧ fits (.array .int) (.ref q) = true := fun _ => ⟨rfl, rfl⟩
theorem nr_II : ∀ q : Nat, narrow (.array (.array .int)) (.ref q) = .ref q ∧ fits (.array (.array .int)) (.ref q) = true := fun _ => ⟨rfl, rfl⟩
theorem nr_O (C : String) : ∀ q : Nat, narrow (.object C) (.ref q) = .ref q ∧ fits (.object C) (.ref q) = true := fun _ => ⟨rfl, rfl⟩
theorem wX1_init {E : Ev} {d : Nat} (hd : 1 ≤ d) {S : Sx} {I : Mm} {r : Nat} (hr : r < S.1) (hk : S.2.1 r = 1) (hf : Fsh S I) : SemM E d 3 90 mX1_init [rfE E r] S I none (rickS S r) (I) := by
  refine SemM.ofX (E := E) (y := mX1_init) (args := fun E => [rfE E r]) (r := fun _ => none) (fun E => [some (rfE E r)]) (by decide +kernel) (Nat.le_of_ble_eq_true rfl) rfl (fun X C M => ?_)
  refine s_aload_n C dX1_init_0 rfl rfl ?_
  refine s_oinit C M.rg (Nat.le_trans (by decide) hd) wo_l1 wo_i wo_c dX1_init_1 (Nat.le_of_ble_eq_true rfl) ?_
  have f1 : Fsh (gr S 40) I := hf.gr
  have f2 : Fsh (sr (gr S 40) r 0 S.1) I := f1.sr (by show r < S.1 + 1; omega)
  have f3 : Fsh (gr (sr (gr S 40) r 0 S.1) 40) I := f2.gr
  have f4 : Fsh (sr (gr (sr (gr S 40) r 0 S.1) 40) r 1 (S.1 + 1)) I := f3.sr (by show r < S.1 + 1 + 1; omega)
  have k1 : (gr S 40).2.1 r = 1 := (kd_gr hr).trans hk
  have k2 : (gr (sr (gr S 40) r 0 S.1) 40).2.1 r = 1 := (kd_gr (by show r < S.1 + 1; omega)).trans k1
  have k3 : (gr (sr (gr (sr (gr S 40) r 0 S.1) 40) r 1 (S.1 + 1)) 40).2.1 r = 1 := (kd_gr (by show r < S.1 + 1 + 1; omega)).trans k2
  refine s_aload_n C dX1_init_4 rfl rfl ?_
  refine s_bipush C dX1_init_5 bi_30 ?_
  refine s_newa (m := 30) C dX1_init_7 wa_i (by decide) (by decide) (by decide) hf M.rg (by decide) (by decide) ?_
  refine s_putR (c := 1) (j := 0) C dX1_init_9 k1 TX1 tyX1 rfl (by decide) (by decide) gX1 rfl wf_1_0 tyX1_ok nmX1 rfl rfl rfl nr_I rfl ?_
  refine s_aload_n C dX1_init_12 rfl rfl ?_
  refine s_bipush C dX1_init_13 bi_30 ?_
  refine s_newa (m := 30) C dX1_init_15 wa_i (by decide) (by decide) (by decide) f2 M.rg (by decide) (by decide) ?_
  refine s_putR (c := 1) (j := 1) C dX1_init_17 k2 TX1 tyX1 rfl (by decide) (by decide) gX1 rfl wf_1_1 tyX1_ok nmX1 rfl rfl rfl nr_I rfl ?_
  refine s_aload_n C dX1_init_20 rfl rfl ?_
  refine s_bipush C dX1_init_21 bi_30 ?_
  refine s_newa (m := 30) C dX1_init_23 wa_i (by decide) (by decide) (by decide) f4 M.rg (by decide) (by decide) ?_
  refine s_putR (c := 1) (j := 2) C dX1_init_25 k3 TX1 tyX1 rfl (by decide) (by decide) gX1 rfl wf_1_2 tyX1_ok nmX1 rfl rfl rfl nr_I rfl ?_
  exact s_vret C M dX1_init_28 rfl (by decide) (by decide)
theorem wX2_init {E : Ev} {d : Nat} (hd : 1 ≤ d) {S : Sx} {I : Mm} {r : Nat} (hr : r < S.1) (hk : S.2.1 r = 2) (hf : Fsh S I) : SemM E d 1 60 mX2_init [rfE E r] S I none (rowS S r) (I) := by
  refine SemM.ofX (E := E) (y := mX2_init) (args := fun E => [rfE E r]) (r := fun _ => none) (fun E => [some (rfE E r)]) (by decide +kernel) (Nat.le_of_ble_eq_true rfl) rfl (fun X C M => ?_)
  refine s_aload_n C dX2_init_0 rfl rfl ?_
  refine s_oinit C M.rg (Nat.le_trans (by decide) hd) wo_l2 wo_i wo_c dX2_init_1 (Nat.le_of_ble_eq_true rfl) ?_
  have k1 : (gr S 70).2.1 r = 2 := (kd_gr hr).trans hk
  refine s_aload_n C dX2_init_4 rfl rfl ?_
  refine s_bipush C dX2_init_5 bi_60 ?_
  refine s_newa (m := 60) C dX2_init_7 wa_i (by decide) (by decide) (by decide) hf M.rg (by decide) (by decide) ?_
  refine s_putR (c := 2) (j := 0) C dX2_init_9 k1 TX2 tyX2 rfl (by decide) (by decide) gX2 rfl wf_2_0 tyX2_ok nmX2 rfl rfl rfl nr_I rfl ?_
  exact s_vret C M dX2_init_12 rfl (by decide) (by decide)
theorem wX0_init {E : Ev} {d : Nat} (hd : 1 ≤ d) {S : Sx} {I : Mm} {r : Nat} (hr : r < S.1) (hk : S.2.1 r = 0) (hf : Fsh S I) : SemM E d 2 80 mX0_init [rfE E r] S I none (ordS S r) (I) := by
  refine SemM.ofX (E := E) (y := mX0_init) (args := fun E => [rfE E r]) (r := fun _ => none) (fun E => [some (rfE E r)]) (by decide +kernel) (Nat.le_of_ble_eq_true rfl) rfl (fun X C M => ?_)
  refine s_aload_n C dX0_init_0 rfl rfl ?_
  refine s_oinit C M.rg (Nat.le_trans (by decide) hd) wo_l0 wo_i wo_c dX0_init_1 (Nat.le_of_ble_eq_true rfl) ?_
  have f1 : Fsh (gr S 30) I := hf.gr
  have f2 : Fsh (sr (gr S 30) r 0 S.1) I := f1.sr (by show r < S.1 + 1; omega)
  have k1 : (gr S 30).2.1 r = 0 := (kd_gr hr).trans hk
  have k2 : (gr (sr (gr S 30) r 0 S.1) 70).2.1 r = 0 := (kd_gr (by show r < S.1 + 1; omega)).trans k1
  refine s_aload_n C dX0_init_4 rfl rfl ?_
  refine s_bipush C dX0_init_5 bi_20 ?_
  refine s_newa (m := 20) C dX0_init_7 wa_i (by decide) (by decide) (by decide) hf M.rg (by decide) (by decide) ?_
  refine s_putR (c := 0) (j := 0) C dX0_init_9 k1 TX0 tyX0 rfl (by decide) (by decide) gX0 rfl wf_0_0 tyX0_ok nmX0 rfl rfl rfl nr_I rfl ?_
  refine s_aload_n C dX0_init_12 rfl rfl ?_
  refine s_bipush C dX0_init_13 bi_60 ?_
  refine s_newa (m := 60) C dX0_init_15 wa_i (by decide) (by decide) (by decide) f2 M.rg (by decide) (by decide) ?_
  refine s_putR (c := 0) (j := 1) C dX0_init_17 k2 TX0 tyX0 rfl (by decide) (by decide) gX0 rfl wf_0_1 tyX0_ok nmX0 rfl rfl rfl nr_I rfl ?_
  exact s_vret C M dX0_init_20 rfl (by decide) (by decide)
