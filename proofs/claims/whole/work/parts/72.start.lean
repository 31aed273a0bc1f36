/-! ===== the model's constructor; the law from its entry to its loop ===== -/
def sM0 : Sx := gr sB9 5
def sM1 : Sx := sr (gr sM0 383) 163 0 164
def sM2 : Sx := sr (gr sM1 383) 163 1 165
def sM3 : Sx := sr (gr sM2 383) 163 2 166
def sM4 : Sx := sr (mnaS sM3) 163 3 167
def sM5 : Sx := sr (gr sM4 100) 163 9 176
def sM6 : Sx := sr (gr sM5 40) 163 11 177
def sM7 : Sx := sr (gr sM6 70) 163 12 178
def sM8 : Sx := sr (gr sM7 70) 163 20 179
def iM : Mm := wr iB9 164 0 70
theorem mna_F {S : Sx} {I : Mm} (h : Fsh S I) : Fsh (mnaS S) I := fun b i hb => by
  have hb' : S.1 + 9 ≤ b := hb
  refine ⟨?_, (h b i (by omega)).2⟩
  show (if b = S.1 ∧ i < 8 then some (S.1 + 1 + i) else S.2.2 b i) = none
  rw [if_neg (by omega)]
  exact (h b i (by omega)).1
theorem fM0 : Fsh sM0 iB9 := fB9.gr
theorem fM1 : Fsh sM1 iB9 := (fM0.gr (c := 383)).sr (by decide +kernel)
theorem fM2 : Fsh sM2 iB9 := (fM1.gr (c := 383)).sr (by decide +kernel)
theorem fM3 : Fsh sM3 iB9 := (fM2.gr (c := 383)).sr (by decide +kernel)
theorem fM4 : Fsh sM4 iB9 := (mna_F fM3).sr (by decide +kernel)
theorem fM5 : Fsh sM5 iB9 := (fM4.gr (c := 100)).sr (by decide +kernel)
theorem fM6 : Fsh sM6 iB9 := (fM5.gr (c := 40)).sr (by decide +kernel)
theorem fM7 : Fsh sM7 iB9 := (fM6.gr (c := 70)).sr (by decide +kernel)
theorem fM8 : Fsh sM8 iB9 := (fM7.gr (c := 70)).sr (by decide +kernel)
set_option maxRecDepth 100000 in
set_option maxHeartbeats 4000000 in
theorem wX5_init {E : Ev} {d : Nat} (hd : 1 ≤ d) : SemM E d 16 4351 mX5_init [rfE E 163] sM0 iB9 none sM8 iM := by
  refine SemM.ofX (E := E) (y := mX5_init) (args := fun E => [rfE E 163]) (r := fun _ => none) (fun E => [some (rfE E 163)]) (by decide +kernel) (Nat.le_of_ble_eq_true rfl) rfl (fun X C M => ?_)
  refine s_aload_n C dX5_init_0 rfl rfl ?_
  refine s_oinit C M.rg hd wo_l5 wo_i wo_c dX5_init_1 (Nat.le_of_ble_eq_true rfl) ?_
  refine s_aload_n C dX5_init_4 rfl rfl ?_
  refine s_sipush C dX5_init_5 si_373 ?_
  refine s_newa (m := 373) C dX5_init_8 wa_i (by decide) (by decide) (by decide) fM0 M.rg (by decide) (by decide) ?_
  refine s_putR (b := 164) (c := 5) (j := 0) C dX5_init_10 (by decide +kernel) TX5 tyX5 rfl (by decide) (by decide) gX5 rfl wf_5_0 tyX5_ok nmX5 rfl rfl rfl nr_I rfl ?_
  refine s_S (S' := sM1) (I' := iB9) rfl rfl ?_
  refine s_aload_n C dX5_init_13 rfl rfl ?_
  refine s_sipush C dX5_init_14 si_373 ?_
  refine s_newa (m := 373) C dX5_init_17 wa_i (by decide) (by decide) (by decide) fM1 M.rg (by decide) (by decide) ?_
  refine s_putR (b := 165) (c := 5) (j := 1) C dX5_init_19 (by decide +kernel) TX5 tyX5 rfl (by decide) (by decide) gX5 rfl wf_5_1 tyX5_ok nmX5 rfl rfl rfl nr_I rfl ?_
  refine s_S (S' := sM2) (I' := iB9) rfl rfl ?_
  refine s_aload_n C dX5_init_22 rfl rfl ?_
  refine s_sipush C dX5_init_23 si_373 ?_
  refine s_newa (m := 373) C dX5_init_26 wa_i (by decide) (by decide) (by decide) fM2 M.rg (by decide) (by decide) ?_
  refine s_putR (b := 166) (c := 5) (j := 2) C dX5_init_28 (by decide +kernel) TX5 tyX5 rfl (by decide) (by decide) gX5 rfl wf_5_2 tyX5_ok nmX5 rfl rfl rfl nr_I rfl ?_
  refine s_S (S' := sM3) (I' := iB9) rfl rfl ?_
  refine s_aload_n C dX5_init_31 rfl rfl ?_
  refine s_bipush C dX5_init_32 bi_8 ?_
  refine s_sipush C dX5_init_34 si_373 ?_
  refine s_mna C dX5_init_37 wk_5 wa_i fM3 M.rg (by decide) (by decide) ?_
  refine s_putR (b := 167) (c := 5) (j := 3) C dX5_init_41 (by decide +kernel) TX5 tyX5 rfl (by decide) (by decide) gX5 rfl wf_5_3 tyX5_ok nmX5 rfl rfl rfl nr_II rfl ?_
  refine s_S (S' := sM4) (I' := iB9) rfl rfl ?_
  refine s_aload_n C dX5_init_44 rfl rfl ?_
  refine s_bipush C dX5_init_45 bi_90 ?_
  refine s_newa (m := 90) C dX5_init_47 wa_i (by decide) (by decide) (by decide) fM4 M.rg (by decide) (by decide) ?_
  refine s_putR (b := 176) (c := 5) (j := 9) C dX5_init_49 (by decide +kernel) TX5 tyX5 rfl (by decide) (by decide) gX5 rfl wf_5_9 tyX5_ok nmX5 rfl rfl rfl nr_I rfl ?_
  refine s_S (S' := sM5) (I' := iB9) rfl rfl ?_
  refine s_aload_n C dX5_init_52 rfl rfl ?_
  refine s_bipush C dX5_init_53 bi_30 ?_
  refine s_newa (m := 30) C dX5_init_55 wa_i (by decide) (by decide) (by decide) fM5 M.rg (by decide) (by decide) ?_
  refine s_putR (b := 177) (c := 5) (j := 11) C dX5_init_57 (by decide +kernel) TX5 tyX5 rfl (by decide) (by decide) gX5 rfl wf_5_11 tyX5_ok nmX5 rfl rfl rfl nr_I rfl ?_
  refine s_S (S' := sM6) (I' := iB9) rfl rfl ?_
  refine s_aload_n C dX5_init_60 rfl rfl ?_
  refine s_bipush C dX5_init_61 bi_60 ?_
  refine s_newa (m := 60) C dX5_init_63 wa_i (by decide) (by decide) (by decide) fM6 M.rg (by decide) (by decide) ?_
  refine s_putR (b := 178) (c := 5) (j := 12) C dX5_init_65 (by decide +kernel) TX5 tyX5 rfl (by decide) (by decide) gX5 rfl wf_5_12 tyX5_ok nmX5 rfl rfl rfl nr_I rfl ?_
  refine s_S (S' := sM7) (I' := iB9) rfl rfl ?_
  refine s_aload_n C dX5_init_68 rfl rfl ?_
  refine s_bipush C dX5_init_69 bi_60 ?_
  refine s_newa (m := 60) C dX5_init_71 wa_i (by decide) (by decide) (by decide) fM7 M.rg (by decide) (by decide) ?_
  refine s_putR (b := 179) (c := 5) (j := 20) C dX5_init_73 (by decide +kernel) TX5 tyX5 rfl (by decide) (by decide) gX5 rfl wf_5_20 tyX5_ok nmX5 rfl rfl rfl nr_I rfl ?_
  refine s_S (S' := sM8) (I' := iB9) rfl rfl ?_
  refine s_aload_n C dX5_init_76 rfl rfl ?_
  refine s_getR (b := 164) C dX5_init_77 (c := 5) (j := 0) (by decide +kernel) foX5_9 rfl (by decide +kernel) ?_
  refine s_iconst C dX5_init_80 ic_0 ?_
  refine s_bipush C dX5_init_81 bi_70 ?_
  refine s_ast (q := 0) (m := 383) C dX5_init_83 (by decide +kernel) (by decide) (by decide) (by decide) rfl ?_
  exact s_vret C M dX5_init_84 rfl (by decide) (by decide)
/-- beyond its cells a world holds nothing, and no reference lies beyond place 30 -/
def Nin (S : Sx) : Prop := (∀ a, S.1 ≤ a → S.2.1 a = 9) ∧ ∀ a j, 30 ≤ j → S.2.2 a j = none
theorem Nin.gr {S : Sx} {c : Nat} (h : Nin S) : Nin (gr S c) := ⟨fun a ha => by
  have h1 : S.1 + 1 ≤ a := ha
  show (if a = S.1 then c else S.2.1 a) = 9
  rw [if_neg (by omega)]
  exact h.1 a (by omega), h.2⟩
theorem Nin.sr {S : Sx} {a j v : Nat} (h : Nin S) (hj : j < 30) : Nin (sr S a j v) := ⟨h.1, fun b i hi => by
  show (if b = a ∧ i = j then some v else S.2.2 b i) = none
  rw [if_neg (by omega)]
  exact h.2 b i hi⟩
theorem Nin.rick {S : Sx} {r : Nat} (h : Nin S) : Nin (rickS S r) := (((((h.gr).sr (by decide)).gr).sr (by decide)).gr).sr (by decide)
theorem Nin.row {S : Sx} {r : Nat} (h : Nin S) : Nin (rowS S r) := (h.gr).sr (by decide)
theorem Nin.ord {S : Sx} {r : Nat} (h : Nin S) : Nin (ordS S r) := (((h.gr).sr (by decide)).gr).sr (by decide)
theorem Nin.step {S : Sx} {A i : Nat} (h : Nin S) (hi : i < 30) : Nin (stepY A i S) := ((h.gr).rick).sr hi
theorem Nin.yard {S : Sx} {r : Nat} (h : Nin S) : Nin (yardS S r) := ((((h.gr).sr (by decide)).step (by decide)).step (by decide)).step (by decide)
theorem Nin.mna {S : Sx} (h : Nin S) : Nin (mnaS S) := ⟨fun a ha => by
  have h1 : S.1 + 9 ≤ a := ha
  show (if a = S.1 then 8 else if S.1 < a ∧ a < S.1 + 9 then 383 else S.2.1 a) = 9
  rw [if_neg (by omega), if_neg (by omega)]
  exact h.1 a (by omega), fun b i hi => by
  show (if b = S.1 ∧ i < 8 then some (S.1 + 1 + i) else S.2.2 b i) = none
  rw [if_neg (by omega)]
  exact h.2 b i hi⟩
theorem nE0 : Nin E0 := ⟨fun _ _ => rfl, fun _ _ _ => rfl⟩
theorem nA2 : Nin sA2 := (((((nE0.gr).gr).yard.sr (by decide)).gr).yard).sr (by decide)
theorem nB0 : Nin sB0 := (((((((((nA2.gr).sr (by decide)).gr).row).sr (by decide)).gr).row).sr (by decide)).gr.ord).sr (by decide)
theorem nB1 : Nin sB1 := ((nB0.gr).yard).sr (by decide)
theorem nB2 : Nin sB2 := ((nB1.gr).yard).sr (by decide)
theorem nB3 : Nin sB3 := ((nB2.gr).yard).sr (by decide)
theorem nB4 : Nin sB4 := ((nB3.gr).yard).sr (by decide)
theorem nB5 : Nin sB5 := ((nB4.gr).yard).sr (by decide)
theorem nB6 : Nin sB6 := ((nB5.gr).yard).sr (by decide)
theorem nB7 : Nin sB7 := ((nB6.gr).yard).sr (by decide)
theorem nB8 : Nin sB8 := ((nB7.gr).yard).sr (by decide)
theorem nB9 : Nin sB9 := ((nB8.gr).yard).sr (by decide)
theorem nM3 : Nin sM3 := ((((((nB9.gr).gr).sr (by decide)).gr).sr (by decide)).gr).sr (by decide)
theorem nM8 : Nin sM8 := (((((((((nM3.mna).sr (by decide)).gr).sr (by decide)).gr).sr (by decide)).gr).sr (by decide)).gr).sr (by decide)
theorem sM8_kd : ∀ a, a < 180 → sM8.2.1 a = kd0 a := by decide +kernel
