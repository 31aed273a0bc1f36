/-! ===== the constructors of Yard and LeaningRicks ===== -/
theorem rk_kd {S : Sx} {r a : Nat} (h : a < S.1) : (rickS S r).2.1 a = S.2.1 a := by
  show (if a = S.1 + 1 + 1 then 40 else if a = S.1 + 1 then 40 else if a = S.1 then 40 else S.2.1 a) = _
  rw [if_neg (by omega), if_neg (by omega), if_neg (by omega)]
theorem rk_R {S : Sx} {r a j : Nat} (h : a ≠ r) : (rickS S r).2.2 a j = S.2.2 a j := by
  show (if a = r ∧ j = 2 then some (S.1 + 2) else if a = r ∧ j = 1 then some (S.1 + 1) else if a = r ∧ j = 0 then some S.1 else S.2.2 a j) = _
  rw [if_neg (fun q => h q.1), if_neg (fun q => h q.1), if_neg (fun q => h q.1)]
theorem rk_F {S : Sx} {I : Mm} {r : Nat} (h : r < S.1) (f : Fsh S I) : Fsh (rickS S r) I :=
  (((((f.gr (c := 40)).sr (a := r) (j := 0) (v := S.1) (by show r < S.1 + 1; omega)).gr (c := 40)).sr (a := r) (j := 1) (v := S.1 + 1) (by show r < S.1 + 1 + 1; omega)).gr (c := 40)).sr (by show r < S.1 + 1 + 1 + 1; omega)
theorem st_kd {S : Sx} {A i a : Nat} (h : a < S.1) : (stepY A i S).2.1 a = S.2.1 a := (rk_kd (S := gr S 1) (r := S.1) (by show a < S.1 + 1; omega)).trans (kd_gr h)
theorem st_R {S : Sx} {A i a j : Nat} (h : a < S.1) (hA : a ≠ A) : (stepY A i S).2.2 a j = S.2.2 a j := by
  show (if a = A ∧ j = i then some S.1 else (rickS (gr S 1) S.1).2.2 a j) = _
  rw [if_neg (fun q => hA q.1), rk_R (by omega)]
  rfl
theorem st_F {S : Sx} {I : Mm} {A i : Nat} (h : A < S.1) (f : Fsh S I) : Fsh (stepY A i S) I :=
  (rk_F (S := gr S 1) (r := S.1) (by show S.1 < S.1 + 1; omega) f.gr).sr (by show A < S.1 + 1 + 1 + 1 + 1; omega)
theorem yd_kd {S : Sx} {r a : Nat} (h : a < S.1) : (yardS S r).2.1 a = S.2.1 a := by
  unfold yardS
  rw [st_kd (by show a < S.1 + 1 + 4 + 4; omega), st_kd (by show a < S.1 + 1 + 4; omega), st_kd (by show a < S.1 + 1; omega)]
  exact kd_gr h
theorem yd_R {S : Sx} {r a j : Nat} (h : a < S.1) (hr : a ≠ r) : (yardS S r).2.2 a j = S.2.2 a j := by
  unfold yardS
  rw [st_R (by show a < S.1 + 1 + 4 + 4; omega) (by omega), st_R (by show a < S.1 + 1 + 4; omega) (by omega), st_R (by show a < S.1 + 1; omega) (by omega)]
  exact if_neg (fun q => hr q.1)
theorem yd_F {S : Sx} {I : Mm} {r : Nat} (h : r < S.1) (f : Fsh S I) : Fsh (yardS S r) I :=
  st_F (by show S.1 < S.1 + 1 + 4 + 4; omega) (st_F (by show S.1 < S.1 + 1 + 4; omega) (st_F (by show S.1 < S.1 + 1; omega) ((f.gr).sr (by show r < S.1 + 1; omega))))
section CT
variable {X : Cx}
/-- one turn of Yard's loop -/
theorem y_step {d k n r A i : Nat} {v v1 : Int32} {S : Sx} {I : Mm} (hd : 2 ≤ d) (C : CtxOK X mX3_init) (hR : RG X d 13 288) (hv : v.toNatClampNeg = i) (hv1 : v1 = v + 1) (hi : ¬ (v < 0 ∨ 3 ≤ v.toNatClampNeg)) (hlt : ¬ (3 : Int32) ≤ v) (hr : r < S.1) (hA : A < S.1) (hk : S.2.1 r = 3) (hkA : S.2.1 A = 6) (hRA : S.2.2 r 0 = some A) (hf : Fsh S I) (hk' : k + 4 ≤ 13) (hn : n + 95 ≤ 288)
    (K : WM X mX3_init 20 [some (rfX X r), some (.int v1)] [] (stepY A i S) I (k + 4) (n + 95)) : WM X mX3_init 20 [some (rfX X r), some (.int v)] [] S I k n := by
  have g1 : (gr S 1).2.1 r = 3 := (kd_gr hr).trans hk
  refine s_iload_n C dX3_init_20 rfl rfl ?_
  refine s_aload_n C dX3_init_21 rfl rfl ?_
  refine s_getR (b := A) C dX3_init_22 hk foX3_11 rfl hRA ?_
  refine s_alenR (v := 3) C dX3_init_25 hkA (by decide) (by decide +kernel) ?_
  refine s_icmp_ge (tgt := 48) C dX3_init_26 (by decide) (fun c => absurd c hlt) (fun c => ?_)
  refine s_aload_n C dX3_init_29 rfl rfl ?_
  refine s_getR (b := A) C dX3_init_30 hk foX3_11 rfl hRA ?_
  refine s_iload_n C dX3_init_33 rfl rfl ?_
  refine s_new (c := 1) tyX1 C dX3_init_34 rfl (by decide) gX1 tyX1_ok df_1 wk_37 wi_1 wz_1 hf hR (by omega) (by show n + 5 ≤ 288; omega) ?_
  refine s_dup C dX3_init_37 rfl ?_
  have hfin : (rickS (gr S 1) S.1).2.1 A = 6 := (rk_kd (by show A < S.1 + 1; omega)).trans ((kd_gr hA).trans hkA)
  have hfi2 : (rickS (gr S 1) S.1).2.1 S.1 = 1 := (rk_kd (by show S.1 < S.1 + 1; omega)).trans (kd_new S 1)
  refine s_cI (st := [rfX X S.1, .int v, rfX X A]) (d' := 1) (mc := 3) (ms := 90) C hR hd rfl rfl wm_1 wz_1 wc_1 ⟨by decide +kernel, by decide +kernel, by decide +kernel⟩ (by decide) (Or.inr ⟨_, wl_31⟩) dX3_init_38 (wX1_init (Nat.le_refl 1) (S := gr S 1) (r := S.1) (by show S.1 < S.1 + 1; omega) (kd_new S 1) hf.gr) rfl rfl (Nat.le_of_ble_eq_true rfl) (by omega) (by show n + nfs 1 + 90 ≤ 288; show n + 5 + 90 ≤ 288; omega) ?_
  refine s_aast (c := 6) (ci := 1) (q := i) C dX3_init_41 hfin (Or.inl ⟨rfl, rfl⟩) hfi2 hv hi ?_
  refine s_iinc (v := v1) (ls' := [some (rfX X r), some (.int v1)]) C dX3_init_42 rfl (by decide) (Nat.le_of_ble_eq_true rfl) (by rw [hv1, ic_1]) rfl rfl ?_
  refine s_goto (tgt := 20) C dX3_init_45 (by decide) ?_
  exact K
end CT
theorem wX3_init {E : Ev} {d : Nat} (hd : 2 ≤ d) {S : Sx} {I : Mm} {r : Nat} (hr : r < S.1) (hk : S.2.1 r = 3) (hf : Fsh S I) : SemM E d 13 288 mX3_init [rfE E r] S I none (yardS S r) (wr I r 1 70) := by
  refine SemM.ofX (E := E) (y := mX3_init) (args := fun E => [rfE E r]) (r := fun _ => none) (fun E => [some (rfE E r), none]) (by decide +kernel) (Nat.le_of_ble_eq_true rfl) rfl (fun X C M => ?_)
  have k1 : (gr S 6).2.1 r = 3 := (kd_gr hr).trans hk
  have f2 : Fsh (sr (gr S 6) r 0 S.1) I := (hf.gr).sr (by show r < S.1 + 1; omega)
  have f3 : Fsh (sr (gr S 6) r 0 S.1) (wr I r 1 70) := f2.wr (by show r < S.1 + 1; omega)
  have r3 : (sr (gr S 6) r 0 S.1).2.2 r 0 = some S.1 := if_pos ⟨rfl, rfl⟩
  refine s_aload_n C dX3_init_0 rfl rfl ?_
  refine s_oinit C M.rg (Nat.le_trans (by decide) hd) wo_l3 wo_i wo_c dX3_init_1 (Nat.le_of_ble_eq_true rfl) ?_
  refine s_aload_n C dX3_init_4 rfl rfl ?_
  refine s_iconst C dX3_init_5 ic_3 ?_
  refine s_anew (c := 6) (m := 3) (Cn := "LeaningRicks$Rick") C dX3_init_6 (Or.inl ⟨rfl, rfl⟩) rfl wk_37 (by decide) (by decide) hf M.rg (by decide) (by decide) ?_
  refine s_putR (c := 3) (j := 0) C dX3_init_9 k1 TX3 tyX3 rfl (by decide) (by decide) gX3 rfl wf_3_0 tyX3_ok nmX3 rfl rfl rfl (nr_A _) rfl ?_
  refine s_aload_n C dX3_init_12 rfl rfl ?_
  refine s_bipush C dX3_init_13 bi_70 ?_
  refine s_putI C dX3_init_15 k1 poX3_17 rfl rfl ?_
  refine s_iconst C dX3_init_18 ic_0 ?_
  refine s_istore_n (ls' := [some (rfX X r), some (.int 0)]) C dX3_init_19 rfl (by decide) (Nat.le_of_ble_eq_true rfl) rfl rfl ?_
  have e1 : (gr S 6).2.1 S.1 = 6 := kd_new S 6
  have n1 : S.1 < (sr (gr S 6) r 0 S.1).1 := by show S.1 < S.1 + 1; omega
  have m1 : r < (sr (gr S 6) r 0 S.1).1 := by show r < S.1 + 1; omega
  have hne : r ≠ S.1 := by omega
  refine y_step (A := S.1) (i := 0) (v1 := 1) hd C M.rg (by decide) (by decide) (by decide) (by decide) m1 n1 k1 e1 r3 f3 (by decide) (by decide) ?_
  have n2 : S.1 < (stepY S.1 0 (sr (gr S 6) r 0 S.1)).1 := by show S.1 < S.1 + 1 + 4; omega
  have m2 : r < (stepY S.1 0 (sr (gr S 6) r 0 S.1)).1 := by show r < S.1 + 1 + 4; omega
  refine y_step (A := S.1) (i := 1) (v1 := 2) hd C M.rg (by decide) (by decide) (by decide) (by decide) m2 n2 ((st_kd m1).trans k1) ((st_kd n1).trans e1) ((st_R m1 hne).trans r3) (st_F n1 f3) (by decide) (by decide) ?_
  refine y_step (A := S.1) (i := 2) (v1 := 3) hd C M.rg (by decide) (by decide) (by decide) (by decide) (by show r < S.1 + 1 + 4 + 4; omega) (by show S.1 < S.1 + 1 + 4 + 4; omega) ((st_kd m2).trans ((st_kd m1).trans k1)) ((st_kd n2).trans ((st_kd n1).trans e1)) ((st_R m2 hne).trans ((st_R m1 hne).trans r3)) (st_F n2 (st_F n1 f3)) (by decide) (by decide) ?_
  have m3 : r < (stepY S.1 1 (stepY S.1 0 (sr (gr S 6) r 0 S.1))).1 := by show r < S.1 + 1 + 4 + 4; omega
  have n3 : S.1 < (stepY S.1 1 (stepY S.1 0 (sr (gr S 6) r 0 S.1))).1 := by show S.1 < S.1 + 1 + 4 + 4; omega
  refine s_iload_n C dX3_init_20 rfl rfl ?_
  refine s_aload_n C dX3_init_21 rfl rfl ?_
  refine s_getR (b := S.1) C dX3_init_22 ((st_kd m3).trans ((st_kd m2).trans ((st_kd m1).trans k1))) foX3_11 rfl ((st_R m3 hne).trans ((st_R m2 hne).trans ((st_R m1 hne).trans r3))) ?_
  refine s_alenR (v := 3) C dX3_init_25 ((st_kd n3).trans ((st_kd n2).trans ((st_kd n1).trans e1))) (by decide) (by decide +kernel) ?_
  refine s_icmp_ge (tgt := 48) C dX3_init_26 (by decide) (fun c => ?_) (fun c => absurd (by decide) c)
  exact s_vret C M dX3_init_48 rfl (by decide) (by decide)

