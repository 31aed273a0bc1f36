theorem wX5_weights_p5 {X : Cx} {d : Nat} (hd : 3 ≤ d) (C : CtxOK X mX5_weights) : ∀ (n : Nat) {x1 : Int32} {x2 : Int32} {x3 : Int64} {x5 : Int32} {I I' : Mm} {r : Int64}  (_ : fX5_weights_p5 n x1 x2 x3 x5 I = some (r, I')) (_ : MX X (xE X) d 0 0 (some (.long r)) S0 I'), WM X mX5_weights 5 [some (rfX X 163), some (.int x1), some (.int x2), some (.long x3), none, some (.int x5)] [] S0 I 0 0 := by
  intro n
  induction n with
  | zero => intro x1 x2 x3 x5 I I' r  h M; exact absurd h (by simp [fX5_weights_p5])
  | succ n ih =>
    intro x1 x2 x3 x5 I I' r  h M
    rw [fX5_weights_p5] at h
    refine s_iload C dX5_weights_5 rfl ?_
    refine s_bipush C dX5_weights_7 bi_64 ?_
    refine s_icmp_ge (tgt := 59) C dX5_weights_9 (by decide) (fun c => ?_) (fun c => ?_)
    · have h := it_t c h
      refine s_lload_n C dX5_weights_59 rfl rfl ?_
      obtain ⟨rfl, rfl⟩ := pr_e h
      exact s_lret C M dX5_weights_60 rfl (Nat.le_refl 0) (Nat.le_refl 0)
    · have h := it_f c h
      refine s_iload_n C dX5_weights_12 rfl rfl ?_
      obtain ⟨r1, I1, hh, h⟩ := bd_e h
      refine s_cS0 (st := []) C M.rg (Nat.le_trans (by decide) hd) mwX5_isRick mlX5_110 dX5_weights_13 (wX5_isRick (d := 2) (Nat.le_refl _)  hh) rfl rfl (Nat.le_of_ble_eq_true rfl) ?_
      refine s_if_eq (tgt := 59) C dX5_weights_16 (by decide) (fun c => ?_) (fun c => ?_)
      · have h := it_t c h
        refine s_lload_n C dX5_weights_59 rfl rfl ?_
        obtain ⟨rfl, rfl⟩ := pr_e h
        exact s_lret C M dX5_weights_60 rfl (Nat.le_refl 0) (Nat.le_refl 0)
      · have h := it_f c h
        refine s_iload_n C dX5_weights_19 rfl rfl ?_
        refine s_iconst C dX5_weights_20 ic_0 ?_
        refine s_sipush C dX5_weights_21 si_936 ?_
        obtain ⟨r2, I2, hh, h⟩ := bd_e h
        refine s_cS0 (st := []) C M.rg (Nat.le_trans (by decide) hd) mwX5_isBetween mlX5_58 dX5_weights_24 (wX5_isBetween (d := 1) (Nat.le_refl _)  hh) rfl rfl (Nat.le_of_ble_eq_true rfl) ?_
        refine s_if_eq (tgt := 59) C dX5_weights_27 (by decide) (fun c => ?_) (fun c => ?_)
        · have h := it_t c h
          refine s_lload_n C dX5_weights_59 rfl rfl ?_
          obtain ⟨rfl, rfl⟩ := pr_e h
          exact s_lret C M dX5_weights_60 rfl (Nat.le_refl 0) (Nat.le_refl 0)
        · have h := it_f c h
          refine s_lload_n C dX5_weights_30 rfl rfl ?_
          refine s_aload_n C dX5_weights_31 rfl rfl ?_
          refine s_iload_n C dX5_weights_32 rfl rfl ?_
          refine s_iload_n C dX5_weights_33 rfl rfl ?_
          refine s_iload C dX5_weights_34 rfl ?_
          refine s_iadd C dX5_weights_36 ?_
          obtain ⟨r3, I3, hh, h⟩ := bd_e h
          refine s_cV0 (st := [.long x3]) C M.rg (Nat.le_trans (by decide) hd) mwX5_find mlX5_117 dX5_weights_37 (wX5_find (d := 2) (Nat.le_refl _)  hh) kk_163 rfl rfl (Nat.le_of_ble_eq_true rfl) ?_
          refine s_if_lt (tgt := 50) C dX5_weights_40 (by decide) (fun c => ?_) (fun c => ?_)
          · have h := it_t c h
            refine s_lconst (v := 0) C dX5_weights_50 (by decide +kernel) ?_
            refine s_lor C dX5_weights_51 ?_
            obtain ⟨v1, ev1, h⟩ := ltm_e h
            refine s_top_l ev1 ?_
            refine s_lstore_n (ls' := [some (rfX X 163), some (.int x1), some (.int x2), some (.long v1), none, some (.int x5)]) C dX5_weights_52 rfl (by decide) (Nat.le_of_ble_eq_true rfl) rfl rfl ?_
            obtain ⟨v2, ev2, h⟩ := ltm_e h
            refine s_iinc (v := v2) (ls' := [some (rfX X 163), some (.int x1), some (.int x2), some (.long v1), none, some (.int v2)]) C dX5_weights_53 rfl (by decide) (Nat.le_of_ble_eq_true rfl) (by rw [ev2, ic_1]) rfl rfl ?_
            refine s_goto (tgt := 5) C dX5_weights_56 (by decide) ?_
            exact ih  h M
          · have h := it_f c h
            refine s_lconst (v := 1) C dX5_weights_43 (by decide +kernel) ?_
            refine s_iload C dX5_weights_44 rfl ?_
            refine s_lshl C dX5_weights_46 ?_
            refine s_goto (tgt := 51) C dX5_weights_47 (by decide) ?_
            refine s_lor C dX5_weights_51 ?_
            obtain ⟨v1, ev1, h⟩ := ltm_e h
            refine s_top_l ev1 ?_
            refine s_lstore_n (ls' := [some (rfX X 163), some (.int x1), some (.int x2), some (.long v1), none, some (.int x5)]) C dX5_weights_52 rfl (by decide) (Nat.le_of_ble_eq_true rfl) rfl rfl ?_
            obtain ⟨v2, ev2, h⟩ := ltm_e h
            refine s_iinc (v := v2) (ls' := [some (rfX X 163), some (.int x1), some (.int x2), some (.long v1), none, some (.int v2)]) C dX5_weights_53 rfl (by decide) (Nat.le_of_ble_eq_true rfl) (by rw [ev2, ic_1]) rfl rfl ?_
            refine s_goto (tgt := 5) C dX5_weights_56 (by decide) ?_
            exact ih  h M
theorem wX5_weights {E : Ev} {d : Nat} (hd : 3 ≤ d) {x1 : Int32} {x2 : Int32} {I I' : Mm} {r : Int64}  (h : fX5_weights x1 x2 I = some (r, I')) : SemM E d 0 0 mX5_weights [rfE E 163, .int x1, .int x2] S0 I (some (.long r)) S0 I' := by
  unfold fX5_weights at h
  refine SemM.ofX (E := E) (y := mX5_weights) (args := fun E => [rfE E 163, .int x1, .int x2]) (r := fun E => (some (.long r))) (fun E => [some (rfE E 163), some (.int x1), some (.int x2), none, none, none]) (by decide +kernel) (Nat.le_of_ble_eq_true rfl) rfl (fun X C M => ?_)
  refine s_lconst (v := 0) C dX5_weights_0 (by decide +kernel) ?_
  refine s_lstore_n (ls' := [some (rfX X 163), some (.int x1), some (.int x2), some (.long 0), none, none]) C dX5_weights_1 rfl (by decide) (Nat.le_of_ble_eq_true rfl) rfl rfl ?_
  refine s_iconst C dX5_weights_2 ic_0 ?_
  refine s_istore (ls' := [some (rfX X 163), some (.int x1), some (.int x2), some (.long 0), none, some (.int 0)]) C dX5_weights_3 (by decide) (Nat.le_of_ble_eq_true rfl) rfl rfl ?_
  exact wX5_weights_p5 hd C _  h M
