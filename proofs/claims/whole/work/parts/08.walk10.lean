theorem wX5_character {E : Ev} {d : Nat} (hd : 2 ≤ d) {x1 : Int32} {I I' : Mm} {r : Int32}  (h : fX5_character x1 I = some (r, I')) : SemM E d 0 0 mX5_character [rfE E 163, .int x1] S0 I (some (.int r)) S0 I' := by
  unfold fX5_character at h
  refine SemM.ofX (E := E) (y := mX5_character) (args := fun E => [rfE E 163, .int x1]) (r := fun E => (some (.int r))) (fun E => [some (rfE E 163), some (.int x1)]) (by decide +kernel) (Nat.le_of_ble_eq_true rfl) rfl (fun X C M => ?_)
  refine s_iload_n C dX5_character_0 rfl rfl ?_
  refine s_iconst C dX5_character_1 ic_0 ?_
  refine s_aload_n C dX5_character_2 rfl rfl ?_
  refine s_getI C dX5_character_3 kk_163 foX5_287 rfl ?_
  refine s_iconst C dX5_character_6 ic_1 ?_
  refine s_isub C dX5_character_7 ?_
  obtain ⟨r1, I1, hh, h⟩ := bd_e h
  refine s_cS0 (st := []) C M.rg (Nat.le_trans (by decide) hd) mwX5_isBetween mlX5_58 dX5_character_8 (wX5_isBetween (d := 1) (Nat.le_refl _)  hh) rfl rfl (Nat.le_of_ble_eq_true rfl) ?_
  refine s_if_eq (tgt := 23) C dX5_character_11 (by decide) (fun c => ?_) (fun c => ?_)
  · have h := it_t c h
    refine s_bipush C dX5_character_23 bi_m11 ?_
    obtain ⟨rfl, rfl⟩ := pr_e h
    exact s_iret C M dX5_character_25 rfl rfl (Nat.le_refl 0) (Nat.le_refl 0)
  · have h := it_f c h
    refine s_aload_n C dX5_character_14 rfl rfl ?_
    refine s_getR (b := 179) C dX5_character_15 kk_163 foX5_33 rfl rk_163_20 ?_
    refine s_iload_n C dX5_character_18 rfl rfl ?_
    obtain ⟨hb, h⟩ := it_n h
    refine s_ald (q := x1.toNatClampNeg) C dX5_character_19 kk_179 (by decide) rfl hb ?_
    refine s_goto (tgt := 25) C dX5_character_20 (by decide) ?_
    obtain ⟨rfl, rfl⟩ := pr_e h
    exact s_iret C M dX5_character_25 rfl rfl (Nat.le_refl 0) (Nat.le_refl 0)
theorem wX5_sees {E : Ev} {d : Nat} (hd : 2 ≤ d) {x1 : Int32} {x2 : Int32} {I I' : Mm} {r : Int32}  (h : fX5_sees x1 x2 I = some (r, I')) : SemM E d 0 0 mX5_sees [rfE E 163, .int x1, .int x2] S0 I (some (.int r)) S0 I' := by
  unfold fX5_sees at h
  refine SemM.ofX (E := E) (y := mX5_sees) (args := fun E => [rfE E 163, .int x1, .int x2]) (r := fun E => (some (.int r))) (fun E => [some (rfE E 163), some (.int x1), some (.int x2)]) (by decide +kernel) (Nat.le_of_ble_eq_true rfl) rfl (fun X C M => ?_)
  refine s_aload_n C dX5_sees_0 rfl rfl ?_
  refine s_getI C dX5_sees_1 kk_163 foX5_226 rfl ?_
  refine s_if_ne (tgt := 39) C dX5_sees_4 (by decide) (fun c => ?_) (fun c => ?_)
  · have h := it_f c h
    refine s_iconst C dX5_sees_39 ic_0 ?_
    obtain ⟨rfl, rfl⟩ := pr_e h
    exact s_iret C M dX5_sees_40 rfl (nz_b (by decide)) (Nat.le_refl 0) (Nat.le_refl 0)
  · have h := it_t c h
    refine s_aload_n C dX5_sees_7 rfl rfl ?_
    refine s_getI C dX5_sees_8 kk_163 foX5_229 rfl ?_
    refine s_aload_n C dX5_sees_11 rfl rfl ?_
    refine s_getI C dX5_sees_12 kk_163 foX5_223 rfl ?_
    refine s_icmp_ge (tgt := 39) C dX5_sees_15 (by decide) (fun c => ?_) (fun c => ?_)
    · have h := it_t c h
      refine s_iconst C dX5_sees_39 ic_0 ?_
      obtain ⟨rfl, rfl⟩ := pr_e h
      exact s_iret C M dX5_sees_40 rfl (nz_b (by decide)) (Nat.le_refl 0) (Nat.le_refl 0)
    · have h := it_f c h
      refine s_aload_n C dX5_sees_18 rfl rfl ?_
      refine s_getR (b := 178) C dX5_sees_19 kk_163 foX5_30 rfl rk_163_12 ?_
      refine s_aload_n C dX5_sees_22 rfl rfl ?_
      refine s_getI C dX5_sees_23 kk_163 foX5_229 rfl ?_
      obtain ⟨hb, h⟩ := it_n h
      refine s_ald (q := (I 163 14).toNatClampNeg) C dX5_sees_26 kk_178 (by decide) rfl hb ?_
      refine s_iload_n C dX5_sees_27 rfl rfl ?_
      refine s_iload_n C dX5_sees_28 rfl rfl ?_
      obtain ⟨r1, I1, hh, h⟩ := bd_e h
      refine s_cS0 (st := []) C M.rg (Nat.le_trans (by decide) hd) mwX5_isBetween mlX5_58 dX5_sees_29 (wX5_isBetween (d := 1) (Nat.le_refl _)  hh) rfl rfl (Nat.le_of_ble_eq_true rfl) ?_
      refine s_if_eq (tgt := 39) C dX5_sees_32 (by decide) (fun c => ?_) (fun c => ?_)
      · have h := it_t c h
        refine s_iconst C dX5_sees_39 ic_0 ?_
        obtain ⟨rfl, rfl⟩ := pr_e h
        exact s_iret C M dX5_sees_40 rfl (nz_b (by decide)) (Nat.le_refl 0) (Nat.le_refl 0)
      · have h := it_f c h
        refine s_iconst C dX5_sees_35 ic_1 ?_
        refine s_goto (tgt := 40) C dX5_sees_36 (by decide) ?_
        obtain ⟨rfl, rfl⟩ := pr_e h
        exact s_iret C M dX5_sees_40 rfl (nz_b (by decide)) (Nat.le_refl 0) (Nat.le_refl 0)
theorem wX5_must {E : Ev} {d : Nat} (hd : 3 ≤ d) {x1 : Int32} {I I' : Mm} {r : Unit}  (h : fX5_must x1 I = some (r, I')) : SemM E d 0 0 mX5_must [rfE E 163, .int x1] S0 I none S0 I' := by
  unfold fX5_must at h
  refine SemM.ofX (E := E) (y := mX5_must) (args := fun E => [rfE E 163, .int x1]) (r := fun E => none) (fun E => [some (rfE E 163), some (.int x1)]) (by decide +kernel) (Nat.le_of_ble_eq_true rfl) rfl (fun X C M => ?_)
  refine s_aload_n C dX5_must_0 rfl rfl ?_
  refine s_dup C dX5_must_1 rfl ?_
  refine s_getI C dX5_must_2 kk_163 foX5_226 rfl ?_
  refine s_aload_n C dX5_must_5 rfl rfl ?_
  refine s_iload_n C dX5_must_6 rfl rfl ?_
  refine s_iload_n C dX5_must_7 rfl rfl ?_
  obtain ⟨r1, I1, hh, h⟩ := bd_e h
  refine s_cV0 (st := [.int (I 163 19), rfX X 163]) C M.rg (Nat.le_trans (by decide) hd) mwX5_sees mlX5_232 dX5_must_8 (wX5_sees (d := 2) (Nat.le_refl _)  hh) kk_163 rfl rfl (Nat.le_of_ble_eq_true rfl) ?_
  refine s_if_ne (tgt := 18) C dX5_must_11 (by decide) (fun c => ?_) (fun c => ?_)
  · have h := it_f c h
    refine s_iconst C dX5_must_18 ic_0 ?_
    refine s_ior C dX5_must_19 ?_
    obtain ⟨hz, h⟩ := it_s h
    obtain ⟨I2, eI2, h⟩ := ltm_e h
    refine s_putZ C dX5_must_20 kk_163 poX5_226 rfl hz eI2 ?_
    refine s_aload_n C dX5_must_23 rfl rfl ?_
    refine s_dup C dX5_must_24 rfl ?_
    refine s_getI C dX5_must_25 kk_163 foX5_229 rfl ?_
    refine s_aload_n C dX5_must_28 rfl rfl ?_
    refine s_getI C dX5_must_29 kk_163 foX5_226 rfl ?_
    refine s_if_eq (tgt := 39) C dX5_must_32 (by decide) (fun c => ?_) (fun c => ?_)
    · have h := it_t c h
      refine s_iconst C dX5_must_39 ic_1 ?_
      refine s_iadd C dX5_must_40 ?_
      obtain ⟨I3, eI3, h⟩ := ltm_e h
      refine s_putI C dX5_must_41 kk_163 poX5_229 rfl eI3 ?_
      obtain ⟨rfl, rfl⟩ := pr_e h
      exact s_vret C M dX5_must_44 rfl (Nat.le_refl 0) (Nat.le_refl 0)
    · have h := it_f c h
      refine s_iconst C dX5_must_35 ic_0 ?_
      refine s_goto (tgt := 40) C dX5_must_36 (by decide) ?_
      refine s_iadd C dX5_must_40 ?_
      obtain ⟨I3, eI3, h⟩ := ltm_e h
      refine s_putI C dX5_must_41 kk_163 poX5_229 rfl eI3 ?_
      obtain ⟨rfl, rfl⟩ := pr_e h
      exact s_vret C M dX5_must_44 rfl (Nat.le_refl 0) (Nat.le_refl 0)
  · have h := it_t c h
    refine s_iconst C dX5_must_14 ic_1 ?_
    refine s_goto (tgt := 19) C dX5_must_15 (by decide) ?_
    refine s_ior C dX5_must_19 ?_
    obtain ⟨hz, h⟩ := it_s h
    obtain ⟨I2, eI2, h⟩ := ltm_e h
    refine s_putZ C dX5_must_20 kk_163 poX5_226 rfl hz eI2 ?_
    refine s_aload_n C dX5_must_23 rfl rfl ?_
    refine s_dup C dX5_must_24 rfl ?_
    refine s_getI C dX5_must_25 kk_163 foX5_229 rfl ?_
    refine s_aload_n C dX5_must_28 rfl rfl ?_
    refine s_getI C dX5_must_29 kk_163 foX5_226 rfl ?_
    refine s_if_eq (tgt := 39) C dX5_must_32 (by decide) (fun c => ?_) (fun c => ?_)
    · have h := it_t c h
      refine s_iconst C dX5_must_39 ic_1 ?_
      refine s_iadd C dX5_must_40 ?_
      obtain ⟨I3, eI3, h⟩ := ltm_e h
      refine s_putI C dX5_must_41 kk_163 poX5_229 rfl eI3 ?_
      obtain ⟨rfl, rfl⟩ := pr_e h
      exact s_vret C M dX5_must_44 rfl (Nat.le_refl 0) (Nat.le_refl 0)
    · have h := it_f c h
      refine s_iconst C dX5_must_35 ic_0 ?_
      refine s_goto (tgt := 40) C dX5_must_36 (by decide) ?_
      refine s_iadd C dX5_must_40 ?_
      obtain ⟨I3, eI3, h⟩ := ltm_e h
      refine s_putI C dX5_must_41 kk_163 poX5_229 rfl eI3 ?_
      obtain ⟨rfl, rfl⟩ := pr_e h
      exact s_vret C M dX5_must_44 rfl (Nat.le_refl 0) (Nat.le_refl 0)
theorem wX5_readNumber_p29 {X : Cx} {d : Nat} (hd : 3 ≤ d) (C : CtxOK X mX5_readNumber) : ∀ (n : Nat) {x1 : Int32} {x2 : Int32} {x3 : Int32} {I I' : Mm} {r : Int32}  (_ : fX5_readNumber_p29 n x1 x2 x3 I = some (r, I')) (_ : MX X (xE X) d 0 0 (some (.int r)) S0 I'), WM X mX5_readNumber 29 [some (rfX X 163), some (.int x1), some (.int x2), some (.int x3)] [] S0 I 0 0 := by
  intro n
  induction n with
  | zero => intro x1 x2 x3 I I' r  h M; exact absurd h (by simp [fX5_readNumber_p29])
  | succ n ih =>
    intro x1 x2 x3 I I' r  h M
    rw [fX5_readNumber_p29] at h
    refine s_iload_n C dX5_readNumber_29 rfl rfl ?_
    refine s_iload_n C dX5_readNumber_30 rfl rfl ?_
    refine s_icmp_ge (tgt := 79) C dX5_readNumber_31 (by decide) (fun c => ?_) (fun c => ?_)
    · have h := it_t c h
      refine s_iload_n C dX5_readNumber_79 rfl rfl ?_
      obtain ⟨rfl, rfl⟩ := pr_e h
      exact s_iret C M dX5_readNumber_80 rfl rfl (Nat.le_refl 0) (Nat.le_refl 0)
    · have h := it_f c h
      refine s_aload_n C dX5_readNumber_34 rfl rfl ?_
      refine s_bipush C dX5_readNumber_35 bi_48 ?_
      refine s_bipush C dX5_readNumber_37 bi_57 ?_
      obtain ⟨r1, I1, hh, h⟩ := bd_e h
      refine s_cV0 (st := []) C M.rg (Nat.le_trans (by decide) hd) mwX5_sees mlX5_232 dX5_readNumber_39 (wX5_sees (d := 2) (Nat.le_refl _)  hh) kk_163 rfl rfl (Nat.le_of_ble_eq_true rfl) ?_
      refine s_if_eq (tgt := 79) C dX5_readNumber_42 (by decide) (fun c => ?_) (fun c => ?_)
      · have h := it_t c h
        refine s_iload_n C dX5_readNumber_79 rfl rfl ?_
        obtain ⟨rfl, rfl⟩ := pr_e h
        exact s_iret C M dX5_readNumber_80 rfl rfl (Nat.le_refl 0) (Nat.le_refl 0)
      · have h := it_f c h
        refine s_bipush C dX5_readNumber_45 bi_10 ?_
        refine s_iload_n C dX5_readNumber_47 rfl rfl ?_
        refine s_imul C dX5_readNumber_48 ?_
        refine s_aload_n C dX5_readNumber_49 rfl rfl ?_
        refine s_getR (b := 178) C dX5_readNumber_50 kk_163 foX5_30 rfl rk_163_12 ?_
        refine s_aload_n C dX5_readNumber_53 rfl rfl ?_
        refine s_getI C dX5_readNumber_54 kk_163 foX5_229 rfl ?_
        obtain ⟨hb, h⟩ := it_n h
        refine s_ald (q := (I1 163 14).toNatClampNeg) C dX5_readNumber_57 kk_178 (by decide) rfl hb ?_
        refine s_iadd C dX5_readNumber_58 ?_
        refine s_bipush C dX5_readNumber_59 bi_48 ?_
        refine s_isub C dX5_readNumber_61 ?_
        obtain ⟨v1, ev1, h⟩ := ltm_e h
        refine s_top_i ev1 ?_
        refine s_istore_n (ls' := [some (rfX X 163), some (.int x1), some (.int v1), some (.int x3)]) C dX5_readNumber_62 rfl (by decide) (Nat.le_of_ble_eq_true rfl) rfl rfl ?_
        refine s_aload_n C dX5_readNumber_63 rfl rfl ?_
        refine s_dup C dX5_readNumber_64 rfl ?_
        refine s_getI C dX5_readNumber_65 kk_163 foX5_229 rfl ?_
        refine s_iconst C dX5_readNumber_68 ic_1 ?_
        refine s_iadd C dX5_readNumber_69 ?_
        obtain ⟨I2, eI2, h⟩ := ltm_e h
        refine s_putI C dX5_readNumber_70 kk_163 poX5_229 rfl eI2 ?_
        obtain ⟨v2, ev2, h⟩ := ltm_e h
        refine s_iinc (v := v2) (ls' := [some (rfX X 163), some (.int x1), some (.int v1), some (.int v2)]) C dX5_readNumber_73 rfl (by decide) (Nat.le_of_ble_eq_true rfl) (by rw [ev2, ic_1]) rfl rfl ?_
        refine s_goto (tgt := 29) C dX5_readNumber_76 (by decide) ?_
        exact ih  h M
theorem wX5_readNumber_p21 {X : Cx} {d : Nat} (hd : 3 ≤ d) (C : CtxOK X mX5_readNumber) {x1 : Int32} {s1 : Int32} {s2 : Int32} {I I' : Mm} {r : Int32}  (h : fX5_readNumber_p21 x1 s1 s2 I = some (r, I')) (M : MX X (xE X) d 0 0 (some (.int r)) S0 I') : WM X mX5_readNumber 21 [some (rfX X 163), some (.int x1), none, none] [.int s2, .int s1, rfX X 163] S0 I 0 0 := by
  unfold fX5_readNumber_p21 at h
  refine s_ior C dX5_readNumber_21 ?_
  obtain ⟨hz, h⟩ := it_s h
  obtain ⟨I1, eI1, h⟩ := ltm_e h
  refine s_putZ C dX5_readNumber_22 kk_163 poX5_226 rfl hz eI1 ?_
  refine s_iconst C dX5_readNumber_25 ic_0 ?_
  refine s_istore_n (ls' := [some (rfX X 163), some (.int x1), some (.int 0), none]) C dX5_readNumber_26 rfl (by decide) (Nat.le_of_ble_eq_true rfl) rfl rfl ?_
  refine s_iconst C dX5_readNumber_27 ic_0 ?_
  refine s_istore_n (ls' := [some (rfX X 163), some (.int x1), some (.int 0), some (.int 0)]) C dX5_readNumber_28 rfl (by decide) (Nat.le_of_ble_eq_true rfl) rfl rfl ?_
  exact wX5_readNumber_p29 hd C _  h M
theorem wX5_readNumber {E : Ev} {d : Nat} (hd : 3 ≤ d) {x1 : Int32} {I I' : Mm} {r : Int32}  (h : fX5_readNumber x1 I = some (r, I')) : SemM E d 0 0 mX5_readNumber [rfE E 163, .int x1] S0 I (some (.int r)) S0 I' := by
  unfold fX5_readNumber at h
  refine SemM.ofX (E := E) (y := mX5_readNumber) (args := fun E => [rfE E 163, .int x1]) (r := fun E => (some (.int r))) (fun E => [some (rfE E 163), some (.int x1), none, none]) (by decide +kernel) (Nat.le_of_ble_eq_true rfl) rfl (fun X C M => ?_)
  refine s_aload_n C dX5_readNumber_0 rfl rfl ?_
  refine s_dup C dX5_readNumber_1 rfl ?_
  refine s_getI C dX5_readNumber_2 kk_163 foX5_226 rfl ?_
  refine s_aload_n C dX5_readNumber_5 rfl rfl ?_
  refine s_bipush C dX5_readNumber_6 bi_48 ?_
  refine s_bipush C dX5_readNumber_8 bi_57 ?_
  obtain ⟨r1, I1, hh, h⟩ := bd_e h
  refine s_cV0 (st := [.int (I 163 19), rfX X 163]) C M.rg (Nat.le_trans (by decide) hd) mwX5_sees mlX5_232 dX5_readNumber_10 (wX5_sees (d := 2) (Nat.le_refl _)  hh) kk_163 rfl rfl (Nat.le_of_ble_eq_true rfl) ?_
  refine s_if_ne (tgt := 20) C dX5_readNumber_13 (by decide) (fun c => ?_) (fun c => ?_)
  · have h := it_f c h
    refine s_iconst C dX5_readNumber_20 ic_0 ?_
    exact wX5_readNumber_p21 hd C  h M
  · have h := it_t c h
    refine s_iconst C dX5_readNumber_16 ic_1 ?_
    refine s_goto (tgt := 21) C dX5_readNumber_17 (by decide) ?_
    exact wX5_readNumber_p21 hd C  h M
theorem wX5_readSheaf {E : Ev} {d : Nat} (hd : 4 ≤ d)  {I I' : Mm} {r : Unit}  (h : fX5_readSheaf  I = some (r, I')) : SemM E d 0 0 mX5_readSheaf [rfE E 163] S0 I none S0 I' := by
  unfold fX5_readSheaf at h
  refine SemM.ofX (E := E) (y := mX5_readSheaf) (args := fun E => [rfE E 163]) (r := fun E => none) (fun E => [some (rfE E 163)]) (by decide +kernel) (Nat.le_of_ble_eq_true rfl) rfl (fun X C M => ?_)
  refine s_aload_n C dX5_readSheaf_0 rfl rfl ?_
  refine s_aload_n C dX5_readSheaf_1 rfl rfl ?_
  refine s_iconst C dX5_readSheaf_2 ic_1 ?_
  obtain ⟨r1, I1, hh, h⟩ := bd_e h
  refine s_cV0 (st := [rfX X 163]) C M.rg (Nat.le_trans (by decide) hd) mwX5_readNumber mlX5_235 dX5_readSheaf_3 (wX5_readNumber (d := 3) (Nat.le_refl _)  hh) kk_163 rfl rfl (Nat.le_of_ble_eq_true rfl) ?_
  obtain ⟨I2, eI2, h⟩ := ltm_e h
  refine s_putI C dX5_readSheaf_6 kk_163 poX5_238 rfl eI2 ?_
  refine s_aload_n C dX5_readSheaf_9 rfl rfl ?_
  refine s_bipush C dX5_readSheaf_10 bi_58 ?_
  obtain ⟨r2, I3, hh, h⟩ := bd_e h
  refine s_cV0 (st := []) C M.rg (Nat.le_trans (by decide) hd) mwX5_must mlX5_241 dX5_readSheaf_12 (wX5_must (d := 3) (Nat.le_refl _)  hh) kk_163 rfl rfl (Nat.le_of_ble_eq_true rfl) ?_
  refine s_aload_n C dX5_readSheaf_15 rfl rfl ?_
  refine s_aload_n C dX5_readSheaf_16 rfl rfl ?_
  refine s_iconst C dX5_readSheaf_17 ic_3 ?_
  obtain ⟨r3, I4, hh, h⟩ := bd_e h
  refine s_cV0 (st := [rfX X 163]) C M.rg (Nat.le_trans (by decide) hd) mwX5_readNumber mlX5_235 dX5_readSheaf_18 (wX5_readNumber (d := 3) (Nat.le_refl _)  hh) kk_163 rfl rfl (Nat.le_of_ble_eq_true rfl) ?_
  obtain ⟨I5, eI5, h⟩ := ltm_e h
  refine s_putI C dX5_readSheaf_21 kk_163 poX5_244 rfl eI5 ?_
  obtain ⟨rfl, rfl⟩ := pr_e h
  exact s_vret C M dX5_readSheaf_24 rfl (Nat.le_refl 0) (Nat.le_refl 0)
theorem wX5_readOrder_p80 {X : Cx} {d : Nat} (hd : 21 ≤ d) (C : CtxOK X mX5_readOrder) {s1 : Int32} {s2 : Int32} {I I' : Mm} {r : Unit}  (h : fX5_readOrder_p80 s1 s2 I = some (r, I')) (M : MX X (xE X) d 0 0 none S0 I') : WM X mX5_readOrder 80 [some (rfX X 163)] [.int s2, .int s1, rfX X 163] S0 I 0 0 := by
  unfold fX5_readOrder_p80 at h
  refine s_iadd C dX5_readOrder_80 ?_
  obtain ⟨I1, eI1, h⟩ := ltm_e h
  refine s_putI C dX5_readOrder_81 kk_163 poX5_229 rfl eI1 ?_
  refine s_aload_n C dX5_readOrder_84 rfl rfl ?_
  refine s_getI C dX5_readOrder_85 kk_163 foX5_247 rfl ?_
  by_cases c1 : (I1 163 15) = 43
  · have h := it_t c1 h
    refine s_lookup (off := 44) (tgt := 132) C dX5_readOrder_88 (by decide) (by rw [c1]; decide +kernel) (by decide) ?_
    refine s_aload_n C dX5_readOrder_132 rfl rfl ?_
    obtain ⟨r1, I2, hh, h⟩ := bd_e h
    refine s_cV0 (st := []) C M.rg (Nat.le_trans (by decide) hd) mwX5_readSheaf mlX5_257 dX5_readOrder_133 (wX5_readSheaf (d := 4) (Nat.le_refl _)  hh) kk_163 rfl rfl (Nat.le_of_ble_eq_true rfl) ?_
    refine s_aload_n C dX5_readOrder_136 rfl rfl ?_
    refine s_bipush C dX5_readOrder_137 bi_42 ?_
    obtain ⟨r2, I3, hh, h⟩ := bd_e h
    refine s_cV0 (st := []) C M.rg (Nat.le_trans (by decide) hd) mwX5_must mlX5_241 dX5_readOrder_139 (wX5_must (d := 3) (Nat.le_refl _)  hh) kk_163 rfl rfl (Nat.le_of_ble_eq_true rfl) ?_
    refine s_aload_n C dX5_readOrder_142 rfl rfl ?_
    refine s_aload_n C dX5_readOrder_143 rfl rfl ?_
    refine s_iconst C dX5_readOrder_144 ic_2 ?_
    obtain ⟨r3, I4, hh, h⟩ := bd_e h
    refine s_cV0 (st := [rfX X 163]) C M.rg (Nat.le_trans (by decide) hd) mwX5_readNumber mlX5_235 dX5_readOrder_145 (wX5_readNumber (d := 3) (Nat.le_refl _)  hh) kk_163 rfl rfl (Nat.le_of_ble_eq_true rfl) ?_
    obtain ⟨I5, eI5, h⟩ := ltm_e h
    refine s_putI C dX5_readOrder_148 kk_163 poX5_260 rfl eI5 ?_
    refine s_goto (tgt := 203) C dX5_readOrder_151 (by decide) ?_
    obtain ⟨rfl, rfl⟩ := pr_e h
    exact s_vret C M dX5_readOrder_203 rfl (Nat.le_refl 0) (Nat.le_refl 0)
  have h := it_f c1 h
  by_cases c2 : (I1 163 15) = 45
  · have h := it_t c2 h
    refine s_lookup (off := 66) (tgt := 154) C dX5_readOrder_88 (by decide) (by rw [c2]; decide +kernel) (by decide) ?_
    refine s_aload_n C dX5_readOrder_154 rfl rfl ?_
    obtain ⟨r1, I2, hh, h⟩ := bd_e h
    refine s_cV0 (st := []) C M.rg (Nat.le_trans (by decide) hd) mwX5_readSheaf mlX5_257 dX5_readOrder_155 (wX5_readSheaf (d := 4) (Nat.le_refl _)  hh) kk_163 rfl rfl (Nat.le_of_ble_eq_true rfl) ?_
    refine s_goto (tgt := 203) C dX5_readOrder_158 (by decide) ?_
    obtain ⟨rfl, rfl⟩ := pr_e h
    exact s_vret C M dX5_readOrder_203 rfl (Nat.le_refl 0) (Nat.le_refl 0)
  have h := it_f c2 h
  by_cases c3 : (I1 163 15) = 61
  · have h := it_t c3 h
    refine s_lookup (off := 73) (tgt := 161) C dX5_readOrder_88 (by decide) (by rw [c3]; decide +kernel) (by decide) ?_
    refine s_aload_n C dX5_readOrder_161 rfl rfl ?_
    refine s_aload_n C dX5_readOrder_162 rfl rfl ?_
    refine s_iconst C dX5_readOrder_163 ic_1 ?_
    obtain ⟨r1, I2, hh, h⟩ := bd_e h
    refine s_cV0 (st := [rfX X 163]) C M.rg (Nat.le_trans (by decide) hd) mwX5_readNumber mlX5_235 dX5_readOrder_164 (wX5_readNumber (d := 3) (Nat.le_refl _)  hh) kk_163 rfl rfl (Nat.le_of_ble_eq_true rfl) ?_
    obtain ⟨I3, eI3, h⟩ := ltm_e h
    refine s_putI C dX5_readOrder_167 kk_163 poX5_238 rfl eI3 ?_
    refine s_goto (tgt := 203) C dX5_readOrder_170 (by decide) ?_
    obtain ⟨rfl, rfl⟩ := pr_e h
    exact s_vret C M dX5_readOrder_203 rfl (Nat.le_refl 0) (Nat.le_refl 0)
  have h := it_f c3 h
  by_cases c4 : (I1 163 15) = 62
  · have h := it_t c4 h
    refine s_lookup (off := 85) (tgt := 173) C dX5_readOrder_88 (by decide) (by rw [c4]; decide +kernel) (by decide) ?_
    refine s_aload_n C dX5_readOrder_173 rfl rfl ?_
    refine s_aload_n C dX5_readOrder_174 rfl rfl ?_
    refine s_iconst C dX5_readOrder_175 ic_1 ?_
    obtain ⟨r1, I2, hh, h⟩ := bd_e h
    refine s_cV0 (st := [rfX X 163]) C M.rg (Nat.le_trans (by decide) hd) mwX5_readNumber mlX5_235 dX5_readOrder_176 (wX5_readNumber (d := 3) (Nat.le_refl _)  hh) kk_163 rfl rfl (Nat.le_of_ble_eq_true rfl) ?_
    obtain ⟨I3, eI3, h⟩ := ltm_e h
    refine s_putI C dX5_readOrder_179 kk_163 poX5_238 rfl eI3 ?_
    refine s_aload_n C dX5_readOrder_182 rfl rfl ?_
    refine s_aload_n C dX5_readOrder_183 rfl rfl ?_
    refine s_iconst C dX5_readOrder_184 ic_1 ?_
    obtain ⟨r2, I4, hh, h⟩ := bd_e h
    refine s_cV0 (st := [rfX X 163]) C M.rg (Nat.le_trans (by decide) hd) mwX5_readNumber mlX5_235 dX5_readOrder_185 (wX5_readNumber (d := 3) (Nat.le_refl _)  hh) kk_163 rfl rfl (Nat.le_of_ble_eq_true rfl) ?_
    obtain ⟨I5, eI5, h⟩ := ltm_e h
    refine s_putI C dX5_readOrder_188 kk_163 poX5_244 rfl eI5 ?_
    refine s_goto (tgt := 203) C dX5_readOrder_191 (by decide) ?_
    obtain ⟨rfl, rfl⟩ := pr_e h
    exact s_vret C M dX5_readOrder_203 rfl (Nat.le_refl 0) (Nat.le_refl 0)
  have h := it_f c4 h
  refine s_lookup (off := 106) (tgt := 194) C dX5_readOrder_88 (by decide) (by simp only [Op.lookupswitch.offset_cons, Op.lookupswitch.offset_nil]; rw [if_neg (Ne.symm (ne_i 43 (by decide +kernel) c1)), if_neg (Ne.symm (ne_i 45 (by decide +kernel) c2)), if_neg (Ne.symm (ne_i 61 (by decide +kernel) c3)), if_neg (Ne.symm (ne_i 62 (by decide +kernel) c4))]) (by decide) ?_
  refine s_aload_n C dX5_readOrder_194 rfl rfl ?_
  refine s_aload_n C dX5_readOrder_195 rfl rfl ?_
  refine s_iconst C dX5_readOrder_196 ic_2 ?_
  obtain ⟨r1, I2, hh, h⟩ := bd_e h
  refine s_cV0 (st := [rfX X 163]) C M.rg (Nat.le_trans (by decide) hd) mwX5_readNumber mlX5_235 dX5_readOrder_197 (wX5_readNumber (d := 3) (Nat.le_refl _)  hh) kk_163 rfl rfl (Nat.le_of_ble_eq_true rfl) ?_
  obtain ⟨I3, eI3, h⟩ := ltm_e h
  refine s_putI C dX5_readOrder_200 kk_163 poX5_238 rfl eI3 ?_
  obtain ⟨rfl, rfl⟩ := pr_e h
  exact s_vret C M dX5_readOrder_203 rfl (Nat.le_refl 0) (Nat.le_refl 0)
theorem wX5_readOrder_p59 {X : Cx} {d : Nat} (hd : 21 ≤ d) (C : CtxOK X mX5_readOrder) {s1 : Int32} {s2 : Int32} {I I' : Mm} {r : Unit}  (h : fX5_readOrder_p59 s1 s2 I = some (r, I')) (M : MX X (xE X) d 0 0 none S0 I') : WM X mX5_readOrder 59 [some (rfX X 163)] [.int s2, .int s1, rfX X 163] S0 I 0 0 := by
  unfold fX5_readOrder_p59 at h
  refine s_ior C dX5_readOrder_59 ?_
  obtain ⟨hz, h⟩ := it_s h
  obtain ⟨I1, eI1, h⟩ := ltm_e h
  refine s_putZ C dX5_readOrder_60 kk_163 poX5_226 rfl hz eI1 ?_
  refine s_aload_n C dX5_readOrder_63 rfl rfl ?_
  refine s_dup C dX5_readOrder_64 rfl ?_
  refine s_getI C dX5_readOrder_65 kk_163 foX5_229 rfl ?_
  refine s_aload_n C dX5_readOrder_68 rfl rfl ?_
  refine s_getI C dX5_readOrder_69 kk_163 foX5_226 rfl ?_
  refine s_if_eq (tgt := 79) C dX5_readOrder_72 (by decide) (fun c => ?_) (fun c => ?_)
  · have h := it_t c h
    refine s_iconst C dX5_readOrder_79 ic_1 ?_
    exact wX5_readOrder_p80 hd C  h M
  · have h := it_f c h
    refine s_iconst C dX5_readOrder_75 ic_0 ?_
    refine s_goto (tgt := 80) C dX5_readOrder_76 (by decide) ?_
    exact wX5_readOrder_p80 hd C  h M
theorem wX5_readOrder_p33 {X : Cx} {d : Nat} (hd : 21 ≤ d) (C : CtxOK X mX5_readOrder) {s1 : Int32} {I I' : Mm} {r : Unit}  (h : fX5_readOrder_p33 s1 I = some (r, I')) (M : MX X (xE X) d 0 0 none S0 I') : WM X mX5_readOrder 33 [some (rfX X 163)] [.int s1, rfX X 163] S0 I 0 0 := by
  unfold fX5_readOrder_p33 at h
  obtain ⟨I1, eI1, h⟩ := ltm_e h
  refine s_putI C dX5_readOrder_33 kk_163 poX5_247 rfl eI1 ?_
  refine s_aload_n C dX5_readOrder_36 rfl rfl ?_
  refine s_dup C dX5_readOrder_37 rfl ?_
  refine s_getI C dX5_readOrder_38 kk_163 foX5_226 rfl ?_
  refine s_ldcS C dX5_readOrder_41 rfl rfl ?_
  refine s_aload_n C dX5_readOrder_43 rfl rfl ?_
  refine s_getI C dX5_readOrder_44 kk_163 foX5_247 rfl ?_
  refine s_i2c C dX5_readOrder_47 ?_
  refine s_idx C M.rg (Nat.le_trans (by decide) hd) dX5_readOrder_48 mlX5_252 (Nat.le_of_ble_eq_true rfl) ?_
  refine s_if_ge (tgt := 58) C dX5_readOrder_51 (by decide) (fun c => ?_) (fun c => ?_)
  · have h := it_t c h
    refine s_iconst C dX5_readOrder_58 ic_0 ?_
    exact wX5_readOrder_p59 hd C  h M
  · have h := it_f c h
    refine s_iconst C dX5_readOrder_54 ic_1 ?_
    refine s_goto (tgt := 59) C dX5_readOrder_55 (by decide) ?_
    exact wX5_readOrder_p59 hd C  h M
theorem wX5_readOrder_p31 {X : Cx} {d : Nat} (hd : 21 ≤ d) (C : CtxOK X mX5_readOrder)  {I I' : Mm} {r : Unit}  (h : fX5_readOrder_p31  I = some (r, I')) (M : MX X (xE X) d 0 0 none S0 I') : WM X mX5_readOrder 31 [some (rfX X 163)] [rfX X 163] S0 I 0 0 := by
  unfold fX5_readOrder_p31 at h
  refine s_bipush C dX5_readOrder_31 bi_32 ?_
  exact wX5_readOrder_p33 hd C  h M
theorem wX5_readOrder {E : Ev} {d : Nat} (hd : 21 ≤ d)  {I I' : Mm} {r : Unit}  (h : fX5_readOrder  I = some (r, I')) : SemM E d 0 0 mX5_readOrder [rfE E 163] S0 I none S0 I' := by
  unfold fX5_readOrder at h
  refine SemM.ofX (E := E) (y := mX5_readOrder) (args := fun E => [rfE E 163]) (r := fun E => none) (fun E => [some (rfE E 163)]) (by decide +kernel) (Nat.le_of_ble_eq_true rfl) rfl (fun X C M => ?_)
  refine s_aload_n C dX5_readOrder_0 rfl rfl ?_
  refine s_aload_n C dX5_readOrder_1 rfl rfl ?_
  refine s_getI C dX5_readOrder_2 kk_163 foX5_226 rfl ?_
  refine s_if_ne (tgt := 31) C dX5_readOrder_5 (by decide) (fun c => ?_) (fun c => ?_)
  · have h := it_f c h
    exact wX5_readOrder_p31 hd C  h M
  · have h := it_t c h
    refine s_aload_n C dX5_readOrder_8 rfl rfl ?_
    refine s_getI C dX5_readOrder_9 kk_163 foX5_229 rfl ?_
    refine s_aload_n C dX5_readOrder_12 rfl rfl ?_
    refine s_getI C dX5_readOrder_13 kk_163 foX5_223 rfl ?_
    refine s_icmp_ge (tgt := 31) C dX5_readOrder_16 (by decide) (fun c => ?_) (fun c => ?_)
    · have h := it_t c h
      exact wX5_readOrder_p31 hd C  h M
    · have h := it_f c h
      refine s_aload_n C dX5_readOrder_19 rfl rfl ?_
      refine s_getR (b := 178) C dX5_readOrder_20 kk_163 foX5_30 rfl rk_163_12 ?_
      refine s_aload_n C dX5_readOrder_23 rfl rfl ?_
      refine s_getI C dX5_readOrder_24 kk_163 foX5_229 rfl ?_
      obtain ⟨hb, h⟩ := it_n h
      refine s_ald (q := (I 163 14).toNatClampNeg) C dX5_readOrder_27 kk_178 (by decide) rfl hb ?_
      refine s_goto (tgt := 33) C dX5_readOrder_28 (by decide) ?_
      exact wX5_readOrder_p33 hd C  h M
theorem wX5_countOrders_p16 {X : Cx} {d : Nat} (hd : 22 ≤ d) (C : CtxOK X mX5_countOrders) : ∀ (n : Nat) {x1 : Int32} {I I' : Mm} {r : Int32}  (_ : fX5_countOrders_p16 n x1 I = some (r, I')) (_ : MX X (xE X) d 0 0 (some (.int r)) S0 I'), WM X mX5_countOrders 16 [some (rfX X 163), some (.int x1)] [] S0 I 0 0 := by
  intro n
  induction n with
  | zero => intro x1 I I' r  h M; exact absurd h (by simp [fX5_countOrders_p16])
  | succ n ih =>
    intro x1 I I' r  h M
    rw [fX5_countOrders_p16] at h
    refine s_aload_n C dX5_countOrders_16 rfl rfl ?_
    refine s_getI C dX5_countOrders_17 kk_163 foX5_226 rfl ?_
    refine s_if_ne (tgt := 50) C dX5_countOrders_20 (by decide) (fun c => ?_) (fun c => ?_)
    · have h := it_f c h
      refine s_iload_n C dX5_countOrders_50 rfl rfl ?_
      obtain ⟨rfl, rfl⟩ := pr_e h
      exact s_iret C M dX5_countOrders_51 rfl rfl (Nat.le_refl 0) (Nat.le_refl 0)
    · have h := it_t c h
      refine s_aload_n C dX5_countOrders_23 rfl rfl ?_
      refine s_getI C dX5_countOrders_24 kk_163 foX5_229 rfl ?_
      refine s_aload_n C dX5_countOrders_27 rfl rfl ?_
      refine s_getI C dX5_countOrders_28 kk_163 foX5_223 rfl ?_
      refine s_icmp_ge (tgt := 50) C dX5_countOrders_31 (by decide) (fun c => ?_) (fun c => ?_)
      · have h := it_t c h
        refine s_iload_n C dX5_countOrders_50 rfl rfl ?_
        obtain ⟨rfl, rfl⟩ := pr_e h
        exact s_iret C M dX5_countOrders_51 rfl rfl (Nat.le_refl 0) (Nat.le_refl 0)
      · have h := it_f c h
        refine s_aload_n C dX5_countOrders_34 rfl rfl ?_
        refine s_bipush C dX5_countOrders_35 bi_59 ?_
        obtain ⟨r1, I1, hh, h⟩ := bd_e h
        refine s_cV0 (st := []) C M.rg (Nat.le_trans (by decide) hd) mwX5_must mlX5_241 dX5_countOrders_37 (wX5_must (d := 3) (Nat.le_refl _)  hh) kk_163 rfl rfl (Nat.le_of_ble_eq_true rfl) ?_
        refine s_aload_n C dX5_countOrders_40 rfl rfl ?_
        obtain ⟨r2, I2, hh, h⟩ := bd_e h
        refine s_cV0 (st := []) C M.rg (Nat.le_trans (by decide) hd) mwX5_readOrder mlX5_263 dX5_countOrders_41 (wX5_readOrder (d := 21) (Nat.le_refl _)  hh) kk_163 rfl rfl (Nat.le_of_ble_eq_true rfl) ?_
        obtain ⟨v1, ev1, h⟩ := ltm_e h
        refine s_iinc (v := v1) (ls' := [some (rfX X 163), some (.int v1)]) C dX5_countOrders_44 rfl (by decide) (Nat.le_of_ble_eq_true rfl) (by rw [ev1, ic_1]) rfl rfl ?_
        refine s_goto (tgt := 16) C dX5_countOrders_47 (by decide) ?_
        exact ih  h M
theorem wX5_countOrders {E : Ev} {d : Nat} (hd : 22 ≤ d)  {I I' : Mm} {r : Int32}  (h : fX5_countOrders  I = some (r, I')) : SemM E d 0 0 mX5_countOrders [rfE E 163] S0 I (some (.int r)) S0 I' := by
  unfold fX5_countOrders at h
  refine SemM.ofX (E := E) (y := mX5_countOrders) (args := fun E => [rfE E 163]) (r := fun E => (some (.int r))) (fun E => [some (rfE E 163), none]) (by decide +kernel) (Nat.le_of_ble_eq_true rfl) rfl (fun X C M => ?_)
  refine s_aload_n C dX5_countOrders_0 rfl rfl ?_
  refine s_iconst C dX5_countOrders_1 ic_0 ?_
  obtain ⟨I1, eI1, h⟩ := ltm_e h
  refine s_putI C dX5_countOrders_2 kk_163 poX5_229 rfl eI1 ?_
  refine s_aload_n C dX5_countOrders_5 rfl rfl ?_
  refine s_iconst C dX5_countOrders_6 ic_0 ?_
  obtain ⟨I2, eI2, h⟩ := ltm_e h
  refine s_putZ C dX5_countOrders_7 kk_163 poX5_226 rfl (by decide) eI2 ?_
  refine s_iconst C dX5_countOrders_10 ic_1 ?_
  refine s_istore_n (ls' := [some (rfX X 163), some (.int 1)]) C dX5_countOrders_11 rfl (by decide) (Nat.le_of_ble_eq_true rfl) rfl rfl ?_
  refine s_aload_n C dX5_countOrders_12 rfl rfl ?_
  obtain ⟨r1, I3, hh, h⟩ := bd_e h
  refine s_cV0 (st := []) C M.rg (Nat.le_trans (by decide) hd) mwX5_readOrder mlX5_263 dX5_countOrders_13 (wX5_readOrder (d := 21) (Nat.le_refl _)  hh) kk_163 rfl rfl (Nat.le_of_ble_eq_true rfl) ?_
  exact wX5_countOrders_p16 hd C _  h M
theorem wX5_greatestDepth_p9 {X : Cx} {d : Nat} (hd : 44 ≤ d) (C : CtxOK X mX5_greatestDepth) : ∀ (n : Nat) {x1 : Int32} {x2 : Int32} {x3 : Int32} {I I' : Mm} {r : Int32}  (_ : fX5_greatestDepth_p9 n x1 x2 x3 I = some (r, I')) (_ : MX X (xE X) d 0 0 (some (.int r)) S0 I'), WM X mX5_greatestDepth 9 [some (rfX X 163), some (.int x1), some (.int x2), some (.int x3), none] [] S0 I 0 0 := by
  intro n
  induction n with
  | zero => intro x1 x2 x3 I I' r  h M; exact absurd h (by simp [fX5_greatestDepth_p9])
  | succ n ih =>
    intro x1 x2 x3 I I' r  h M
    rw [fX5_greatestDepth_p9] at h
    refine s_iload_n C dX5_greatestDepth_9 rfl rfl ?_
    refine s_aload_n C dX5_greatestDepth_10 rfl rfl ?_
    refine s_getI C dX5_greatestDepth_11 kk_163 foX5_84 rfl ?_
    refine s_icmp_ge (tgt := 49) C dX5_greatestDepth_14 (by decide) (fun c => ?_) (fun c => ?_)
    · have h := it_t c h
      refine s_iload_n C dX5_greatestDepth_49 rfl rfl ?_
      obtain ⟨rfl, rfl⟩ := pr_e h
      exact s_iret C M dX5_greatestDepth_50 rfl rfl (Nat.le_refl 0) (Nat.le_refl 0)
    · have h := it_f c h
      refine s_aload_n C dX5_greatestDepth_17 rfl rfl ?_
      refine s_iload_n C dX5_greatestDepth_18 rfl rfl ?_
      refine s_aload_n C dX5_greatestDepth_19 rfl rfl ?_
      refine s_getR (b := 176) C dX5_greatestDepth_20 kk_163 foX5_24 rfl rk_163_9 ?_
      refine s_iload_n C dX5_greatestDepth_23 rfl rfl ?_
      obtain ⟨hb, h⟩ := it_n h
      refine s_ald (q := x3.toNatClampNeg) C dX5_greatestDepth_24 kk_176 (by decide) rfl hb ?_
      obtain ⟨r1, I1, hh, h⟩ := bd_e h
      refine s_cV0 (st := []) C M.rg (Nat.le_trans (by decide) hd) mwX5_depth mlX5_139 dX5_greatestDepth_25 (wX5_depth (d := 3) (Nat.le_refl _)  hh) kk_163 rfl rfl (Nat.le_of_ble_eq_true rfl) ?_
      refine s_istore (ls' := [some (rfX X 163), some (.int x1), some (.int x2), some (.int x3), some (.int r1)]) C dX5_greatestDepth_28 (by decide) (Nat.le_of_ble_eq_true rfl) rfl rfl ?_
      refine s_iload C dX5_greatestDepth_30 rfl ?_
      refine s_iload_n C dX5_greatestDepth_32 rfl rfl ?_
      refine s_icmp_le (tgt := 41) C dX5_greatestDepth_33 (by decide) (fun c => ?_) (fun c => ?_)
      · have h := it_t c h
        refine s_iload_n C dX5_greatestDepth_41 rfl rfl ?_
        refine s_istore_n (ls' := [some (rfX X 163), some (.int x1), some (.int x2), some (.int x3), some (.int r1)]) C dX5_greatestDepth_42 rfl (by decide) (Nat.le_of_ble_eq_true rfl) rfl rfl ?_
        obtain ⟨v1, ev1, h⟩ := ltm_e h
        refine s_iinc (v := v1) (ls' := [some (rfX X 163), some (.int x1), some (.int x2), some (.int v1), some (.int r1)]) C dX5_greatestDepth_43 rfl (by decide) (Nat.le_of_ble_eq_true rfl) (by rw [ev1, ic_1]) rfl rfl ?_
        refine s_goto (tgt := 9) C dX5_greatestDepth_46 (by decide) ?_
        refine s_weak (ls' := [some (rfX X 163), some (.int x1), some (.int x2), some (.int v1), none]) [true, true, true, true, false] rfl ?_
        exact ih  h M
      · have h := it_f c h
        refine s_iload C dX5_greatestDepth_36 rfl ?_
        refine s_goto (tgt := 42) C dX5_greatestDepth_38 (by decide) ?_
        refine s_istore_n (ls' := [some (rfX X 163), some (.int x1), some (.int r1), some (.int x3), some (.int r1)]) C dX5_greatestDepth_42 rfl (by decide) (Nat.le_of_ble_eq_true rfl) rfl rfl ?_
        obtain ⟨v1, ev1, h⟩ := ltm_e h
        refine s_iinc (v := v1) (ls' := [some (rfX X 163), some (.int x1), some (.int r1), some (.int v1), some (.int r1)]) C dX5_greatestDepth_43 rfl (by decide) (Nat.le_of_ble_eq_true rfl) (by rw [ev1, ic_1]) rfl rfl ?_
        refine s_goto (tgt := 9) C dX5_greatestDepth_46 (by decide) ?_
        refine s_weak (ls' := [some (rfX X 163), some (.int x1), some (.int r1), some (.int v1), none]) [true, true, true, true, false] rfl ?_
        exact ih  h M
theorem wX5_greatestDepth {E : Ev} {d : Nat} (hd : 44 ≤ d) {x1 : Int32} {I I' : Mm} {r : Int32}  (h : fX5_greatestDepth x1 I = some (r, I')) : SemM E d 0 0 mX5_greatestDepth [rfE E 163, .int x1] S0 I (some (.int r)) S0 I' := by
  unfold fX5_greatestDepth at h
  refine SemM.ofX (E := E) (y := mX5_greatestDepth) (args := fun E => [rfE E 163, .int x1]) (r := fun E => (some (.int r))) (fun E => [some (rfE E 163), some (.int x1), none, none, none]) (by decide +kernel) (Nat.le_of_ble_eq_true rfl) rfl (fun X C M => ?_)
  refine s_iconst C dX5_greatestDepth_0 ic_m1 ?_
  refine s_istore_n (ls' := [some (rfX X 163), some (.int x1), some (.int (-1)), none, none]) C dX5_greatestDepth_1 rfl (by decide) (Nat.le_of_ble_eq_true rfl) rfl rfl ?_
  refine s_aload_n C dX5_greatestDepth_2 rfl rfl ?_
  refine s_iload_n C dX5_greatestDepth_3 rfl rfl ?_
  obtain ⟨r1, I1, hh, h⟩ := bd_e h
  refine s_cV0 (st := []) C M.rg (Nat.le_trans (by decide) hd) mwX5_listAll mlX5_100 dX5_greatestDepth_4 (wX5_listAll (d := 43) (Nat.le_refl _)  hh) kk_163 rfl rfl (Nat.le_of_ble_eq_true rfl) ?_
  refine s_iconst C dX5_greatestDepth_7 ic_0 ?_
  refine s_istore_n (ls' := [some (rfX X 163), some (.int x1), some (.int (-1)), some (.int 0), none]) C dX5_greatestDepth_8 rfl (by decide) (Nat.le_of_ble_eq_true rfl) rfl rfl ?_
  exact wX5_greatestDepth_p9 hd C _  h M
theorem wX5_ofAll {E : Ev} {d : Nat} (hd : 2 ≤ d) {x1 : Int32} {x2 : Int32} {I I' : Mm} {r : Int32}  (h : fX5_ofAll x1 x2 I = some (r, I')) : SemM E d 0 0 mX5_ofAll [rfE E 163, .int x1, .int x2] S0 I (some (.int r)) S0 I' := by
  unfold fX5_ofAll at h
  refine SemM.ofX (E := E) (y := mX5_ofAll) (args := fun E => [rfE E 163, .int x1, .int x2]) (r := fun E => (some (.int r))) (fun E => [some (rfE E 163), some (.int x1), some (.int x2)]) (by decide +kernel) (Nat.le_of_ble_eq_true rfl) rfl (fun X C M => ?_)
  refine s_aload_n C dX5_ofAll_0 rfl rfl ?_
  refine s_iload_n C dX5_ofAll_1 rfl rfl ?_
  refine s_bipush C dX5_ofAll_2 bi_30 ?_
  refine s_idiv C dX5_ofAll_4 (by decide) ?_
  refine s_iload_n C dX5_ofAll_5 rfl rfl ?_
  refine s_bipush C dX5_ofAll_6 bi_30 ?_
  refine s_irem C dX5_ofAll_8 (by decide) ?_
  refine s_iload_n C dX5_ofAll_9 rfl rfl ?_
  obtain ⟨r1, I1, hh, h⟩ := bd_e h
  refine s_cV0 (st := []) C M.rg (Nat.le_trans (by decide) hd) mwX5_of mlX5_62 dX5_ofAll_10 (wX5_of (d := 1) (Nat.le_refl _)  hh) kk_163 rfl rfl (Nat.le_of_ble_eq_true rfl) ?_
  obtain ⟨rfl, rfl⟩ := pr_e h
  exact s_iret C M dX5_ofAll_13 rfl rfl (Nat.le_refl 0) (Nat.le_refl 0)
theorem wX5_isAhead {E : Ev} {d : Nat} (hd : 3 ≤ d) {x1 : Int32} {x2 : Int32} {I I' : Mm} {r : Int32}  (h : fX5_isAhead x1 x2 I = some (r, I')) : SemM E d 0 0 mX5_isAhead [rfE E 163, .int x1, .int x2] S0 I (some (.int r)) S0 I' := by
  unfold fX5_isAhead at h
  refine SemM.ofX (E := E) (y := mX5_isAhead) (args := fun E => [rfE E 163, .int x1, .int x2]) (r := fun E => (some (.int r))) (fun E => [some (rfE E 163), some (.int x1), some (.int x2), none, none]) (by decide +kernel) (Nat.le_of_ble_eq_true rfl) rfl (fun X C M => ?_)
  refine s_aload_n C dX5_isAhead_0 rfl rfl ?_
  refine s_iload_n C dX5_isAhead_1 rfl rfl ?_
  refine s_iconst C dX5_isAhead_2 ic_1 ?_
  obtain ⟨r1, I1, hh, h⟩ := bd_e h
  refine s_cV0 (st := []) C M.rg (Nat.le_trans (by decide) hd) mwX5_ofAll mlX5_188 dX5_isAhead_3 (wX5_ofAll (d := 2) (Nat.le_refl _)  hh) kk_163 rfl rfl (Nat.le_of_ble_eq_true rfl) ?_
  refine s_aload_n C dX5_isAhead_6 rfl rfl ?_
  refine s_iload_n C dX5_isAhead_7 rfl rfl ?_
  refine s_iconst C dX5_isAhead_8 ic_1 ?_
  obtain ⟨r2, I2, hh, h⟩ := bd_e h
  refine s_cV0 (st := [.int r1]) C M.rg (Nat.le_trans (by decide) hd) mwX5_ofAll mlX5_188 dX5_isAhead_9 (wX5_ofAll (d := 2) (Nat.le_refl _)  hh) kk_163 rfl rfl (Nat.le_of_ble_eq_true rfl) ?_
  refine s_isub C dX5_isAhead_12 ?_
  obtain ⟨v1, ev1, h⟩ := ltm_e h
  refine s_top_i ev1 ?_
  refine s_istore_n (ls' := [some (rfX X 163), some (.int x1), some (.int x2), some (.int v1), none]) C dX5_isAhead_13 rfl (by decide) (Nat.le_of_ble_eq_true rfl) rfl rfl ?_
  refine s_aload_n C dX5_isAhead_14 rfl rfl ?_
  refine s_iload_n C dX5_isAhead_15 rfl rfl ?_
  refine s_iconst C dX5_isAhead_16 ic_0 ?_
  obtain ⟨r3, I3, hh, h⟩ := bd_e h
  refine s_cV0 (st := []) C M.rg (Nat.le_trans (by decide) hd) mwX5_ofAll mlX5_188 dX5_isAhead_17 (wX5_ofAll (d := 2) (Nat.le_refl _)  hh) kk_163 rfl rfl (Nat.le_of_ble_eq_true rfl) ?_
  refine s_aload_n C dX5_isAhead_20 rfl rfl ?_
  refine s_iload_n C dX5_isAhead_21 rfl rfl ?_
  refine s_iconst C dX5_isAhead_22 ic_0 ?_
  obtain ⟨r4, I4, hh, h⟩ := bd_e h
  refine s_cV0 (st := [.int r3]) C M.rg (Nat.le_trans (by decide) hd) mwX5_ofAll mlX5_188 dX5_isAhead_23 (wX5_ofAll (d := 2) (Nat.le_refl _)  hh) kk_163 rfl rfl (Nat.le_of_ble_eq_true rfl) ?_
  refine s_isub C dX5_isAhead_26 ?_
  obtain ⟨v2, ev2, h⟩ := ltm_e h
  refine s_top_i ev2 ?_
  refine s_istore (ls' := [some (rfX X 163), some (.int x1), some (.int x2), some (.int v1), some (.int v2)]) C dX5_isAhead_27 (by decide) (Nat.le_of_ble_eq_true rfl) rfl rfl ?_
  refine s_iload_n C dX5_isAhead_29 rfl rfl ?_
  refine s_if_eq (tgt := 45) C dX5_isAhead_30 (by decide) (fun c => ?_) (fun c => ?_)
  · have h := it_t c h
    refine s_iload C dX5_isAhead_45 rfl ?_
    refine s_if_eq (tgt := 63) C dX5_isAhead_47 (by decide) (fun c => ?_) (fun c => ?_)
    · have h := it_t c h
      refine s_iload_n C dX5_isAhead_63 rfl rfl ?_
      refine s_bipush C dX5_isAhead_64 bi_30 ?_
      refine s_idiv C dX5_isAhead_66 (by decide) ?_
      refine s_iload_n C dX5_isAhead_67 rfl rfl ?_
      refine s_bipush C dX5_isAhead_68 bi_30 ?_
      refine s_idiv C dX5_isAhead_70 (by decide) ?_
      refine s_icmp_ge (tgt := 78) C dX5_isAhead_71 (by decide) (fun c => ?_) (fun c => ?_)
      · have h := it_t c h
        refine s_iconst C dX5_isAhead_78 ic_0 ?_
        obtain ⟨rfl, rfl⟩ := pr_e h
        exact s_iret C M dX5_isAhead_79 rfl (nz_b (by decide)) (Nat.le_refl 0) (Nat.le_refl 0)
      · have h := it_f c h
        refine s_iconst C dX5_isAhead_74 ic_1 ?_
        refine s_goto (tgt := 79) C dX5_isAhead_75 (by decide) ?_
        obtain ⟨rfl, rfl⟩ := pr_e h
        exact s_iret C M dX5_isAhead_79 rfl (nz_b (by decide)) (Nat.le_refl 0) (Nat.le_refl 0)
    · have h := it_f c h
      refine s_iload C dX5_isAhead_50 rfl ?_
      refine s_if_ge (tgt := 59) C dX5_isAhead_52 (by decide) (fun c => ?_) (fun c => ?_)
      · have h := it_t c h
        refine s_iconst C dX5_isAhead_59 ic_0 ?_
        refine s_goto (tgt := 79) C dX5_isAhead_60 (by decide) ?_
        obtain ⟨rfl, rfl⟩ := pr_e h
        exact s_iret C M dX5_isAhead_79 rfl (nz_b (by decide)) (Nat.le_refl 0) (Nat.le_refl 0)
      · have h := it_f c h
        refine s_iconst C dX5_isAhead_55 ic_1 ?_
        refine s_goto (tgt := 79) C dX5_isAhead_56 (by decide) ?_
        obtain ⟨rfl, rfl⟩ := pr_e h
        exact s_iret C M dX5_isAhead_79 rfl (nz_b (by decide)) (Nat.le_refl 0) (Nat.le_refl 0)
  · have h := it_f c h
    refine s_iload_n C dX5_isAhead_33 rfl rfl ?_
    refine s_if_le (tgt := 41) C dX5_isAhead_34 (by decide) (fun c => ?_) (fun c => ?_)
    · have h := it_t c h
      refine s_iconst C dX5_isAhead_41 ic_0 ?_
      refine s_goto (tgt := 79) C dX5_isAhead_42 (by decide) ?_
      obtain ⟨rfl, rfl⟩ := pr_e h
      exact s_iret C M dX5_isAhead_79 rfl (nz_b (by decide)) (Nat.le_refl 0) (Nat.le_refl 0)
    · have h := it_f c h
      refine s_iconst C dX5_isAhead_37 ic_1 ?_
      refine s_goto (tgt := 79) C dX5_isAhead_38 (by decide) ?_
      obtain ⟨rfl, rfl⟩ := pr_e h
      exact s_iret C M dX5_isAhead_79 rfl (nz_b (by decide)) (Nat.le_refl 0) (Nat.le_refl 0)
theorem wX5_isThere {E : Ev} {d : Nat} (hd : 2 ≤ d) {x1 : Int32} {I I' : Mm} {r : Int32}  (h : fX5_isThere x1 I = some (r, I')) : SemM E d 0 0 mX5_isThere [rfE E 163, .int x1] S0 I (some (.int r)) S0 I' := by
  unfold fX5_isThere at h
  refine SemM.ofX (E := E) (y := mX5_isThere) (args := fun E => [rfE E 163, .int x1]) (r := fun E => (some (.int r))) (fun E => [some (rfE E 163), some (.int x1)]) (by decide +kernel) (Nat.le_of_ble_eq_true rfl) rfl (fun X C M => ?_)
  refine s_aload_n C dX5_isThere_0 rfl rfl ?_
  refine s_iload_n C dX5_isThere_1 rfl rfl ?_
  refine s_bipush C dX5_isThere_2 bi_30 ?_
  refine s_idiv C dX5_isThere_4 (by decide) ?_
  refine s_iload_n C dX5_isThere_5 rfl rfl ?_
  refine s_bipush C dX5_isThere_6 bi_30 ?_
  refine s_irem C dX5_isThere_8 (by decide) ?_
  refine s_iconst C dX5_isThere_9 ic_0 ?_
  obtain ⟨r1, I1, hh, h⟩ := bd_e h
  refine s_cV0 (st := []) C M.rg (Nat.le_trans (by decide) hd) mwX5_of mlX5_62 dX5_isThere_10 (wX5_of (d := 1) (Nat.le_refl _)  hh) kk_163 rfl rfl (Nat.le_of_ble_eq_true rfl) ?_
  refine s_if_lt (tgt := 20) C dX5_isThere_13 (by decide) (fun c => ?_) (fun c => ?_)
  · have h := it_t c h
    refine s_iconst C dX5_isThere_20 ic_0 ?_
    obtain ⟨rfl, rfl⟩ := pr_e h
    exact s_iret C M dX5_isThere_21 rfl (nz_b (by decide)) (Nat.le_refl 0) (Nat.le_refl 0)
  · have h := it_f c h
    refine s_iconst C dX5_isThere_16 ic_1 ?_
    refine s_goto (tgt := 21) C dX5_isThere_17 (by decide) ?_
    obtain ⟨rfl, rfl⟩ := pr_e h
    exact s_iret C M dX5_isThere_21 rfl (nz_b (by decide)) (Nat.le_refl 0) (Nat.le_refl 0)
theorem wX5_heaviest_p13 {X : Cx} {d : Nat} (hd : 4 ≤ d) (hR : RG X d 0 0) (C : CtxOK X mX5_heaviest) : ∀ (n : Nat) {x1 : Int32} {x2 : Int32} {x3 : Int32} {x4 : Int32} {I I' : Mm} {u : Int32}  (_ : fX5_heaviest_p13 n x1 x2 x3 x4 I = some (u, I')) (_ : WM X mX5_heaviest 61 [some (rfX X 163), some (.int x1), some (.int x2), some (.int u), none] [] S0 I' 0 0), WM X mX5_heaviest 13 [some (rfX X 163), some (.int x1), some (.int x2), some (.int x3), some (.int x4)] [] S0 I 0 0 := by
  intro n
  induction n with
  | zero => intro x1 x2 x3 x4 I I' u  h K; exact absurd h (by simp [fX5_heaviest_p13])
  | succ n ih =>
    intro x1 x2 x3 x4 I I' u  h K
    rw [fX5_heaviest_p13] at h
    refine s_iload C dX5_heaviest_13 rfl ?_
    refine s_bipush C dX5_heaviest_15 bi_90 ?_
    refine s_icmp_ge (tgt := 61) C dX5_heaviest_17 (by decide) (fun c => ?_) (fun c => ?_)
    · have h := it_t c h
      obtain ⟨rfl, rfl⟩ := pr_e h
      refine s_weak (ls' := [some (rfX X 163), some (.int x1), some (.int x2), some (.int x3), none]) [true, true, true, true, false] rfl ?_
      exact K
    · have h := it_f c h
      refine s_aload_n C dX5_heaviest_20 rfl rfl ?_
      refine s_iload_n C dX5_heaviest_21 rfl rfl ?_
      obtain ⟨r1, I1, hh, h⟩ := bd_e h
      refine s_cV0 (st := []) C hR (Nat.le_trans (by decide) hd) mwX5_isThere mlX5_191 dX5_heaviest_22 (wX5_isThere (d := 2) (Nat.le_refl _)  hh) kk_163 rfl rfl (Nat.le_of_ble_eq_true rfl) ?_
      refine s_if_eq (tgt := 61) C dX5_heaviest_25 (by decide) (fun c => ?_) (fun c => ?_)
      · have h := it_t c h
        obtain ⟨rfl, rfl⟩ := pr_e h
        refine s_weak (ls' := [some (rfX X 163), some (.int x1), some (.int x2), some (.int x3), none]) [true, true, true, true, false] rfl ?_
        exact K
      · have h := it_f c h
        refine s_iload_n C dX5_heaviest_28 rfl rfl ?_
        refine s_aload_n C dX5_heaviest_29 rfl rfl ?_
        refine s_iload C dX5_heaviest_30 rfl ?_
        obtain ⟨r2, I2, hh, h⟩ := bd_e h
        refine s_cV0 (st := [.int x3]) C hR (Nat.le_trans (by decide) hd) mwX5_isThere mlX5_191 dX5_heaviest_32 (wX5_isThere (d := 2) (Nat.le_refl _)  hh) kk_163 rfl rfl (Nat.le_of_ble_eq_true rfl) ?_
        refine s_if_eq (tgt := 52) C dX5_heaviest_35 (by decide) (fun c => ?_) (fun c => ?_)
        · have h := it_t c h
          refine s_iconst C dX5_heaviest_52 ic_0 ?_
          refine s_iadd C dX5_heaviest_53 ?_
          obtain ⟨v1, ev1, h⟩ := ltm_e h
          refine s_top_i ev1 ?_
          refine s_istore_n (ls' := [some (rfX X 163), some (.int x1), some (.int x2), some (.int v1), some (.int x4)]) C dX5_heaviest_54 rfl (by decide) (Nat.le_of_ble_eq_true rfl) rfl rfl ?_
          obtain ⟨v2, ev2, h⟩ := ltm_e h
          refine s_iinc (v := v2) (ls' := [some (rfX X 163), some (.int x1), some (.int x2), some (.int v1), some (.int v2)]) C dX5_heaviest_55 rfl (by decide) (Nat.le_of_ble_eq_true rfl) (by rw [ev2, ic_1]) rfl rfl ?_
          refine s_goto (tgt := 13) C dX5_heaviest_58 (by decide) ?_
          exact ih  h K
        · have h := it_f c h
          refine s_aload_n C dX5_heaviest_38 rfl rfl ?_
          refine s_iload C dX5_heaviest_39 rfl ?_
          refine s_iload_n C dX5_heaviest_41 rfl rfl ?_
          obtain ⟨r3, I3, hh, h⟩ := bd_e h
          refine s_cV0 (st := [.int x3]) C hR (Nat.le_trans (by decide) hd) mwX5_isAhead mlX5_194 dX5_heaviest_42 (wX5_isAhead (d := 3) (Nat.le_refl _)  hh) kk_163 rfl rfl (Nat.le_of_ble_eq_true rfl) ?_
          refine s_if_eq (tgt := 52) C dX5_heaviest_45 (by decide) (fun c => ?_) (fun c => ?_)
          · have h := it_t c h
            refine s_iconst C dX5_heaviest_52 ic_0 ?_
            refine s_iadd C dX5_heaviest_53 ?_
            obtain ⟨v1, ev1, h⟩ := ltm_e h
            refine s_top_i ev1 ?_
            refine s_istore_n (ls' := [some (rfX X 163), some (.int x1), some (.int x2), some (.int v1), some (.int x4)]) C dX5_heaviest_54 rfl (by decide) (Nat.le_of_ble_eq_true rfl) rfl rfl ?_
            obtain ⟨v2, ev2, h⟩ := ltm_e h
            refine s_iinc (v := v2) (ls' := [some (rfX X 163), some (.int x1), some (.int x2), some (.int v1), some (.int v2)]) C dX5_heaviest_55 rfl (by decide) (Nat.le_of_ble_eq_true rfl) (by rw [ev2, ic_1]) rfl rfl ?_
            refine s_goto (tgt := 13) C dX5_heaviest_58 (by decide) ?_
            exact ih  h K
          · have h := it_f c h
            refine s_iconst C dX5_heaviest_48 ic_1 ?_
            refine s_goto (tgt := 53) C dX5_heaviest_49 (by decide) ?_
            refine s_iadd C dX5_heaviest_53 ?_
            obtain ⟨v1, ev1, h⟩ := ltm_e h
            refine s_top_i ev1 ?_
            refine s_istore_n (ls' := [some (rfX X 163), some (.int x1), some (.int x2), some (.int v1), some (.int x4)]) C dX5_heaviest_54 rfl (by decide) (Nat.le_of_ble_eq_true rfl) rfl rfl ?_
            obtain ⟨v2, ev2, h⟩ := ltm_e h
            refine s_iinc (v := v2) (ls' := [some (rfX X 163), some (.int x1), some (.int x2), some (.int v1), some (.int v2)]) C dX5_heaviest_55 rfl (by decide) (Nat.le_of_ble_eq_true rfl) (by rw [ev2, ic_1]) rfl rfl ?_
            refine s_goto (tgt := 13) C dX5_heaviest_58 (by decide) ?_
            exact ih  h K
theorem wX5_heaviest_p2 {X : Cx} {d : Nat} (hd : 4 ≤ d) (C : CtxOK X mX5_heaviest) : ∀ (n : Nat) {x1 : Int32} {x2 : Int32} {I I' : Mm} {r : Int32}  (_ : fX5_heaviest_p2 n x1 x2 I = some (r, I')) (_ : MX X (xE X) d 0 0 (some (.int r)) S0 I'), WM X mX5_heaviest 2 [some (rfX X 163), some (.int x1), some (.int x2), none, none] [] S0 I 0 0 := by
  intro n
  induction n with
  | zero => intro x1 x2 I I' r  h M; exact absurd h (by simp [fX5_heaviest_p2])
  | succ n ih =>
    intro x1 x2 I I' r  h M
    rw [fX5_heaviest_p2] at h
    refine s_iload_n C dX5_heaviest_2 rfl rfl ?_
    refine s_bipush C dX5_heaviest_3 bi_90 ?_
    refine s_icmp_ge (tgt := 96) C dX5_heaviest_5 (by decide) (fun c => ?_) (fun c => ?_)
    · have h := it_t c h
      refine s_bipush C dX5_heaviest_96 bi_m11 ?_
      obtain ⟨rfl, rfl⟩ := pr_e h
      exact s_iret C M dX5_heaviest_98 rfl rfl (Nat.le_refl 0) (Nat.le_refl 0)
    · have h := it_f c h
      refine s_iconst C dX5_heaviest_8 ic_0 ?_
      refine s_istore_n (ls' := [some (rfX X 163), some (.int x1), some (.int x2), some (.int 0), none]) C dX5_heaviest_9 rfl (by decide) (Nat.le_of_ble_eq_true rfl) rfl rfl ?_
      refine s_iconst C dX5_heaviest_10 ic_0 ?_
      refine s_istore (ls' := [some (rfX X 163), some (.int x1), some (.int x2), some (.int 0), some (.int 0)]) C dX5_heaviest_11 (by decide) (Nat.le_of_ble_eq_true rfl) rfl rfl ?_
      obtain ⟨u1, I1, hh, h⟩ := bd_e h
      refine wX5_heaviest_p13 hd M.rg C _  hh ?_
      refine s_aload_n C dX5_heaviest_61 rfl rfl ?_
      refine s_iload_n C dX5_heaviest_62 rfl rfl ?_
      obtain ⟨r1, I2, hh, h⟩ := bd_e h
      refine s_cV0 (st := []) C M.rg (Nat.le_trans (by decide) hd) mwX5_isThere mlX5_191 dX5_heaviest_63 (wX5_isThere (d := 2) (Nat.le_refl _)  hh) kk_163 rfl rfl (Nat.le_of_ble_eq_true rfl) ?_
      refine s_if_eq (tgt := 90) C dX5_heaviest_66 (by decide) (fun c => ?_) (fun c => ?_)
      · have h := it_t c h
        obtain ⟨v1, ev1, h⟩ := ltm_e h
        refine s_iinc (v := v1) (ls' := [some (rfX X 163), some (.int x1), some (.int v1), some (.int u1), none]) C dX5_heaviest_90 rfl (by decide) (Nat.le_of_ble_eq_true rfl) (by rw [ev1, ic_1]) rfl rfl ?_
        refine s_goto (tgt := 2) C dX5_heaviest_93 (by decide) ?_
        refine s_weak (ls' := [some (rfX X 163), some (.int x1), some (.int v1), none, none]) [true, true, true, false, false] rfl ?_
        exact ih  h M
      · have h := it_f c h
        refine s_iload_n C dX5_heaviest_69 rfl rfl ?_
        refine s_iload_n C dX5_heaviest_70 rfl rfl ?_
        refine s_icmp_ne (tgt := 90) C dX5_heaviest_71 (by decide) (fun c => ?_) (fun c => ?_)
        · have h := it_f c h
          obtain ⟨v1, ev1, h⟩ := ltm_e h
          refine s_iinc (v := v1) (ls' := [some (rfX X 163), some (.int x1), some (.int v1), some (.int u1), none]) C dX5_heaviest_90 rfl (by decide) (Nat.le_of_ble_eq_true rfl) (by rw [ev1, ic_1]) rfl rfl ?_
          refine s_goto (tgt := 2) C dX5_heaviest_93 (by decide) ?_
          refine s_weak (ls' := [some (rfX X 163), some (.int x1), some (.int v1), none, none]) [true, true, true, false, false] rfl ?_
          exact ih  h M
        · have h := it_t c h
          refine s_sipush C dX5_heaviest_74 si_1000 ?_
          refine s_iload_n C dX5_heaviest_77 rfl rfl ?_
          refine s_bipush C dX5_heaviest_78 bi_30 ?_
          refine s_idiv C dX5_heaviest_80 (by decide) ?_
          refine s_imul C dX5_heaviest_81 ?_
          refine s_aload_n C dX5_heaviest_82 rfl rfl ?_
          refine s_iload_n C dX5_heaviest_83 rfl rfl ?_
          refine s_iconst C dX5_heaviest_84 ic_0 ?_
          obtain ⟨r2, I3, hh, h⟩ := bd_e h
          refine s_cV0 (st := [.int (1000 * (x2 / 30))]) C M.rg (Nat.le_trans (by decide) hd) mwX5_ofAll mlX5_188 dX5_heaviest_85 (wX5_ofAll (d := 2) (Nat.le_refl _)  hh) kk_163 rfl rfl (Nat.le_of_ble_eq_true rfl) ?_
          refine s_iadd C dX5_heaviest_88 ?_
          obtain ⟨rfl, rfl⟩ := pr_e h
          exact s_iret C M dX5_heaviest_89 rfl rfl (Nat.le_refl 0) (Nat.le_refl 0)
theorem wX5_heaviest {E : Ev} {d : Nat} (hd : 4 ≤ d) {x1 : Int32} {I I' : Mm} {r : Int32}  (h : fX5_heaviest x1 I = some (r, I')) : SemM E d 0 0 mX5_heaviest [rfE E 163, .int x1] S0 I (some (.int r)) S0 I' := by
  unfold fX5_heaviest at h
  refine SemM.ofX (E := E) (y := mX5_heaviest) (args := fun E => [rfE E 163, .int x1]) (r := fun E => (some (.int r))) (fun E => [some (rfE E 163), some (.int x1), none, none, none]) (by decide +kernel) (Nat.le_of_ble_eq_true rfl) rfl (fun X C M => ?_)
  refine s_iconst C dX5_heaviest_0 ic_0 ?_
  refine s_istore_n (ls' := [some (rfX X 163), some (.int x1), some (.int 0), none, none]) C dX5_heaviest_1 rfl (by decide) (Nat.le_of_ble_eq_true rfl) rfl rfl ?_
  exact wX5_heaviest_p2 hd C _  h M
theorem wX5_isBalanced {E : Ev} {d : Nat} (hd : 1 ≤ d)  {I I' : Mm} {r : Int32}  (h : fX5_isBalanced  I = some (r, I')) : SemM E d 0 0 mX5_isBalanced [rfE E 163] S0 I (some (.int r)) S0 I' := by
  unfold fX5_isBalanced at h
  refine SemM.ofX (E := E) (y := mX5_isBalanced) (args := fun E => [rfE E 163]) (r := fun E => (some (.int r))) (fun E => [some (rfE E 163)]) (by decide +kernel) (Nat.le_of_ble_eq_true rfl) rfl (fun X C M => ?_)
  refine s_iconst C dX5_isBalanced_0 ic_1 ?_
  obtain ⟨rfl, rfl⟩ := pr_e h
  exact s_iret C M dX5_isBalanced_1 rfl rfl (Nat.le_refl 0) (Nat.le_refl 0)
theorem wX5_leaning_p9 {X : Cx} {d : Nat} (hd : 44 ≤ d) (C : CtxOK X mX5_leaning) : ∀ (n : Nat) {x1 : Int32} {x2 : Int32} {x3 : Int32} {I I' : Mm} {r : Int32}  (_ : fX5_leaning_p9 n x1 x2 x3 I = some (r, I')) (_ : MX X (xE X) d 0 0 (some (.int r)) S0 I'), WM X mX5_leaning 9 [some (rfX X 163), some (.int x1), some (.int x2), some (.int x3)] [] S0 I 0 0 := by
  intro n
  induction n with
  | zero => intro x1 x2 x3 I I' r  h M; exact absurd h (by simp [fX5_leaning_p9])
  | succ n ih =>
    intro x1 x2 x3 I I' r  h M
    rw [fX5_leaning_p9] at h
    refine s_iload_n C dX5_leaning_9 rfl rfl ?_
    refine s_aload_n C dX5_leaning_10 rfl rfl ?_
    refine s_getI C dX5_leaning_11 kk_163 foX5_84 rfl ?_
    refine s_icmp_ge (tgt := 45) C dX5_leaning_14 (by decide) (fun c => ?_) (fun c => ?_)
    · have h := it_t c h
      refine s_iload_n C dX5_leaning_45 rfl rfl ?_
      obtain ⟨rfl, rfl⟩ := pr_e h
      exact s_iret C M dX5_leaning_46 rfl rfl (Nat.le_refl 0) (Nat.le_refl 0)
    · have h := it_f c h
      refine s_iload_n C dX5_leaning_17 rfl rfl ?_
      refine s_aload_n C dX5_leaning_18 rfl rfl ?_
      refine s_iload_n C dX5_leaning_19 rfl rfl ?_
      refine s_aload_n C dX5_leaning_20 rfl rfl ?_
      refine s_getR (b := 176) C dX5_leaning_21 kk_163 foX5_24 rfl rk_163_9 ?_
      refine s_iload_n C dX5_leaning_24 rfl rfl ?_
      obtain ⟨hb, h⟩ := it_n h
      refine s_ald (q := x3.toNatClampNeg) C dX5_leaning_25 kk_176 (by decide) rfl hb ?_
      obtain ⟨r1, I1, hh, h⟩ := bd_e h
      refine s_cV0 (st := [.int x2]) C M.rg (Nat.le_trans (by decide) hd) mwX5_leans mlX5_145 dX5_leaning_26 (wX5_leans (d := 43) (Nat.le_refl _)  hh) kk_163 rfl rfl (Nat.le_of_ble_eq_true rfl) ?_
      refine s_if_eq (tgt := 36) C dX5_leaning_29 (by decide) (fun c => ?_) (fun c => ?_)
      · have h := it_t c h
        refine s_iconst C dX5_leaning_36 ic_0 ?_
        refine s_iadd C dX5_leaning_37 ?_
        obtain ⟨v1, ev1, h⟩ := ltm_e h
        refine s_top_i ev1 ?_
        refine s_istore_n (ls' := [some (rfX X 163), some (.int x1), some (.int v1), some (.int x3)]) C dX5_leaning_38 rfl (by decide) (Nat.le_of_ble_eq_true rfl) rfl rfl ?_
        obtain ⟨v2, ev2, h⟩ := ltm_e h
        refine s_iinc (v := v2) (ls' := [some (rfX X 163), some (.int x1), some (.int v1), some (.int v2)]) C dX5_leaning_39 rfl (by decide) (Nat.le_of_ble_eq_true rfl) (by rw [ev2, ic_1]) rfl rfl ?_
        refine s_goto (tgt := 9) C dX5_leaning_42 (by decide) ?_
        exact ih  h M
      · have h := it_f c h
        refine s_iconst C dX5_leaning_32 ic_1 ?_
        refine s_goto (tgt := 37) C dX5_leaning_33 (by decide) ?_
        refine s_iadd C dX5_leaning_37 ?_
        obtain ⟨v1, ev1, h⟩ := ltm_e h
        refine s_top_i ev1 ?_
        refine s_istore_n (ls' := [some (rfX X 163), some (.int x1), some (.int v1), some (.int x3)]) C dX5_leaning_38 rfl (by decide) (Nat.le_of_ble_eq_true rfl) rfl rfl ?_
        obtain ⟨v2, ev2, h⟩ := ltm_e h
        refine s_iinc (v := v2) (ls' := [some (rfX X 163), some (.int x1), some (.int v1), some (.int v2)]) C dX5_leaning_39 rfl (by decide) (Nat.le_of_ble_eq_true rfl) (by rw [ev2, ic_1]) rfl rfl ?_
        refine s_goto (tgt := 9) C dX5_leaning_42 (by decide) ?_
        exact ih  h M
theorem wX5_leaning {E : Ev} {d : Nat} (hd : 44 ≤ d) {x1 : Int32} {I I' : Mm} {r : Int32}  (h : fX5_leaning x1 I = some (r, I')) : SemM E d 0 0 mX5_leaning [rfE E 163, .int x1] S0 I (some (.int r)) S0 I' := by
  unfold fX5_leaning at h
  refine SemM.ofX (E := E) (y := mX5_leaning) (args := fun E => [rfE E 163, .int x1]) (r := fun E => (some (.int r))) (fun E => [some (rfE E 163), some (.int x1), none, none]) (by decide +kernel) (Nat.le_of_ble_eq_true rfl) rfl (fun X C M => ?_)
  refine s_iconst C dX5_leaning_0 ic_0 ?_
  refine s_istore_n (ls' := [some (rfX X 163), some (.int x1), some (.int 0), none]) C dX5_leaning_1 rfl (by decide) (Nat.le_of_ble_eq_true rfl) rfl rfl ?_
  refine s_aload_n C dX5_leaning_2 rfl rfl ?_
  refine s_iload_n C dX5_leaning_3 rfl rfl ?_
  obtain ⟨r1, I1, hh, h⟩ := bd_e h
  refine s_cV0 (st := []) C M.rg (Nat.le_trans (by decide) hd) mwX5_listAll mlX5_100 dX5_leaning_4 (wX5_listAll (d := 43) (Nat.le_refl _)  hh) kk_163 rfl rfl (Nat.le_of_ble_eq_true rfl) ?_
  refine s_iconst C dX5_leaning_7 ic_0 ?_
  refine s_istore_n (ls' := [some (rfX X 163), some (.int x1), some (.int 0), some (.int 0)]) C dX5_leaning_8 rfl (by decide) (Nat.le_of_ble_eq_true rfl) rfl rfl ?_
  exact wX5_leaning_p9 hd C _  h M
theorem wX5_leaningShare {E : Ev} {d : Nat} (hd : 45 ≤ d) {x1 : Int32} {I I' : Mm} {r : Int32}  (h : fX5_leaningShare x1 I = some (r, I')) : SemM E d 0 0 mX5_leaningShare [rfE E 163, .int x1] S0 I (some (.int r)) S0 I' := by
  unfold fX5_leaningShare at h
  refine SemM.ofX (E := E) (y := mX5_leaningShare) (args := fun E => [rfE E 163, .int x1]) (r := fun E => (some (.int r))) (fun E => [some (rfE E 163), some (.int x1)]) (by decide +kernel) (Nat.le_of_ble_eq_true rfl) rfl (fun X C M => ?_)
  refine s_iload_n C dX5_leaningShare_0 rfl rfl ?_
  obtain ⟨r1, I1, hh, h⟩ := bd_e h
  refine s_cS0 (st := []) C M.rg (Nat.le_trans (by decide) hd) mwX5_isRick mlX5_110 dX5_leaningShare_1 (wX5_isRick (d := 2) (Nat.le_refl _)  hh) rfl rfl (Nat.le_of_ble_eq_true rfl) ?_
  refine s_if_ne (tgt := 10) C dX5_leaningShare_4 (by decide) (fun c => ?_) (fun c => ?_)
  · have h := it_f c h
    refine s_aload_n C dX5_leaningShare_10 rfl rfl ?_
    refine s_iload_n C dX5_leaningShare_11 rfl rfl ?_
    obtain ⟨r2, I2, hh, h⟩ := bd_e h
    refine s_cV0 (st := []) C M.rg (Nat.le_trans (by decide) hd) mwX5_count mlX5_124 dX5_leaningShare_12 (wX5_count (d := 43) (Nat.le_refl _)  hh) kk_163 rfl rfl (Nat.le_of_ble_eq_true rfl) ?_
    refine s_if_ne (tgt := 23) C dX5_leaningShare_15 (by decide) (fun c => ?_) (fun c => ?_)
    · have h := it_f c h
      refine s_aload_n C dX5_leaningShare_23 rfl rfl ?_
      refine s_iload_n C dX5_leaningShare_24 rfl rfl ?_
      obtain ⟨r3, I3, hh, h⟩ := bd_e h
      refine s_cV0 (st := []) C M.rg (Nat.le_trans (by decide) hd) mwX5_leaning mlX5_173 dX5_leaningShare_25 (wX5_leaning (d := 44) (Nat.le_refl _)  hh) kk_163 rfl rfl (Nat.le_of_ble_eq_true rfl) ?_
      refine s_i2f C dX5_leaningShare_28 ?_
      refine s_aload_n C dX5_leaningShare_29 rfl rfl ?_
      refine s_iload_n C dX5_leaningShare_30 rfl rfl ?_
      obtain ⟨r4, I4, hh, h⟩ := bd_e h
      refine s_cV0 (st := [.float (FP.i2f r3)]) C M.rg (Nat.le_trans (by decide) hd) mwX5_count mlX5_124 dX5_leaningShare_31 (wX5_count (d := 43) (Nat.le_refl _)  hh) kk_163 rfl rfl (Nat.le_of_ble_eq_true rfl) ?_
      refine s_i2f C dX5_leaningShare_34 ?_
      obtain ⟨hnan, h⟩ := it_s h
      refine s_fdiv C dX5_leaningShare_35 hnan ?_
      obtain ⟨v1, ev1, h⟩ := ltm_e h
      refine s_top_f ev1 ?_
      refine s_fbits C M.rg (Nat.le_trans (by decide) hd) mlX5_209 dX5_leaningShare_36 (Nat.le_of_ble_eq_true rfl) ?_
      obtain ⟨rfl, rfl⟩ := pr_e h
      exact s_iret C M dX5_leaningShare_39 rfl rfl (Nat.le_refl 0) (Nat.le_refl 0)
    · have h := it_t c h
      refine s_bipush C dX5_leaningShare_18 bi_m15 ?_
      refine s_goto (tgt := 39) C dX5_leaningShare_20 (by decide) ?_
      obtain ⟨rfl, rfl⟩ := pr_e h
      exact s_iret C M dX5_leaningShare_39 rfl rfl (Nat.le_refl 0) (Nat.le_refl 0)
  · have h := it_t c h
    refine s_bipush C dX5_leaningShare_7 bi_m11 ?_
    obtain ⟨rfl, rfl⟩ := pr_e h
    exact s_iret C M dX5_leaningShare_9 rfl rfl (Nat.le_refl 0) (Nat.le_refl 0)
