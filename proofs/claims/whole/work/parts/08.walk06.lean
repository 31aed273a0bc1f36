theorem wX4_sheafOf {E : Ev} {d : Nat} (hd : 4 ≤ d) {x1 : Int32} {x2 : Int32} {x3 : Int32} {I I' : Mm} {r : Int32}  (h : fX4_sheafOf x1 x2 x3 I = some (r, I')) : SemM E d 0 0 mX4_sheafOf [rfE E 0, .int x1, .int x2, .int x3] S0 I (some (.int r)) S0 I' := by
  unfold fX4_sheafOf at h
  refine SemM.ofX (E := E) (y := mX4_sheafOf) (args := fun E => [rfE E 0, .int x1, .int x2, .int x3]) (r := fun E => (some (.int r))) (fun E => [some (rfE E 0), some (.int x1), some (.int x2), some (.int x3), none, none, none, none]) (by decide +kernel) (Nat.le_of_ble_eq_true rfl) rfl (fun X C M => ?_)
  refine s_aload_n C dX4_sheafOf_0 rfl rfl ?_
  refine s_getR (b := 1) C dX4_sheafOf_1 kk_0 foX4_10 rfl rk_0_0 ?_
  refine s_iload_n C dX4_sheafOf_4 rfl rfl ?_
  obtain ⟨r1, I1, hh, h⟩ := bd_e h
  refine s_cV0 (st := []) C M.rg (Nat.le_trans (by decide) hd) mwX3_rickAt mlX4_71 dX4_sheafOf_5 (wX3_rickAt (d := 1) (Nat.le_refl _) kk_1 hh) kk_1 rfl rfl (Nat.le_of_ble_eq_true rfl) ?_
  refine s_astore_o (ls' := [some (rfX X 0), some (.int x1), some (.int x2), some (.int x3), some (rvE (xE X) r1), none, none, none]) C dX4_sheafOf_8 (by decide) (Nat.le_of_ble_eq_true rfl) rfl rfl ?_
  refine s_aload_o C dX4_sheafOf_10 rfl ?_
  cases r1 with
  | none =>
    have h := on_n h
    refine s_ifnonnullN C dX4_sheafOf_12 ?_
    refine s_bipush C dX4_sheafOf_15 bi_m11 ?_
    obtain ⟨rfl, rfl⟩ := pr_e h
    exact s_iret C M dX4_sheafOf_17 rfl rfl (Nat.le_refl 0) (Nat.le_refl 0)
  | some q1 =>
    obtain ⟨hq1, h⟩ := it_s (on_s h)
    refine s_ifnonnull (tgt := 18) C dX4_sheafOf_12 (by decide) ?_
    refine s_aload C dX4_sheafOf_18 rfl ?_
    refine s_iload_n C dX4_sheafOf_20 rfl rfl ?_
    obtain ⟨r2, I2, hh, h⟩ := bd_e h
    refine s_cV0 (st := []) C M.rg (Nat.le_trans (by decide) hd) mwX1_find mlX4_75 dX4_sheafOf_21 (wX1_find (d := 2) (Nat.le_refl _) hq1 hh) hq1 rfl rfl (Nat.le_of_ble_eq_true rfl) ?_
    refine s_istore (ls' := [some (rfX X 0), some (.int x1), some (.int x2), some (.int x3), some (rfX X q1), some (.int r2), none, none]) C dX4_sheafOf_24 (by decide) (Nat.le_of_ble_eq_true rfl) rfl rfl ?_
    refine s_iload C dX4_sheafOf_26 rfl ?_
    refine s_iconst C dX4_sheafOf_28 ic_m1 ?_
    refine s_icmp_ne (tgt := 35) C dX4_sheafOf_29 (by decide) (fun c => ?_) (fun c => ?_)
    · have h := it_f c h
      refine s_aload C dX4_sheafOf_35 rfl ?_
      refine s_iload C dX4_sheafOf_37 rfl ?_
      obtain ⟨r3, I3, hh, h⟩ := bd_e h
      refine s_cV0 (st := []) C M.rg (Nat.le_trans (by decide) hd) mwX1_firstOf mlX4_80 dX4_sheafOf_39 (wX1_firstOf (d := 2) (Nat.le_refl _) hq1 hh) hq1 rfl rfl (Nat.le_of_ble_eq_true rfl) ?_
      refine s_istore (ls' := [some (rfX X 0), some (.int x1), some (.int x2), some (.int x3), some (rfX X q1), some (.int r2), some (.int r3), none]) C dX4_sheafOf_42 (by decide) (Nat.le_of_ble_eq_true rfl) rfl rfl ?_
      refine s_aload C dX4_sheafOf_44 rfl ?_
      refine s_iload C dX4_sheafOf_46 rfl ?_
      obtain ⟨r4, I4, hh, h⟩ := bd_e h
      refine s_cV0 (st := []) C M.rg (Nat.le_trans (by decide) hd) mwX1_lastOf mlX4_83 dX4_sheafOf_48 (wX1_lastOf (d := 2) (Nat.le_refl _) hq1 hh) hq1 rfl rfl (Nat.le_of_ble_eq_true rfl) ?_
      refine s_istore (ls' := [some (rfX X 0), some (.int x1), some (.int x2), some (.int x3), some (rfX X q1), some (.int r2), some (.int r3), some (.int r4)]) C dX4_sheafOf_51 (by decide) (Nat.le_of_ble_eq_true rfl) rfl rfl ?_
      refine s_iload_n C dX4_sheafOf_53 rfl rfl ?_
      by_cases c1 : x3 = 0
      · have h := it_t c1 h
        refine s_tableIn (off := 46) (tgt := 100) C dX4_sheafOf_54 (by rw [c1]; decide +kernel) (by rw [c1]; decide +kernel) (by rw [c1]; decide +kernel) (by decide) ?_
        refine s_aload C dX4_sheafOf_100 rfl ?_
        refine s_iload C dX4_sheafOf_102 rfl ?_
        obtain ⟨r5, I5, hh, h⟩ := bd_e h
        refine s_cV0 (st := []) C M.rg (Nat.le_trans (by decide) hd) mwX1_loadAt mlX4_86 dX4_sheafOf_104 (wX1_loadAt (d := 1) (Nat.le_refl _) hq1 hh) hq1 rfl rfl (Nat.le_of_ble_eq_true rfl) ?_
        obtain ⟨rfl, rfl⟩ := pr_e h
        exact s_iret C M dX4_sheafOf_107 rfl rfl (Nat.le_refl 0) (Nat.le_refl 0)
      have h := it_f c1 h
      by_cases c2 : x3 = 1
      · have h := it_t c2 h
        refine s_tableIn (off := 54) (tgt := 108) C dX4_sheafOf_54 (by rw [c2]; decide +kernel) (by rw [c2]; decide +kernel) (by rw [c2]; decide +kernel) (by decide) ?_
        refine s_aload C dX4_sheafOf_108 rfl ?_
        refine s_iload C dX4_sheafOf_110 rfl ?_
        obtain ⟨r5, I5, hh, h⟩ := bd_e h
        refine s_cV0 (st := []) C M.rg (Nat.le_trans (by decide) hd) mwX1_depthAt mlX4_89 dX4_sheafOf_112 (wX1_depthAt (d := 1) (Nat.le_refl _) hq1 hh) hq1 rfl rfl (Nat.le_of_ble_eq_true rfl) ?_
        obtain ⟨rfl, rfl⟩ := pr_e h
        exact s_iret C M dX4_sheafOf_115 rfl rfl (Nat.le_refl 0) (Nat.le_refl 0)
      have h := it_f c2 h
      by_cases c3 : x3 = 2
      · have h := it_t c3 h
        refine s_tableIn (off := 62) (tgt := 116) C dX4_sheafOf_54 (by rw [c3]; decide +kernel) (by rw [c3]; decide +kernel) (by rw [c3]; decide +kernel) (by decide) ?_
        refine s_iload C dX4_sheafOf_116 rfl ?_
        refine s_iload C dX4_sheafOf_118 rfl ?_
        refine s_isub C dX4_sheafOf_120 ?_
        refine s_iconst C dX4_sheafOf_121 ic_1 ?_
        refine s_iadd C dX4_sheafOf_122 ?_
        obtain ⟨rfl, rfl⟩ := pr_e h
        exact s_iret C M dX4_sheafOf_123 rfl rfl (Nat.le_refl 0) (Nat.le_refl 0)
      have h := it_f c3 h
      by_cases c4 : x3 = 3
      · have h := it_t c4 h
        refine s_tableIn (off := 70) (tgt := 124) C dX4_sheafOf_54 (by rw [c4]; decide +kernel) (by rw [c4]; decide +kernel) (by rw [c4]; decide +kernel) (by decide) ?_
        refine s_aload C dX4_sheafOf_124 rfl ?_
        refine s_iload C dX4_sheafOf_126 rfl ?_
        refine s_iload C dX4_sheafOf_128 rfl ?_
        obtain ⟨r5, I5, hh, h⟩ := bd_e h
        refine s_cV0 (st := []) C M.rg (Nat.le_trans (by decide) hd) mwX1_loadsFrom mlX4_92 dX4_sheafOf_130 (wX1_loadsFrom (d := 2) (Nat.le_refl _) hq1 hh) hq1 rfl rfl (Nat.le_of_ble_eq_true rfl) ?_
        obtain ⟨rfl, rfl⟩ := pr_e h
        exact s_iret C M dX4_sheafOf_133 rfl rfl (Nat.le_refl 0) (Nat.le_refl 0)
      have h := it_f c4 h
      by_cases c5 : x3 = 4
      · have h := it_t c5 h
        refine s_tableIn (off := 80) (tgt := 134) C dX4_sheafOf_54 (by rw [c5]; decide +kernel) (by rw [c5]; decide +kernel) (by rw [c5]; decide +kernel) (by decide) ?_
        refine s_aload C dX4_sheafOf_134 rfl ?_
        refine s_iload C dX4_sheafOf_136 rfl ?_
        refine s_aload_n C dX4_sheafOf_138 rfl rfl ?_
        refine s_getR (b := 1) C dX4_sheafOf_139 kk_0 foX4_10 rfl rk_0_0 ?_
        refine s_getI C dX4_sheafOf_142 kk_1 foX4_95 rfl ?_
        obtain ⟨r5, I5, hh, h⟩ := bd_e h
        refine s_cV0 (st := []) C M.rg (Nat.le_trans (by decide) hd) mwX1_leans mlX4_98 dX4_sheafOf_145 (wX1_leans (d := 3) (Nat.le_refl _) hq1 hh) hq1 rfl rfl (Nat.le_of_ble_eq_true rfl) ?_
        refine s_if_eq (tgt := 155) C dX4_sheafOf_148 (by decide) (fun c => ?_) (fun c => ?_)
        · have h := it_t c h
          refine s_iconst C dX4_sheafOf_155 ic_0 ?_
          obtain ⟨rfl, rfl⟩ := pr_e h
          exact s_iret C M dX4_sheafOf_156 rfl rfl (Nat.le_refl 0) (Nat.le_refl 0)
        · have h := it_f c h
          refine s_iconst C dX4_sheafOf_151 ic_1 ?_
          refine s_goto (tgt := 156) C dX4_sheafOf_152 (by decide) ?_
          obtain ⟨rfl, rfl⟩ := pr_e h
          exact s_iret C M dX4_sheafOf_156 rfl rfl (Nat.le_refl 0) (Nat.le_refl 0)
      have h := it_f c5 h
      by_cases c6 : x3 = 5
      · have h := it_t c6 h
        refine s_tableIn (off := 103) (tgt := 157) C dX4_sheafOf_54 (by rw [c6]; decide +kernel) (by rw [c6]; decide +kernel) (by rw [c6]; decide +kernel) (by decide) ?_
        refine s_aload C dX4_sheafOf_157 rfl ?_
        refine s_aload C dX4_sheafOf_159 rfl ?_
        refine s_iload C dX4_sheafOf_161 rfl ?_
        obtain ⟨r5, I5, hh, h⟩ := bd_e h
        refine s_cV0 (st := [rfX X q1]) C M.rg (Nat.le_trans (by decide) hd) mwX1_above mlX4_102 dX4_sheafOf_163 (wX1_above (d := 3) (Nat.le_refl _) hq1 hh) hq1 rfl rfl (Nat.le_of_ble_eq_true rfl) ?_
        obtain ⟨r6, I6, hh, h⟩ := bd_e h
        refine s_cV0 (st := []) C M.rg (Nat.le_trans (by decide) hd) mwX1_weightAt mlX4_105 dX4_sheafOf_166 (wX1_weightAt (d := 1) (Nat.le_refl _) hq1 hh) hq1 rfl rfl (Nat.le_of_ble_eq_true rfl) ?_
        obtain ⟨rfl, rfl⟩ := pr_e h
        exact s_iret C M dX4_sheafOf_169 rfl rfl (Nat.le_refl 0) (Nat.le_refl 0)
      have h := it_f c6 h
      by_cases c7 : x3 = 6
      · have h := it_t c7 h
        refine s_tableIn (off := 116) (tgt := 170) C dX4_sheafOf_54 (by rw [c7]; decide +kernel) (by rw [c7]; decide +kernel) (by rw [c7]; decide +kernel) (by decide) ?_
        refine s_aload C dX4_sheafOf_170 rfl ?_
        refine s_aload C dX4_sheafOf_172 rfl ?_
        refine s_iload C dX4_sheafOf_174 rfl ?_
        refine s_iload C dX4_sheafOf_176 rfl ?_
        refine s_iconst C dX4_sheafOf_178 ic_1 ?_
        refine s_isub C dX4_sheafOf_179 ?_
        obtain ⟨r5, I5, hh, h⟩ := bd_e h
        refine s_cV0 (st := [rfX X q1]) C M.rg (Nat.le_trans (by decide) hd) mwX1_topOf mlX4_108 dX4_sheafOf_180 (wX1_topOf (d := 2) (Nat.le_refl _) hq1 hh) hq1 rfl rfl (Nat.le_of_ble_eq_true rfl) ?_
        obtain ⟨r6, I6, hh, h⟩ := bd_e h
        refine s_cV0 (st := []) C M.rg (Nat.le_trans (by decide) hd) mwX1_weightAt mlX4_105 dX4_sheafOf_183 (wX1_weightAt (d := 1) (Nat.le_refl _) hq1 hh) hq1 rfl rfl (Nat.le_of_ble_eq_true rfl) ?_
        obtain ⟨rfl, rfl⟩ := pr_e h
        exact s_iret C M dX4_sheafOf_186 rfl rfl (Nat.le_refl 0) (Nat.le_refl 0)
      have h := it_f c7 h
      by_cases c8 : x3 = 7
      · have h := it_t c8 h
        refine s_tableIn (off := 133) (tgt := 187) C dX4_sheafOf_54 (by rw [c8]; decide +kernel) (by rw [c8]; decide +kernel) (by rw [c8]; decide +kernel) (by decide) ?_
        refine s_aload C dX4_sheafOf_187 rfl ?_
        refine s_aload C dX4_sheafOf_189 rfl ?_
        refine s_iload C dX4_sheafOf_191 rfl ?_
        refine s_iconst C dX4_sheafOf_193 ic_1 ?_
        refine s_iadd C dX4_sheafOf_194 ?_
        refine s_iload C dX4_sheafOf_195 rfl ?_
        obtain ⟨r5, I5, hh, h⟩ := bd_e h
        refine s_cV0 (st := [rfX X q1]) C M.rg (Nat.le_trans (by decide) hd) mwX1_topOf mlX4_108 dX4_sheafOf_197 (wX1_topOf (d := 2) (Nat.le_refl _) hq1 hh) hq1 rfl rfl (Nat.le_of_ble_eq_true rfl) ?_
        obtain ⟨r6, I6, hh, h⟩ := bd_e h
        refine s_cV0 (st := []) C M.rg (Nat.le_trans (by decide) hd) mwX1_weightAt mlX4_105 dX4_sheafOf_200 (wX1_weightAt (d := 1) (Nat.le_refl _) hq1 hh) hq1 rfl rfl (Nat.le_of_ble_eq_true rfl) ?_
        obtain ⟨rfl, rfl⟩ := pr_e h
        exact s_iret C M dX4_sheafOf_203 rfl rfl (Nat.le_refl 0) (Nat.le_refl 0)
      have h := it_f c8 h
      refine s_tableOut (tgt := 204) C dX4_sheafOf_54 (by have := ne_i 0 (by decide +kernel) c1; have := ne_i 1 (by decide +kernel) c2; have := ne_i 2 (by decide +kernel) c3; have := ne_i 3 (by decide +kernel) c4; have := ne_i 4 (by decide +kernel) c5; have := ne_i 5 (by decide +kernel) c6; have := ne_i 6 (by decide +kernel) c7; have := ne_i 7 (by decide +kernel) c8; omega) (by decide) ?_
      refine s_bipush C dX4_sheafOf_204 bi_m12 ?_
      obtain ⟨rfl, rfl⟩ := pr_e h
      exact s_iret C M dX4_sheafOf_206 rfl rfl (Nat.le_refl 0) (Nat.le_refl 0)
    · have h := it_t c h
      refine s_bipush C dX4_sheafOf_32 bi_m11 ?_
      obtain ⟨rfl, rfl⟩ := pr_e h
      exact s_iret C M dX4_sheafOf_34 rfl rfl (Nat.le_refl 0) (Nat.le_refl 0)
theorem wX4_take {E : Ev} {d : Nat} (hd : 46 ≤ d) {x1 : Int32} {x2 : Int32} {I I' : Mm} {r : Int32}  (h : fX4_take x1 x2 I = some (r, I')) : SemM E d 0 0 mX4_take [rfE E 0, .int x1, .int x2] S0 I (some (.int r)) S0 I' := by
  unfold fX4_take at h
  refine SemM.ofX (E := E) (y := mX4_take) (args := fun E => [rfE E 0, .int x1, .int x2]) (r := fun E => (some (.int r))) (fun E => [some (rfE E 0), some (.int x1), some (.int x2)]) (by decide +kernel) (Nat.le_of_ble_eq_true rfl) rfl (fun X C M => ?_)
  refine s_aload_n C dX4_take_0 rfl rfl ?_
  obtain ⟨r1, I1, hh, h⟩ := bd_e h
  refine s_cV0 (st := []) C M.rg (Nat.le_trans (by decide) hd) mwX4_hold mlX4_47 dX4_take_1 (wX4_hold (d := 3) (Nat.le_refl _)  hh) kk_0 rfl rfl (Nat.le_of_ble_eq_true rfl) ?_
  refine s_aload_n C dX4_take_4 rfl rfl ?_
  refine s_aload_n C dX4_take_5 rfl rfl ?_
  refine s_iload_n C dX4_take_6 rfl rfl ?_
  refine s_iload_n C dX4_take_7 rfl rfl ?_
  obtain ⟨r2, I2, hh, h⟩ := bd_e h
  refine s_cV0 (st := [rfX X 0]) C M.rg (Nat.le_trans (by decide) hd) mwX4_takeNow mlX4_58 dX4_take_8 (wX4_takeNow (d := 45) (Nat.le_refl _)  hh) kk_0 rfl rfl (Nat.le_of_ble_eq_true rfl) ?_
  obtain ⟨r3, I3, hh, h⟩ := bd_e h
  refine s_cV0 (st := []) C M.rg (Nat.le_trans (by decide) hd) mwX4_keep mlX4_54 dX4_take_11 (wX4_keep (d := 1) (Nat.le_refl _)  hh) kk_0 rfl rfl (Nat.le_of_ble_eq_true rfl) ?_
  obtain ⟨rfl, rfl⟩ := pr_e h
  exact s_iret C M dX4_take_14 rfl rfl (Nat.le_refl 0) (Nat.le_refl 0)
theorem wX4_write : ∀ (n : Nat) {E : Ev} {d : Nat} (_ : 4 + n ≤ d) {x0 : Nat} {x1 : Nat} {x2 : Int32} {x3 : Int32} {x4 : Int32} {x5 : Int32} {I I' : Mm} {r : Unit} (hx0 : kd0 x0 = 2) (hx1 : kd0 x1 = 1) (_ : fX4_write n x0 x1 x2 x3 x4 x5 I = some (r, I')), SemM E d 0 0 mX4_write [rfE E x0, rfE E x1, .int x2, .int x3, .int x4, .int x5] S0 I none S0 I' := by
  intro n
  induction n with
  | zero => intro E d hd x0 x1 x2 x3 x4 x5 I I' r hx0 hx1 h; exact absurd h (by simp [fX4_write])
  | succ n ih =>
    intro E d hd x0 x1 x2 x3 x4 x5 I I' r hx0 hx1 h
    rw [fX4_write] at h
    refine SemM.ofX (E := E) (y := mX4_write) (args := fun E => [rfE E x0, rfE E x1, .int x2, .int x3, .int x4, .int x5]) (r := fun E => none) (fun E => [some (rfE E x0), some (rfE E x1), some (.int x2), some (.int x3), some (.int x4), some (.int x5), none]) (by decide +kernel) (Nat.le_of_ble_eq_true rfl) rfl (fun X C M => ?_)
    refine s_aload_n C dX4_write_0 rfl rfl ?_
    refine s_iload_n C dX4_write_1 rfl rfl ?_
    refine s_iload_n C dX4_write_2 rfl rfl ?_
    obtain ⟨r1, I1, hh, h⟩ := bd_e h
    refine s_cV0 (st := []) C M.rg (Nat.le_trans (by omega) hd) mwX1_topOf mlX4_108 dX4_write_3 (wX1_topOf (d := 2) (Nat.le_refl _) hx1 hh) hx1 rfl rfl (Nat.le_of_ble_eq_true rfl) ?_
    refine s_istore (ls' := [some (rfX X x0), some (rfX X x1), some (.int x2), some (.int x3), some (.int x4), some (.int x5), some (.int r1)]) C dX4_write_6 (by decide) (Nat.le_of_ble_eq_true rfl) rfl rfl ?_
    refine s_iload C dX4_write_8 rfl ?_
    refine s_iconst C dX4_write_10 ic_m1 ?_
    refine s_icmp_eq (tgt := 21) C dX4_write_11 (by decide) (fun c => ?_) (fun c => ?_)
    · have h := it_t c h
      obtain ⟨rfl, rfl⟩ := pr_e h
      exact s_vret C M dX4_write_21 rfl (Nat.le_refl 0) (Nat.le_refl 0)
    · have h := it_f c h
      refine s_iload C dX4_write_14 rfl ?_
      refine s_bipush C dX4_write_16 bi_30 ?_
      refine s_icmp_le (tgt := 22) C dX4_write_18 (by decide) (fun c => ?_) (fun c => ?_)
      · have h := it_t c h
        refine s_aload_n C dX4_write_22 rfl rfl ?_
        refine s_bipush C dX4_write_23 bi_40 ?_
        obtain ⟨r2, I2, hh, h⟩ := bd_e h
        refine s_cV0 (st := []) C M.rg (Nat.le_trans (by omega) hd) mwX2_add mlX4_177 dX4_write_25 (wX2_add (d := 1) (Nat.le_refl _) hx0 hh) hx0 rfl rfl (Nat.le_of_ble_eq_true rfl) ?_
        refine s_pop C dX4_write_28 rfl ?_
        refine s_aload_n C dX4_write_29 rfl rfl ?_
        refine s_aload_n C dX4_write_30 rfl rfl ?_
        refine s_iload_n C dX4_write_31 rfl rfl ?_
        refine s_iload C dX4_write_32 rfl ?_
        refine s_iconst C dX4_write_34 ic_1 ?_
        refine s_isub C dX4_write_35 ?_
        refine s_iload C dX4_write_36 rfl ?_
        refine s_iload C dX4_write_38 rfl ?_
        refine s_iconst C dX4_write_40 ic_1 ?_
        refine s_iadd C dX4_write_41 ?_
        obtain ⟨r3, I3, hh, h⟩ := bd_e h
        refine s_cS0 (st := []) C M.rg (Nat.le_trans (by omega) hd) mwX4_write mlX4_199 dX4_write_42 (ih (d := 4 + n) (Nat.le_refl _) hx0 hx1 hh) rfl rfl (Nat.le_of_ble_eq_true rfl) ?_
        refine s_aload_n C dX4_write_45 rfl rfl ?_
        refine s_aload_n C dX4_write_46 rfl rfl ?_
        refine s_iload C dX4_write_47 rfl ?_
        obtain ⟨r4, I4, hh, h⟩ := bd_e h
        refine s_cV0 (st := [rfX X x0]) C M.rg (Nat.le_trans (by omega) hd) mwX1_weightAt mlX4_105 dX4_write_49 (wX1_weightAt (d := 1) (Nat.le_refl _) hx1 hh) hx1 rfl rfl (Nat.le_of_ble_eq_true rfl) ?_
        obtain ⟨r5, I5, hh, h⟩ := bd_e h
        refine s_cV0 (st := []) C M.rg (Nat.le_trans (by omega) hd) mwX2_addNumber mlX4_279 dX4_write_52 (wX2_addNumber (d := 2) (Nat.le_refl _) hx0 hh) hx0 rfl rfl (Nat.le_of_ble_eq_true rfl) ?_
        refine s_aload_n C dX4_write_55 rfl rfl ?_
        refine s_iload C dX4_write_56 rfl ?_
        refine s_iload C dX4_write_58 rfl ?_
        obtain ⟨r6, I6, hh, h⟩ := bd_e h
        refine s_cV0 (st := []) C M.rg (Nat.le_trans (by omega) hd) mwX1_leans mlX4_98 dX4_write_60 (wX1_leans (d := 3) (Nat.le_refl _) hx1 hh) hx1 rfl rfl (Nat.le_of_ble_eq_true rfl) ?_
        refine s_if_eq (tgt := 73) C dX4_write_63 (by decide) (fun c => ?_) (fun c => ?_)
        · have h := it_t c h
          refine s_aload_n C dX4_write_73 rfl rfl ?_
          refine s_aload_n C dX4_write_74 rfl rfl ?_
          refine s_iload C dX4_write_75 rfl ?_
          refine s_iconst C dX4_write_77 ic_1 ?_
          refine s_iadd C dX4_write_78 ?_
          refine s_iload_n C dX4_write_79 rfl rfl ?_
          refine s_iload C dX4_write_80 rfl ?_
          refine s_iload C dX4_write_82 rfl ?_
          refine s_iconst C dX4_write_84 ic_1 ?_
          refine s_iadd C dX4_write_85 ?_
          obtain ⟨r7, I7, hh, h⟩ := bd_e h
          refine s_cS0 (st := []) C M.rg (Nat.le_trans (by omega) hd) mwX4_write mlX4_199 dX4_write_86 (ih (d := 4 + n) (Nat.le_refl _) hx0 hx1 hh) rfl rfl (Nat.le_of_ble_eq_true rfl) ?_
          refine s_aload_n C dX4_write_89 rfl rfl ?_
          refine s_bipush C dX4_write_90 bi_41 ?_
          obtain ⟨r8, I8, hh, h⟩ := bd_e h
          refine s_cV0 (st := []) C M.rg (Nat.le_trans (by omega) hd) mwX2_add mlX4_177 dX4_write_92 (wX2_add (d := 1) (Nat.le_refl _) hx0 hh) hx0 rfl rfl (Nat.le_of_ble_eq_true rfl) ?_
          refine s_pop C dX4_write_95 rfl ?_
          obtain ⟨rfl, rfl⟩ := pr_e h
          exact s_vret C M dX4_write_96 rfl (Nat.le_refl 0) (Nat.le_refl 0)
        · have h := it_f c h
          refine s_aload_n C dX4_write_66 rfl rfl ?_
          refine s_bipush C dX4_write_67 bi_33 ?_
          obtain ⟨r7, I7, hh, h⟩ := bd_e h
          refine s_cV0 (st := []) C M.rg (Nat.le_trans (by omega) hd) mwX2_add mlX4_177 dX4_write_69 (wX2_add (d := 1) (Nat.le_refl _) hx0 hh) hx0 rfl rfl (Nat.le_of_ble_eq_true rfl) ?_
          refine s_pop C dX4_write_72 rfl ?_
          refine s_aload_n C dX4_write_73 rfl rfl ?_
          refine s_aload_n C dX4_write_74 rfl rfl ?_
          refine s_iload C dX4_write_75 rfl ?_
          refine s_iconst C dX4_write_77 ic_1 ?_
          refine s_iadd C dX4_write_78 ?_
          refine s_iload_n C dX4_write_79 rfl rfl ?_
          refine s_iload C dX4_write_80 rfl ?_
          refine s_iload C dX4_write_82 rfl ?_
          refine s_iconst C dX4_write_84 ic_1 ?_
          refine s_iadd C dX4_write_85 ?_
          obtain ⟨r8, I8, hh, h⟩ := bd_e h
          refine s_cS0 (st := []) C M.rg (Nat.le_trans (by omega) hd) mwX4_write mlX4_199 dX4_write_86 (ih (d := 4 + n) (Nat.le_refl _) hx0 hx1 hh) rfl rfl (Nat.le_of_ble_eq_true rfl) ?_
          refine s_aload_n C dX4_write_89 rfl rfl ?_
          refine s_bipush C dX4_write_90 bi_41 ?_
          obtain ⟨r9, I9, hh, h⟩ := bd_e h
          refine s_cV0 (st := []) C M.rg (Nat.le_trans (by omega) hd) mwX2_add mlX4_177 dX4_write_92 (wX2_add (d := 1) (Nat.le_refl _) hx0 hh) hx0 rfl rfl (Nat.le_of_ble_eq_true rfl) ?_
          refine s_pop C dX4_write_95 rfl ?_
          obtain ⟨rfl, rfl⟩ := pr_e h
          exact s_vret C M dX4_write_96 rfl (Nat.le_refl 0) (Nat.le_refl 0)
      · have h := it_f c h
        obtain ⟨rfl, rfl⟩ := pr_e h
        exact s_vret C M dX4_write_21 rfl (Nat.le_refl 0) (Nat.le_refl 0)
theorem wX4_tell {E : Ev} {d : Nat} (hd : 45 ≤ d) {x1 : Int32} {I I' : Mm} {r : Int32}  (h : fX4_tell x1 I = some (r, I')) : SemM E d 0 0 mX4_tell [rfE E 0, .int x1] S0 I (some (.int r)) S0 I' := by
  unfold fX4_tell at h
  refine SemM.ofX (E := E) (y := mX4_tell) (args := fun E => [rfE E 0, .int x1]) (r := fun E => (some (.int r))) (fun E => [some (rfE E 0), some (.int x1), none]) (by decide +kernel) (Nat.le_of_ble_eq_true rfl) rfl (fun X C M => ?_)
  refine s_aload_n C dX4_tell_0 rfl rfl ?_
  refine s_getR (b := 1) C dX4_tell_1 kk_0 foX4_10 rfl rk_0_0 ?_
  refine s_iload_n C dX4_tell_4 rfl rfl ?_
  obtain ⟨r1, I1, hh, h⟩ := bd_e h
  refine s_cV0 (st := []) C M.rg (Nat.le_trans (by decide) hd) mwX3_rickAt mlX4_71 dX4_tell_5 (wX3_rickAt (d := 1) (Nat.le_refl _) kk_1 hh) kk_1 rfl rfl (Nat.le_of_ble_eq_true rfl) ?_
  refine s_astore_no (ls' := [some (rfX X 0), some (.int x1), some (rvE (xE X) r1)]) C dX4_tell_8 rfl (by decide) (Nat.le_of_ble_eq_true rfl) rfl rfl ?_
  refine s_aload_no C dX4_tell_9 rfl rfl ?_
  cases r1 with
  | none =>
    have h := on_n h
    refine s_ifnonnullN C dX4_tell_10 ?_
    refine s_bipush C dX4_tell_13 bi_m11 ?_
    obtain ⟨rfl, rfl⟩ := pr_e h
    exact s_iret C M dX4_tell_15 rfl rfl (Nat.le_refl 0) (Nat.le_refl 0)
  | some q1 =>
    obtain ⟨hq1, h⟩ := it_s (on_s h)
    refine s_ifnonnull (tgt := 16) C dX4_tell_10 (by decide) ?_
    refine s_aload_n C dX4_tell_16 rfl rfl ?_
    refine s_getR (b := 32) C dX4_tell_17 kk_0 foX4_30 rfl rk_0_7 ?_
    obtain ⟨r2, I2, hh, h⟩ := bd_e h
    refine s_cV0 (st := []) C M.rg (Nat.le_trans (by decide) hd) mwX2_clear mlX4_187 dX4_tell_20 (wX2_clear (d := 1) (Nat.le_refl _) kk_32 hh) kk_32 rfl rfl (Nat.le_of_ble_eq_true rfl) ?_
    refine s_aload_n C dX4_tell_23 rfl rfl ?_
    refine s_getR (b := 32) C dX4_tell_24 kk_0 foX4_30 rfl rk_0_7 ?_
    refine s_aload_n C dX4_tell_27 rfl rfl ?_
    refine s_iconst C dX4_tell_28 ic_0 ?_
    refine s_aload_n C dX4_tell_29 rfl rfl ?_
    refine s_getI C dX4_tell_30 hq1 foX4_111 rfl ?_
    refine s_iconst C dX4_tell_33 ic_1 ?_
    refine s_isub C dX4_tell_34 ?_
    refine s_aload_n C dX4_tell_35 rfl rfl ?_
    refine s_getR (b := 1) C dX4_tell_36 kk_0 foX4_10 rfl rk_0_0 ?_
    refine s_getI C dX4_tell_39 kk_1 foX4_95 rfl ?_
    refine s_iconst C dX4_tell_42 ic_0 ?_
    obtain ⟨r3, I3, hh, h⟩ := bd_e h
    refine s_cS0 (st := []) C M.rg (Nat.le_trans (by decide) hd) mwX4_write mlX4_199 dX4_tell_43 (wX4_write _ (d := 44) (Nat.le_refl _) kk_32 hq1 hh) rfl rfl (Nat.le_of_ble_eq_true rfl) ?_
    refine s_aload_n C dX4_tell_46 rfl rfl ?_
    refine s_getR (b := 32) C dX4_tell_47 kk_0 foX4_30 rfl rk_0_7 ?_
    refine s_getI C dX4_tell_50 kk_32 foX4_180 rfl ?_
    obtain ⟨rfl, rfl⟩ := pr_e h
    exact s_iret C M dX4_tell_53 rfl rfl (Nat.le_refl 0) (Nat.le_refl 0)
theorem wX4_undo {E : Ev} {d : Nat} (hd : 4 ≤ d)  {I I' : Mm} {r : Int32}  (h : fX4_undo  I = some (r, I')) : SemM E d 0 0 mX4_undo [rfE E 0] S0 I (some (.int r)) S0 I' := by
  unfold fX4_undo at h
  refine SemM.ofX (E := E) (y := mX4_undo) (args := fun E => [rfE E 0]) (r := fun E => (some (.int r))) (fun E => [some (rfE E 0)]) (by decide +kernel) (Nat.le_of_ble_eq_true rfl) rfl (fun X C M => ?_)
  refine s_aload_n C dX4_undo_0 rfl rfl ?_
  refine s_getI C dX4_undo_1 kk_0 foX4_227 rfl ?_
  refine s_if_gt (tgt := 10) C dX4_undo_4 (by decide) (fun c => ?_) (fun c => ?_)
  · have h := it_t c h
    refine s_aload_n C dX4_undo_10 rfl rfl ?_
    refine s_aload_n C dX4_undo_11 rfl rfl ?_
    refine s_getI C dX4_undo_12 kk_0 foX4_234 rfl ?_
    refine s_bipush C dX4_undo_15 bi_8 ?_
    refine s_iadd C dX4_undo_17 ?_
    refine s_bipush C dX4_undo_18 bi_9 ?_
    refine s_irem C dX4_undo_20 (by decide) ?_
    obtain ⟨I1, eI1, h⟩ := ltm_e h
    refine s_putI C dX4_undo_21 kk_0 poX4_234 rfl eI1 ?_
    refine s_aload_n C dX4_undo_24 rfl rfl ?_
    refine s_dup C dX4_undo_25 rfl ?_
    refine s_getI C dX4_undo_26 kk_0 foX4_227 rfl ?_
    refine s_iconst C dX4_undo_29 ic_1 ?_
    refine s_isub C dX4_undo_30 ?_
    obtain ⟨I2, eI2, h⟩ := ltm_e h
    refine s_putI C dX4_undo_31 kk_0 poX4_227 rfl eI2 ?_
    refine s_aload_n C dX4_undo_34 rfl rfl ?_
    obtain ⟨r1, I3, hh, h⟩ := bd_e h
    refine s_cV0 (st := []) C M.rg (Nat.le_trans (by decide) hd) mwX4_giveBack mlX4_193 dX4_undo_35 (wX4_giveBack (d := 3) (Nat.le_refl _)  hh) kk_0 rfl rfl (Nat.le_of_ble_eq_true rfl) ?_
    refine s_aload_n C dX4_undo_38 rfl rfl ?_
    refine s_getI C dX4_undo_39 kk_0 foX4_227 rfl ?_
    obtain ⟨rfl, rfl⟩ := pr_e h
    exact s_iret C M dX4_undo_42 rfl rfl (Nat.le_refl 0) (Nat.le_refl 0)
  · have h := it_f c h
    refine s_bipush C dX4_undo_7 bi_m15 ?_
    obtain ⟨rfl, rfl⟩ := pr_e h
    exact s_iret C M dX4_undo_9 rfl rfl (Nat.le_refl 0) (Nat.le_refl 0)
theorem wX4_weights_p32 {X : Cx} {d : Nat} (hd : 2 ≤ d) (C : CtxOK X mX4_weights) : ∀ (n : Nat) {x2 : Int32} {x3 : Nat} {x4 : Int64} {x6 : Int32} {I I' : Mm} {r : Int64} (hx3 : kd0 x3 = 1) (_ : fX4_weights_p32 n x2 x3 x4 x6 I = some (r, I')) (_ : MX X (xE X) d 0 0 (some (.long r)) S0 I'), WM X mX4_weights 32 [none, none, some (.int x2), some (rfX X x3), some (.long x4), none, some (.int x6), none] [] S0 I 0 0 := by
  intro n
  induction n with
  | zero => intro x2 x3 x4 x6 I I' r hx3 h M; exact absurd h (by simp [fX4_weights_p32])
  | succ n ih =>
    intro x2 x3 x4 x6 I I' r hx3 h M
    rw [fX4_weights_p32] at h
    refine s_iload C dX4_weights_32 rfl ?_
    refine s_aload_n C dX4_weights_34 rfl rfl ?_
    refine s_getI C dX4_weights_35 hx3 foX4_111 rfl ?_
    refine s_icmp_ge (tgt := 78) C dX4_weights_38 (by decide) (fun c => ?_) (fun c => ?_)
    · have h := it_t c h
      refine s_lload C dX4_weights_78 rfl ?_
      obtain ⟨rfl, rfl⟩ := pr_e h
      exact s_lret C M dX4_weights_80 rfl (Nat.le_refl 0) (Nat.le_refl 0)
    · have h := it_f c h
      refine s_aload_n C dX4_weights_41 rfl rfl ?_
      refine s_iload C dX4_weights_42 rfl ?_
      obtain ⟨r1, I1, hh, h⟩ := bd_e h
      refine s_cV0 (st := []) C M.rg (Nat.le_trans (by decide) hd) mwX1_weightAt mlX4_105 dX4_weights_44 (wX1_weightAt (d := 1) (Nat.le_refl _) hx3 hh) hx3 rfl rfl (Nat.le_of_ble_eq_true rfl) ?_
      refine s_iload_n C dX4_weights_47 rfl rfl ?_
      refine s_isub C dX4_weights_48 ?_
      obtain ⟨v1, ev1, h⟩ := ltm_e h
      refine s_top_i ev1 ?_
      refine s_istore (ls' := [none, none, some (.int x2), some (rfX X x3), some (.long x4), none, some (.int x6), some (.int v1)]) C dX4_weights_49 (by decide) (Nat.le_of_ble_eq_true rfl) rfl rfl ?_
      refine s_iload C dX4_weights_51 rfl ?_
      refine s_if_lt (tgt := 72) C dX4_weights_53 (by decide) (fun c => ?_) (fun c => ?_)
      · have h := it_t c h
        obtain ⟨v2, ev2, h⟩ := ltm_e h
        refine s_iinc (v := v2) (ls' := [none, none, some (.int x2), some (rfX X x3), some (.long x4), none, some (.int v2), some (.int v1)]) C dX4_weights_72 rfl (by decide) (Nat.le_of_ble_eq_true rfl) (by rw [ev2, ic_1]) rfl rfl ?_
        refine s_goto (tgt := 32) C dX4_weights_75 (by decide) ?_
        refine s_weak (ls' := [none, none, some (.int x2), some (rfX X x3), some (.long x4), none, some (.int v2), none]) [false, false, true, true, true, false, true, false] rfl ?_
        exact ih hx3 h M
      · have h := it_f c h
        refine s_iload C dX4_weights_56 rfl ?_
        refine s_bipush C dX4_weights_58 bi_64 ?_
        refine s_icmp_ge (tgt := 72) C dX4_weights_60 (by decide) (fun c => ?_) (fun c => ?_)
        · have h := it_t c h
          obtain ⟨v2, ev2, h⟩ := ltm_e h
          refine s_iinc (v := v2) (ls' := [none, none, some (.int x2), some (rfX X x3), some (.long x4), none, some (.int v2), some (.int v1)]) C dX4_weights_72 rfl (by decide) (Nat.le_of_ble_eq_true rfl) (by rw [ev2, ic_1]) rfl rfl ?_
          refine s_goto (tgt := 32) C dX4_weights_75 (by decide) ?_
          refine s_weak (ls' := [none, none, some (.int x2), some (rfX X x3), some (.long x4), none, some (.int v2), none]) [false, false, true, true, true, false, true, false] rfl ?_
          exact ih hx3 h M
        · have h := it_f c h
          refine s_lload C dX4_weights_63 rfl ?_
          refine s_lconst (v := 1) C dX4_weights_65 (by decide +kernel) ?_
          refine s_iload C dX4_weights_66 rfl ?_
          refine s_lshl C dX4_weights_68 ?_
          refine s_lor C dX4_weights_69 ?_
          obtain ⟨v2, ev2, h⟩ := ltm_e h
          refine s_top_l ev2 ?_
          refine s_lstore (ls' := [none, none, some (.int x2), some (rfX X x3), some (.long v2), none, some (.int x6), some (.int v1)]) C dX4_weights_70 (by decide) (Nat.le_of_ble_eq_true rfl) rfl rfl ?_
          obtain ⟨v3, ev3, h⟩ := ltm_e h
          refine s_iinc (v := v3) (ls' := [none, none, some (.int x2), some (rfX X x3), some (.long v2), none, some (.int v3), some (.int v1)]) C dX4_weights_72 rfl (by decide) (Nat.le_of_ble_eq_true rfl) (by rw [ev3, ic_1]) rfl rfl ?_
          refine s_goto (tgt := 32) C dX4_weights_75 (by decide) ?_
          refine s_weak (ls' := [none, none, some (.int x2), some (rfX X x3), some (.long v2), none, some (.int v3), none]) [false, false, true, true, true, false, true, false] rfl ?_
          exact ih hx3 h M
theorem wX4_weights {E : Ev} {d : Nat} (hd : 2 ≤ d) {x1 : Int32} {x2 : Int32} {I I' : Mm} {r : Int64}  (h : fX4_weights x1 x2 I = some (r, I')) : SemM E d 0 0 mX4_weights [rfE E 0, .int x1, .int x2] S0 I (some (.long r)) S0 I' := by
  unfold fX4_weights at h
  refine SemM.ofX (E := E) (y := mX4_weights) (args := fun E => [rfE E 0, .int x1, .int x2]) (r := fun E => (some (.long r))) (fun E => [some (rfE E 0), some (.int x1), some (.int x2), none, none, none, none, none]) (by decide +kernel) (Nat.le_of_ble_eq_true rfl) rfl (fun X C M => ?_)
  refine s_aload_n C dX4_weights_0 rfl rfl ?_
  refine s_getR (b := 1) C dX4_weights_1 kk_0 foX4_10 rfl rk_0_0 ?_
  refine s_iload_n C dX4_weights_4 rfl rfl ?_
  obtain ⟨r1, I1, hh, h⟩ := bd_e h
  refine s_cV0 (st := []) C M.rg (Nat.le_trans (by decide) hd) mwX3_rickAt mlX4_71 dX4_weights_5 (wX3_rickAt (d := 1) (Nat.le_refl _) kk_1 hh) kk_1 rfl rfl (Nat.le_of_ble_eq_true rfl) ?_
  refine s_astore_no (ls' := [some (rfX X 0), some (.int x1), some (.int x2), some (rvE (xE X) r1), none, none, none, none]) C dX4_weights_8 rfl (by decide) (Nat.le_of_ble_eq_true rfl) rfl rfl ?_
  refine s_aload_no C dX4_weights_9 rfl rfl ?_
  cases r1 with
  | none =>
    have h := on_n h
    refine s_ifnullN (tgt := 24) C dX4_weights_10 (by decide) ?_
    refine s_lconst (v := 0) C dX4_weights_24 (by decide +kernel) ?_
    obtain ⟨rfl, rfl⟩ := pr_e h
    exact s_lret C M dX4_weights_25 rfl (Nat.le_refl 0) (Nat.le_refl 0)
  | some q1 =>
    obtain ⟨hq1, h⟩ := it_s (on_s h)
    refine s_ifnull C dX4_weights_10 ?_
    refine s_iload_n C dX4_weights_13 rfl rfl ?_
    refine s_if_lt (tgt := 24) C dX4_weights_14 (by decide) (fun c => ?_) (fun c => ?_)
    · have h := it_t c h
      refine s_lconst (v := 0) C dX4_weights_24 (by decide +kernel) ?_
      obtain ⟨rfl, rfl⟩ := pr_e h
      exact s_lret C M dX4_weights_25 rfl (Nat.le_refl 0) (Nat.le_refl 0)
    · have h := it_f c h
      refine s_iload_n C dX4_weights_17 rfl rfl ?_
      refine s_sipush C dX4_weights_18 si_936 ?_
      refine s_icmp_le (tgt := 26) C dX4_weights_21 (by decide) (fun c => ?_) (fun c => ?_)
      · have h := it_t c h
        refine s_lconst (v := 0) C dX4_weights_26 (by decide +kernel) ?_
        refine s_lstore (ls' := [some (rfX X 0), some (.int x1), some (.int x2), some (rfX X q1), some (.long 0), none, none, none]) C dX4_weights_27 (by decide) (Nat.le_of_ble_eq_true rfl) rfl rfl ?_
        refine s_iconst C dX4_weights_29 ic_0 ?_
        refine s_istore (ls' := [some (rfX X 0), some (.int x1), some (.int x2), some (rfX X q1), some (.long 0), none, some (.int 0), none]) C dX4_weights_30 (by decide) (Nat.le_of_ble_eq_true rfl) rfl rfl ?_
        refine s_weak (ls' := [none, none, some (.int x2), some (rfX X q1), some (.long 0), none, some (.int 0), none]) [false, false, true, true, true, false, true, false] rfl ?_
        exact wX4_weights_p32 hd C _ hq1 h M
      · have h := it_f c h
        refine s_lconst (v := 0) C dX4_weights_24 (by decide +kernel) ?_
        obtain ⟨rfl, rfl⟩ := pr_e h
        exact s_lret C M dX4_weights_25 rfl (Nat.le_refl 0) (Nat.le_refl 0)
theorem wX5_of {E : Ev} {d : Nat} (hd : 1 ≤ d) {x1 : Int32} {x2 : Int32} {x3 : Int32} {I I' : Mm} {r : Int32}  (h : fX5_of x1 x2 x3 I = some (r, I')) : SemM E d 0 0 mX5_of [rfE E 163, .int x1, .int x2, .int x3] S0 I (some (.int r)) S0 I' := by
  unfold fX5_of at h
  refine SemM.ofX (E := E) (y := mX5_of) (args := fun E => [rfE E 163, .int x1, .int x2, .int x3]) (r := fun E => (some (.int r))) (fun E => [some (rfE E 163), some (.int x1), some (.int x2), some (.int x3)]) (by decide +kernel) (Nat.le_of_ble_eq_true rfl) rfl (fun X C M => ?_)
  refine s_aload_n C dX5_of_0 rfl rfl ?_
  refine s_getR (b := 164) C dX5_of_1 kk_163 foX5_9 rfl rk_163_0 ?_
  refine s_bipush C dX5_of_4 bi_7 ?_
  refine s_bipush C dX5_of_6 bi_122 ?_
  refine s_iload_n C dX5_of_8 rfl rfl ?_
  refine s_imul C dX5_of_9 ?_
  refine s_iadd C dX5_of_10 ?_
  refine s_iconst C dX5_of_11 ic_2 ?_
  refine s_iadd C dX5_of_12 ?_
  refine s_iconst C dX5_of_13 ic_4 ?_
  refine s_iload_n C dX5_of_14 rfl rfl ?_
  refine s_imul C dX5_of_15 ?_
  refine s_iadd C dX5_of_16 ?_
  refine s_iload_n C dX5_of_17 rfl rfl ?_
  refine s_iadd C dX5_of_18 ?_
  obtain ⟨hb, h⟩ := it_n h
  refine s_ald (q := ((((7 + (122 * x1)) + 2) + (4 * x2)) + x3).toNatClampNeg) C dX5_of_19 kk_164 (by decide) rfl hb ?_
  refine s_iload_n C dX5_of_20 rfl rfl ?_
  refine s_iconst C dX5_of_21 ic_1 ?_
  refine s_icmp_ne (tgt := 29) C dX5_of_22 (by decide) (fun c => ?_) (fun c => ?_)
  · have h := it_f c h
    refine s_iconst C dX5_of_29 ic_1 ?_
    refine s_isub C dX5_of_30 ?_
    obtain ⟨rfl, rfl⟩ := pr_e h
    exact s_iret C M dX5_of_31 rfl rfl (Nat.le_refl 0) (Nat.le_refl 0)
  · have h := it_t c h
    refine s_iconst C dX5_of_25 ic_0 ?_
    refine s_goto (tgt := 30) C dX5_of_26 (by decide) ?_
    refine s_isub C dX5_of_30 ?_
    obtain ⟨rfl, rfl⟩ := pr_e h
    exact s_iret C M dX5_of_31 rfl rfl (Nat.le_refl 0) (Nat.le_refl 0)
theorem wX5_top {E : Ev} {d : Nat} (hd : 1 ≤ d) {x1 : Int32} {I I' : Mm} {r : Int32}  (h : fX5_top x1 I = some (r, I')) : SemM E d 0 0 mX5_top [rfE E 163, .int x1] S0 I (some (.int r)) S0 I' := by
  unfold fX5_top at h
  refine SemM.ofX (E := E) (y := mX5_top) (args := fun E => [rfE E 163, .int x1]) (r := fun E => (some (.int r))) (fun E => [some (rfE E 163), some (.int x1)]) (by decide +kernel) (Nat.le_of_ble_eq_true rfl) rfl (fun X C M => ?_)
  refine s_aload_n C dX5_top_0 rfl rfl ?_
  refine s_getR (b := 164) C dX5_top_1 kk_163 foX5_9 rfl rk_163_0 ?_
  refine s_bipush C dX5_top_4 bi_7 ?_
  refine s_bipush C dX5_top_6 bi_122 ?_
  refine s_iload_n C dX5_top_8 rfl rfl ?_
  refine s_imul C dX5_top_9 ?_
  refine s_iadd C dX5_top_10 ?_
  obtain ⟨hb, h⟩ := it_n h
  refine s_ald (q := (7 + (122 * x1)).toNatClampNeg) C dX5_top_11 kk_164 (by decide) rfl hb ?_
  refine s_iconst C dX5_top_12 ic_1 ?_
  refine s_isub C dX5_top_13 ?_
  obtain ⟨rfl, rfl⟩ := pr_e h
  exact s_iret C M dX5_top_14 rfl rfl (Nat.le_refl 0) (Nat.le_refl 0)
theorem wX5_above_p9 {X : Cx} {d : Nat} (hd : 2 ≤ d) (C : CtxOK X mX5_above) : ∀ (n : Nat) {x1 : Int32} {x2 : Int32} {x3 : Int32} {x4 : Int32} {I I' : Mm} {r : Int32}  (_ : fX5_above_p9 n x1 x2 x3 x4 I = some (r, I')) (_ : MX X (xE X) d 0 0 (some (.int r)) S0 I'), WM X mX5_above 9 [some (rfX X 163), some (.int x1), some (.int x2), some (.int x3), some (.int x4)] [] S0 I 0 0 := by
  intro n
  induction n with
  | zero => intro x1 x2 x3 x4 I I' r  h M; exact absurd h (by simp [fX5_above_p9])
  | succ n ih =>
    intro x1 x2 x3 x4 I I' r  h M
    rw [fX5_above_p9] at h
    refine s_iload_n C dX5_above_9 rfl rfl ?_
    refine s_iload_n C dX5_above_10 rfl rfl ?_
    refine s_icmp_eq (tgt := 49) C dX5_above_11 (by decide) (fun c => ?_) (fun c => ?_)
    · have h := it_t c h
      refine s_iload C dX5_above_49 rfl ?_
      obtain ⟨rfl, rfl⟩ := pr_e h
      exact s_iret C M dX5_above_51 rfl rfl (Nat.le_refl 0) (Nat.le_refl 0)
    · have h := it_f c h
      refine s_iload_n C dX5_above_14 rfl rfl ?_
      refine s_istore (ls' := [some (rfX X 163), some (.int x1), some (.int x2), some (.int x3), some (.int x3)]) C dX5_above_15 (by decide) (Nat.le_of_ble_eq_true rfl) rfl rfl ?_
      refine s_aload_n C dX5_above_17 rfl rfl ?_
      refine s_iload_n C dX5_above_18 rfl rfl ?_
      refine s_iload_n C dX5_above_19 rfl rfl ?_
      refine s_aload_n C dX5_above_20 rfl rfl ?_
      refine s_iload_n C dX5_above_21 rfl rfl ?_
      refine s_iload_n C dX5_above_22 rfl rfl ?_
      refine s_iconst C dX5_above_23 ic_0 ?_
      obtain ⟨r1, I1, hh, h⟩ := bd_e h
      refine s_cV0 (st := [.int x3, .int x1, rfX X 163]) C M.rg (Nat.le_trans (by decide) hd) mwX5_of mlX5_62 dX5_above_24 (wX5_of (d := 1) (Nat.le_refl _)  hh) kk_163 rfl rfl (Nat.le_of_ble_eq_true rfl) ?_
      refine s_aload_n C dX5_above_27 rfl rfl ?_
      refine s_iload_n C dX5_above_28 rfl rfl ?_
      refine s_iload_n C dX5_above_29 rfl rfl ?_
      refine s_iconst C dX5_above_30 ic_0 ?_
      obtain ⟨r2, I2, hh, h⟩ := bd_e h
      refine s_cV0 (st := [.int r1, .int x3, .int x1, rfX X 163]) C M.rg (Nat.le_trans (by decide) hd) mwX5_of mlX5_62 dX5_above_31 (wX5_of (d := 1) (Nat.le_refl _)  hh) kk_163 rfl rfl (Nat.le_of_ble_eq_true rfl) ?_
      refine s_icmp_ge (tgt := 41) C dX5_above_34 (by decide) (fun c => ?_) (fun c => ?_)
      · have h := it_t c h
        refine s_iconst C dX5_above_41 ic_3 ?_
        obtain ⟨r3, I3, hh, h⟩ := bd_e h
        refine s_cV0 (st := []) C M.rg (Nat.le_trans (by decide) hd) mwX5_of mlX5_62 dX5_above_42 (wX5_of (d := 1) (Nat.le_refl _)  hh) kk_163 rfl rfl (Nat.le_of_ble_eq_true rfl) ?_
        refine s_istore_n (ls' := [some (rfX X 163), some (.int x1), some (.int x2), some (.int r3), some (.int x3)]) C dX5_above_45 rfl (by decide) (Nat.le_of_ble_eq_true rfl) rfl rfl ?_
        refine s_goto (tgt := 9) C dX5_above_46 (by decide) ?_
        exact ih  h M
      · have h := it_f c h
        refine s_iconst C dX5_above_37 ic_2 ?_
        refine s_goto (tgt := 42) C dX5_above_38 (by decide) ?_
        obtain ⟨r3, I3, hh, h⟩ := bd_e h
        refine s_cV0 (st := []) C M.rg (Nat.le_trans (by decide) hd) mwX5_of mlX5_62 dX5_above_42 (wX5_of (d := 1) (Nat.le_refl _)  hh) kk_163 rfl rfl (Nat.le_of_ble_eq_true rfl) ?_
        refine s_istore_n (ls' := [some (rfX X 163), some (.int x1), some (.int x2), some (.int r3), some (.int x3)]) C dX5_above_45 rfl (by decide) (Nat.le_of_ble_eq_true rfl) rfl rfl ?_
        refine s_goto (tgt := 9) C dX5_above_46 (by decide) ?_
        exact ih  h M
theorem wX5_above {E : Ev} {d : Nat} (hd : 2 ≤ d) {x1 : Int32} {x2 : Int32} {I I' : Mm} {r : Int32}  (h : fX5_above x1 x2 I = some (r, I')) : SemM E d 0 0 mX5_above [rfE E 163, .int x1, .int x2] S0 I (some (.int r)) S0 I' := by
  unfold fX5_above at h
  refine SemM.ofX (E := E) (y := mX5_above) (args := fun E => [rfE E 163, .int x1, .int x2]) (r := fun E => (some (.int r))) (fun E => [some (rfE E 163), some (.int x1), some (.int x2), none, none]) (by decide +kernel) (Nat.le_of_ble_eq_true rfl) rfl (fun X C M => ?_)
  refine s_aload_n C dX5_above_0 rfl rfl ?_
  refine s_iload_n C dX5_above_1 rfl rfl ?_
  obtain ⟨r1, I1, hh, h⟩ := bd_e h
  refine s_cV0 (st := []) C M.rg (Nat.le_trans (by decide) hd) mwX5_top mlX5_73 dX5_above_2 (wX5_top (d := 1) (Nat.le_refl _)  hh) kk_163 rfl rfl (Nat.le_of_ble_eq_true rfl) ?_
  refine s_istore_n (ls' := [some (rfX X 163), some (.int x1), some (.int x2), some (.int r1), none]) C dX5_above_5 rfl (by decide) (Nat.le_of_ble_eq_true rfl) rfl rfl ?_
  refine s_iconst C dX5_above_6 ic_m1 ?_
  refine s_istore (ls' := [some (rfX X 163), some (.int x1), some (.int x2), some (.int r1), some (.int (-1))]) C dX5_above_7 (by decide) (Nat.le_of_ble_eq_true rfl) rfl rfl ?_
  exact wX5_above_p9 hd C _  h M
theorem wX5_size : ∀ (n : Nat) {E : Ev} {d : Nat} (_ : 2 + n ≤ d) {x1 : Int32} {x2 : Int32} {I I' : Mm} {r : Int32}  (_ : fX5_size n x1 x2 I = some (r, I')), SemM E d 0 0 mX5_size [rfE E 163, .int x1, .int x2] S0 I (some (.int r)) S0 I' := by
  intro n
  induction n with
  | zero => intro E d hd x1 x2 I I' r  h; exact absurd h (by simp [fX5_size])
  | succ n ih =>
    intro E d hd x1 x2 I I' r  h
    rw [fX5_size] at h
    refine SemM.ofX (E := E) (y := mX5_size) (args := fun E => [rfE E 163, .int x1, .int x2]) (r := fun E => (some (.int r))) (fun E => [some (rfE E 163), some (.int x1), some (.int x2)]) (by decide +kernel) (Nat.le_of_ble_eq_true rfl) rfl (fun X C M => ?_)
    refine s_iload_n C dX5_size_0 rfl rfl ?_
    refine s_if_ge (tgt := 8) C dX5_size_1 (by decide) (fun c => ?_) (fun c => ?_)
    · have h := it_t c h
      refine s_iconst C dX5_size_8 ic_1 ?_
      refine s_aload_n C dX5_size_9 rfl rfl ?_
      refine s_iload_n C dX5_size_10 rfl rfl ?_
      refine s_aload_n C dX5_size_11 rfl rfl ?_
      refine s_iload_n C dX5_size_12 rfl rfl ?_
      refine s_iload_n C dX5_size_13 rfl rfl ?_
      refine s_iconst C dX5_size_14 ic_2 ?_
      obtain ⟨r1, I1, hh, h⟩ := bd_e h
      refine s_cV0 (st := [.int x1, rfX X 163, .int 1]) C M.rg (Nat.le_trans (by omega) hd) mwX5_of mlX5_62 dX5_size_15 (wX5_of (d := 1) (Nat.le_refl _)  hh) kk_163 rfl rfl (Nat.le_of_ble_eq_true rfl) ?_
      obtain ⟨r2, I2, hh, h⟩ := bd_e h
      refine s_cV0 (st := [.int 1]) C M.rg (Nat.le_trans (by omega) hd) mwX5_size mlX5_66 dX5_size_18 (ih (d := 2 + n) (Nat.le_refl _)  hh) kk_163 rfl rfl (Nat.le_of_ble_eq_true rfl) ?_
      refine s_iadd C dX5_size_21 ?_
      refine s_aload_n C dX5_size_22 rfl rfl ?_
      refine s_iload_n C dX5_size_23 rfl rfl ?_
      refine s_aload_n C dX5_size_24 rfl rfl ?_
      refine s_iload_n C dX5_size_25 rfl rfl ?_
      refine s_iload_n C dX5_size_26 rfl rfl ?_
      refine s_iconst C dX5_size_27 ic_3 ?_
      obtain ⟨r3, I3, hh, h⟩ := bd_e h
      refine s_cV0 (st := [.int x1, rfX X 163, .int (1 + r2)]) C M.rg (Nat.le_trans (by omega) hd) mwX5_of mlX5_62 dX5_size_28 (wX5_of (d := 1) (Nat.le_refl _)  hh) kk_163 rfl rfl (Nat.le_of_ble_eq_true rfl) ?_
      obtain ⟨r4, I4, hh, h⟩ := bd_e h
      refine s_cV0 (st := [.int (1 + r2)]) C M.rg (Nat.le_trans (by omega) hd) mwX5_size mlX5_66 dX5_size_31 (ih (d := 2 + n) (Nat.le_refl _)  hh) kk_163 rfl rfl (Nat.le_of_ble_eq_true rfl) ?_
      refine s_iadd C dX5_size_34 ?_
      obtain ⟨rfl, rfl⟩ := pr_e h
      exact s_iret C M dX5_size_35 rfl rfl (Nat.le_refl 0) (Nat.le_refl 0)
    · have h := it_f c h
      refine s_iconst C dX5_size_4 ic_0 ?_
      refine s_goto (tgt := 35) C dX5_size_5 (by decide) ?_
      obtain ⟨rfl, rfl⟩ := pr_e h
      exact s_iret C M dX5_size_35 rfl rfl (Nat.le_refl 0) (Nat.le_refl 0)
theorem wX5_count {E : Ev} {d : Nat} (hd : 43 ≤ d) {x1 : Int32} {I I' : Mm} {r : Int32}  (h : fX5_count x1 I = some (r, I')) : SemM E d 0 0 mX5_count [rfE E 163, .int x1] S0 I (some (.int r)) S0 I' := by
  unfold fX5_count at h
  refine SemM.ofX (E := E) (y := mX5_count) (args := fun E => [rfE E 163, .int x1]) (r := fun E => (some (.int r))) (fun E => [some (rfE E 163), some (.int x1)]) (by decide +kernel) (Nat.le_of_ble_eq_true rfl) rfl (fun X C M => ?_)
  refine s_aload_n C dX5_count_0 rfl rfl ?_
  refine s_iload_n C dX5_count_1 rfl rfl ?_
  refine s_aload_n C dX5_count_2 rfl rfl ?_
  refine s_iload_n C dX5_count_3 rfl rfl ?_
  obtain ⟨r1, I1, hh, h⟩ := bd_e h
  refine s_cV0 (st := [.int x1, rfX X 163]) C M.rg (Nat.le_trans (by decide) hd) mwX5_top mlX5_73 dX5_count_4 (wX5_top (d := 1) (Nat.le_refl _)  hh) kk_163 rfl rfl (Nat.le_of_ble_eq_true rfl) ?_
  obtain ⟨r2, I2, hh, h⟩ := bd_e h
  refine s_cV0 (st := []) C M.rg (Nat.le_trans (by decide) hd) mwX5_size mlX5_66 dX5_count_7 (wX5_size _ (d := 42) (Nat.le_refl _)  hh) kk_163 rfl rfl (Nat.le_of_ble_eq_true rfl) ?_
  obtain ⟨rfl, rfl⟩ := pr_e h
  exact s_iret C M dX5_count_10 rfl rfl (Nat.le_refl 0) (Nat.le_refl 0)
theorem wX5_allSheaves {E : Ev} {d : Nat} (hd : 44 ≤ d)  {I I' : Mm} {r : Int32}  (h : fX5_allSheaves  I = some (r, I')) : SemM E d 0 0 mX5_allSheaves [rfE E 163] S0 I (some (.int r)) S0 I' := by
  unfold fX5_allSheaves at h
  refine SemM.ofX (E := E) (y := mX5_allSheaves) (args := fun E => [rfE E 163]) (r := fun E => (some (.int r))) (fun E => [some (rfE E 163)]) (by decide +kernel) (Nat.le_of_ble_eq_true rfl) rfl (fun X C M => ?_)
  refine s_aload_n C dX5_allSheaves_0 rfl rfl ?_
  refine s_iconst C dX5_allSheaves_1 ic_0 ?_
  obtain ⟨r1, I1, hh, h⟩ := bd_e h
  refine s_cV0 (st := []) C M.rg (Nat.le_trans (by decide) hd) mwX5_count mlX5_124 dX5_allSheaves_2 (wX5_count (d := 43) (Nat.le_refl _)  hh) kk_163 rfl rfl (Nat.le_of_ble_eq_true rfl) ?_
  refine s_aload_n C dX5_allSheaves_5 rfl rfl ?_
  refine s_iconst C dX5_allSheaves_6 ic_1 ?_
  obtain ⟨r2, I2, hh, h⟩ := bd_e h
  refine s_cV0 (st := [.int r1]) C M.rg (Nat.le_trans (by decide) hd) mwX5_count mlX5_124 dX5_allSheaves_7 (wX5_count (d := 43) (Nat.le_refl _)  hh) kk_163 rfl rfl (Nat.le_of_ble_eq_true rfl) ?_
  refine s_iadd C dX5_allSheaves_10 ?_
  refine s_aload_n C dX5_allSheaves_11 rfl rfl ?_
  refine s_iconst C dX5_allSheaves_12 ic_2 ?_
  obtain ⟨r3, I3, hh, h⟩ := bd_e h
  refine s_cV0 (st := [.int (r1 + r2)]) C M.rg (Nat.le_trans (by decide) hd) mwX5_count mlX5_124 dX5_allSheaves_13 (wX5_count (d := 43) (Nat.le_refl _)  hh) kk_163 rfl rfl (Nat.le_of_ble_eq_true rfl) ?_
  refine s_iadd C dX5_allSheaves_16 ?_
  obtain ⟨rfl, rfl⟩ := pr_e h
  exact s_iret C M dX5_allSheaves_17 rfl rfl (Nat.le_refl 0) (Nat.le_refl 0)
theorem wX5_loads : ∀ (n : Nat) {E : Ev} {d : Nat} (_ : 2 + n ≤ d) {x1 : Int32} {x2 : Int32} {I I' : Mm} {r : Int32}  (_ : fX5_loads n x1 x2 I = some (r, I')), SemM E d 0 0 mX5_loads [rfE E 163, .int x1, .int x2] S0 I (some (.int r)) S0 I' := by
  intro n
  induction n with
  | zero => intro E d hd x1 x2 I I' r  h; exact absurd h (by simp [fX5_loads])
  | succ n ih =>
    intro E d hd x1 x2 I I' r  h
    rw [fX5_loads] at h
    refine SemM.ofX (E := E) (y := mX5_loads) (args := fun E => [rfE E 163, .int x1, .int x2]) (r := fun E => (some (.int r))) (fun E => [some (rfE E 163), some (.int x1), some (.int x2)]) (by decide +kernel) (Nat.le_of_ble_eq_true rfl) rfl (fun X C M => ?_)
    refine s_iload_n C dX5_loads_0 rfl rfl ?_
    refine s_if_ge (tgt := 8) C dX5_loads_1 (by decide) (fun c => ?_) (fun c => ?_)
    · have h := it_t c h
      refine s_aload_n C dX5_loads_8 rfl rfl ?_
      refine s_iload_n C dX5_loads_9 rfl rfl ?_
      refine s_iload_n C dX5_loads_10 rfl rfl ?_
      refine s_iconst C dX5_loads_11 ic_1 ?_
      obtain ⟨r1, I1, hh, h⟩ := bd_e h
      refine s_cV0 (st := []) C M.rg (Nat.le_trans (by omega) hd) mwX5_of mlX5_62 dX5_loads_12 (wX5_of (d := 1) (Nat.le_refl _)  hh) kk_163 rfl rfl (Nat.le_of_ble_eq_true rfl) ?_
      refine s_aload_n C dX5_loads_15 rfl rfl ?_
      refine s_iload_n C dX5_loads_16 rfl rfl ?_
      refine s_aload_n C dX5_loads_17 rfl rfl ?_
      refine s_iload_n C dX5_loads_18 rfl rfl ?_
      refine s_iload_n C dX5_loads_19 rfl rfl ?_
      refine s_iconst C dX5_loads_20 ic_2 ?_
      obtain ⟨r2, I2, hh, h⟩ := bd_e h
      refine s_cV0 (st := [.int x1, rfX X 163, .int r1]) C M.rg (Nat.le_trans (by omega) hd) mwX5_of mlX5_62 dX5_loads_21 (wX5_of (d := 1) (Nat.le_refl _)  hh) kk_163 rfl rfl (Nat.le_of_ble_eq_true rfl) ?_
      obtain ⟨r3, I3, hh, h⟩ := bd_e h
      refine s_cV0 (st := [.int r1]) C M.rg (Nat.le_trans (by omega) hd) mwX5_loads mlX5_70 dX5_loads_24 (ih (d := 2 + n) (Nat.le_refl _)  hh) kk_163 rfl rfl (Nat.le_of_ble_eq_true rfl) ?_
      refine s_iadd C dX5_loads_27 ?_
      refine s_aload_n C dX5_loads_28 rfl rfl ?_
      refine s_iload_n C dX5_loads_29 rfl rfl ?_
      refine s_aload_n C dX5_loads_30 rfl rfl ?_
      refine s_iload_n C dX5_loads_31 rfl rfl ?_
      refine s_iload_n C dX5_loads_32 rfl rfl ?_
      refine s_iconst C dX5_loads_33 ic_3 ?_
      obtain ⟨r4, I4, hh, h⟩ := bd_e h
      refine s_cV0 (st := [.int x1, rfX X 163, .int (r1 + r3)]) C M.rg (Nat.le_trans (by omega) hd) mwX5_of mlX5_62 dX5_loads_34 (wX5_of (d := 1) (Nat.le_refl _)  hh) kk_163 rfl rfl (Nat.le_of_ble_eq_true rfl) ?_
      obtain ⟨r5, I5, hh, h⟩ := bd_e h
      refine s_cV0 (st := [.int (r1 + r3)]) C M.rg (Nat.le_trans (by omega) hd) mwX5_loads mlX5_70 dX5_loads_37 (ih (d := 2 + n) (Nat.le_refl _)  hh) kk_163 rfl rfl (Nat.le_of_ble_eq_true rfl) ?_
      refine s_iadd C dX5_loads_40 ?_
      obtain ⟨rfl, rfl⟩ := pr_e h
      exact s_iret C M dX5_loads_41 rfl rfl (Nat.le_refl 0) (Nat.le_refl 0)
    · have h := it_f c h
      refine s_iconst C dX5_loads_4 ic_0 ?_
      refine s_goto (tgt := 41) C dX5_loads_5 (by decide) ?_
      obtain ⟨rfl, rfl⟩ := pr_e h
      exact s_iret C M dX5_loads_41 rfl rfl (Nat.le_refl 0) (Nat.le_refl 0)
theorem wX5_account {E : Ev} {d : Nat} (hd : 45 ≤ d) {x1 : Int32} {I I' : Mm} {r : Int32}  (h : fX5_account x1 I = some (r, I')) : SemM E d 0 0 mX5_account [rfE E 163, .int x1] S0 I (some (.int r)) S0 I' := by
  unfold fX5_account at h
  refine SemM.ofX (E := E) (y := mX5_account) (args := fun E => [rfE E 163, .int x1]) (r := fun E => (some (.int r))) (fun E => [some (rfE E 163), some (.int x1)]) (by decide +kernel) (Nat.le_of_ble_eq_true rfl) rfl (fun X C M => ?_)
  refine s_iload_n C dX5_account_0 rfl rfl ?_
  by_cases c1 : x1 = 0
  · have h := it_t c1 h
    refine s_tableIn (off := 59) (tgt := 60) C dX5_account_1 (by rw [c1]; decide +kernel) (by rw [c1]; decide +kernel) (by rw [c1]; decide +kernel) (by decide) ?_
    refine s_aload_n C dX5_account_60 rfl rfl ?_
    obtain ⟨r1, I1, hh, h⟩ := bd_e h
    refine s_cV0 (st := []) C M.rg (Nat.le_trans (by decide) hd) mwX5_allSheaves mlX5_299 dX5_account_61 (wX5_allSheaves (d := 44) (Nat.le_refl _)  hh) kk_163 rfl rfl (Nat.le_of_ble_eq_true rfl) ?_
    obtain ⟨rfl, rfl⟩ := pr_e h
    exact s_iret C M dX5_account_64 rfl rfl (Nat.le_refl 0) (Nat.le_refl 0)
  have h := it_f c1 h
  by_cases c2 : x1 = 1
  · have h := it_t c2 h
    refine s_tableIn (off := 64) (tgt := 65) C dX5_account_1 (by rw [c2]; decide +kernel) (by rw [c2]; decide +kernel) (by rw [c2]; decide +kernel) (by decide) ?_
    refine s_aload_n C dX5_account_65 rfl rfl ?_
    refine s_iconst C dX5_account_66 ic_0 ?_
    refine s_aload_n C dX5_account_67 rfl rfl ?_
    refine s_iconst C dX5_account_68 ic_0 ?_
    obtain ⟨r1, I1, hh, h⟩ := bd_e h
    refine s_cV0 (st := [.int 0, rfX X 163]) C M.rg (Nat.le_trans (by decide) hd) mwX5_top mlX5_73 dX5_account_69 (wX5_top (d := 1) (Nat.le_refl _)  hh) kk_163 rfl rfl (Nat.le_of_ble_eq_true rfl) ?_
    obtain ⟨r2, I2, hh, h⟩ := bd_e h
    refine s_cV0 (st := []) C M.rg (Nat.le_trans (by decide) hd) mwX5_loads mlX5_70 dX5_account_72 (wX5_loads _ (d := 42) (Nat.le_refl _)  hh) kk_163 rfl rfl (Nat.le_of_ble_eq_true rfl) ?_
    refine s_aload_n C dX5_account_75 rfl rfl ?_
    refine s_iconst C dX5_account_76 ic_1 ?_
    refine s_aload_n C dX5_account_77 rfl rfl ?_
    refine s_iconst C dX5_account_78 ic_1 ?_
    obtain ⟨r3, I3, hh, h⟩ := bd_e h
    refine s_cV0 (st := [.int 1, rfX X 163, .int r2]) C M.rg (Nat.le_trans (by decide) hd) mwX5_top mlX5_73 dX5_account_79 (wX5_top (d := 1) (Nat.le_refl _)  hh) kk_163 rfl rfl (Nat.le_of_ble_eq_true rfl) ?_
    obtain ⟨r4, I4, hh, h⟩ := bd_e h
    refine s_cV0 (st := [.int r2]) C M.rg (Nat.le_trans (by decide) hd) mwX5_loads mlX5_70 dX5_account_82 (wX5_loads _ (d := 42) (Nat.le_refl _)  hh) kk_163 rfl rfl (Nat.le_of_ble_eq_true rfl) ?_
    refine s_iadd C dX5_account_85 ?_
    refine s_aload_n C dX5_account_86 rfl rfl ?_
    refine s_iconst C dX5_account_87 ic_2 ?_
    refine s_aload_n C dX5_account_88 rfl rfl ?_
    refine s_iconst C dX5_account_89 ic_2 ?_
    obtain ⟨r5, I5, hh, h⟩ := bd_e h
    refine s_cV0 (st := [.int 2, rfX X 163, .int (r2 + r4)]) C M.rg (Nat.le_trans (by decide) hd) mwX5_top mlX5_73 dX5_account_90 (wX5_top (d := 1) (Nat.le_refl _)  hh) kk_163 rfl rfl (Nat.le_of_ble_eq_true rfl) ?_
    obtain ⟨r6, I6, hh, h⟩ := bd_e h
    refine s_cV0 (st := [.int (r2 + r4)]) C M.rg (Nat.le_trans (by decide) hd) mwX5_loads mlX5_70 dX5_account_93 (wX5_loads _ (d := 42) (Nat.le_refl _)  hh) kk_163 rfl rfl (Nat.le_of_ble_eq_true rfl) ?_
    refine s_iadd C dX5_account_96 ?_
    obtain ⟨rfl, rfl⟩ := pr_e h
    exact s_iret C M dX5_account_97 rfl rfl (Nat.le_refl 0) (Nat.le_refl 0)
  have h := it_f c2 h
  by_cases c3 : x1 = 2
  · have h := it_t c3 h
    refine s_tableIn (off := 97) (tgt := 98) C dX5_account_1 (by rw [c3]; decide +kernel) (by rw [c3]; decide +kernel) (by rw [c3]; decide +kernel) (by decide) ?_
    refine s_aload_n C dX5_account_98 rfl rfl ?_
    refine s_getR (b := 164) C dX5_account_99 kk_163 foX5_9 rfl rk_163_0 ?_
    refine s_iload_n C dX5_account_102 rfl rfl ?_
    refine s_iconst C dX5_account_103 ic_1 ?_
    refine s_isub C dX5_account_104 ?_
    obtain ⟨hb, h⟩ := it_n h
    refine s_ald (q := (x1 - 1).toNatClampNeg) C dX5_account_105 kk_164 (by decide) rfl hb ?_
    obtain ⟨rfl, rfl⟩ := pr_e h
    exact s_iret C M dX5_account_106 rfl rfl (Nat.le_refl 0) (Nat.le_refl 0)
  have h := it_f c3 h
  by_cases c4 : x1 = 3
  · have h := it_t c4 h
    refine s_tableIn (off := 97) (tgt := 98) C dX5_account_1 (by rw [c4]; decide +kernel) (by rw [c4]; decide +kernel) (by rw [c4]; decide +kernel) (by decide) ?_
    refine s_aload_n C dX5_account_98 rfl rfl ?_
    refine s_getR (b := 164) C dX5_account_99 kk_163 foX5_9 rfl rk_163_0 ?_
    refine s_iload_n C dX5_account_102 rfl rfl ?_
    refine s_iconst C dX5_account_103 ic_1 ?_
    refine s_isub C dX5_account_104 ?_
    obtain ⟨hb, h⟩ := it_n h
    refine s_ald (q := (x1 - 1).toNatClampNeg) C dX5_account_105 kk_164 (by decide) rfl hb ?_
    obtain ⟨rfl, rfl⟩ := pr_e h
    exact s_iret C M dX5_account_106 rfl rfl (Nat.le_refl 0) (Nat.le_refl 0)
  have h := it_f c4 h
  by_cases c5 : x1 = 4
  · have h := it_t c5 h
    refine s_tableIn (off := 97) (tgt := 98) C dX5_account_1 (by rw [c5]; decide +kernel) (by rw [c5]; decide +kernel) (by rw [c5]; decide +kernel) (by decide) ?_
    refine s_aload_n C dX5_account_98 rfl rfl ?_
    refine s_getR (b := 164) C dX5_account_99 kk_163 foX5_9 rfl rk_163_0 ?_
    refine s_iload_n C dX5_account_102 rfl rfl ?_
    refine s_iconst C dX5_account_103 ic_1 ?_
    refine s_isub C dX5_account_104 ?_
    obtain ⟨hb, h⟩ := it_n h
    refine s_ald (q := (x1 - 1).toNatClampNeg) C dX5_account_105 kk_164 (by decide) rfl hb ?_
    obtain ⟨rfl, rfl⟩ := pr_e h
    exact s_iret C M dX5_account_106 rfl rfl (Nat.le_refl 0) (Nat.le_refl 0)
  have h := it_f c5 h
  by_cases c6 : x1 = 5
  · have h := it_t c6 h
    refine s_tableIn (off := 97) (tgt := 98) C dX5_account_1 (by rw [c6]; decide +kernel) (by rw [c6]; decide +kernel) (by rw [c6]; decide +kernel) (by decide) ?_
    refine s_aload_n C dX5_account_98 rfl rfl ?_
    refine s_getR (b := 164) C dX5_account_99 kk_163 foX5_9 rfl rk_163_0 ?_
    refine s_iload_n C dX5_account_102 rfl rfl ?_
    refine s_iconst C dX5_account_103 ic_1 ?_
    refine s_isub C dX5_account_104 ?_
    obtain ⟨hb, h⟩ := it_n h
    refine s_ald (q := (x1 - 1).toNatClampNeg) C dX5_account_105 kk_164 (by decide) rfl hb ?_
    obtain ⟨rfl, rfl⟩ := pr_e h
    exact s_iret C M dX5_account_106 rfl rfl (Nat.le_refl 0) (Nat.le_refl 0)
  have h := it_f c6 h
  by_cases c7 : x1 = 6
  · have h := it_t c7 h
    refine s_tableIn (off := 97) (tgt := 98) C dX5_account_1 (by rw [c7]; decide +kernel) (by rw [c7]; decide +kernel) (by rw [c7]; decide +kernel) (by decide) ?_
    refine s_aload_n C dX5_account_98 rfl rfl ?_
    refine s_getR (b := 164) C dX5_account_99 kk_163 foX5_9 rfl rk_163_0 ?_
    refine s_iload_n C dX5_account_102 rfl rfl ?_
    refine s_iconst C dX5_account_103 ic_1 ?_
    refine s_isub C dX5_account_104 ?_
    obtain ⟨hb, h⟩ := it_n h
    refine s_ald (q := (x1 - 1).toNatClampNeg) C dX5_account_105 kk_164 (by decide) rfl hb ?_
    obtain ⟨rfl, rfl⟩ := pr_e h
    exact s_iret C M dX5_account_106 rfl rfl (Nat.le_refl 0) (Nat.le_refl 0)
  have h := it_f c7 h
  by_cases c8 : x1 = 7
  · have h := it_t c8 h
    refine s_tableIn (off := 97) (tgt := 98) C dX5_account_1 (by rw [c8]; decide +kernel) (by rw [c8]; decide +kernel) (by rw [c8]; decide +kernel) (by decide) ?_
    refine s_aload_n C dX5_account_98 rfl rfl ?_
    refine s_getR (b := 164) C dX5_account_99 kk_163 foX5_9 rfl rk_163_0 ?_
    refine s_iload_n C dX5_account_102 rfl rfl ?_
    refine s_iconst C dX5_account_103 ic_1 ?_
    refine s_isub C dX5_account_104 ?_
    obtain ⟨hb, h⟩ := it_n h
    refine s_ald (q := (x1 - 1).toNatClampNeg) C dX5_account_105 kk_164 (by decide) rfl hb ?_
    obtain ⟨rfl, rfl⟩ := pr_e h
    exact s_iret C M dX5_account_106 rfl rfl (Nat.le_refl 0) (Nat.le_refl 0)
  have h := it_f c8 h
  by_cases c9 : x1 = 8
  · have h := it_t c9 h
    refine s_tableIn (off := 106) (tgt := 107) C dX5_account_1 (by rw [c9]; decide +kernel) (by rw [c9]; decide +kernel) (by rw [c9]; decide +kernel) (by decide) ?_
    refine s_aload_n C dX5_account_107 rfl rfl ?_
    refine s_getR (b := 164) C dX5_account_108 kk_163 foX5_9 rfl rk_163_0 ?_
    refine s_iconst C dX5_account_111 ic_0 ?_
    refine s_ald (q := 0) C dX5_account_112 kk_164 (by decide) (by decide) (by decide) ?_
    obtain ⟨rfl, rfl⟩ := pr_e h
    exact s_iret C M dX5_account_113 rfl rfl (Nat.le_refl 0) (Nat.le_refl 0)
  have h := it_f c9 h
  by_cases c10 : x1 = 9
  · have h := it_t c10 h
    refine s_tableIn (off := 113) (tgt := 114) C dX5_account_1 (by rw [c10]; decide +kernel) (by rw [c10]; decide +kernel) (by rw [c10]; decide +kernel) (by decide) ?_
    refine s_aload_n C dX5_account_114 rfl rfl ?_
    refine s_getI C dX5_account_115 kk_163 foX5_223 rfl ?_
    obtain ⟨rfl, rfl⟩ := pr_e h
    exact s_iret C M dX5_account_118 rfl rfl (Nat.le_refl 0) (Nat.le_refl 0)
  have h := it_f c10 h
  by_cases c11 : x1 = 10
  · have h := it_t c11 h
    refine s_tableIn (off := 118) (tgt := 119) C dX5_account_1 (by rw [c11]; decide +kernel) (by rw [c11]; decide +kernel) (by rw [c11]; decide +kernel) (by decide) ?_
    refine s_aload_n C dX5_account_119 rfl rfl ?_
    refine s_getI C dX5_account_120 kk_163 foX5_43 rfl ?_
    obtain ⟨rfl, rfl⟩ := pr_e h
    exact s_iret C M dX5_account_123 rfl rfl (Nat.le_refl 0) (Nat.le_refl 0)
  have h := it_f c11 h
  refine s_tableOut (tgt := 124) C dX5_account_1 (by have := ne_i 0 (by decide +kernel) c1; have := ne_i 1 (by decide +kernel) c2; have := ne_i 2 (by decide +kernel) c3; have := ne_i 3 (by decide +kernel) c4; have := ne_i 4 (by decide +kernel) c5; have := ne_i 5 (by decide +kernel) c6; have := ne_i 6 (by decide +kernel) c7; have := ne_i 7 (by decide +kernel) c8; have := ne_i 8 (by decide +kernel) c9; have := ne_i 9 (by decide +kernel) c10; have := ne_i 10 (by decide +kernel) c11; omega) (by decide) ?_
  refine s_bipush C dX5_account_124 bi_m12 ?_
  obtain ⟨rfl, rfl⟩ := pr_e h
  exact s_iret C M dX5_account_126 rfl rfl (Nat.le_refl 0) (Nat.le_refl 0)
theorem wX5_depth_p10 {X : Cx} {d : Nat} (hd : 3 ≤ d) (C : CtxOK X mX5_depth) : ∀ (n : Nat) {x1 : Int32} {x3 : Int32} {x4 : Int32} {I I' : Mm} {r : Int32}  (_ : fX5_depth_p10 n x1 x3 x4 I = some (r, I')) (_ : MX X (xE X) d 0 0 (some (.int r)) S0 I'), WM X mX5_depth 10 [some (rfX X 163), some (.int x1), none, some (.int x3), some (.int x4)] [] S0 I 0 0 := by
  intro n
  induction n with
  | zero => intro x1 x3 x4 I I' r  h M; exact absurd h (by simp [fX5_depth_p10])
  | succ n ih =>
    intro x1 x3 x4 I I' r  h M
    rw [fX5_depth_p10] at h
    refine s_iload C dX5_depth_10 rfl ?_
    refine s_if_lt (tgt := 30) C dX5_depth_12 (by decide) (fun c => ?_) (fun c => ?_)
    · have h := it_t c h
      refine s_iload_n C dX5_depth_30 rfl rfl ?_
      obtain ⟨rfl, rfl⟩ := pr_e h
      exact s_iret C M dX5_depth_31 rfl rfl (Nat.le_refl 0) (Nat.le_refl 0)
    · have h := it_f c h
      obtain ⟨v1, ev1, h⟩ := ltm_e h
      refine s_iinc (v := v1) (ls' := [some (rfX X 163), some (.int x1), none, some (.int v1), some (.int x4)]) C dX5_depth_15 rfl (by decide) (Nat.le_of_ble_eq_true rfl) (by rw [ev1, ic_1]) rfl rfl ?_
      refine s_aload_n C dX5_depth_18 rfl rfl ?_
      refine s_iload_n C dX5_depth_19 rfl rfl ?_
      refine s_iload C dX5_depth_20 rfl ?_
      obtain ⟨r1, I1, hh, h⟩ := bd_e h
      refine s_cV0 (st := []) C M.rg (Nat.le_trans (by decide) hd) mwX5_above mlX5_77 dX5_depth_22 (wX5_above (d := 2) (Nat.le_refl _)  hh) kk_163 rfl rfl (Nat.le_of_ble_eq_true rfl) ?_
      refine s_istore (ls' := [some (rfX X 163), some (.int x1), none, some (.int v1), some (.int r1)]) C dX5_depth_25 (by decide) (Nat.le_of_ble_eq_true rfl) rfl rfl ?_
      refine s_goto (tgt := 10) C dX5_depth_27 (by decide) ?_
      exact ih  h M
