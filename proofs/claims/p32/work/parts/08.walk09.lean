theorem wL_law_p274 {X : Cx} {d b L k n9 : Nat} {xz : Nat → Int32} (hd : 2047 ≤ d) (hR : RG X d k n9) (C : CtxOK X mL_law) (hX : LX X b L xz) (K9 : ∀ (I : Mm) (ls : List (Option Value)), WM X mL_law 441 ls [.int 1] S0 I k n9) : ∀ (n : Nat) {x3 : Int32} {x4 : Int64} {x6 : Int32} {x7 : Int32} {I I' : Mm}  (_ : fL_law_p274 L xz n x3 x4 x6 x7 I = some (1, I')), WM X mL_law 274 [none, some (rfX X 0), none, some (.int x3), some (.long x4), none, some (.int x6), some (.int x7), none] [] S0 I k n9 := by
  intro n
  induction n with
  | zero => intro x3 x4 x6 x7 I I'  h; exact absurd h (by simp [fL_law_p274])
  | succ n ih =>
    intro x3 x4 x6 x7 I I'  h
    rw [fL_law_p274] at h
    refine s_iload_n C dL_law_274 rfl rfl ?_
    refine s_if_eq (tgt := 387) C dL_law_275 (by decide) (fun c => ?_) (fun c => ?_)
    · have h := it_t c h
      refine s_weak (ls' := [none, some (rfX X 0), none, some (.int x3), some (.long x4), none, some (.int x6), none, none]) [false, true, false, true, true, false, true, false, false] rfl ?_
      exact wL_law_p387 hd hR C hX K9  h
    · have h := it_f c h
      refine s_iload C dL_law_278 rfl ?_
      refine s_iconst C dL_law_280 ic_4 ?_
      refine s_icmp_ge (tgt := 387) C dL_law_281 (by decide) (fun c => ?_) (fun c => ?_)
      · have h := it_t c h
        refine s_weak (ls' := [none, some (rfX X 0), none, some (.int x3), some (.long x4), none, some (.int x6), none, none]) [false, true, false, true, true, false, true, false, false] rfl ?_
        exact wL_law_p387 hd hR C hX K9  h
      · have h := it_f c h
        refine s_iconst C dL_law_284 ic_0 ?_
        refine s_istore (ls' := [none, some (rfX X 0), none, some (.int x3), some (.long x4), none, some (.int x6), some (.int x7), some (.int 0)]) C dL_law_285 (by decide) (Nat.le_of_ble_eq_true rfl) rfl rfl ?_
        refine s_weak (ls' := [none, some (rfX X 0), none, none, some (.long x4), none, some (.int x6), some (.int x7), some (.int 0)]) [false, true, false, false, true, false, true, true, true] rfl ?_
        obtain ⟨u1, I1, hh, h⟩ := bd_e h
        refine wL_law_p287 hd hR C hX _  hh ?_
        refine s_aload_n C dL_law_326 rfl rfl ?_
        refine s_iload C dL_law_327 rfl ?_
        refine s_iconst C dL_law_329 ic_3 ?_
        refine s_irem C dL_law_330 (by decide) ?_
        refine s_aload_n C dL_law_331 rfl rfl ?_
        refine s_iload C dL_law_332 rfl ?_
        refine s_iconst C dL_law_334 ic_3 ?_
        refine s_irem C dL_law_335 (by decide) ?_
        refine s_iload C dL_law_336 rfl ?_
        obtain ⟨r1, I2, hh, h⟩ := bd_e h
        refine s_cV0 (st := [.int (x7 - x7 / 3 * 3), rfX X 0]) C hR (Nat.le_trans (by decide) hd) mwX4_at mlL_37 dL_law_338 (wX4_at (d := 2) (Nat.le_refl _)  hh) kk_0 rfl rfl (Nat.le_of_ble_eq_true rfl) ?_
        obtain ⟨r2, I3, hh, h⟩ := bd_e h
        refine s_cV0 (st := []) C hR (Nat.le_trans (by decide) hd) mwX4_take mlL_40 dL_law_341 (wX4_take (d := 46) (Nat.le_refl _)  hh) kk_0 rfl rfl (Nat.le_of_ble_eq_true rfl) ?_
        refine s_pop C dL_law_344 rfl ?_
        refine s_aload_n C dL_law_345 rfl rfl ?_
        refine s_iload C dL_law_346 rfl ?_
        refine s_iconst C dL_law_348 ic_3 ?_
        refine s_irem C dL_law_349 (by decide) ?_
        refine s_aload_n C dL_law_350 rfl rfl ?_
        refine s_iload C dL_law_351 rfl ?_
        refine s_iconst C dL_law_353 ic_3 ?_
        refine s_irem C dL_law_354 (by decide) ?_
        refine s_iconst C dL_law_355 ic_0 ?_
        obtain ⟨r3, I4, hh, h⟩ := bd_e h
        refine s_cV0 (st := [.int (x7 - x7 / 3 * 3), rfX X 0]) C hR (Nat.le_trans (by decide) hd) mwX4_at mlL_37 dL_law_356 (wX4_at (d := 2) (Nat.le_refl _)  hh) kk_0 rfl rfl (Nat.le_of_ble_eq_true rfl) ?_
        obtain ⟨r4, I5, hh, h⟩ := bd_e h
        refine s_cV0 (st := []) C hR (Nat.le_trans (by decide) hd) mwX4_take mlL_40 dL_law_359 (wX4_take (d := 46) (Nat.le_refl _)  hh) kk_0 rfl rfl (Nat.le_of_ble_eq_true rfl) ?_
        refine s_pop C dL_law_362 rfl ?_
        refine s_aload_n C dL_law_363 rfl rfl ?_
        refine s_bipush C dL_law_364 bi_56 ?_
        refine s_bipush C dL_law_366 bi_9 ?_
        refine s_iload C dL_law_368 rfl ?_
        refine s_imul C dL_law_370 ?_
        refine s_iadd C dL_law_371 ?_
        obtain ⟨r5, I6, hh, h⟩ := bd_e h
        refine s_cV0 (st := []) C hR (Nat.le_trans (by decide) hd) mwX4_limit mlL_49 dL_law_372 (wX4_limit (d := 4) (Nat.le_refl _)  hh) kk_0 rfl rfl (Nat.le_of_ble_eq_true rfl) ?_
        refine s_pop C dL_law_375 rfl ?_
        refine s_aload_n C dL_law_376 rfl rfl ?_
        obtain ⟨r6, I7, hh, h⟩ := bd_e h
        refine s_cS0 (st := []) C hR (Nat.le_trans (by decide) hd) mwL_isFit mlL_176 dL_law_377 (wL_isFit (d := 47) (Nat.le_refl _)  hh) rfl rfl (Nat.le_of_ble_eq_true rfl) ?_
        refine s_istore_n (ls' := [none, some (rfX X 0), none, some (.int r6), some (.long x4), none, some (.int x6), some (.int x7), none]) C dL_law_380 rfl (by decide) (Nat.le_of_ble_eq_true rfl) rfl rfl ?_
        obtain ⟨v1, ev1, h⟩ := ltm_e h
        refine s_iinc (v := v1) (ls' := [none, some (rfX X 0), none, some (.int r6), some (.long x4), none, some (.int x6), some (.int v1), none]) C dL_law_381 rfl (by decide) (Nat.le_of_ble_eq_true rfl) (by rw [ev1, ic_1]) rfl rfl ?_
        refine s_goto (tgt := 274) C dL_law_384 (by decide) ?_
        exact ih  h
theorem wL_law_p271 {X : Cx} {d b L k n9 : Nat} {xz : Nat → Int32} (hd : 2047 ≤ d) (hR : RG X d k n9) (C : CtxOK X mL_law) (hX : LX X b L xz) (K9 : ∀ (I : Mm) (ls : List (Option Value)), WM X mL_law 441 ls [.int 1] S0 I k n9) {x3 : Int32} {x4 : Int64} {x6 : Int32} {I I' : Mm}  (h : fL_law_p271 L xz x3 x4 x6 I = some (1, I')) : WM X mL_law 271 [none, some (rfX X 0), none, some (.int x3), some (.long x4), none, some (.int x6), none, none] [] S0 I k n9 := by
  unfold fL_law_p271 at h
  refine s_iconst C dL_law_271 ic_0 ?_
  refine s_istore (ls' := [none, some (rfX X 0), none, some (.int x3), some (.long x4), none, some (.int x6), some (.int 0), none]) C dL_law_272 (by decide) (Nat.le_of_ble_eq_true rfl) rfl rfl ?_
  exact wL_law_p274 hd hR C hX K9 _  h
theorem wL_law_p181 {X : Cx} {d b L k n9 : Nat} {xz : Nat → Int32} (hd : 2047 ≤ d) (hR : RG X d k n9) (C : CtxOK X mL_law) (hX : LX X b L xz) (K9 : ∀ (I : Mm) (ls : List (Option Value)), WM X mL_law 441 ls [.int 1] S0 I k n9) : ∀ (n : Nat) {x3 : Int32} {x4 : Int64} {x6 : Int32} {x7 : Int32} {I I' : Mm}  (_ : fL_law_p181 L xz n x3 x4 x6 x7 I = some (1, I')), WM X mL_law 181 [none, some (rfX X 0), none, some (.int x3), some (.long x4), none, some (.int x6), some (.int x7), none] [] S0 I k n9 := by
  intro n
  induction n with
  | zero => intro x3 x4 x6 x7 I I'  h; exact absurd h (by simp [fL_law_p181])
  | succ n ih =>
    intro x3 x4 x6 x7 I I'  h
    rw [fL_law_p181] at h
    refine s_iload_n C dL_law_181 rfl rfl ?_
    refine s_if_eq (tgt := 271) C dL_law_182 (by decide) (fun c => ?_) (fun c => ?_)
    · have h := it_t c h
      refine s_weak (ls' := [none, some (rfX X 0), none, some (.int x3), some (.long x4), none, some (.int x6), none, none]) [false, true, false, true, true, false, true, false, false] rfl ?_
      exact wL_law_p271 hd hR C hX K9  h
    · have h := it_f c h
      refine s_iload C dL_law_185 rfl ?_
      refine s_txs C dL_law_187 fl_L52 ?_
      refine s_txl C dL_law_190 ?_
      refine s_icmp_ge (tgt := 271) C dL_law_191 (by decide) (fun c => ?_) (fun c => ?_)
      · have h := it_t c h
        refine s_weak (ls' := [none, some (rfX X 0), none, some (.int x3), some (.long x4), none, some (.int x6), none, none]) [false, true, false, true, true, false, true, false, false] rfl ?_
        exact wL_law_p271 hd hR C hX K9  h
      · have h := it_f c h
        refine s_aload_n C dL_law_194 rfl rfl ?_
        refine s_txs C dL_law_195 fl_L52 ?_
        refine s_iload C dL_law_198 rfl ?_
        obtain ⟨hb, h⟩ := it_n h
        have kq1 := ck_lt hb
        refine s_txa C dL_law_200 hb ?_
        obtain ⟨r1, I1, hh, h⟩ := bd_e h
        refine s_cS0 (st := []) C hR (Nat.le_trans (by decide) hd) mwL_write mlL_58 dL_law_201 (wL_write (d := 9) (Nat.le_refl _) kq1 hh) rfl rfl (Nat.le_of_ble_eq_true rfl) ?_
        obtain ⟨r2, I2, hh, h⟩ := bd_e h
        refine s_cV0 (st := []) C hR (Nat.le_trans (by decide) hd) mwX4_run mlL_62 dL_law_204 (wX4_run (d := 47) (Nat.le_refl _)  hh) kk_0 rfl rfl (Nat.le_of_ble_eq_true rfl) ?_
        refine s_istore (ls' := [none, some (rfX X 0), none, some (.int x3), some (.long x4), none, some (.int x6), some (.int x7), some (.int r2)]) C dL_law_207 (by decide) (Nat.le_of_ble_eq_true rfl) rfl rfl ?_
        refine s_iload C dL_law_209 rfl ?_
        refine s_if_ge (tgt := 235) C dL_law_211 (by decide) (fun c => ?_) (fun c => ?_)
        · have h := it_t c h
          refine s_aload_n C dL_law_235 rfl rfl ?_
          obtain ⟨r3, I3, hh, h⟩ := bd_e h
          refine s_cS0 (st := []) C hR (Nat.le_trans (by decide) hd) mwL_isFit mlL_176 dL_law_236 (wL_isFit (d := 47) (Nat.le_refl _)  hh) rfl rfl (Nat.le_of_ble_eq_true rfl) ?_
          refine s_if_eq (tgt := 263) C dL_law_239 (by decide) (fun c => ?_) (fun c => ?_)
          · have h := it_t c h
            refine s_iconst C dL_law_263 ic_0 ?_
            refine s_istore_n (ls' := [none, some (rfX X 0), none, some (.int 0), some (.long x4), none, some (.int x6), some (.int x7), some (.int r2)]) C dL_law_264 rfl (by decide) (Nat.le_of_ble_eq_true rfl) rfl rfl ?_
            obtain ⟨v1, ev1, h⟩ := ltm_e h
            refine s_iinc (v := v1) (ls' := [none, some (rfX X 0), none, some (.int 0), some (.long x4), none, some (.int x6), some (.int v1), some (.int r2)]) C dL_law_265 rfl (by decide) (Nat.le_of_ble_eq_true rfl) (by rw [ev1, ic_1]) rfl rfl ?_
            refine s_goto (tgt := 181) C dL_law_268 (by decide) ?_
            refine s_weak (ls' := [none, some (rfX X 0), none, some (.int 0), some (.long x4), none, some (.int x6), some (.int v1), none]) [false, true, false, true, true, false, true, true, false] rfl ?_
            exact ih  h
          · have h := it_f c h
            refine s_aload_n C dL_law_242 rfl rfl ?_
            obtain ⟨r4, I4, hh, h⟩ := bd_e h
            refine s_cV0 (st := []) C hR (Nat.le_trans (by decide) hd) mwX4_undo mlL_71 dL_law_243 (wX4_undo (d := 4) (Nat.le_refl _)  hh) kk_0 rfl rfl (Nat.le_of_ble_eq_true rfl) ?_
            refine s_if_lt (tgt := 263) C dL_law_246 (by decide) (fun c => ?_) (fun c => ?_)
            · have h := it_t c h
              refine s_iconst C dL_law_263 ic_0 ?_
              refine s_istore_n (ls' := [none, some (rfX X 0), none, some (.int 0), some (.long x4), none, some (.int x6), some (.int x7), some (.int r2)]) C dL_law_264 rfl (by decide) (Nat.le_of_ble_eq_true rfl) rfl rfl ?_
              obtain ⟨v1, ev1, h⟩ := ltm_e h
              refine s_iinc (v := v1) (ls' := [none, some (rfX X 0), none, some (.int 0), some (.long x4), none, some (.int x6), some (.int v1), some (.int r2)]) C dL_law_265 rfl (by decide) (Nat.le_of_ble_eq_true rfl) (by rw [ev1, ic_1]) rfl rfl ?_
              refine s_goto (tgt := 181) C dL_law_268 (by decide) ?_
              refine s_weak (ls' := [none, some (rfX X 0), none, some (.int 0), some (.long x4), none, some (.int x6), some (.int v1), none]) [false, true, false, true, true, false, true, true, false] rfl ?_
              exact ih  h
            · have h := it_f c h
              refine s_aload_n C dL_law_249 rfl rfl ?_
              obtain ⟨r5, I5, hh, h⟩ := bd_e h
              refine s_cS0 (st := []) C hR (Nat.le_trans (by decide) hd) mwL_digest mlL_163 dL_law_250 (wL_digest (d := 45) (Nat.le_refl _)  hh) rfl rfl (Nat.le_of_ble_eq_true rfl) ?_
              refine s_lload C dL_law_253 rfl ?_
              refine s_lcmp C dL_law_255 ?_
              refine s_if_ne (tgt := 263) C dL_law_256 (by decide) (fun c => ?_) (fun c => ?_)
              · have h := it_f c h
                refine s_iconst C dL_law_263 ic_0 ?_
                refine s_istore_n (ls' := [none, some (rfX X 0), none, some (.int 0), some (.long x4), none, some (.int x6), some (.int x7), some (.int r2)]) C dL_law_264 rfl (by decide) (Nat.le_of_ble_eq_true rfl) rfl rfl ?_
                obtain ⟨v1, ev1, h⟩ := ltm_e h
                refine s_iinc (v := v1) (ls' := [none, some (rfX X 0), none, some (.int 0), some (.long x4), none, some (.int x6), some (.int v1), some (.int r2)]) C dL_law_265 rfl (by decide) (Nat.le_of_ble_eq_true rfl) (by rw [ev1, ic_1]) rfl rfl ?_
                refine s_goto (tgt := 181) C dL_law_268 (by decide) ?_
                refine s_weak (ls' := [none, some (rfX X 0), none, some (.int 0), some (.long x4), none, some (.int x6), some (.int v1), none]) [false, true, false, true, true, false, true, true, false] rfl ?_
                exact ih  h
              · have h := it_t c h
                refine s_iconst C dL_law_259 ic_1 ?_
                refine s_goto (tgt := 264) C dL_law_260 (by decide) ?_
                refine s_istore_n (ls' := [none, some (rfX X 0), none, some (.int 1), some (.long x4), none, some (.int x6), some (.int x7), some (.int r2)]) C dL_law_264 rfl (by decide) (Nat.le_of_ble_eq_true rfl) rfl rfl ?_
                obtain ⟨v1, ev1, h⟩ := ltm_e h
                refine s_iinc (v := v1) (ls' := [none, some (rfX X 0), none, some (.int 1), some (.long x4), none, some (.int x6), some (.int v1), some (.int r2)]) C dL_law_265 rfl (by decide) (Nat.le_of_ble_eq_true rfl) (by rw [ev1, ic_1]) rfl rfl ?_
                refine s_goto (tgt := 181) C dL_law_268 (by decide) ?_
                refine s_weak (ls' := [none, some (rfX X 0), none, some (.int 1), some (.long x4), none, some (.int x6), some (.int v1), none]) [false, true, false, true, true, false, true, true, false] rfl ?_
                exact ih  h
        · have h := it_f c h
          refine s_aload_n C dL_law_214 rfl rfl ?_
          refine s_iconst C dL_law_215 ic_0 ?_
          obtain ⟨r3, I3, hh, h⟩ := bd_e h
          refine s_cV0 (st := []) C hR (Nat.le_trans (by decide) hd) mwX4_reason mlL_182 dL_law_216 (wX4_reason (d := 1) (Nat.le_refl _)  hh) kk_0 rfl rfl (Nat.le_of_ble_eq_true rfl) ?_
          refine s_bipush C dL_law_219 bi_6 ?_
          refine s_icmp_ne (tgt := 263) C dL_law_221 (by decide) (fun c => ?_) (fun c => ?_)
          · have h := it_f c h
            refine s_iconst C dL_law_263 ic_0 ?_
            refine s_istore_n (ls' := [none, some (rfX X 0), none, some (.int 0), some (.long x4), none, some (.int x6), some (.int x7), some (.int r2)]) C dL_law_264 rfl (by decide) (Nat.le_of_ble_eq_true rfl) rfl rfl ?_
            obtain ⟨v1, ev1, h⟩ := ltm_e h
            refine s_iinc (v := v1) (ls' := [none, some (rfX X 0), none, some (.int 0), some (.long x4), none, some (.int x6), some (.int v1), some (.int r2)]) C dL_law_265 rfl (by decide) (Nat.le_of_ble_eq_true rfl) (by rw [ev1, ic_1]) rfl rfl ?_
            refine s_goto (tgt := 181) C dL_law_268 (by decide) ?_
            refine s_weak (ls' := [none, some (rfX X 0), none, some (.int 0), some (.long x4), none, some (.int x6), some (.int v1), none]) [false, true, false, true, true, false, true, true, false] rfl ?_
            exact ih  h
          · have h := it_t c h
            refine s_aload_n C dL_law_224 rfl rfl ?_
            refine s_iconst C dL_law_225 ic_1 ?_
            obtain ⟨r4, I4, hh, h⟩ := bd_e h
            refine s_cV0 (st := []) C hR (Nat.le_trans (by decide) hd) mwX4_reason mlL_182 dL_law_226 (wX4_reason (d := 1) (Nat.le_refl _)  hh) kk_0 rfl rfl (Nat.le_of_ble_eq_true rfl) ?_
            refine s_if_lt (tgt := 263) C dL_law_229 (by decide) (fun c => ?_) (fun c => ?_)
            · have h := it_t c h
              refine s_iconst C dL_law_263 ic_0 ?_
              refine s_istore_n (ls' := [none, some (rfX X 0), none, some (.int 0), some (.long x4), none, some (.int x6), some (.int x7), some (.int r2)]) C dL_law_264 rfl (by decide) (Nat.le_of_ble_eq_true rfl) rfl rfl ?_
              obtain ⟨v1, ev1, h⟩ := ltm_e h
              refine s_iinc (v := v1) (ls' := [none, some (rfX X 0), none, some (.int 0), some (.long x4), none, some (.int x6), some (.int v1), some (.int r2)]) C dL_law_265 rfl (by decide) (Nat.le_of_ble_eq_true rfl) (by rw [ev1, ic_1]) rfl rfl ?_
              refine s_goto (tgt := 181) C dL_law_268 (by decide) ?_
              refine s_weak (ls' := [none, some (rfX X 0), none, some (.int 0), some (.long x4), none, some (.int x6), some (.int v1), none]) [false, true, false, true, true, false, true, true, false] rfl ?_
              exact ih  h
            · have h := it_f c h
              refine s_goto (tgt := 249) C dL_law_232 (by decide) ?_
              refine s_aload_n C dL_law_249 rfl rfl ?_
              obtain ⟨r5, I5, hh, h⟩ := bd_e h
              refine s_cS0 (st := []) C hR (Nat.le_trans (by decide) hd) mwL_digest mlL_163 dL_law_250 (wL_digest (d := 45) (Nat.le_refl _)  hh) rfl rfl (Nat.le_of_ble_eq_true rfl) ?_
              refine s_lload C dL_law_253 rfl ?_
              refine s_lcmp C dL_law_255 ?_
              refine s_if_ne (tgt := 263) C dL_law_256 (by decide) (fun c => ?_) (fun c => ?_)
              · have h := it_f c h
                refine s_iconst C dL_law_263 ic_0 ?_
                refine s_istore_n (ls' := [none, some (rfX X 0), none, some (.int 0), some (.long x4), none, some (.int x6), some (.int x7), some (.int r2)]) C dL_law_264 rfl (by decide) (Nat.le_of_ble_eq_true rfl) rfl rfl ?_
                obtain ⟨v1, ev1, h⟩ := ltm_e h
                refine s_iinc (v := v1) (ls' := [none, some (rfX X 0), none, some (.int 0), some (.long x4), none, some (.int x6), some (.int v1), some (.int r2)]) C dL_law_265 rfl (by decide) (Nat.le_of_ble_eq_true rfl) (by rw [ev1, ic_1]) rfl rfl ?_
                refine s_goto (tgt := 181) C dL_law_268 (by decide) ?_
                refine s_weak (ls' := [none, some (rfX X 0), none, some (.int 0), some (.long x4), none, some (.int x6), some (.int v1), none]) [false, true, false, true, true, false, true, true, false] rfl ?_
                exact ih  h
              · have h := it_t c h
                refine s_iconst C dL_law_259 ic_1 ?_
                refine s_goto (tgt := 264) C dL_law_260 (by decide) ?_
                refine s_istore_n (ls' := [none, some (rfX X 0), none, some (.int 1), some (.long x4), none, some (.int x6), some (.int x7), some (.int r2)]) C dL_law_264 rfl (by decide) (Nat.le_of_ble_eq_true rfl) rfl rfl ?_
                obtain ⟨v1, ev1, h⟩ := ltm_e h
                refine s_iinc (v := v1) (ls' := [none, some (rfX X 0), none, some (.int 1), some (.long x4), none, some (.int x6), some (.int v1), some (.int r2)]) C dL_law_265 rfl (by decide) (Nat.le_of_ble_eq_true rfl) (by rw [ev1, ic_1]) rfl rfl ?_
                refine s_goto (tgt := 181) C dL_law_268 (by decide) ?_
                refine s_weak (ls' := [none, some (rfX X 0), none, some (.int 1), some (.long x4), none, some (.int x6), some (.int v1), none]) [false, true, false, true, true, false, true, true, false] rfl ?_
                exact ih  h
theorem wL_law_p161 {X : Cx} {d b L k n9 : Nat} {xz : Nat → Int32} (hd : 2047 ≤ d) (hR : RG X d k n9) (C : CtxOK X mL_law) (hX : LX X b L xz) (K9 : ∀ (I : Mm) (ls : List (Option Value)), WM X mL_law 441 ls [.int 1] S0 I k n9) {x3 : Int32} {I I' : Mm}  (h : fL_law_p161 L xz x3 I = some (1, I')) : WM X mL_law 161 [none, some (rfX X 0), none, some (.int x3), none, none, none, none, none] [] S0 I k n9 := by
  unfold fL_law_p161 at h
  refine s_aload_n C dL_law_161 rfl rfl ?_
  obtain ⟨r1, I1, hh, h⟩ := bd_e h
  refine s_cV0 (st := []) C hR (Nat.le_trans (by decide) hd) mwX4_run mlL_62 dL_law_162 (wX4_run (d := 47) (Nat.le_refl _)  hh) kk_0 rfl rfl (Nat.le_of_ble_eq_true rfl) ?_
  refine s_pop C dL_law_165 rfl ?_
  refine s_aload_n C dL_law_166 rfl rfl ?_
  obtain ⟨r2, I2, hh, h⟩ := bd_e h
  refine s_cS0 (st := []) C hR (Nat.le_trans (by decide) hd) mwL_digest mlL_163 dL_law_167 (wL_digest (d := 45) (Nat.le_refl _)  hh) rfl rfl (Nat.le_of_ble_eq_true rfl) ?_
  refine s_lstore (ls' := [none, some (rfX X 0), none, some (.int x3), some (.long r2), none, none, none, none]) C dL_law_170 (by decide) (Nat.le_of_ble_eq_true rfl) rfl rfl ?_
  refine s_aload_n C dL_law_172 rfl rfl ?_
  obtain ⟨r3, I3, hh, h⟩ := bd_e h
  refine s_cV0 (st := []) C hR (Nat.le_trans (by decide) hd) mwX4_save mlL_65 dL_law_173 (wX4_save (d := 3) (Nat.le_refl _)  hh) kk_0 rfl rfl (Nat.le_of_ble_eq_true rfl) ?_
  refine s_istore (ls' := [none, some (rfX X 0), none, some (.int x3), some (.long r2), none, some (.int r3), none, none]) C dL_law_176 (by decide) (Nat.le_of_ble_eq_true rfl) rfl rfl ?_
  refine s_iconst C dL_law_178 ic_0 ?_
  refine s_istore (ls' := [none, some (rfX X 0), none, some (.int x3), some (.long r2), none, some (.int r3), some (.int 0), none]) C dL_law_179 (by decide) (Nat.le_of_ble_eq_true rfl) rfl rfl ?_
  exact wL_law_p181 hd hR C hX K9 _  h
theorem wL_law_p126 {X : Cx} {d b L k n9 : Nat} {xz : Nat → Int32} (hd : 2047 ≤ d) (hR : RG X d k n9) (C : CtxOK X mL_law) (hX : LX X b L xz) (K9 : ∀ (I : Mm) (ls : List (Option Value)), WM X mL_law 441 ls [.int 1] S0 I k n9) : ∀ (n : Nat) {x3 : Int32} {x4 : Int32} {I I' : Mm}  (_ : fL_law_p126 L xz n x3 x4 I = some (1, I')), WM X mL_law 126 [none, some (rfX X 0), none, some (.int x3), some (.int x4), none, none, none, none] [] S0 I k n9 := by
  intro n
  induction n with
  | zero => intro x3 x4 I I'  h; exact absurd h (by simp [fL_law_p126])
  | succ n ih =>
    intro x3 x4 I I'  h
    rw [fL_law_p126] at h
    refine s_iload_n C dL_law_126 rfl rfl ?_
    refine s_if_eq (tgt := 161) C dL_law_127 (by decide) (fun c => ?_) (fun c => ?_)
    · have h := it_t c h
      refine s_weak (ls' := [none, some (rfX X 0), none, some (.int x3), none, none, none, none, none]) [false, true, false, true, false, false, false, false, false] rfl ?_
      exact wL_law_p161 hd hR C hX K9  h
    · have h := it_f c h
      refine s_iload C dL_law_130 rfl ?_
      refine s_bipush C dL_law_132 bi_14 ?_
      refine s_icmp_ge (tgt := 161) C dL_law_134 (by decide) (fun c => ?_) (fun c => ?_)
      · have h := it_t c h
        refine s_weak (ls' := [none, some (rfX X 0), none, some (.int x3), none, none, none, none, none]) [false, true, false, true, false, false, false, false, false] rfl ?_
        exact wL_law_p161 hd hR C hX K9  h
      · have h := it_f c h
        refine s_aload_n C dL_law_137 rfl rfl ?_
        refine s_iload C dL_law_138 rfl ?_
        refine s_iconst C dL_law_140 ic_3 ?_
        refine s_irem C dL_law_141 (by decide) ?_
        refine s_bipush C dL_law_142 bi_71 ?_
        refine s_iload C dL_law_144 rfl ?_
        refine s_imul C dL_law_146 ?_
        refine s_sipush C dL_law_147 si_1000 ?_
        refine s_irem C dL_law_150 (by decide) ?_
        obtain ⟨r1, I1, hh, h⟩ := bd_e h
        refine s_cS0 (st := []) C hR (Nat.le_trans (by decide) hd) mwL_isPut mlL_179 dL_law_151 (wL_isPut (d := 46) (Nat.le_refl _)  hh) rfl rfl (Nat.le_of_ble_eq_true rfl) ?_
        refine s_istore_n (ls' := [none, some (rfX X 0), none, some (.int r1), some (.int x4), none, none, none, none]) C dL_law_154 rfl (by decide) (Nat.le_of_ble_eq_true rfl) rfl rfl ?_
        obtain ⟨v1, ev1, h⟩ := ltm_e h
        refine s_iinc (v := v1) (ls' := [none, some (rfX X 0), none, some (.int r1), some (.int v1), none, none, none, none]) C dL_law_155 rfl (by decide) (Nat.le_of_ble_eq_true rfl) (by rw [ev1, ic_1]) rfl rfl ?_
        refine s_goto (tgt := 126) C dL_law_158 (by decide) ?_
        exact ih  h
theorem wL_law_p77 {X : Cx} {d b L k n9 : Nat} {xz : Nat → Int32} (hd : 2047 ≤ d) (hR : RG X d k n9) (C : CtxOK X mL_law) (hX : LX X b L xz) (K9 : ∀ (I : Mm) (ls : List (Option Value)), WM X mL_law 441 ls [.int 1] S0 I k n9) : ∀ (n : Nat) {x2 : Int32} {x3 : Int32} {I I' : Mm}  (_ : fL_law_p77 L xz n x2 x3 I = some (1, I')), WM X mL_law 77 [some (.ref b), some (rfX X 0), some (.int x2), some (.int x3), none, none, none, none, none] [] S0 I k n9 := by
  intro n
  induction n with
  | zero => intro x2 x3 I I'  h; exact absurd h (by simp [fL_law_p77])
  | succ n ih =>
    intro x2 x3 I I'  h
    rw [fL_law_p77] at h
    refine s_iload_n C dL_law_77 rfl rfl ?_
    refine s_iload_n C dL_law_78 rfl rfl ?_
    refine s_icmp_ge (tgt := 118) C dL_law_79 (by decide) (fun c => ?_) (fun c => ?_)
    · have h := it_t c h
      refine s_aload_n C dL_law_118 rfl rfl ?_
      obtain ⟨r1, I1, hh, h⟩ := bd_e h
      refine s_cS0 (st := []) C hR (Nat.le_trans (by decide) hd) mwL_isFit mlL_176 dL_law_119 (wL_isFit (d := 47) (Nat.le_refl _)  hh) rfl rfl (Nat.le_of_ble_eq_true rfl) ?_
      refine s_istore_n (ls' := [some (.ref b), some (rfX X 0), some (.int x2), some (.int r1), none, none, none, none, none]) C dL_law_122 rfl (by decide) (Nat.le_of_ble_eq_true rfl) rfl rfl ?_
      refine s_iconst C dL_law_123 ic_0 ?_
      refine s_istore (ls' := [some (.ref b), some (rfX X 0), some (.int x2), some (.int r1), some (.int 0), none, none, none, none]) C dL_law_124 (by decide) (Nat.le_of_ble_eq_true rfl) rfl rfl ?_
      refine s_weak (ls' := [none, some (rfX X 0), none, some (.int r1), some (.int 0), none, none, none, none]) [false, true, false, true, true, false, false, false, false] rfl ?_
      exact wL_law_p126 hd hR C hX K9 _  h
    · have h := it_f c h
      refine s_aload_n C dL_law_82 rfl rfl ?_
      obtain ⟨r1, I1, hh, h⟩ := bd_e h
      refine s_cS0 (st := []) C hR (Nat.le_trans (by decide) hd) mwL_digest mlL_163 dL_law_83 (wL_digest (d := 45) (Nat.le_refl _)  hh) rfl rfl (Nat.le_of_ble_eq_true rfl) ?_
      refine s_lstore (ls' := [some (.ref b), some (rfX X 0), some (.int x2), some (.int x3), some (.long r1), none, none, none, none]) C dL_law_86 (by decide) (Nat.le_of_ble_eq_true rfl) rfl rfl ?_
      refine s_aload_n C dL_law_88 rfl rfl ?_
      refine s_aload_n C dL_law_89 rfl rfl ?_
      refine s_iload_n C dL_law_90 rfl rfl ?_
      refine s_cell C hR (Nat.le_trans (by decide) hd) hX mlL_168 dL_law_91 (Nat.le_of_ble_eq_true rfl) ?_
      obtain ⟨r2, I2, hh, h⟩ := bd_e h
      refine s_cS0 (st := []) C hR (Nat.le_trans (by decide) hd) mwL_act mlL_172 dL_law_94 (wL_act (d := 48) (Nat.le_refl _)  hh) rfl rfl (Nat.le_of_ble_eq_true rfl) ?_
      refine s_if_ge (tgt := 112) C dL_law_97 (by decide) (fun c => ?_) (fun c => ?_)
      · have h := it_t c h
        obtain ⟨v1, ev1, h⟩ := ltm_e h
        refine s_iinc (v := v1) (ls' := [some (.ref b), some (rfX X 0), some (.int x2), some (.int v1), some (.long r1), none, none, none, none]) C dL_law_112 rfl (by decide) (Nat.le_of_ble_eq_true rfl) (by rw [ev1, ic_1]) rfl rfl ?_
        refine s_goto (tgt := 77) C dL_law_115 (by decide) ?_
        refine s_weak (ls' := [some (.ref b), some (rfX X 0), some (.int x2), some (.int v1), none, none, none, none, none]) [true, true, true, true, false, false, false, false, false] rfl ?_
        exact ih  h
      · have h := it_f c h
        refine s_aload_n C dL_law_100 rfl rfl ?_
        obtain ⟨r3, I3, hh, h⟩ := bd_e h
        refine s_cS0 (st := []) C hR (Nat.le_trans (by decide) hd) mwL_digest mlL_163 dL_law_101 (wL_digest (d := 45) (Nat.le_refl _)  hh) rfl rfl (Nat.le_of_ble_eq_true rfl) ?_
        refine s_lload C dL_law_104 rfl ?_
        refine s_lcmp C dL_law_106 ?_
        refine s_if_eq (tgt := 112) C dL_law_107 (by decide) (fun c => ?_) (fun c => ?_)
        · have h := it_t c h
          obtain ⟨v1, ev1, h⟩ := ltm_e h
          refine s_iinc (v := v1) (ls' := [some (.ref b), some (rfX X 0), some (.int x2), some (.int v1), some (.long r1), none, none, none, none]) C dL_law_112 rfl (by decide) (Nat.le_of_ble_eq_true rfl) (by rw [ev1, ic_1]) rfl rfl ?_
          refine s_goto (tgt := 77) C dL_law_115 (by decide) ?_
          refine s_weak (ls' := [some (.ref b), some (rfX X 0), some (.int x2), some (.int v1), none, none, none, none, none]) [true, true, true, true, false, false, false, false, false] rfl ?_
          exact ih  h
        · have h := it_f c h
          refine s_iconst C dL_law_110 ic_0 ?_
          exact absurd (pr_e h).1 (by decide)
theorem wL_law_p74 {X : Cx} {d b L k n9 : Nat} {xz : Nat → Int32} (hd : 2047 ≤ d) (hR : RG X d k n9) (C : CtxOK X mL_law) (hX : LX X b L xz) (K9 : ∀ (I : Mm) (ls : List (Option Value)), WM X mL_law 441 ls [.int 1] S0 I k n9) {s0 : Int32} {I I' : Mm}  (h : fL_law_p74 L xz s0 I = some (1, I')) : WM X mL_law 74 [some (.ref b), some (rfX X 0), none, none, none, none, none, none, none] [.int s0] S0 I k n9 := by
  unfold fL_law_p74 at h
  refine s_istore_n (ls' := [some (.ref b), some (rfX X 0), some (.int s0), none, none, none, none, none, none]) C dL_law_74 rfl (by decide) (Nat.le_of_ble_eq_true rfl) rfl rfl ?_
  refine s_iconst C dL_law_75 ic_0 ?_
  refine s_istore_n (ls' := [some (.ref b), some (rfX X 0), some (.int s0), some (.int 0), none, none, none, none, none]) C dL_law_76 rfl (by decide) (Nat.le_of_ble_eq_true rfl) rfl rfl ?_
  exact wL_law_p77 hd hR C hX K9 _  h
theorem wL_law_p10 {X : Cx} {d b L k n9 : Nat} {xz : Nat → Int32} (hd : 2047 ≤ d) (hR : RG X d k n9) (C : CtxOK X mL_law) (hX : LX X b L xz) (K9 : ∀ (I : Mm) (ls : List (Option Value)), WM X mL_law 441 ls [.int 1] S0 I k n9) : ∀ (n : Nat) {x2 : Int32} {I I' : Mm}  (_ : fL_law_p10 L xz n x2 I = some (1, I')), WM X mL_law 10 [some (.ref b), some (rfX X 0), some (.int x2), none, none, none, none, none, none] [] S0 I k n9 := by
  intro n
  induction n with
  | zero => intro x2 I I'  h; exact absurd h (by simp [fL_law_p10])
  | succ n ih =>
    intro x2 I I'  h
    rw [fL_law_p10] at h
    refine s_iload_n C dL_law_10 rfl rfl ?_
    refine s_bipush C dL_law_11 bi_9 ?_
    refine s_icmp_ge (tgt := 60) C dL_law_13 (by decide) (fun c => ?_) (fun c => ?_)
    · have h := it_t c h
      refine s_aload_n C dL_law_60 rfl rfl ?_
      refine s_slen C hX dL_law_61 ?_
      refine s_bipush C dL_law_62 bi_44 ?_
      refine s_icmp_ge (tgt := 72) C dL_law_64 (by decide) (fun c => ?_) (fun c => ?_)
      · have h := it_t c h
        refine s_bipush C dL_law_72 bi_44 ?_
        refine s_weak (ls' := [some (.ref b), some (rfX X 0), none, none, none, none, none, none, none]) [true, true, false, false, false, false, false, false, false] rfl ?_
        exact wL_law_p74 hd hR C hX K9  h
      · have h := it_f c h
        refine s_aload_n C dL_law_67 rfl rfl ?_
        refine s_slen C hX dL_law_68 ?_
        refine s_goto (tgt := 74) C dL_law_69 (by decide) ?_
        refine s_weak (ls' := [some (.ref b), some (rfX X 0), none, none, none, none, none, none, none]) [true, true, false, false, false, false, false, false, false] rfl ?_
        exact wL_law_p74 hd hR C hX K9  h
    · have h := it_f c h
      refine s_aload_n C dL_law_16 rfl rfl ?_
      refine s_iconst C dL_law_17 ic_0 ?_
      refine s_bipush C dL_law_18 bi_37 ?_
      refine s_iload_n C dL_law_20 rfl rfl ?_
      refine s_imul C dL_law_21 ?_
      refine s_sipush C dL_law_22 si_200 ?_
      refine s_irem C dL_law_25 (by decide) ?_
      refine s_iconst C dL_law_26 ic_1 ?_
      refine s_bipush C dL_law_27 bi_11 ?_
      refine s_iload_n C dL_law_29 rfl rfl ?_
      refine s_imul C dL_law_30 ?_
      refine s_bipush C dL_law_31 bi_99 ?_
      refine s_irem C dL_law_33 (by decide) ?_
      refine s_iadd C dL_law_34 ?_
      obtain ⟨r1, I1, hh, h⟩ := bd_e h
      refine s_cV0 (st := []) C hR (Nat.le_trans (by decide) hd) mwX4_put mlL_24 dL_law_35 (wX4_put (d := 45) (Nat.le_refl _)  hh) kk_0 rfl rfl (Nat.le_of_ble_eq_true rfl) ?_
      refine s_pop C dL_law_38 rfl ?_
      refine s_aload_n C dL_law_39 rfl rfl ?_
      refine s_iconst C dL_law_40 ic_1 ?_
      refine s_sipush C dL_law_41 si_300 ?_
      refine s_iconst C dL_law_44 ic_5 ?_
      refine s_iload_n C dL_law_45 rfl rfl ?_
      refine s_imul C dL_law_46 ?_
      refine s_iadd C dL_law_47 ?_
      refine s_bipush C dL_law_48 bi_20 ?_
      obtain ⟨r2, I2, hh, h⟩ := bd_e h
      refine s_cV0 (st := []) C hR (Nat.le_trans (by decide) hd) mwX4_put mlL_24 dL_law_50 (wX4_put (d := 45) (Nat.le_refl _)  hh) kk_0 rfl rfl (Nat.le_of_ble_eq_true rfl) ?_
      refine s_pop C dL_law_53 rfl ?_
      obtain ⟨v1, ev1, h⟩ := ltm_e h
      refine s_iinc (v := v1) (ls' := [some (.ref b), some (rfX X 0), some (.int v1), none, none, none, none, none, none]) C dL_law_54 rfl (by decide) (Nat.le_of_ble_eq_true rfl) (by rw [ev1, ic_1]) rfl rfl ?_
      refine s_goto (tgt := 10) C dL_law_57 (by decide) ?_
      exact ih  h
theorem wL_law {X : Cx} {d b L k n9 : Nat} {xz : Nat → Int32} (hd : 2047 ≤ d) (hR : RG X d k n9) (C : CtxOK X mL_law) (hX : LX X b L xz) (K9 : ∀ (I : Mm) (ls : List (Option Value)), WM X mL_law 441 ls [.int 1] S0 I k n9)  {I I' : Mm}  (h : fL_law L xz  I = some (1, I')) : WM X mL_law 8 [some (.ref b), some (rfX X 0), none, none, none, none, none, none, none] [] S0 I k n9 := by
  unfold fL_law at h
  refine s_iconst C dL_law_8 ic_0 ?_
  refine s_istore_n (ls' := [some (.ref b), some (rfX X 0), some (.int 0), none, none, none, none, none, none]) C dL_law_9 rfl (by decide) (Nat.le_of_ble_eq_true rfl) rfl rfl ?_
  exact wL_law_p10 hd hR C hX K9 _  h
