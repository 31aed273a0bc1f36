theorem wX5_weights_p5 {X : Cx} {d : Nat} (hd : 3 ≤ d) (C : CtxOK X mX5_weights) : ∀ (n : Nat) {x1 : Int32} {x2 : Int32} {x3 : Int64} {x5 : Int32} {I I' : Mm} {r : Int64}  (_ : fX5_weights_p5 n x1 x2 x3 x5 I = some (r, I')) (_ : MX X (xE X) d 0 0 (some (.long r)) S0 I'), WM X mX5_weights 5 [some (rfX X 163), some (.int x1), some (.int x2), some (.long x3), none, some (.int x5)] [] S0 I 0 0 := by
  intro n
  induction n with
  | zero => intro x1 x2 x3 x5 I I' r  h M; exact absurd h (by simp [fX5_weights_p5])
  | succ n ih =>
    intro x1 x2 x3 x5 I I' r  h M
    rw [fX5_weights_p5] at h
    refine s_iload C dX5_weights_5 rfl ?_
    refine s_bipush C dX5_weights_7 bi_64 ?_
    refine s_icmp_ge (tgt := 59) C dX5_weights_9 (by decide) (fun c => ?_) (fun c => ?_)
    · have h := it_t c h
      refine s_lload_n C dX5_weights_59 rfl rfl ?_
      obtain ⟨rfl, rfl⟩ := pr_e h
      exact s_lret C M dX5_weights_60 rfl (Nat.le_refl 0) (Nat.le_refl 0)
    · have h := it_f c h
      refine s_iload_n C dX5_weights_12 rfl rfl ?_
      obtain ⟨r1, I1, hh, h⟩ := bd_e h
      refine s_cS0 (st := []) C M.rg (Nat.le_trans (by decide) hd) mwX5_isRick mlX5_110 dX5_weights_13 (wX5_isRick (d := 2) (Nat.le_refl _)  hh) rfl rfl (Nat.le_of_ble_eq_true rfl) ?_
      refine s_if_eq (tgt := 59) C dX5_weights_16 (by decide) (fun c => ?_) (fun c => ?_)
      · have h := it_t c h
        refine s_lload_n C dX5_weights_59 rfl rfl ?_
        obtain ⟨rfl, rfl⟩ := pr_e h
        exact s_lret C M dX5_weights_60 rfl (Nat.le_refl 0) (Nat.le_refl 0)
      · have h := it_f c h
        refine s_iload_n C dX5_weights_19 rfl rfl ?_
        refine s_iconst C dX5_weights_20 ic_0 ?_
        refine s_sipush C dX5_weights_21 si_936 ?_
        obtain ⟨r2, I2, hh, h⟩ := bd_e h
        refine s_cS0 (st := []) C M.rg (Nat.le_trans (by decide) hd) mwX5_isBetween mlX5_58 dX5_weights_24 (wX5_isBetween (d := 1) (Nat.le_refl _)  hh) rfl rfl (Nat.le_of_ble_eq_true rfl) ?_
        refine s_if_eq (tgt := 59) C dX5_weights_27 (by decide) (fun c => ?_) (fun c => ?_)
        · have h := it_t c h
          refine s_lload_n C dX5_weights_59 rfl rfl ?_
          obtain ⟨rfl, rfl⟩ := pr_e h
          exact s_lret C M dX5_weights_60 rfl (Nat.le_refl 0) (Nat.le_refl 0)
        · have h := it_f c h
          refine s_lload_n C dX5_weights_30 rfl rfl ?_
          refine s_aload_n C dX5_weights_31 rfl rfl ?_
          refine s_iload_n C dX5_weights_32 rfl rfl ?_
          refine s_iload_n C dX5_weights_33 rfl rfl ?_
          refine s_iload C dX5_weights_34 rfl ?_
          refine s_iadd C dX5_weights_36 ?_
          obtain ⟨r3, I3, hh, h⟩ := bd_e h
          refine s_cV0 (st := [.long x3]) C M.rg (Nat.le_trans (by decide) hd) mwX5_find mlX5_117 dX5_weights_37 (wX5_find (d := 2) (Nat.le_refl _)  hh) kk_163 rfl rfl (Nat.le_of_ble_eq_true rfl) ?_
          refine s_if_lt (tgt := 50) C dX5_weights_40 (by decide) (fun c => ?_) (fun c => ?_)
          · have h := it_t c h
            refine s_lconst (v := 0) C dX5_weights_50 (by decide +kernel) ?_
            refine s_lor C dX5_weights_51 ?_
            obtain ⟨v1, ev1, h⟩ := ltm_e h
            refine s_top_l ev1 ?_
            refine s_lstore_n (ls' := [some (rfX X 163), some (.int x1), some (.int x2), some (.long v1), none, some (.int x5)]) C dX5_weights_52 rfl (by decide) (Nat.le_of_ble_eq_true rfl) rfl rfl ?_
            obtain ⟨v2, ev2, h⟩ := ltm_e h
            refine s_iinc (v := v2) (ls' := [some (rfX X 163), some (.int x1), some (.int x2), some (.long v1), none, some (.int v2)]) C dX5_weights_53 rfl (by decide) (Nat.le_of_ble_eq_true rfl) (by rw [ev2, ic_1]) rfl rfl ?_
            refine s_goto (tgt := 5) C dX5_weights_56 (by decide) ?_
            exact ih  h M
          · have h := it_f c h
            refine s_lconst (v := 1) C dX5_weights_43 (by decide +kernel) ?_
            refine s_iload C dX5_weights_44 rfl ?_
            refine s_lshl C dX5_weights_46 ?_
            refine s_goto (tgt := 51) C dX5_weights_47 (by decide) ?_
            refine s_lor C dX5_weights_51 ?_
            obtain ⟨v1, ev1, h⟩ := ltm_e h
            refine s_top_l ev1 ?_
            refine s_lstore_n (ls' := [some (rfX X 163), some (.int x1), some (.int x2), some (.long v1), none, some (.int x5)]) C dX5_weights_52 rfl (by decide) (Nat.le_of_ble_eq_true rfl) rfl rfl ?_
            obtain ⟨v2, ev2, h⟩ := ltm_e h
            refine s_iinc (v := v2) (ls' := [some (rfX X 163), some (.int x1), some (.int x2), some (.long v1), none, some (.int v2)]) C dX5_weights_53 rfl (by decide) (Nat.le_of_ble_eq_true rfl) (by rw [ev2, ic_1]) rfl rfl ?_
            refine s_goto (tgt := 5) C dX5_weights_56 (by decide) ?_
            exact ih  h M
theorem wX5_weights {E : Ev} {d : Nat} (hd : 3 ≤ d) {x1 : Int32} {x2 : Int32} {I I' : Mm} {r : Int64}  (h : fX5_weights x1 x2 I = some (r, I')) : SemM E d 0 0 mX5_weights [rfE E 163, .int x1, .int x2] S0 I (some (.long r)) S0 I' := by
  unfold fX5_weights at h
  refine SemM.ofX (E := E) (y := mX5_weights) (args := fun E => [rfE E 163, .int x1, .int x2]) (r := fun E => (some (.long r))) (fun E => [some (rfE E 163), some (.int x1), some (.int x2), none, none, none]) (by decide +kernel) (Nat.le_of_ble_eq_true rfl) rfl (fun X C M => ?_)
  refine s_lconst (v := 0) C dX5_weights_0 (by decide +kernel) ?_
  refine s_lstore_n (ls' := [some (rfX X 163), some (.int x1), some (.int x2), some (.long 0), none, none]) C dX5_weights_1 rfl (by decide) (Nat.le_of_ble_eq_true rfl) rfl rfl ?_
  refine s_iconst C dX5_weights_2 ic_0 ?_
  refine s_istore (ls' := [some (rfX X 163), some (.int x1), some (.int x2), some (.long 0), none, some (.int 0)]) C dX5_weights_3 (by decide) (Nat.le_of_ble_eq_true rfl) rfl rfl ?_
  exact wX5_weights_p5 hd C _  h M
theorem wL_law {X : Cx} {d b L k n9 : Nat} {xs : Nat → Int32} (hd : 2047 ≤ d) (hR : RG X d k n9) (C : CtxOK X mL_law) (hX : LX X b L xs) (K : ∀ (I : Mm) (ls : List (Option Value)), WM X mL_law 987 ls [.int 1] S0 I k n9) : ∀ (n : Nat) {x3 : Int32} {I I' : Mm} (_ : fL_law L xs n x3 I = some (1, I')), WM X mL_law 18 [some (.ref b), some (rfX X 0), some (rfX X 163), some (.int x3)] [] S0 I k n9 := by
  intro n
  induction n with
  | zero => intro x3 I I' h; exact absurd h (by simp [fL_law])
  | succ n ih =>
    intro x3 I I' h
    rw [fL_law] at h
    refine s_iload_n C dL_law_18 rfl rfl ?_
    refine s_aload_n C dL_law_19 rfl rfl ?_
    refine s_slen C hX dL_law_20 ?_
    refine s_iconst C dL_law_21 ic_4 ?_
    refine s_isub C dL_law_22 ?_
    refine s_icmp_gt (tgt := 986) C dL_law_23 (by decide) (fun c => ?_) (fun c => ?_)
    · have h := it_t c h
      refine s_iconst C dL_law_986 ic_1 ?_
      exact K _ _
    · have h := it_f c h
      refine s_aload_n C dL_law_26 rfl rfl ?_
      refine s_iload_n C dL_law_27 rfl rfl ?_
      obtain ⟨hb, h⟩ := it_n h
      refine s_sld C hX dL_law_28 hb ?_
      refine s_bipush C dL_law_29 bi_31 ?_
      refine s_iand C dL_law_31 ?_
      by_cases c1 : ((xs x3.toNatClampNeg) &&& 31) = 0
      · have h := it_t c1 h
        refine s_tableIn (off := 132) (tgt := 164) C dL_law_32 (by rw [c1]; decide +kernel) (by rw [c1]; decide +kernel) (by rw [c1]; decide +kernel) (by decide) ?_
        refine s_aload_n C dL_law_164 rfl rfl ?_
        refine s_aload_n C dL_law_165 rfl rfl ?_
        refine s_iload_n C dL_law_166 rfl rfl ?_
        refine s_iconst C dL_law_167 ic_1 ?_
        refine s_iadd C dL_law_168 ?_
        obtain ⟨hb, h⟩ := it_n h
        refine s_sld C hX dL_law_169 hb ?_
        refine s_aload_n C dL_law_170 rfl rfl ?_
        refine s_iload_n C dL_law_171 rfl rfl ?_
        refine s_iconst C dL_law_172 ic_2 ?_
        refine s_iadd C dL_law_173 ?_
        obtain ⟨hb, h⟩ := it_n h
        refine s_sld C hX dL_law_174 hb ?_
        refine s_aload_n C dL_law_175 rfl rfl ?_
        refine s_iload_n C dL_law_176 rfl rfl ?_
        refine s_iconst C dL_law_177 ic_3 ?_
        refine s_iadd C dL_law_178 ?_
        obtain ⟨hb, h⟩ := it_n h
        refine s_sld C hX dL_law_179 hb ?_
        obtain ⟨r1, I1, hh, h⟩ := bd_e h
        refine s_cV0 (st := []) C hR (Nat.le_trans (by decide) hd) mwX4_put mlL_13 dL_law_180 (wX4_put (d := 45) (Nat.le_refl _)  hh) kk_0 rfl rfl (Nat.le_of_ble_eq_true rfl) ?_
        refine s_aload_n C dL_law_183 rfl rfl ?_
        refine s_aload_n C dL_law_184 rfl rfl ?_
        refine s_iload_n C dL_law_185 rfl rfl ?_
        refine s_iconst C dL_law_186 ic_1 ?_
        refine s_iadd C dL_law_187 ?_
        obtain ⟨hb, h⟩ := it_n h
        refine s_sld C hX dL_law_188 hb ?_
        refine s_aload_n C dL_law_189 rfl rfl ?_
        refine s_iload_n C dL_law_190 rfl rfl ?_
        refine s_iconst C dL_law_191 ic_2 ?_
        refine s_iadd C dL_law_192 ?_
        obtain ⟨hb, h⟩ := it_n h
        refine s_sld C hX dL_law_193 hb ?_
        refine s_aload_n C dL_law_194 rfl rfl ?_
        refine s_iload_n C dL_law_195 rfl rfl ?_
        refine s_iconst C dL_law_196 ic_3 ?_
        refine s_iadd C dL_law_197 ?_
        obtain ⟨hb, h⟩ := it_n h
        refine s_sld C hX dL_law_198 hb ?_
        obtain ⟨r2, I2, hh, h⟩ := bd_e h
        refine s_cV0 (st := [.int r1]) C hR (Nat.le_trans (by decide) hd) mwX5_put_ mlL_17 dL_law_199 (wX5_put_ (d := 44) (Nat.le_refl _)  hh) kk_163 rfl rfl (Nat.le_of_ble_eq_true rfl) ?_
        refine s_icmp_eq (tgt := 980) C dL_law_202 (by decide) (fun c => ?_) (fun c => ?_)
        · have h := it_t c h
          obtain ⟨v1, ev1, h⟩ := ltm_e h
          refine s_iinc (v := v1) (ls' := [some (.ref b), some (rfX X 0), some (rfX X 163), some (.int v1)]) C dL_law_980 rfl (by decide) (Nat.le_of_ble_eq_true rfl) (by rw [ev1, ic_4]) rfl rfl ?_
          refine s_goto (tgt := 18) C dL_law_983 (by decide) ?_
          exact ih h
        · have h := it_f c h
          refine s_iconst C dL_law_205 ic_0 ?_
          exact absurd (pr_e h).1 (by decide)
      have h := it_f c1 h
      by_cases c2 : ((xs x3.toNatClampNeg) &&& 31) = 1
      · have h := it_t c2 h
        refine s_tableIn (off := 175) (tgt := 207) C dL_law_32 (by rw [c2]; decide +kernel) (by rw [c2]; decide +kernel) (by rw [c2]; decide +kernel) (by decide) ?_
        refine s_aload_n C dL_law_207 rfl rfl ?_
        refine s_aload_n C dL_law_208 rfl rfl ?_
        refine s_iload_n C dL_law_209 rfl rfl ?_
        refine s_iconst C dL_law_210 ic_1 ?_
        refine s_iadd C dL_law_211 ?_
        obtain ⟨hb, h⟩ := it_n h
        refine s_sld C hX dL_law_212 hb ?_
        refine s_aload_n C dL_law_213 rfl rfl ?_
        refine s_iload_n C dL_law_214 rfl rfl ?_
        refine s_iconst C dL_law_215 ic_2 ?_
        refine s_iadd C dL_law_216 ?_
        obtain ⟨hb, h⟩ := it_n h
        refine s_sld C hX dL_law_217 hb ?_
        obtain ⟨r1, I1, hh, h⟩ := bd_e h
        refine s_cV0 (st := []) C hR (Nat.le_trans (by decide) hd) mwX4_take mlL_18 dL_law_218 (wX4_take (d := 46) (Nat.le_refl _)  hh) kk_0 rfl rfl (Nat.le_of_ble_eq_true rfl) ?_
        refine s_aload_n C dL_law_221 rfl rfl ?_
        refine s_aload_n C dL_law_222 rfl rfl ?_
        refine s_iload_n C dL_law_223 rfl rfl ?_
        refine s_iconst C dL_law_224 ic_1 ?_
        refine s_iadd C dL_law_225 ?_
        obtain ⟨hb, h⟩ := it_n h
        refine s_sld C hX dL_law_226 hb ?_
        refine s_aload_n C dL_law_227 rfl rfl ?_
        refine s_iload_n C dL_law_228 rfl rfl ?_
        refine s_iconst C dL_law_229 ic_2 ?_
        refine s_iadd C dL_law_230 ?_
        obtain ⟨hb, h⟩ := it_n h
        refine s_sld C hX dL_law_231 hb ?_
        obtain ⟨r2, I2, hh, h⟩ := bd_e h
        refine s_cV0 (st := [.int r1]) C hR (Nat.le_trans (by decide) hd) mwX5_take mlL_22 dL_law_232 (wX5_take (d := 45) (Nat.le_refl _)  hh) kk_163 rfl rfl (Nat.le_of_ble_eq_true rfl) ?_
        refine s_icmp_eq (tgt := 980) C dL_law_235 (by decide) (fun c => ?_) (fun c => ?_)
        · have h := it_t c h
          obtain ⟨v1, ev1, h⟩ := ltm_e h
          refine s_iinc (v := v1) (ls' := [some (.ref b), some (rfX X 0), some (rfX X 163), some (.int v1)]) C dL_law_980 rfl (by decide) (Nat.le_of_ble_eq_true rfl) (by rw [ev1, ic_4]) rfl rfl ?_
          refine s_goto (tgt := 18) C dL_law_983 (by decide) ?_
          exact ih h
        · have h := it_f c h
          refine s_iconst C dL_law_238 ic_0 ?_
          exact absurd (pr_e h).1 (by decide)
      have h := it_f c2 h
      by_cases c3 : ((xs x3.toNatClampNeg) &&& 31) = 2
      · have h := it_t c3 h
        refine s_tableIn (off := 208) (tgt := 240) C dL_law_32 (by rw [c3]; decide +kernel) (by rw [c3]; decide +kernel) (by rw [c3]; decide +kernel) (by decide) ?_
        refine s_aload_n C dL_law_240 rfl rfl ?_
        refine s_aload_n C dL_law_241 rfl rfl ?_
        refine s_iload_n C dL_law_242 rfl rfl ?_
        refine s_iconst C dL_law_243 ic_1 ?_
        refine s_iadd C dL_law_244 ?_
        obtain ⟨hb, h⟩ := it_n h
        refine s_sld C hX dL_law_245 hb ?_
        obtain ⟨r1, I1, hh, h⟩ := bd_e h
        refine s_cV0 (st := []) C hR (Nat.le_trans (by decide) hd) mwX4_build mlL_23 dL_law_246 (wX4_build (d := 46) (Nat.le_refl _)  hh) kk_0 rfl rfl (Nat.le_of_ble_eq_true rfl) ?_
        refine s_aload_n C dL_law_249 rfl rfl ?_
        refine s_aload_n C dL_law_250 rfl rfl ?_
        refine s_iload_n C dL_law_251 rfl rfl ?_
        refine s_iconst C dL_law_252 ic_1 ?_
        refine s_iadd C dL_law_253 ?_
        obtain ⟨hb, h⟩ := it_n h
        refine s_sld C hX dL_law_254 hb ?_
        obtain ⟨r2, I2, hh, h⟩ := bd_e h
        refine s_cV0 (st := [.int r1]) C hR (Nat.le_trans (by decide) hd) mwX5_build mlL_27 dL_law_255 (wX5_build (d := 45) (Nat.le_refl _)  hh) kk_163 rfl rfl (Nat.le_of_ble_eq_true rfl) ?_
        refine s_icmp_eq (tgt := 980) C dL_law_258 (by decide) (fun c => ?_) (fun c => ?_)
        · have h := it_t c h
          obtain ⟨v1, ev1, h⟩ := ltm_e h
          refine s_iinc (v := v1) (ls' := [some (.ref b), some (rfX X 0), some (rfX X 163), some (.int v1)]) C dL_law_980 rfl (by decide) (Nat.le_of_ble_eq_true rfl) (by rw [ev1, ic_4]) rfl rfl ?_
          refine s_goto (tgt := 18) C dL_law_983 (by decide) ?_
          exact ih h
        · have h := it_f c h
          refine s_iconst C dL_law_261 ic_0 ?_
          exact absurd (pr_e h).1 (by decide)
      have h := it_f c3 h
      by_cases c4 : ((xs x3.toNatClampNeg) &&& 31) = 3
      · have h := it_t c4 h
        refine s_tableIn (off := 231) (tgt := 263) C dL_law_32 (by rw [c4]; decide +kernel) (by rw [c4]; decide +kernel) (by rw [c4]; decide +kernel) (by decide) ?_
        refine s_aload_n C dL_law_263 rfl rfl ?_
        refine s_aload_n C dL_law_264 rfl rfl ?_
        refine s_iload_n C dL_law_265 rfl rfl ?_
        refine s_iconst C dL_law_266 ic_1 ?_
        refine s_iadd C dL_law_267 ?_
        obtain ⟨hb, h⟩ := it_n h
        refine s_sld C hX dL_law_268 hb ?_
        refine s_aload_n C dL_law_269 rfl rfl ?_
        refine s_iload_n C dL_law_270 rfl rfl ?_
        refine s_iconst C dL_law_271 ic_2 ?_
        refine s_iadd C dL_law_272 ?_
        obtain ⟨hb, h⟩ := it_n h
        refine s_sld C hX dL_law_273 hb ?_
        obtain ⟨r1, I1, hh, h⟩ := bd_e h
        refine s_cV0 (st := []) C hR (Nat.le_trans (by decide) hd) mwX4_pour mlL_28 dL_law_274 (wX4_pour (d := 46) (Nat.le_refl _)  hh) kk_0 rfl rfl (Nat.le_of_ble_eq_true rfl) ?_
        refine s_aload_n C dL_law_277 rfl rfl ?_
        refine s_aload_n C dL_law_278 rfl rfl ?_
        refine s_iload_n C dL_law_279 rfl rfl ?_
        refine s_iconst C dL_law_280 ic_1 ?_
        refine s_iadd C dL_law_281 ?_
        obtain ⟨hb, h⟩ := it_n h
        refine s_sld C hX dL_law_282 hb ?_
        refine s_aload_n C dL_law_283 rfl rfl ?_
        refine s_iload_n C dL_law_284 rfl rfl ?_
        refine s_iconst C dL_law_285 ic_2 ?_
        refine s_iadd C dL_law_286 ?_
        obtain ⟨hb, h⟩ := it_n h
        refine s_sld C hX dL_law_287 hb ?_
        obtain ⟨r2, I2, hh, h⟩ := bd_e h
        refine s_cV0 (st := [.int r1]) C hR (Nat.le_trans (by decide) hd) mwX5_pour mlL_31 dL_law_288 (wX5_pour (d := 45) (Nat.le_refl _)  hh) kk_163 rfl rfl (Nat.le_of_ble_eq_true rfl) ?_
        refine s_icmp_eq (tgt := 980) C dL_law_291 (by decide) (fun c => ?_) (fun c => ?_)
        · have h := it_t c h
          obtain ⟨v1, ev1, h⟩ := ltm_e h
          refine s_iinc (v := v1) (ls' := [some (.ref b), some (rfX X 0), some (rfX X 163), some (.int v1)]) C dL_law_980 rfl (by decide) (Nat.le_of_ble_eq_true rfl) (by rw [ev1, ic_4]) rfl rfl ?_
          refine s_goto (tgt := 18) C dL_law_983 (by decide) ?_
          exact ih h
        · have h := it_f c h
          refine s_iconst C dL_law_294 ic_0 ?_
          exact absurd (pr_e h).1 (by decide)
      have h := it_f c4 h
      by_cases c5 : ((xs x3.toNatClampNeg) &&& 31) = 4
      · have h := it_t c5 h
        refine s_tableIn (off := 264) (tgt := 296) C dL_law_32 (by rw [c5]; decide +kernel) (by rw [c5]; decide +kernel) (by rw [c5]; decide +kernel) (by decide) ?_
        refine s_aload_n C dL_law_296 rfl rfl ?_
        refine s_aload_n C dL_law_297 rfl rfl ?_
        refine s_iload_n C dL_law_298 rfl rfl ?_
        refine s_iconst C dL_law_299 ic_1 ?_
        refine s_iadd C dL_law_300 ?_
        obtain ⟨hb, h⟩ := it_n h
        refine s_sld C hX dL_law_301 hb ?_
        obtain ⟨r1, I1, hh, h⟩ := bd_e h
        refine s_cV0 (st := []) C hR (Nat.le_trans (by decide) hd) mwX4_limit mlL_32 dL_law_302 (wX4_limit (d := 4) (Nat.le_refl _)  hh) kk_0 rfl rfl (Nat.le_of_ble_eq_true rfl) ?_
        refine s_aload_n C dL_law_305 rfl rfl ?_
        refine s_aload_n C dL_law_306 rfl rfl ?_
        refine s_iload_n C dL_law_307 rfl rfl ?_
        refine s_iconst C dL_law_308 ic_1 ?_
        refine s_iadd C dL_law_309 ?_
        obtain ⟨hb, h⟩ := it_n h
        refine s_sld C hX dL_law_310 hb ?_
        obtain ⟨r2, I2, hh, h⟩ := bd_e h
        refine s_cV0 (st := [.int r1]) C hR (Nat.le_trans (by decide) hd) mwX5_limit mlL_35 dL_law_311 (wX5_limit (d := 4) (Nat.le_refl _)  hh) kk_163 rfl rfl (Nat.le_of_ble_eq_true rfl) ?_
        refine s_icmp_eq (tgt := 980) C dL_law_314 (by decide) (fun c => ?_) (fun c => ?_)
        · have h := it_t c h
          obtain ⟨v1, ev1, h⟩ := ltm_e h
          refine s_iinc (v := v1) (ls' := [some (.ref b), some (rfX X 0), some (rfX X 163), some (.int v1)]) C dL_law_980 rfl (by decide) (Nat.le_of_ble_eq_true rfl) (by rw [ev1, ic_4]) rfl rfl ?_
          refine s_goto (tgt := 18) C dL_law_983 (by decide) ?_
          exact ih h
        · have h := it_f c h
          refine s_iconst C dL_law_317 ic_0 ?_
          exact absurd (pr_e h).1 (by decide)
      have h := it_f c5 h
      by_cases c6 : ((xs x3.toNatClampNeg) &&& 31) = 5
      · have h := it_t c6 h
        refine s_tableIn (off := 287) (tgt := 319) C dL_law_32 (by rw [c6]; decide +kernel) (by rw [c6]; decide +kernel) (by rw [c6]; decide +kernel) (by decide) ?_
        refine s_aload_n C dL_law_319 rfl rfl ?_
        refine s_aload_n C dL_law_320 rfl rfl ?_
        refine s_iload_n C dL_law_321 rfl rfl ?_
        refine s_iconst C dL_law_322 ic_1 ?_
        refine s_iadd C dL_law_323 ?_
        obtain ⟨hb, h⟩ := it_n h
        refine s_sld C hX dL_law_324 hb ?_
        refine s_aload_n C dL_law_325 rfl rfl ?_
        refine s_iload_n C dL_law_326 rfl rfl ?_
        refine s_iconst C dL_law_327 ic_2 ?_
        refine s_iadd C dL_law_328 ?_
        obtain ⟨hb, h⟩ := it_n h
        refine s_sld C hX dL_law_329 hb ?_
        refine s_aload_n C dL_law_330 rfl rfl ?_
        refine s_iload_n C dL_law_331 rfl rfl ?_
        refine s_iconst C dL_law_332 ic_3 ?_
        refine s_iadd C dL_law_333 ?_
        obtain ⟨hb, h⟩ := it_n h
        refine s_sld C hX dL_law_334 hb ?_
        obtain ⟨r1, I1, hh, h⟩ := bd_e h
        refine s_cV0 (st := []) C hR (Nat.le_trans (by decide) hd) mwX4_sheafOf mlL_36 dL_law_335 (wX4_sheafOf (d := 4) (Nat.le_refl _)  hh) kk_0 rfl rfl (Nat.le_of_ble_eq_true rfl) ?_
        refine s_aload_n C dL_law_338 rfl rfl ?_
        refine s_aload_n C dL_law_339 rfl rfl ?_
        refine s_iload_n C dL_law_340 rfl rfl ?_
        refine s_iconst C dL_law_341 ic_1 ?_
        refine s_iadd C dL_law_342 ?_
        obtain ⟨hb, h⟩ := it_n h
        refine s_sld C hX dL_law_343 hb ?_
        refine s_aload_n C dL_law_344 rfl rfl ?_
        refine s_iload_n C dL_law_345 rfl rfl ?_
        refine s_iconst C dL_law_346 ic_2 ?_
        refine s_iadd C dL_law_347 ?_
        obtain ⟨hb, h⟩ := it_n h
        refine s_sld C hX dL_law_348 hb ?_
        refine s_aload_n C dL_law_349 rfl rfl ?_
        refine s_iload_n C dL_law_350 rfl rfl ?_
        refine s_iconst C dL_law_351 ic_3 ?_
        refine s_iadd C dL_law_352 ?_
        obtain ⟨hb, h⟩ := it_n h
        refine s_sld C hX dL_law_353 hb ?_
        obtain ⟨r2, I2, hh, h⟩ := bd_e h
        refine s_cV0 (st := [.int r1]) C hR (Nat.le_trans (by decide) hd) mwX5_sheafOf mlL_39 dL_law_354 (wX5_sheafOf (d := 44) (Nat.le_refl _)  hh) kk_163 rfl rfl (Nat.le_of_ble_eq_true rfl) ?_
        refine s_icmp_eq (tgt := 980) C dL_law_357 (by decide) (fun c => ?_) (fun c => ?_)
        · have h := it_t c h
          obtain ⟨v1, ev1, h⟩ := ltm_e h
          refine s_iinc (v := v1) (ls' := [some (.ref b), some (rfX X 0), some (rfX X 163), some (.int v1)]) C dL_law_980 rfl (by decide) (Nat.le_of_ble_eq_true rfl) (by rw [ev1, ic_4]) rfl rfl ?_
          refine s_goto (tgt := 18) C dL_law_983 (by decide) ?_
          exact ih h
        · have h := it_f c h
          refine s_iconst C dL_law_360 ic_0 ?_
          exact absurd (pr_e h).1 (by decide)
      have h := it_f c6 h
      by_cases c7 : ((xs x3.toNatClampNeg) &&& 31) = 6
      · have h := it_t c7 h
        refine s_tableIn (off := 330) (tgt := 362) C dL_law_32 (by rw [c7]; decide +kernel) (by rw [c7]; decide +kernel) (by rw [c7]; decide +kernel) (by decide) ?_
        refine s_aload_n C dL_law_362 rfl rfl ?_
        refine s_aload_n C dL_law_363 rfl rfl ?_
        refine s_iload_n C dL_law_364 rfl rfl ?_
        refine s_iconst C dL_law_365 ic_1 ?_
        refine s_iadd C dL_law_366 ?_
        obtain ⟨hb, h⟩ := it_n h
        refine s_sld C hX dL_law_367 hb ?_
        refine s_aload_n C dL_law_368 rfl rfl ?_
        refine s_iload_n C dL_law_369 rfl rfl ?_
        refine s_iconst C dL_law_370 ic_2 ?_
        refine s_iadd C dL_law_371 ?_
        obtain ⟨hb, h⟩ := it_n h
        refine s_sld C hX dL_law_372 hb ?_
        obtain ⟨r1, I1, hh, h⟩ := bd_e h
        refine s_cV0 (st := []) C hR (Nat.le_trans (by decide) hd) mwX4_rickOf mlL_40 dL_law_373 (wX4_rickOf (d := 5) (Nat.le_refl _)  hh) kk_0 rfl rfl (Nat.le_of_ble_eq_true rfl) ?_
        refine s_aload_n C dL_law_376 rfl rfl ?_
        refine s_aload_n C dL_law_377 rfl rfl ?_
        refine s_iload_n C dL_law_378 rfl rfl ?_
        refine s_iconst C dL_law_379 ic_1 ?_
        refine s_iadd C dL_law_380 ?_
        obtain ⟨hb, h⟩ := it_n h
        refine s_sld C hX dL_law_381 hb ?_
        refine s_aload_n C dL_law_382 rfl rfl ?_
        refine s_iload_n C dL_law_383 rfl rfl ?_
        refine s_iconst C dL_law_384 ic_2 ?_
        refine s_iadd C dL_law_385 ?_
        obtain ⟨hb, h⟩ := it_n h
        refine s_sld C hX dL_law_386 hb ?_
        obtain ⟨r2, I2, hh, h⟩ := bd_e h
        refine s_cV0 (st := [.int r1]) C hR (Nat.le_trans (by decide) hd) mwX5_rickOf mlL_43 dL_law_387 (wX5_rickOf (d := 45) (Nat.le_refl _)  hh) kk_163 rfl rfl (Nat.le_of_ble_eq_true rfl) ?_
        refine s_icmp_eq (tgt := 980) C dL_law_390 (by decide) (fun c => ?_) (fun c => ?_)
        · have h := it_t c h
          obtain ⟨v1, ev1, h⟩ := ltm_e h
          refine s_iinc (v := v1) (ls' := [some (.ref b), some (rfX X 0), some (rfX X 163), some (.int v1)]) C dL_law_980 rfl (by decide) (Nat.le_of_ble_eq_true rfl) (by rw [ev1, ic_4]) rfl rfl ?_
          refine s_goto (tgt := 18) C dL_law_983 (by decide) ?_
          exact ih h
        · have h := it_f c h
          refine s_iconst C dL_law_393 ic_0 ?_
          exact absurd (pr_e h).1 (by decide)
      have h := it_f c7 h
      by_cases c8 : ((xs x3.toNatClampNeg) &&& 31) = 7
      · have h := it_t c8 h
        refine s_tableIn (off := 363) (tgt := 395) C dL_law_32 (by rw [c8]; decide +kernel) (by rw [c8]; decide +kernel) (by rw [c8]; decide +kernel) (by decide) ?_
        refine s_aload_n C dL_law_395 rfl rfl ?_
        refine s_aload_n C dL_law_396 rfl rfl ?_
        refine s_iload_n C dL_law_397 rfl rfl ?_
        refine s_iconst C dL_law_398 ic_1 ?_
        refine s_iadd C dL_law_399 ?_
        obtain ⟨hb, h⟩ := it_n h
        refine s_sld C hX dL_law_400 hb ?_
        refine s_aload_n C dL_law_401 rfl rfl ?_
        refine s_iload_n C dL_law_402 rfl rfl ?_
        refine s_iconst C dL_law_403 ic_2 ?_
        refine s_iadd C dL_law_404 ?_
        obtain ⟨hb, h⟩ := it_n h
        refine s_sld C hX dL_law_405 hb ?_
        obtain ⟨r1, I1, hh, h⟩ := bd_e h
        refine s_cV0 (st := []) C hR (Nat.le_trans (by decide) hd) mwX4_rank mlL_44 dL_law_406 (wX4_rank (d := 4) (Nat.le_refl _)  hh) kk_0 rfl rfl (Nat.le_of_ble_eq_true rfl) ?_
        refine s_aload_n C dL_law_409 rfl rfl ?_
        refine s_aload_n C dL_law_410 rfl rfl ?_
        refine s_iload_n C dL_law_411 rfl rfl ?_
        refine s_iconst C dL_law_412 ic_1 ?_
        refine s_iadd C dL_law_413 ?_
        obtain ⟨hb, h⟩ := it_n h
        refine s_sld C hX dL_law_414 hb ?_
        refine s_aload_n C dL_law_415 rfl rfl ?_
        refine s_iload_n C dL_law_416 rfl rfl ?_
        refine s_iconst C dL_law_417 ic_2 ?_
        refine s_iadd C dL_law_418 ?_
        obtain ⟨hb, h⟩ := it_n h
        refine s_sld C hX dL_law_419 hb ?_
        obtain ⟨r2, I2, hh, h⟩ := bd_e h
        refine s_cV0 (st := [.int r1]) C hR (Nat.le_trans (by decide) hd) mwX5_rank mlL_47 dL_law_420 (wX5_rank (d := 44) (Nat.le_refl _)  hh) kk_163 rfl rfl (Nat.le_of_ble_eq_true rfl) ?_
        refine s_icmp_eq (tgt := 980) C dL_law_423 (by decide) (fun c => ?_) (fun c => ?_)
        · have h := it_t c h
          obtain ⟨v1, ev1, h⟩ := ltm_e h
          refine s_iinc (v := v1) (ls' := [some (.ref b), some (rfX X 0), some (rfX X 163), some (.int v1)]) C dL_law_980 rfl (by decide) (Nat.le_of_ble_eq_true rfl) (by rw [ev1, ic_4]) rfl rfl ?_
          refine s_goto (tgt := 18) C dL_law_983 (by decide) ?_
          exact ih h
        · have h := it_f c h
          refine s_iconst C dL_law_426 ic_0 ?_
          exact absurd (pr_e h).1 (by decide)
      have h := it_f c8 h
      by_cases c9 : ((xs x3.toNatClampNeg) &&& 31) = 8
      · have h := it_t c9 h
        refine s_tableIn (off := 396) (tgt := 428) C dL_law_32 (by rw [c9]; decide +kernel) (by rw [c9]; decide +kernel) (by rw [c9]; decide +kernel) (by decide) ?_
        refine s_aload_n C dL_law_428 rfl rfl ?_
        refine s_aload_n C dL_law_429 rfl rfl ?_
        refine s_iload_n C dL_law_430 rfl rfl ?_
        refine s_iconst C dL_law_431 ic_1 ?_
        refine s_iadd C dL_law_432 ?_
        obtain ⟨hb, h⟩ := it_n h
        refine s_sld C hX dL_law_433 hb ?_
        refine s_aload_n C dL_law_434 rfl rfl ?_
        refine s_iload_n C dL_law_435 rfl rfl ?_
        refine s_iconst C dL_law_436 ic_2 ?_
        refine s_iadd C dL_law_437 ?_
        obtain ⟨hb, h⟩ := it_n h
        refine s_sld C hX dL_law_438 hb ?_
        obtain ⟨r1, I1, hh, h⟩ := bd_e h
        refine s_cV0 (st := []) C hR (Nat.le_trans (by decide) hd) mwX4_rankAgain mlL_48 dL_law_439 (wX4_rankAgain (d := 3) (Nat.le_refl _)  hh) kk_0 rfl rfl (Nat.le_of_ble_eq_true rfl) ?_
        refine s_aload_n C dL_law_442 rfl rfl ?_
        refine s_aload_n C dL_law_443 rfl rfl ?_
        refine s_iload_n C dL_law_444 rfl rfl ?_
        refine s_iconst C dL_law_445 ic_1 ?_
        refine s_iadd C dL_law_446 ?_
        obtain ⟨hb, h⟩ := it_n h
        refine s_sld C hX dL_law_447 hb ?_
        refine s_aload_n C dL_law_448 rfl rfl ?_
        refine s_iload_n C dL_law_449 rfl rfl ?_
        refine s_iconst C dL_law_450 ic_2 ?_
        refine s_iadd C dL_law_451 ?_
        obtain ⟨hb, h⟩ := it_n h
        refine s_sld C hX dL_law_452 hb ?_
        obtain ⟨r2, I2, hh, h⟩ := bd_e h
        refine s_cV0 (st := [.int r1]) C hR (Nat.le_trans (by decide) hd) mwX5_rankAgain mlL_51 dL_law_453 (wX5_rankAgain (d := 45) (Nat.le_refl _)  hh) kk_163 rfl rfl (Nat.le_of_ble_eq_true rfl) ?_
        refine s_icmp_eq (tgt := 980) C dL_law_456 (by decide) (fun c => ?_) (fun c => ?_)
        · have h := it_t c h
          obtain ⟨v1, ev1, h⟩ := ltm_e h
          refine s_iinc (v := v1) (ls' := [some (.ref b), some (rfX X 0), some (rfX X 163), some (.int v1)]) C dL_law_980 rfl (by decide) (Nat.le_of_ble_eq_true rfl) (by rw [ev1, ic_4]) rfl rfl ?_
          refine s_goto (tgt := 18) C dL_law_983 (by decide) ?_
          exact ih h
        · have h := it_f c h
          refine s_iconst C dL_law_459 ic_0 ?_
          exact absurd (pr_e h).1 (by decide)
      have h := it_f c9 h
      by_cases c10 : ((xs x3.toNatClampNeg) &&& 31) = 9
      · have h := it_t c10 h
        refine s_tableIn (off := 429) (tgt := 461) C dL_law_32 (by rw [c10]; decide +kernel) (by rw [c10]; decide +kernel) (by rw [c10]; decide +kernel) (by decide) ?_
        refine s_aload_n C dL_law_461 rfl rfl ?_
        refine s_aload_n C dL_law_462 rfl rfl ?_
        refine s_iload_n C dL_law_463 rfl rfl ?_
        refine s_iconst C dL_law_464 ic_1 ?_
        refine s_iadd C dL_law_465 ?_
        obtain ⟨hb, h⟩ := it_n h
        refine s_sld C hX dL_law_466 hb ?_
        refine s_aload_n C dL_law_467 rfl rfl ?_
        refine s_iload_n C dL_law_468 rfl rfl ?_
        refine s_iconst C dL_law_469 ic_2 ?_
        refine s_iadd C dL_law_470 ?_
        obtain ⟨hb, h⟩ := it_n h
        refine s_sld C hX dL_law_471 hb ?_
        obtain ⟨r1, I1, hh, h⟩ := bd_e h
        refine s_cV0 (st := []) C hR (Nat.le_trans (by decide) hd) mwX4_at mlL_52 dL_law_472 (wX4_at (d := 2) (Nat.le_refl _)  hh) kk_0 rfl rfl (Nat.le_of_ble_eq_true rfl) ?_
        refine s_aload_n C dL_law_475 rfl rfl ?_
        refine s_aload_n C dL_law_476 rfl rfl ?_
        refine s_iload_n C dL_law_477 rfl rfl ?_
        refine s_iconst C dL_law_478 ic_1 ?_
        refine s_iadd C dL_law_479 ?_
        obtain ⟨hb, h⟩ := it_n h
        refine s_sld C hX dL_law_480 hb ?_
        refine s_aload_n C dL_law_481 rfl rfl ?_
        refine s_iload_n C dL_law_482 rfl rfl ?_
        refine s_iconst C dL_law_483 ic_2 ?_
        refine s_iadd C dL_law_484 ?_
        obtain ⟨hb, h⟩ := it_n h
        refine s_sld C hX dL_law_485 hb ?_
        obtain ⟨r2, I2, hh, h⟩ := bd_e h
        refine s_cV0 (st := [.int r1]) C hR (Nat.le_trans (by decide) hd) mwX5_at mlL_55 dL_law_486 (wX5_at (d := 44) (Nat.le_refl _)  hh) kk_163 rfl rfl (Nat.le_of_ble_eq_true rfl) ?_
        refine s_icmp_eq (tgt := 980) C dL_law_489 (by decide) (fun c => ?_) (fun c => ?_)
        · have h := it_t c h
          obtain ⟨v1, ev1, h⟩ := ltm_e h
          refine s_iinc (v := v1) (ls' := [some (.ref b), some (rfX X 0), some (rfX X 163), some (.int v1)]) C dL_law_980 rfl (by decide) (Nat.le_of_ble_eq_true rfl) (by rw [ev1, ic_4]) rfl rfl ?_
          refine s_goto (tgt := 18) C dL_law_983 (by decide) ?_
          exact ih h
        · have h := it_f c h
          refine s_iconst C dL_law_492 ic_0 ?_
          exact absurd (pr_e h).1 (by decide)
      have h := it_f c10 h
      by_cases c11 : ((xs x3.toNatClampNeg) &&& 31) = 10
      · have h := it_t c11 h
        refine s_tableIn (off := 462) (tgt := 494) C dL_law_32 (by rw [c11]; decide +kernel) (by rw [c11]; decide +kernel) (by rw [c11]; decide +kernel) (by decide) ?_
        refine s_aload_n C dL_law_494 rfl rfl ?_
        refine s_aload_n C dL_law_495 rfl rfl ?_
        refine s_iload_n C dL_law_496 rfl rfl ?_
        refine s_iconst C dL_law_497 ic_1 ?_
        refine s_iadd C dL_law_498 ?_
        obtain ⟨hb, h⟩ := it_n h
        refine s_sld C hX dL_law_499 hb ?_
        refine s_aload_n C dL_law_500 rfl rfl ?_
        refine s_iload_n C dL_law_501 rfl rfl ?_
        refine s_iconst C dL_law_502 ic_2 ?_
        refine s_iadd C dL_law_503 ?_
        obtain ⟨hb, h⟩ := it_n h
        refine s_sld C hX dL_law_504 hb ?_
        refine s_aload_n C dL_law_505 rfl rfl ?_
        refine s_iload_n C dL_law_506 rfl rfl ?_
        refine s_iconst C dL_law_507 ic_3 ?_
        refine s_iadd C dL_law_508 ?_
        obtain ⟨hb, h⟩ := it_n h
        refine s_sld C hX dL_law_509 hb ?_
        obtain ⟨r1, I1, hh, h⟩ := bd_e h
        refine s_cV0 (st := []) C hR (Nat.le_trans (by decide) hd) mwX4_between mlL_56 dL_law_510 (wX4_between (d := 5) (Nat.le_refl _)  hh) kk_0 rfl rfl (Nat.le_of_ble_eq_true rfl) ?_
        refine s_aload_n C dL_law_513 rfl rfl ?_
        refine s_aload_n C dL_law_514 rfl rfl ?_
        refine s_iload_n C dL_law_515 rfl rfl ?_
        refine s_iconst C dL_law_516 ic_1 ?_
        refine s_iadd C dL_law_517 ?_
        obtain ⟨hb, h⟩ := it_n h
        refine s_sld C hX dL_law_518 hb ?_
        refine s_aload_n C dL_law_519 rfl rfl ?_
        refine s_iload_n C dL_law_520 rfl rfl ?_
        refine s_iconst C dL_law_521 ic_2 ?_
        refine s_iadd C dL_law_522 ?_
        obtain ⟨hb, h⟩ := it_n h
        refine s_sld C hX dL_law_523 hb ?_
        refine s_aload_n C dL_law_524 rfl rfl ?_
        refine s_iload_n C dL_law_525 rfl rfl ?_
        refine s_iconst C dL_law_526 ic_3 ?_
        refine s_iadd C dL_law_527 ?_
        obtain ⟨hb, h⟩ := it_n h
        refine s_sld C hX dL_law_528 hb ?_
        obtain ⟨r2, I2, hh, h⟩ := bd_e h
        refine s_cV0 (st := [.int r1]) C hR (Nat.le_trans (by decide) hd) mwX5_between mlL_59 dL_law_529 (wX5_between (d := 44) (Nat.le_refl _)  hh) kk_163 rfl rfl (Nat.le_of_ble_eq_true rfl) ?_
        refine s_icmp_eq (tgt := 980) C dL_law_532 (by decide) (fun c => ?_) (fun c => ?_)
        · have h := it_t c h
          obtain ⟨v1, ev1, h⟩ := ltm_e h
          refine s_iinc (v := v1) (ls' := [some (.ref b), some (rfX X 0), some (rfX X 163), some (.int v1)]) C dL_law_980 rfl (by decide) (Nat.le_of_ble_eq_true rfl) (by rw [ev1, ic_4]) rfl rfl ?_
          refine s_goto (tgt := 18) C dL_law_983 (by decide) ?_
          exact ih h
        · have h := it_f c h
          refine s_iconst C dL_law_535 ic_0 ?_
          exact absurd (pr_e h).1 (by decide)
      have h := it_f c11 h
      by_cases c12 : ((xs x3.toNatClampNeg) &&& 31) = 11
      · have h := it_t c12 h
        refine s_tableIn (off := 505) (tgt := 537) C dL_law_32 (by rw [c12]; decide +kernel) (by rw [c12]; decide +kernel) (by rw [c12]; decide +kernel) (by decide) ?_
        refine s_aload_n C dL_law_537 rfl rfl ?_
        refine s_aload_n C dL_law_538 rfl rfl ?_
        refine s_iload_n C dL_law_539 rfl rfl ?_
        refine s_iconst C dL_law_540 ic_1 ?_
        refine s_iadd C dL_law_541 ?_
        obtain ⟨hb, h⟩ := it_n h
        refine s_sld C hX dL_law_542 hb ?_
        refine s_aload_n C dL_law_543 rfl rfl ?_
        refine s_iload_n C dL_law_544 rfl rfl ?_
        refine s_iconst C dL_law_545 ic_2 ?_
        refine s_iadd C dL_law_546 ?_
        obtain ⟨hb, h⟩ := it_n h
        refine s_sld C hX dL_law_547 hb ?_
        refine s_aload_n C dL_law_548 rfl rfl ?_
        refine s_iload_n C dL_law_549 rfl rfl ?_
        refine s_iconst C dL_law_550 ic_3 ?_
        refine s_iadd C dL_law_551 ?_
        obtain ⟨hb, h⟩ := it_n h
        refine s_sld C hX dL_law_552 hb ?_
        obtain ⟨r1, I1, hh, h⟩ := bd_e h
        refine s_cV0 (st := []) C hR (Nat.le_trans (by decide) hd) mwX4_betweenAgain mlL_60 dL_law_553 (wX4_betweenAgain (d := 3) (Nat.le_refl _)  hh) kk_0 rfl rfl (Nat.le_of_ble_eq_true rfl) ?_
        refine s_aload_n C dL_law_556 rfl rfl ?_
        refine s_aload_n C dL_law_557 rfl rfl ?_
        refine s_iload_n C dL_law_558 rfl rfl ?_
        refine s_iconst C dL_law_559 ic_1 ?_
        refine s_iadd C dL_law_560 ?_
        obtain ⟨hb, h⟩ := it_n h
        refine s_sld C hX dL_law_561 hb ?_
        refine s_aload_n C dL_law_562 rfl rfl ?_
        refine s_iload_n C dL_law_563 rfl rfl ?_
        refine s_iconst C dL_law_564 ic_2 ?_
        refine s_iadd C dL_law_565 ?_
        obtain ⟨hb, h⟩ := it_n h
        refine s_sld C hX dL_law_566 hb ?_
        refine s_aload_n C dL_law_567 rfl rfl ?_
        refine s_iload_n C dL_law_568 rfl rfl ?_
        refine s_iconst C dL_law_569 ic_3 ?_
        refine s_iadd C dL_law_570 ?_
        obtain ⟨hb, h⟩ := it_n h
        refine s_sld C hX dL_law_571 hb ?_
        obtain ⟨r2, I2, hh, h⟩ := bd_e h
        refine s_cV0 (st := [.int r1]) C hR (Nat.le_trans (by decide) hd) mwX5_betweenAgain mlL_63 dL_law_572 (wX5_betweenAgain (d := 45) (Nat.le_refl _)  hh) kk_163 rfl rfl (Nat.le_of_ble_eq_true rfl) ?_
        refine s_icmp_eq (tgt := 980) C dL_law_575 (by decide) (fun c => ?_) (fun c => ?_)
        · have h := it_t c h
          obtain ⟨v1, ev1, h⟩ := ltm_e h
          refine s_iinc (v := v1) (ls' := [some (.ref b), some (rfX X 0), some (rfX X 163), some (.int v1)]) C dL_law_980 rfl (by decide) (Nat.le_of_ble_eq_true rfl) (by rw [ev1, ic_4]) rfl rfl ?_
          refine s_goto (tgt := 18) C dL_law_983 (by decide) ?_
          exact ih h
        · have h := it_f c h
          refine s_iconst C dL_law_578 ic_0 ?_
          exact absurd (pr_e h).1 (by decide)
      have h := it_f c12 h
      by_cases c13 : ((xs x3.toNatClampNeg) &&& 31) = 12
      · have h := it_t c13 h
        refine s_tableIn (off := 548) (tgt := 580) C dL_law_32 (by rw [c13]; decide +kernel) (by rw [c13]; decide +kernel) (by rw [c13]; decide +kernel) (by decide) ?_
        refine s_aload_n C dL_law_580 rfl rfl ?_
        refine s_aload_n C dL_law_581 rfl rfl ?_
        refine s_iload_n C dL_law_582 rfl rfl ?_
        refine s_iconst C dL_law_583 ic_1 ?_
        refine s_iadd C dL_law_584 ?_
        obtain ⟨hb, h⟩ := it_n h
        refine s_sld C hX dL_law_585 hb ?_
        obtain ⟨r1, I1, hh, h⟩ := bd_e h
        refine s_cV0 (st := []) C hR (Nat.le_trans (by decide) hd) mwX4_heaviest mlL_64 dL_law_586 (wX4_heaviest (d := 3) (Nat.le_refl _)  hh) kk_0 rfl rfl (Nat.le_of_ble_eq_true rfl) ?_
        refine s_aload_n C dL_law_589 rfl rfl ?_
        refine s_aload_n C dL_law_590 rfl rfl ?_
        refine s_iload_n C dL_law_591 rfl rfl ?_
        refine s_iconst C dL_law_592 ic_1 ?_
        refine s_iadd C dL_law_593 ?_
        obtain ⟨hb, h⟩ := it_n h
        refine s_sld C hX dL_law_594 hb ?_
        obtain ⟨r2, I2, hh, h⟩ := bd_e h
        refine s_cV0 (st := [.int r1]) C hR (Nat.le_trans (by decide) hd) mwX5_heaviest mlL_67 dL_law_595 (wX5_heaviest (d := 4) (Nat.le_refl _)  hh) kk_163 rfl rfl (Nat.le_of_ble_eq_true rfl) ?_
        refine s_icmp_eq (tgt := 980) C dL_law_598 (by decide) (fun c => ?_) (fun c => ?_)
        · have h := it_t c h
          obtain ⟨v1, ev1, h⟩ := ltm_e h
          refine s_iinc (v := v1) (ls' := [some (.ref b), some (rfX X 0), some (rfX X 163), some (.int v1)]) C dL_law_980 rfl (by decide) (Nat.le_of_ble_eq_true rfl) (by rw [ev1, ic_4]) rfl rfl ?_
          refine s_goto (tgt := 18) C dL_law_983 (by decide) ?_
          exact ih h
        · have h := it_f c h
          refine s_iconst C dL_law_601 ic_0 ?_
          exact absurd (pr_e h).1 (by decide)
      have h := it_f c13 h
      by_cases c14 : ((xs x3.toNatClampNeg) &&& 31) = 13
      · have h := it_t c14 h
        refine s_tableIn (off := 571) (tgt := 603) C dL_law_32 (by rw [c14]; decide +kernel) (by rw [c14]; decide +kernel) (by rw [c14]; decide +kernel) (by decide) ?_
        refine s_aload_n C dL_law_603 rfl rfl ?_
        refine s_aload_n C dL_law_604 rfl rfl ?_
        refine s_iload_n C dL_law_605 rfl rfl ?_
        refine s_iconst C dL_law_606 ic_1 ?_
        refine s_iadd C dL_law_607 ?_
        obtain ⟨hb, h⟩ := it_n h
        refine s_sld C hX dL_law_608 hb ?_
        refine s_aload_n C dL_law_609 rfl rfl ?_
        refine s_iload_n C dL_law_610 rfl rfl ?_
        refine s_iconst C dL_law_611 ic_2 ?_
        refine s_iadd C dL_law_612 ?_
        obtain ⟨hb, h⟩ := it_n h
        refine s_sld C hX dL_law_613 hb ?_
        obtain ⟨r1, I1, hh, h⟩ := bd_e h
        refine s_cV0 (st := []) C hR (Nat.le_trans (by decide) hd) mwX4_carts mlL_68 dL_law_614 (wX4_carts (d := 3) (Nat.le_refl _)  hh) kk_0 rfl rfl (Nat.le_of_ble_eq_true rfl) ?_
        refine s_aload_n C dL_law_617 rfl rfl ?_
        refine s_aload_n C dL_law_618 rfl rfl ?_
        refine s_iload_n C dL_law_619 rfl rfl ?_
        refine s_iconst C dL_law_620 ic_1 ?_
        refine s_iadd C dL_law_621 ?_
        obtain ⟨hb, h⟩ := it_n h
        refine s_sld C hX dL_law_622 hb ?_
        refine s_aload_n C dL_law_623 rfl rfl ?_
        refine s_iload_n C dL_law_624 rfl rfl ?_
        refine s_iconst C dL_law_625 ic_2 ?_
        refine s_iadd C dL_law_626 ?_
        obtain ⟨hb, h⟩ := it_n h
        refine s_sld C hX dL_law_627 hb ?_
        obtain ⟨r2, I2, hh, h⟩ := bd_e h
        refine s_cV0 (st := [.int r1]) C hR (Nat.le_trans (by decide) hd) mwX5_carts mlL_71 dL_law_628 (wX5_carts (d := 44) (Nat.le_refl _)  hh) kk_163 rfl rfl (Nat.le_of_ble_eq_true rfl) ?_
        refine s_icmp_eq (tgt := 980) C dL_law_631 (by decide) (fun c => ?_) (fun c => ?_)
        · have h := it_t c h
          obtain ⟨v1, ev1, h⟩ := ltm_e h
          refine s_iinc (v := v1) (ls' := [some (.ref b), some (rfX X 0), some (rfX X 163), some (.int v1)]) C dL_law_980 rfl (by decide) (Nat.le_of_ble_eq_true rfl) (by rw [ev1, ic_4]) rfl rfl ?_
          refine s_goto (tgt := 18) C dL_law_983 (by decide) ?_
          exact ih h
        · have h := it_f c h
          refine s_iconst C dL_law_634 ic_0 ?_
          exact absurd (pr_e h).1 (by decide)
      have h := it_f c14 h
      by_cases c15 : ((xs x3.toNatClampNeg) &&& 31) = 14
      · have h := it_t c15 h
        refine s_tableIn (off := 604) (tgt := 636) C dL_law_32 (by rw [c15]; decide +kernel) (by rw [c15]; decide +kernel) (by rw [c15]; decide +kernel) (by decide) ?_
        refine s_aload_n C dL_law_636 rfl rfl ?_
        refine s_aload_n C dL_law_637 rfl rfl ?_
        refine s_iload_n C dL_law_638 rfl rfl ?_
        refine s_iconst C dL_law_639 ic_1 ?_
        refine s_iadd C dL_law_640 ?_
        obtain ⟨hb, h⟩ := it_n h
        refine s_sld C hX dL_law_641 hb ?_
        refine s_aload_n C dL_law_642 rfl rfl ?_
        refine s_iload_n C dL_law_643 rfl rfl ?_
        refine s_iconst C dL_law_644 ic_2 ?_
        refine s_iadd C dL_law_645 ?_
        obtain ⟨hb, h⟩ := it_n h
        refine s_sld C hX dL_law_646 hb ?_
        refine s_aload_n C dL_law_647 rfl rfl ?_
        refine s_iload_n C dL_law_648 rfl rfl ?_
        refine s_iconst C dL_law_649 ic_3 ?_
        refine s_iadd C dL_law_650 ?_
        obtain ⟨hb, h⟩ := it_n h
        refine s_sld C hX dL_law_651 hb ?_
        obtain ⟨r1, I1, hh, h⟩ := bd_e h
        refine s_cV0 (st := []) C hR (Nat.le_trans (by decide) hd) mwX4_cartOf mlL_72 dL_law_652 (wX4_cartOf (d := 3) (Nat.le_refl _)  hh) kk_0 rfl rfl (Nat.le_of_ble_eq_true rfl) ?_
        refine s_aload_n C dL_law_655 rfl rfl ?_
        refine s_aload_n C dL_law_656 rfl rfl ?_
        refine s_iload_n C dL_law_657 rfl rfl ?_
        refine s_iconst C dL_law_658 ic_1 ?_
        refine s_iadd C dL_law_659 ?_
        obtain ⟨hb, h⟩ := it_n h
        refine s_sld C hX dL_law_660 hb ?_
        refine s_aload_n C dL_law_661 rfl rfl ?_
        refine s_iload_n C dL_law_662 rfl rfl ?_
        refine s_iconst C dL_law_663 ic_2 ?_
        refine s_iadd C dL_law_664 ?_
        obtain ⟨hb, h⟩ := it_n h
        refine s_sld C hX dL_law_665 hb ?_
        refine s_aload_n C dL_law_666 rfl rfl ?_
        refine s_iload_n C dL_law_667 rfl rfl ?_
        refine s_iconst C dL_law_668 ic_3 ?_
        refine s_iadd C dL_law_669 ?_
        obtain ⟨hb, h⟩ := it_n h
        refine s_sld C hX dL_law_670 hb ?_
        obtain ⟨r2, I2, hh, h⟩ := bd_e h
        refine s_cV0 (st := [.int r1]) C hR (Nat.le_trans (by decide) hd) mwX5_cartOf mlL_75 dL_law_671 (wX5_cartOf (d := 45) (Nat.le_refl _)  hh) kk_163 rfl rfl (Nat.le_of_ble_eq_true rfl) ?_
        refine s_icmp_eq (tgt := 980) C dL_law_674 (by decide) (fun c => ?_) (fun c => ?_)
        · have h := it_t c h
          obtain ⟨v1, ev1, h⟩ := ltm_e h
          refine s_iinc (v := v1) (ls' := [some (.ref b), some (rfX X 0), some (rfX X 163), some (.int v1)]) C dL_law_980 rfl (by decide) (Nat.le_of_ble_eq_true rfl) (by rw [ev1, ic_4]) rfl rfl ?_
          refine s_goto (tgt := 18) C dL_law_983 (by decide) ?_
          exact ih h
        · have h := it_f c h
          refine s_iconst C dL_law_677 ic_0 ?_
          exact absurd (pr_e h).1 (by decide)
      have h := it_f c15 h
      by_cases c16 : ((xs x3.toNatClampNeg) &&& 31) = 15
      · have h := it_t c16 h
        refine s_tableIn (off := 647) (tgt := 679) C dL_law_32 (by rw [c16]; decide +kernel) (by rw [c16]; decide +kernel) (by rw [c16]; decide +kernel) (by decide) ?_
        refine s_aload_n C dL_law_679 rfl rfl ?_
        refine s_aload_n C dL_law_680 rfl rfl ?_
        refine s_iload_n C dL_law_681 rfl rfl ?_
        refine s_iconst C dL_law_682 ic_1 ?_
        refine s_iadd C dL_law_683 ?_
        obtain ⟨hb, h⟩ := it_n h
        refine s_sld C hX dL_law_684 hb ?_
        obtain ⟨r1, I1, hh, h⟩ := bd_e h
        refine s_cV0 (st := []) C hR (Nat.le_trans (by decide) hd) mwX4_shape mlL_76 dL_law_685 (wX4_shape (d := 44) (Nat.le_refl _)  hh) kk_0 rfl rfl (Nat.le_of_ble_eq_true rfl) ?_
        refine s_aload_n C dL_law_688 rfl rfl ?_
        refine s_aload_n C dL_law_689 rfl rfl ?_
        refine s_iload_n C dL_law_690 rfl rfl ?_
        refine s_iconst C dL_law_691 ic_1 ?_
        refine s_iadd C dL_law_692 ?_
        obtain ⟨hb, h⟩ := it_n h
        refine s_sld C hX dL_law_693 hb ?_
        obtain ⟨r2, I2, hh, h⟩ := bd_e h
        refine s_cV0 (st := [.long r1]) C hR (Nat.le_trans (by decide) hd) mwX5_shape mlL_80 dL_law_694 (wX5_shape (d := 43) (Nat.le_refl _)  hh) kk_163 rfl rfl (Nat.le_of_ble_eq_true rfl) ?_
        refine s_lcmp C dL_law_697 ?_
        refine s_if_eq (tgt := 980) C dL_law_698 (by decide) (fun c => ?_) (fun c => ?_)
        · have h := it_t c h
          obtain ⟨v1, ev1, h⟩ := ltm_e h
          refine s_iinc (v := v1) (ls' := [some (.ref b), some (rfX X 0), some (rfX X 163), some (.int v1)]) C dL_law_980 rfl (by decide) (Nat.le_of_ble_eq_true rfl) (by rw [ev1, ic_4]) rfl rfl ?_
          refine s_goto (tgt := 18) C dL_law_983 (by decide) ?_
          exact ih h
        · have h := it_f c h
          refine s_iconst C dL_law_701 ic_0 ?_
          exact absurd (pr_e h).1 (by decide)
      have h := it_f c16 h
      by_cases c17 : ((xs x3.toNatClampNeg) &&& 31) = 16
      · have h := it_t c17 h
        refine s_tableIn (off := 671) (tgt := 703) C dL_law_32 (by rw [c17]; decide +kernel) (by rw [c17]; decide +kernel) (by rw [c17]; decide +kernel) (by decide) ?_
        refine s_aload_n C dL_law_703 rfl rfl ?_
        refine s_aload_n C dL_law_704 rfl rfl ?_
        refine s_iload_n C dL_law_705 rfl rfl ?_
        refine s_iconst C dL_law_706 ic_1 ?_
        refine s_iadd C dL_law_707 ?_
        obtain ⟨hb, h⟩ := it_n h
        refine s_sld C hX dL_law_708 hb ?_
        refine s_aload_n C dL_law_709 rfl rfl ?_
        refine s_iload_n C dL_law_710 rfl rfl ?_
        refine s_iconst C dL_law_711 ic_2 ?_
        refine s_iadd C dL_law_712 ?_
        obtain ⟨hb, h⟩ := it_n h
        refine s_sld C hX dL_law_713 hb ?_
        obtain ⟨r1, I1, hh, h⟩ := bd_e h
        refine s_cV0 (st := []) C hR (Nat.le_trans (by decide) hd) mwX4_weights mlL_81 dL_law_714 (wX4_weights (d := 2) (Nat.le_refl _)  hh) kk_0 rfl rfl (Nat.le_of_ble_eq_true rfl) ?_
        refine s_aload_n C dL_law_717 rfl rfl ?_
        refine s_aload_n C dL_law_718 rfl rfl ?_
        refine s_iload_n C dL_law_719 rfl rfl ?_
        refine s_iconst C dL_law_720 ic_1 ?_
        refine s_iadd C dL_law_721 ?_
        obtain ⟨hb, h⟩ := it_n h
        refine s_sld C hX dL_law_722 hb ?_
        refine s_aload_n C dL_law_723 rfl rfl ?_
        refine s_iload_n C dL_law_724 rfl rfl ?_
        refine s_iconst C dL_law_725 ic_2 ?_
        refine s_iadd C dL_law_726 ?_
        obtain ⟨hb, h⟩ := it_n h
        refine s_sld C hX dL_law_727 hb ?_
        obtain ⟨r2, I2, hh, h⟩ := bd_e h
        refine s_cV0 (st := [.long r1]) C hR (Nat.le_trans (by decide) hd) mwX5_weights mlL_85 dL_law_728 (wX5_weights (d := 3) (Nat.le_refl _)  hh) kk_163 rfl rfl (Nat.le_of_ble_eq_true rfl) ?_
        refine s_lcmp C dL_law_731 ?_
        refine s_if_eq (tgt := 980) C dL_law_732 (by decide) (fun c => ?_) (fun c => ?_)
        · have h := it_t c h
          obtain ⟨v1, ev1, h⟩ := ltm_e h
          refine s_iinc (v := v1) (ls' := [some (.ref b), some (rfX X 0), some (rfX X 163), some (.int v1)]) C dL_law_980 rfl (by decide) (Nat.le_of_ble_eq_true rfl) (by rw [ev1, ic_4]) rfl rfl ?_
          refine s_goto (tgt := 18) C dL_law_983 (by decide) ?_
          exact ih h
        · have h := it_f c h
          refine s_iconst C dL_law_735 ic_0 ?_
          exact absurd (pr_e h).1 (by decide)
      have h := it_f c17 h
      by_cases c18 : ((xs x3.toNatClampNeg) &&& 31) = 17
      · have h := it_t c18 h
        refine s_tableIn (off := 705) (tgt := 737) C dL_law_32 (by rw [c18]; decide +kernel) (by rw [c18]; decide +kernel) (by rw [c18]; decide +kernel) (by decide) ?_
        refine s_aload_n C dL_law_737 rfl rfl ?_
        refine s_aload_n C dL_law_738 rfl rfl ?_
        refine s_iload_n C dL_law_739 rfl rfl ?_
        refine s_iconst C dL_law_740 ic_1 ?_
        refine s_iadd C dL_law_741 ?_
        obtain ⟨hb, h⟩ := it_n h
        refine s_sld C hX dL_law_742 hb ?_
        obtain ⟨r1, I1, hh, h⟩ := bd_e h
        refine s_cV0 (st := []) C hR (Nat.le_trans (by decide) hd) mwX4_leaningShare mlL_86 dL_law_743 (wX4_leaningShare (d := 5) (Nat.le_refl _)  hh) kk_0 rfl rfl (Nat.le_of_ble_eq_true rfl) ?_
        refine s_aload_n C dL_law_746 rfl rfl ?_
        refine s_aload_n C dL_law_747 rfl rfl ?_
        refine s_iload_n C dL_law_748 rfl rfl ?_
        refine s_iconst C dL_law_749 ic_1 ?_
        refine s_iadd C dL_law_750 ?_
        obtain ⟨hb, h⟩ := it_n h
        refine s_sld C hX dL_law_751 hb ?_
        obtain ⟨r2, I2, hh, h⟩ := bd_e h
        refine s_cV0 (st := [.int r1]) C hR (Nat.le_trans (by decide) hd) mwX5_leaningShare mlL_89 dL_law_752 (wX5_leaningShare (d := 45) (Nat.le_refl _)  hh) kk_163 rfl rfl (Nat.le_of_ble_eq_true rfl) ?_
        refine s_icmp_eq (tgt := 980) C dL_law_755 (by decide) (fun c => ?_) (fun c => ?_)
        · have h := it_t c h
          obtain ⟨v1, ev1, h⟩ := ltm_e h
          refine s_iinc (v := v1) (ls' := [some (.ref b), some (rfX X 0), some (rfX X 163), some (.int v1)]) C dL_law_980 rfl (by decide) (Nat.le_of_ble_eq_true rfl) (by rw [ev1, ic_4]) rfl rfl ?_
          refine s_goto (tgt := 18) C dL_law_983 (by decide) ?_
          exact ih h
        · have h := it_f c h
          refine s_iconst C dL_law_758 ic_0 ?_
          exact absurd (pr_e h).1 (by decide)
      have h := it_f c18 h
      by_cases c19 : ((xs x3.toNatClampNeg) &&& 31) = 18
      · have h := it_t c19 h
        refine s_tableIn (off := 728) (tgt := 760) C dL_law_32 (by rw [c19]; decide +kernel) (by rw [c19]; decide +kernel) (by rw [c19]; decide +kernel) (by decide) ?_
        refine s_aload_n C dL_law_760 rfl rfl ?_
        refine s_aload_n C dL_law_761 rfl rfl ?_
        refine s_iload_n C dL_law_762 rfl rfl ?_
        refine s_iconst C dL_law_763 ic_1 ?_
        refine s_iadd C dL_law_764 ?_
        obtain ⟨hb, h⟩ := it_n h
        refine s_sld C hX dL_law_765 hb ?_
        obtain ⟨r1, I1, hh, h⟩ := bd_e h
        refine s_cV0 (st := []) C hR (Nat.le_trans (by decide) hd) mwX4_meanDepth mlL_90 dL_law_766 (wX4_meanDepth (d := 3) (Nat.le_refl _)  hh) kk_0 rfl rfl (Nat.le_of_ble_eq_true rfl) ?_
        refine s_aload_n C dL_law_769 rfl rfl ?_
        refine s_aload_n C dL_law_770 rfl rfl ?_
        refine s_iload_n C dL_law_771 rfl rfl ?_
        refine s_iconst C dL_law_772 ic_1 ?_
        refine s_iadd C dL_law_773 ?_
        obtain ⟨hb, h⟩ := it_n h
        refine s_sld C hX dL_law_774 hb ?_
        obtain ⟨r2, I2, hh, h⟩ := bd_e h
        refine s_cV0 (st := [.long r1]) C hR (Nat.le_trans (by decide) hd) mwX5_meanDepth mlL_93 dL_law_775 (wX5_meanDepth (d := 45) (Nat.le_refl _)  hh) kk_163 rfl rfl (Nat.le_of_ble_eq_true rfl) ?_
        refine s_lcmp C dL_law_778 ?_
        refine s_if_eq (tgt := 980) C dL_law_779 (by decide) (fun c => ?_) (fun c => ?_)
        · have h := it_t c h
          obtain ⟨v1, ev1, h⟩ := ltm_e h
          refine s_iinc (v := v1) (ls' := [some (.ref b), some (rfX X 0), some (rfX X 163), some (.int v1)]) C dL_law_980 rfl (by decide) (Nat.le_of_ble_eq_true rfl) (by rw [ev1, ic_4]) rfl rfl ?_
          refine s_goto (tgt := 18) C dL_law_983 (by decide) ?_
          exact ih h
        · have h := it_f c h
          refine s_iconst C dL_law_782 ic_0 ?_
          exact absurd (pr_e h).1 (by decide)
      have h := it_f c19 h
      by_cases c20 : ((xs x3.toNatClampNeg) &&& 31) = 19
      · have h := it_t c20 h
        refine s_tableIn (off := 752) (tgt := 784) C dL_law_32 (by rw [c20]; decide +kernel) (by rw [c20]; decide +kernel) (by rw [c20]; decide +kernel) (by decide) ?_
        refine s_aload_n C dL_law_784 rfl rfl ?_
        refine s_aload_n C dL_law_785 rfl rfl ?_
        refine s_iload_n C dL_law_786 rfl rfl ?_
        refine s_iconst C dL_law_787 ic_1 ?_
        refine s_iadd C dL_law_788 ?_
        obtain ⟨hb, h⟩ := it_n h
        refine s_sld C hX dL_law_789 hb ?_
        obtain ⟨r1, I1, hh, h⟩ := bd_e h
        refine s_cV0 (st := []) C hR (Nat.le_trans (by decide) hd) mwX4_append mlL_94 dL_law_790 (wX4_append (d := 2) (Nat.le_refl _)  hh) kk_0 rfl rfl (Nat.le_of_ble_eq_true rfl) ?_
        refine s_aload_n C dL_law_793 rfl rfl ?_
        refine s_aload_n C dL_law_794 rfl rfl ?_
        refine s_iload_n C dL_law_795 rfl rfl ?_
        refine s_iconst C dL_law_796 ic_1 ?_
        refine s_iadd C dL_law_797 ?_
        obtain ⟨hb, h⟩ := it_n h
        refine s_sld C hX dL_law_798 hb ?_
        obtain ⟨r2, I2, hh, h⟩ := bd_e h
        refine s_cV0 (st := [.int r1]) C hR (Nat.le_trans (by decide) hd) mwX5_append mlL_97 dL_law_799 (wX5_append (d := 2) (Nat.le_refl _)  hh) kk_163 rfl rfl (Nat.le_of_ble_eq_true rfl) ?_
        refine s_icmp_eq (tgt := 980) C dL_law_802 (by decide) (fun c => ?_) (fun c => ?_)
        · have h := it_t c h
          obtain ⟨v1, ev1, h⟩ := ltm_e h
          refine s_iinc (v := v1) (ls' := [some (.ref b), some (rfX X 0), some (rfX X 163), some (.int v1)]) C dL_law_980 rfl (by decide) (Nat.le_of_ble_eq_true rfl) (by rw [ev1, ic_4]) rfl rfl ?_
          refine s_goto (tgt := 18) C dL_law_983 (by decide) ?_
          exact ih h
        · have h := it_f c h
          refine s_iconst C dL_law_805 ic_0 ?_
          exact absurd (pr_e h).1 (by decide)
      have h := it_f c20 h
      by_cases c21 : ((xs x3.toNatClampNeg) &&& 31) = 20
      · have h := it_t c21 h
        refine s_tableIn (off := 775) (tgt := 807) C dL_law_32 (by rw [c21]; decide +kernel) (by rw [c21]; decide +kernel) (by rw [c21]; decide +kernel) (by decide) ?_
        refine s_aload_n C dL_law_807 rfl rfl ?_
        obtain ⟨r1, I1, hh, h⟩ := bd_e h
        refine s_cV0 (st := []) C hR (Nat.le_trans (by decide) hd) mwX4_run mlL_98 dL_law_808 (wX4_run (d := 47) (Nat.le_refl _)  hh) kk_0 rfl rfl (Nat.le_of_ble_eq_true rfl) ?_
        refine s_aload_n C dL_law_811 rfl rfl ?_
        obtain ⟨r2, I2, hh, h⟩ := bd_e h
        refine s_cV0 (st := [.int r1]) C hR (Nat.le_trans (by decide) hd) mwX5_run mlL_102 dL_law_812 (wX5_run (d := 47) (Nat.le_refl _)  hh) kk_163 rfl rfl (Nat.le_of_ble_eq_true rfl) ?_
        refine s_icmp_eq (tgt := 980) C dL_law_815 (by decide) (fun c => ?_) (fun c => ?_)
        · have h := it_t c h
          obtain ⟨v1, ev1, h⟩ := ltm_e h
          refine s_iinc (v := v1) (ls' := [some (.ref b), some (rfX X 0), some (rfX X 163), some (.int v1)]) C dL_law_980 rfl (by decide) (Nat.le_of_ble_eq_true rfl) (by rw [ev1, ic_4]) rfl rfl ?_
          refine s_goto (tgt := 18) C dL_law_983 (by decide) ?_
          exact ih h
        · have h := it_f c h
          refine s_iconst C dL_law_818 ic_0 ?_
          exact absurd (pr_e h).1 (by decide)
      have h := it_f c21 h
      by_cases c22 : ((xs x3.toNatClampNeg) &&& 31) = 21
      · have h := it_t c22 h
        refine s_tableIn (off := 788) (tgt := 820) C dL_law_32 (by rw [c22]; decide +kernel) (by rw [c22]; decide +kernel) (by rw [c22]; decide +kernel) (by decide) ?_
        refine s_aload_n C dL_law_820 rfl rfl ?_
        refine s_aload_n C dL_law_821 rfl rfl ?_
        refine s_iload_n C dL_law_822 rfl rfl ?_
        refine s_iconst C dL_law_823 ic_1 ?_
        refine s_iadd C dL_law_824 ?_
        obtain ⟨hb, h⟩ := it_n h
        refine s_sld C hX dL_law_825 hb ?_
        obtain ⟨r1, I1, hh, h⟩ := bd_e h
        refine s_cV0 (st := []) C hR (Nat.le_trans (by decide) hd) mwX4_tell mlL_103 dL_law_826 (wX4_tell (d := 45) (Nat.le_refl _)  hh) kk_0 rfl rfl (Nat.le_of_ble_eq_true rfl) ?_
        refine s_aload_n C dL_law_829 rfl rfl ?_
        refine s_aload_n C dL_law_830 rfl rfl ?_
        refine s_iload_n C dL_law_831 rfl rfl ?_
        refine s_iconst C dL_law_832 ic_1 ?_
        refine s_iadd C dL_law_833 ?_
        obtain ⟨hb, h⟩ := it_n h
        refine s_sld C hX dL_law_834 hb ?_
        obtain ⟨r2, I2, hh, h⟩ := bd_e h
        refine s_cV0 (st := [.int r1]) C hR (Nat.le_trans (by decide) hd) mwX5_tell mlL_106 dL_law_835 (wX5_tell (d := 85) (Nat.le_refl _)  hh) kk_163 rfl rfl (Nat.le_of_ble_eq_true rfl) ?_
        refine s_icmp_eq (tgt := 980) C dL_law_838 (by decide) (fun c => ?_) (fun c => ?_)
        · have h := it_t c h
          obtain ⟨v1, ev1, h⟩ := ltm_e h
          refine s_iinc (v := v1) (ls' := [some (.ref b), some (rfX X 0), some (rfX X 163), some (.int v1)]) C dL_law_980 rfl (by decide) (Nat.le_of_ble_eq_true rfl) (by rw [ev1, ic_4]) rfl rfl ?_
          refine s_goto (tgt := 18) C dL_law_983 (by decide) ?_
          exact ih h
        · have h := it_f c h
          refine s_iconst C dL_law_841 ic_0 ?_
          exact absurd (pr_e h).1 (by decide)
      have h := it_f c22 h
      by_cases c23 : ((xs x3.toNatClampNeg) &&& 31) = 22
      · have h := it_t c23 h
        refine s_tableIn (off := 811) (tgt := 843) C dL_law_32 (by rw [c23]; decide +kernel) (by rw [c23]; decide +kernel) (by rw [c23]; decide +kernel) (by decide) ?_
        refine s_aload_n C dL_law_843 rfl rfl ?_
        refine s_aload_n C dL_law_844 rfl rfl ?_
        refine s_iload_n C dL_law_845 rfl rfl ?_
        refine s_iconst C dL_law_846 ic_1 ?_
        refine s_iadd C dL_law_847 ?_
        obtain ⟨hb, h⟩ := it_n h
        refine s_sld C hX dL_law_848 hb ?_
        obtain ⟨r1, I1, hh, h⟩ := bd_e h
        refine s_cV0 (st := []) C hR (Nat.le_trans (by decide) hd) mwX4_character mlL_107 dL_law_849 (wX4_character (d := 2) (Nat.le_refl _)  hh) kk_0 rfl rfl (Nat.le_of_ble_eq_true rfl) ?_
        refine s_aload_n C dL_law_852 rfl rfl ?_
        refine s_aload_n C dL_law_853 rfl rfl ?_
        refine s_iload_n C dL_law_854 rfl rfl ?_
        refine s_iconst C dL_law_855 ic_1 ?_
        refine s_iadd C dL_law_856 ?_
        obtain ⟨hb, h⟩ := it_n h
        refine s_sld C hX dL_law_857 hb ?_
        obtain ⟨r2, I2, hh, h⟩ := bd_e h
        refine s_cV0 (st := [.int r1]) C hR (Nat.le_trans (by decide) hd) mwX5_character mlL_110 dL_law_858 (wX5_character (d := 2) (Nat.le_refl _)  hh) kk_163 rfl rfl (Nat.le_of_ble_eq_true rfl) ?_
        refine s_icmp_eq (tgt := 980) C dL_law_861 (by decide) (fun c => ?_) (fun c => ?_)
        · have h := it_t c h
          obtain ⟨v1, ev1, h⟩ := ltm_e h
          refine s_iinc (v := v1) (ls' := [some (.ref b), some (rfX X 0), some (rfX X 163), some (.int v1)]) C dL_law_980 rfl (by decide) (Nat.le_of_ble_eq_true rfl) (by rw [ev1, ic_4]) rfl rfl ?_
          refine s_goto (tgt := 18) C dL_law_983 (by decide) ?_
          exact ih h
        · have h := it_f c h
          refine s_iconst C dL_law_864 ic_0 ?_
          exact absurd (pr_e h).1 (by decide)
      have h := it_f c23 h
      by_cases c24 : ((xs x3.toNatClampNeg) &&& 31) = 23
      · have h := it_t c24 h
        refine s_tableIn (off := 834) (tgt := 866) C dL_law_32 (by rw [c24]; decide +kernel) (by rw [c24]; decide +kernel) (by rw [c24]; decide +kernel) (by decide) ?_
        refine s_aload_n C dL_law_866 rfl rfl ?_
        refine s_aload_n C dL_law_867 rfl rfl ?_
        refine s_iload_n C dL_law_868 rfl rfl ?_
        refine s_iconst C dL_law_869 ic_1 ?_
        refine s_iadd C dL_law_870 ?_
        obtain ⟨hb, h⟩ := it_n h
        refine s_sld C hX dL_law_871 hb ?_
        refine s_if_eq (tgt := 879) C dL_law_872 (by decide) (fun c => ?_) (fun c => ?_)
        · have h := it_t c h
          refine s_iconst C dL_law_879 ic_0 ?_
          obtain ⟨r1, I1, hh, h⟩ := bd_e h
          refine s_cV0 (st := []) C hR (Nat.le_trans (by decide) hd) mwX4_reason mlL_111 dL_law_880 (wX4_reason (d := 1) (Nat.le_refl _)  hh) kk_0 rfl rfl (Nat.le_of_ble_eq_true rfl) ?_
          refine s_aload_n C dL_law_883 rfl rfl ?_
          refine s_aload_n C dL_law_884 rfl rfl ?_
          refine s_iload_n C dL_law_885 rfl rfl ?_
          refine s_iconst C dL_law_886 ic_1 ?_
          refine s_iadd C dL_law_887 ?_
          obtain ⟨hb, h⟩ := it_n h
          refine s_sld C hX dL_law_888 hb ?_
          refine s_if_eq (tgt := 896) C dL_law_889 (by decide) (fun c => ?_) (fun c => ?_)
          · have h := it_t c h
            refine s_iconst C dL_law_896 ic_0 ?_
            obtain ⟨r2, I2, hh, h⟩ := bd_e h
            refine s_cV0 (st := [.int r1]) C hR (Nat.le_trans (by decide) hd) mwX5_reason mlL_115 dL_law_897 (wX5_reason (d := 1) (Nat.le_refl _)  hh) kk_163 rfl rfl (Nat.le_of_ble_eq_true rfl) ?_
            refine s_icmp_eq (tgt := 980) C dL_law_900 (by decide) (fun c => ?_) (fun c => ?_)
            · have h := it_t c h
              obtain ⟨v1, ev1, h⟩ := ltm_e h
              refine s_iinc (v := v1) (ls' := [some (.ref b), some (rfX X 0), some (rfX X 163), some (.int v1)]) C dL_law_980 rfl (by decide) (Nat.le_of_ble_eq_true rfl) (by rw [ev1, ic_4]) rfl rfl ?_
              refine s_goto (tgt := 18) C dL_law_983 (by decide) ?_
              exact ih h
            · have h := it_f c h
              refine s_iconst C dL_law_903 ic_0 ?_
              exact absurd (pr_e h).1 (by decide)
          · have h := it_f c h
            refine s_iconst C dL_law_892 ic_1 ?_
            refine s_goto (tgt := 897) C dL_law_893 (by decide) ?_
            obtain ⟨r2, I2, hh, h⟩ := bd_e h
            refine s_cV0 (st := [.int r1]) C hR (Nat.le_trans (by decide) hd) mwX5_reason mlL_115 dL_law_897 (wX5_reason (d := 1) (Nat.le_refl _)  hh) kk_163 rfl rfl (Nat.le_of_ble_eq_true rfl) ?_
            refine s_icmp_eq (tgt := 980) C dL_law_900 (by decide) (fun c => ?_) (fun c => ?_)
            · have h := it_t c h
              obtain ⟨v1, ev1, h⟩ := ltm_e h
              refine s_iinc (v := v1) (ls' := [some (.ref b), some (rfX X 0), some (rfX X 163), some (.int v1)]) C dL_law_980 rfl (by decide) (Nat.le_of_ble_eq_true rfl) (by rw [ev1, ic_4]) rfl rfl ?_
              refine s_goto (tgt := 18) C dL_law_983 (by decide) ?_
              exact ih h
            · have h := it_f c h
              refine s_iconst C dL_law_903 ic_0 ?_
              exact absurd (pr_e h).1 (by decide)
        · have h := it_f c h
          refine s_iconst C dL_law_875 ic_1 ?_
          refine s_goto (tgt := 880) C dL_law_876 (by decide) ?_
          obtain ⟨r1, I1, hh, h⟩ := bd_e h
          refine s_cV0 (st := []) C hR (Nat.le_trans (by decide) hd) mwX4_reason mlL_111 dL_law_880 (wX4_reason (d := 1) (Nat.le_refl _)  hh) kk_0 rfl rfl (Nat.le_of_ble_eq_true rfl) ?_
          refine s_aload_n C dL_law_883 rfl rfl ?_
          refine s_aload_n C dL_law_884 rfl rfl ?_
          refine s_iload_n C dL_law_885 rfl rfl ?_
          refine s_iconst C dL_law_886 ic_1 ?_
          refine s_iadd C dL_law_887 ?_
          obtain ⟨hb, h⟩ := it_n h
          refine s_sld C hX dL_law_888 hb ?_
          refine s_if_eq (tgt := 896) C dL_law_889 (by decide) (fun c => ?_) (fun c => ?_)
          · have h := it_t c h
            refine s_iconst C dL_law_896 ic_0 ?_
            obtain ⟨r2, I2, hh, h⟩ := bd_e h
            refine s_cV0 (st := [.int r1]) C hR (Nat.le_trans (by decide) hd) mwX5_reason mlL_115 dL_law_897 (wX5_reason (d := 1) (Nat.le_refl _)  hh) kk_163 rfl rfl (Nat.le_of_ble_eq_true rfl) ?_
            refine s_icmp_eq (tgt := 980) C dL_law_900 (by decide) (fun c => ?_) (fun c => ?_)
            · have h := it_t c h
              obtain ⟨v1, ev1, h⟩ := ltm_e h
              refine s_iinc (v := v1) (ls' := [some (.ref b), some (rfX X 0), some (rfX X 163), some (.int v1)]) C dL_law_980 rfl (by decide) (Nat.le_of_ble_eq_true rfl) (by rw [ev1, ic_4]) rfl rfl ?_
              refine s_goto (tgt := 18) C dL_law_983 (by decide) ?_
              exact ih h
            · have h := it_f c h
              refine s_iconst C dL_law_903 ic_0 ?_
              exact absurd (pr_e h).1 (by decide)
          · have h := it_f c h
            refine s_iconst C dL_law_892 ic_1 ?_
            refine s_goto (tgt := 897) C dL_law_893 (by decide) ?_
            obtain ⟨r2, I2, hh, h⟩ := bd_e h
            refine s_cV0 (st := [.int r1]) C hR (Nat.le_trans (by decide) hd) mwX5_reason mlL_115 dL_law_897 (wX5_reason (d := 1) (Nat.le_refl _)  hh) kk_163 rfl rfl (Nat.le_of_ble_eq_true rfl) ?_
            refine s_icmp_eq (tgt := 980) C dL_law_900 (by decide) (fun c => ?_) (fun c => ?_)
            · have h := it_t c h
              obtain ⟨v1, ev1, h⟩ := ltm_e h
              refine s_iinc (v := v1) (ls' := [some (.ref b), some (rfX X 0), some (rfX X 163), some (.int v1)]) C dL_law_980 rfl (by decide) (Nat.le_of_ble_eq_true rfl) (by rw [ev1, ic_4]) rfl rfl ?_
              refine s_goto (tgt := 18) C dL_law_983 (by decide) ?_
              exact ih h
            · have h := it_f c h
              refine s_iconst C dL_law_903 ic_0 ?_
              exact absurd (pr_e h).1 (by decide)
      have h := it_f c24 h
      by_cases c25 : ((xs x3.toNatClampNeg) &&& 31) = 24
      · have h := it_t c25 h
        refine s_tableIn (off := 873) (tgt := 905) C dL_law_32 (by rw [c25]; decide +kernel) (by rw [c25]; decide +kernel) (by rw [c25]; decide +kernel) (by decide) ?_
        refine s_aload_n C dL_law_905 rfl rfl ?_
        refine s_aload_n C dL_law_906 rfl rfl ?_
        refine s_iload_n C dL_law_907 rfl rfl ?_
        refine s_iconst C dL_law_908 ic_1 ?_
        refine s_iadd C dL_law_909 ?_
        obtain ⟨hb, h⟩ := it_n h
        refine s_sld C hX dL_law_910 hb ?_
        obtain ⟨r1, I1, hh, h⟩ := bd_e h
        refine s_cV0 (st := []) C hR (Nat.le_trans (by decide) hd) mwX4_account mlL_116 dL_law_911 (wX4_account (d := 4) (Nat.le_refl _)  hh) kk_0 rfl rfl (Nat.le_of_ble_eq_true rfl) ?_
        refine s_aload_n C dL_law_914 rfl rfl ?_
        refine s_aload_n C dL_law_915 rfl rfl ?_
        refine s_iload_n C dL_law_916 rfl rfl ?_
        refine s_iconst C dL_law_917 ic_1 ?_
        refine s_iadd C dL_law_918 ?_
        obtain ⟨hb, h⟩ := it_n h
        refine s_sld C hX dL_law_919 hb ?_
        obtain ⟨r2, I2, hh, h⟩ := bd_e h
        refine s_cV0 (st := [.int r1]) C hR (Nat.le_trans (by decide) hd) mwX5_account mlL_119 dL_law_920 (wX5_account (d := 45) (Nat.le_refl _)  hh) kk_163 rfl rfl (Nat.le_of_ble_eq_true rfl) ?_
        refine s_icmp_eq (tgt := 980) C dL_law_923 (by decide) (fun c => ?_) (fun c => ?_)
        · have h := it_t c h
          obtain ⟨v1, ev1, h⟩ := ltm_e h
          refine s_iinc (v := v1) (ls' := [some (.ref b), some (rfX X 0), some (rfX X 163), some (.int v1)]) C dL_law_980 rfl (by decide) (Nat.le_of_ble_eq_true rfl) (by rw [ev1, ic_4]) rfl rfl ?_
          refine s_goto (tgt := 18) C dL_law_983 (by decide) ?_
          exact ih h
        · have h := it_f c h
          refine s_iconst C dL_law_926 ic_0 ?_
          exact absurd (pr_e h).1 (by decide)
      have h := it_f c25 h
      by_cases c26 : ((xs x3.toNatClampNeg) &&& 31) = 25
      · have h := it_t c26 h
        refine s_tableIn (off := 896) (tgt := 928) C dL_law_32 (by rw [c26]; decide +kernel) (by rw [c26]; decide +kernel) (by rw [c26]; decide +kernel) (by decide) ?_
        refine s_aload_n C dL_law_928 rfl rfl ?_
        obtain ⟨r1, I1, hh, h⟩ := bd_e h
        refine s_cV0 (st := []) C hR (Nat.le_trans (by decide) hd) mwX4_isBalanced mlL_120 dL_law_929 (wX4_isBalanced (d := 45) (Nat.le_refl _)  hh) kk_0 rfl rfl (Nat.le_of_ble_eq_true rfl) ?_
        refine s_aload_n C dL_law_932 rfl rfl ?_
        obtain ⟨r2, I2, hh, h⟩ := bd_e h
        refine s_cV0 (st := [.int r1]) C hR (Nat.le_trans (by decide) hd) mwX5_isBalanced mlL_123 dL_law_933 (wX5_isBalanced (d := 1) (Nat.le_refl _)  hh) kk_163 rfl rfl (Nat.le_of_ble_eq_true rfl) ?_
        refine s_icmp_eq (tgt := 980) C dL_law_936 (by decide) (fun c => ?_) (fun c => ?_)
        · have h := it_t c h
          obtain ⟨v1, ev1, h⟩ := ltm_e h
          refine s_iinc (v := v1) (ls' := [some (.ref b), some (rfX X 0), some (rfX X 163), some (.int v1)]) C dL_law_980 rfl (by decide) (Nat.le_of_ble_eq_true rfl) (by rw [ev1, ic_4]) rfl rfl ?_
          refine s_goto (tgt := 18) C dL_law_983 (by decide) ?_
          exact ih h
        · have h := it_f c h
          refine s_iconst C dL_law_939 ic_0 ?_
          exact absurd (pr_e h).1 (by decide)
      have h := it_f c26 h
      by_cases c27 : ((xs x3.toNatClampNeg) &&& 31) = 26
      · have h := it_t c27 h
        refine s_tableIn (off := 909) (tgt := 941) C dL_law_32 (by rw [c27]; decide +kernel) (by rw [c27]; decide +kernel) (by rw [c27]; decide +kernel) (by decide) ?_
        refine s_aload_n C dL_law_941 rfl rfl ?_
        obtain ⟨r1, I1, hh, h⟩ := bd_e h
        refine s_cV0 (st := []) C hR (Nat.le_trans (by decide) hd) mwX4_undo mlL_124 dL_law_942 (wX4_undo (d := 4) (Nat.le_refl _)  hh) kk_0 rfl rfl (Nat.le_of_ble_eq_true rfl) ?_
        refine s_aload_n C dL_law_945 rfl rfl ?_
        obtain ⟨r2, I2, hh, h⟩ := bd_e h
        refine s_cV0 (st := [.int r1]) C hR (Nat.le_trans (by decide) hd) mwX5_undo mlL_127 dL_law_946 (wX5_undo (d := 2) (Nat.le_refl _)  hh) kk_163 rfl rfl (Nat.le_of_ble_eq_true rfl) ?_
        refine s_icmp_eq (tgt := 980) C dL_law_949 (by decide) (fun c => ?_) (fun c => ?_)
        · have h := it_t c h
          obtain ⟨v1, ev1, h⟩ := ltm_e h
          refine s_iinc (v := v1) (ls' := [some (.ref b), some (rfX X 0), some (rfX X 163), some (.int v1)]) C dL_law_980 rfl (by decide) (Nat.le_of_ble_eq_true rfl) (by rw [ev1, ic_4]) rfl rfl ?_
          refine s_goto (tgt := 18) C dL_law_983 (by decide) ?_
          exact ih h
        · have h := it_f c h
          refine s_iconst C dL_law_952 ic_0 ?_
          exact absurd (pr_e h).1 (by decide)
      have h := it_f c27 h
      by_cases c28 : ((xs x3.toNatClampNeg) &&& 31) = 27
      · have h := it_t c28 h
        refine s_tableIn (off := 922) (tgt := 954) C dL_law_32 (by rw [c28]; decide +kernel) (by rw [c28]; decide +kernel) (by rw [c28]; decide +kernel) (by decide) ?_
        refine s_aload_n C dL_law_954 rfl rfl ?_
        obtain ⟨r1, I1, hh, h⟩ := bd_e h
        refine s_cV0 (st := []) C hR (Nat.le_trans (by decide) hd) mwX4_save mlL_128 dL_law_955 (wX4_save (d := 3) (Nat.le_refl _)  hh) kk_0 rfl rfl (Nat.le_of_ble_eq_true rfl) ?_
        refine s_aload_n C dL_law_958 rfl rfl ?_
        obtain ⟨r2, I2, hh, h⟩ := bd_e h
        refine s_cV0 (st := [.int r1]) C hR (Nat.le_trans (by decide) hd) mwX5_save mlL_131 dL_law_959 (wX5_save (d := 45) (Nat.le_refl _)  hh) kk_163 rfl rfl (Nat.le_of_ble_eq_true rfl) ?_
        refine s_icmp_eq (tgt := 980) C dL_law_962 (by decide) (fun c => ?_) (fun c => ?_)
        · have h := it_t c h
          obtain ⟨v1, ev1, h⟩ := ltm_e h
          refine s_iinc (v := v1) (ls' := [some (.ref b), some (rfX X 0), some (rfX X 163), some (.int v1)]) C dL_law_980 rfl (by decide) (Nat.le_of_ble_eq_true rfl) (by rw [ev1, ic_4]) rfl rfl ?_
          refine s_goto (tgt := 18) C dL_law_983 (by decide) ?_
          exact ih h
        · have h := it_f c h
          refine s_iconst C dL_law_965 ic_0 ?_
          exact absurd (pr_e h).1 (by decide)
      have h := it_f c28 h
      by_cases c29 : ((xs x3.toNatClampNeg) &&& 31) = 28
      · have h := it_t c29 h
        refine s_tableIn (off := 935) (tgt := 967) C dL_law_32 (by rw [c29]; decide +kernel) (by rw [c29]; decide +kernel) (by rw [c29]; decide +kernel) (by decide) ?_
        refine s_aload_n C dL_law_967 rfl rfl ?_
        obtain ⟨r1, I1, hh, h⟩ := bd_e h
        refine s_cV0 (st := []) C hR (Nat.le_trans (by decide) hd) mwX4_restore mlL_132 dL_law_968 (wX4_restore (d := 3) (Nat.le_refl _)  hh) kk_0 rfl rfl (Nat.le_of_ble_eq_true rfl) ?_
        refine s_aload_n C dL_law_971 rfl rfl ?_
        obtain ⟨r2, I2, hh, h⟩ := bd_e h
        refine s_cV0 (st := [.int r1]) C hR (Nat.le_trans (by decide) hd) mwX5_restore mlL_135 dL_law_972 (wX5_restore (d := 45) (Nat.le_refl _)  hh) kk_163 rfl rfl (Nat.le_of_ble_eq_true rfl) ?_
        refine s_icmp_eq (tgt := 980) C dL_law_975 (by decide) (fun c => ?_) (fun c => ?_)
        · have h := it_t c h
          obtain ⟨v1, ev1, h⟩ := ltm_e h
          refine s_iinc (v := v1) (ls' := [some (.ref b), some (rfX X 0), some (rfX X 163), some (.int v1)]) C dL_law_980 rfl (by decide) (Nat.le_of_ble_eq_true rfl) (by rw [ev1, ic_4]) rfl rfl ?_
          refine s_goto (tgt := 18) C dL_law_983 (by decide) ?_
          exact ih h
        · have h := it_f c h
          refine s_iconst C dL_law_978 ic_0 ?_
          exact absurd (pr_e h).1 (by decide)
      have h := it_f c29 h
      refine s_tableOut (tgt := 980) C dL_law_32 (by have := ne_i 0 (by decide +kernel) c1; have := ne_i 1 (by decide +kernel) c2; have := ne_i 2 (by decide +kernel) c3; have := ne_i 3 (by decide +kernel) c4; have := ne_i 4 (by decide +kernel) c5; have := ne_i 5 (by decide +kernel) c6; have := ne_i 6 (by decide +kernel) c7; have := ne_i 7 (by decide +kernel) c8; have := ne_i 8 (by decide +kernel) c9; have := ne_i 9 (by decide +kernel) c10; have := ne_i 10 (by decide +kernel) c11; have := ne_i 11 (by decide +kernel) c12; have := ne_i 12 (by decide +kernel) c13; have := ne_i 13 (by decide +kernel) c14; have := ne_i 14 (by decide +kernel) c15; have := ne_i 15 (by decide +kernel) c16; have := ne_i 16 (by decide +kernel) c17; have := ne_i 17 (by decide +kernel) c18; have := ne_i 18 (by decide +kernel) c19; have := ne_i 19 (by decide +kernel) c20; have := ne_i 20 (by decide +kernel) c21; have := ne_i 21 (by decide +kernel) c22; have := ne_i 22 (by decide +kernel) c23; have := ne_i 23 (by decide +kernel) c24; have := ne_i 24 (by decide +kernel) c25; have := ne_i 25 (by decide +kernel) c26; have := ne_i 26 (by decide +kernel) c27; have := ne_i 27 (by decide +kernel) c28; have := ne_i 28 (by decide +kernel) c29; omega) (by decide) ?_
      obtain ⟨v1, ev1, h⟩ := ltm_e h
      refine s_iinc (v := v1) (ls' := [some (.ref b), some (rfX X 0), some (rfX X 163), some (.int v1)]) C dL_law_980 rfl (by decide) (Nat.le_of_ble_eq_true rfl) (by rw [ev1, ic_4]) rfl rfl ?_
      refine s_goto (tgt := 18) C dL_law_983 (by decide) ?_
      exact ih h
