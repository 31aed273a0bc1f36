theorem wX5_put__p201 {X : Cx} {d : Nat} (hd : 44 ≤ d) (C : CtxOK X mX5_put_) {x1 : Int32} {x5 : Int32} {I I' : Mm} {r : Int32}  (h : fX5_put__p201 x1 x5 I = some (r, I')) (M : MX X (xE X) d 0 0 (some (.int r)) S0 I') : WM X mX5_put_ 201 [some (rfX X 163), some (.int x1), none, none, none, some (.int x5), none] [] S0 I 0 0 := by
  unfold fX5_put__p201 at h
  refine s_iload C dX5_put__201 rfl ?_
  refine s_if_ge (tgt := 208) C dX5_put__203 (by decide) (fun c => ?_) (fun c => ?_)
  · have h := it_t c h
    refine s_aload_n C dX5_put__208 rfl rfl ?_
    refine s_iload_n C dX5_put__209 rfl rfl ?_
    refine s_iload C dX5_put__210 rfl ?_
    obtain ⟨r1, I1, hh, h⟩ := bd_e h
    refine s_cV0 (st := []) C M.rg (Nat.le_trans (by decide) hd) mwX5_size mlX5_66 dX5_put__212 (wX5_size _ (d := 42) (Nat.le_refl _)  hh) kk_163 rfl rfl (Nat.le_of_ble_eq_true rfl) ?_
    refine s_istore (ls' := [some (rfX X 163), some (.int x1), none, none, none, some (.int x5), some (.int r1)]) C dX5_put__215 (by decide) (Nat.le_of_ble_eq_true rfl) rfl rfl ?_
    refine s_aload_n C dX5_put__217 rfl rfl ?_
    refine s_iload_n C dX5_put__218 rfl rfl ?_
    refine s_iload C dX5_put__219 rfl ?_
    obtain ⟨r2, I2, hh, h⟩ := bd_e h
    refine s_cV0 (st := []) C M.rg (Nat.le_trans (by decide) hd) mwX5_buildPart mlX5_149 dX5_put__221 (wX5_buildPart (d := 43) (Nat.le_refl _)  hh) kk_163 rfl rfl (Nat.le_of_ble_eq_true rfl) ?_
    refine s_aload_n C dX5_put__224 rfl rfl ?_
    refine s_getR (b := 164) C dX5_put__225 kk_163 foX5_9 rfl rk_163_0 ?_
    refine s_iconst C dX5_put__228 ic_3 ?_
    refine s_dup2 C dX5_put__229 rfl rfl ?_
    refine s_ald (q := 3) C dX5_put__230 kk_164 (by decide) (by decide) (by decide) ?_
    refine s_iconst C dX5_put__231 ic_1 ?_
    refine s_iadd C dX5_put__232 ?_
    obtain ⟨I3, eI3, h⟩ := ltm_e h
    refine s_ast (q := 3) C dX5_put__233 kk_164 (by decide) (by decide) (by decide) eI3 ?_
    refine s_iload C dX5_put__234 rfl ?_
    obtain ⟨rfl, rfl⟩ := pr_e h
    exact s_iret C M dX5_put__236 rfl rfl (Nat.le_refl 0) (Nat.le_refl 0)
  · have h := it_f c h
    refine s_iconst C dX5_put__206 ic_0 ?_
    obtain ⟨rfl, rfl⟩ := pr_e h
    exact s_iret C M dX5_put__207 rfl rfl (Nat.le_refl 0) (Nat.le_refl 0)
theorem wX5_put__p174 {X : Cx} {d : Nat} (hd : 44 ≤ d) (C : CtxOK X mX5_put_) : ∀ (n : Nat) {x1 : Int32} {x5 : Int32} {I I' : Mm} {r : Int32}  (_ : fX5_put__p174 n x1 x5 I = some (r, I')) (_ : MX X (xE X) d 0 0 (some (.int r)) S0 I'), WM X mX5_put_ 174 [some (rfX X 163), some (.int x1), none, none, none, some (.int x5), none] [] S0 I 0 0 := by
  intro n
  induction n with
  | zero => intro x1 x5 I I' r  h M; exact absurd h (by simp [fX5_put__p174])
  | succ n ih =>
    intro x1 x5 I I' r  h M
    rw [fX5_put__p174] at h
    refine s_iload C dX5_put__174 rfl ?_
    refine s_if_lt (tgt := 201) C dX5_put__176 (by decide) (fun c => ?_) (fun c => ?_)
    · have h := it_t c h
      exact wX5_put__p201 hd C  h M
    · have h := it_f c h
      refine s_aload_n C dX5_put__179 rfl rfl ?_
      refine s_iload_n C dX5_put__180 rfl rfl ?_
      refine s_iload C dX5_put__181 rfl ?_
      obtain ⟨r1, I1, hh, h⟩ := bd_e h
      refine s_cV0 (st := []) C M.rg (Nat.le_trans (by decide) hd) mwX5_leans mlX5_145 dX5_put__183 (wX5_leans (d := 43) (Nat.le_refl _)  hh) kk_163 rfl rfl (Nat.le_of_ble_eq_true rfl) ?_
      refine s_if_ne (tgt := 201) C dX5_put__186 (by decide) (fun c => ?_) (fun c => ?_)
      · have h := it_f c h
        exact wX5_put__p201 hd C  h M
      · have h := it_t c h
        refine s_aload_n C dX5_put__189 rfl rfl ?_
        refine s_iload_n C dX5_put__190 rfl rfl ?_
        refine s_iload C dX5_put__191 rfl ?_
        obtain ⟨r2, I2, hh, h⟩ := bd_e h
        refine s_cV0 (st := []) C M.rg (Nat.le_trans (by decide) hd) mwX5_above mlX5_77 dX5_put__193 (wX5_above (d := 2) (Nat.le_refl _)  hh) kk_163 rfl rfl (Nat.le_of_ble_eq_true rfl) ?_
        refine s_istore (ls' := [some (rfX X 163), some (.int x1), none, none, none, some (.int r2), none]) C dX5_put__196 (by decide) (Nat.le_of_ble_eq_true rfl) rfl rfl ?_
        refine s_goto (tgt := 174) C dX5_put__198 (by decide) ?_
        exact ih  h M
theorem wX5_put__p172 {X : Cx} {d : Nat} (hd : 44 ≤ d) (C : CtxOK X mX5_put_) {x1 : Int32} {s0 : Int32} {I I' : Mm} {r : Int32}  (h : fX5_put__p172 x1 s0 I = some (r, I')) (M : MX X (xE X) d 0 0 (some (.int r)) S0 I') : WM X mX5_put_ 172 [some (rfX X 163), some (.int x1), none, none, none, none, none] [.int s0] S0 I 0 0 := by
  unfold fX5_put__p172 at h
  refine s_istore (ls' := [some (rfX X 163), some (.int x1), none, none, none, some (.int s0), none]) C dX5_put__172 (by decide) (Nat.le_of_ble_eq_true rfl) rfl rfl ?_
  exact wX5_put__p174 hd C _  h M
theorem wX5_put__p139 {X : Cx} {d : Nat} (hd : 44 ≤ d) (C : CtxOK X mX5_put_) {x1 : Int32} {x4 : Int32} {s1 : Int32} {s2 : Int32} {I I' : Mm} {r : Int32}  (h : fX5_put__p139 x1 x4 s1 s2 I = some (r, I')) (M : MX X (xE X) d 0 0 (some (.int r)) S0 I') : WM X mX5_put_ 139 [some (rfX X 163), some (.int x1), none, none, some (.int x4), none, none] [.int s2, .int s1, rfX X 163] S0 I 0 0 := by
  unfold fX5_put__p139 at h
  obtain ⟨r1, I1, hh, h⟩ := bd_e h
  refine s_cV0 (st := []) C M.rg (Nat.le_trans (by decide) hd) mwX5_setMost mlX5_104 dX5_put__139 (wX5_setMost (d := 1) (Nat.le_refl _)  hh) kk_163 rfl rfl (Nat.le_of_ble_eq_true rfl) ?_
  refine s_aload_n C dX5_put__142 rfl rfl ?_
  refine s_iload_n C dX5_put__143 rfl rfl ?_
  refine s_iload C dX5_put__144 rfl ?_
  obtain ⟨r2, I2, hh, h⟩ := bd_e h
  refine s_cV0 (st := []) C M.rg (Nat.le_trans (by decide) hd) mwX5_depth mlX5_139 dX5_put__146 (wX5_depth (d := 3) (Nat.le_refl _)  hh) kk_163 rfl rfl (Nat.le_of_ble_eq_true rfl) ?_
  refine s_aload_n C dX5_put__149 rfl rfl ?_
  refine s_aload_n C dX5_put__150 rfl rfl ?_
  refine s_iload_n C dX5_put__151 rfl rfl ?_
  obtain ⟨r3, I3, hh, h⟩ := bd_e h
  refine s_cV0 (st := [rfX X 163, .int r2]) C M.rg (Nat.le_trans (by decide) hd) mwX5_count mlX5_124 dX5_put__152 (wX5_count (d := 43) (Nat.le_refl _)  hh) kk_163 rfl rfl (Nat.le_of_ble_eq_true rfl) ?_
  obtain ⟨r4, I4, hh, h⟩ := bd_e h
  refine s_cV0 (st := [.int r2]) C M.rg (Nat.le_trans (by decide) hd) mwX5_mayHave mlX5_142 dX5_put__155 (wX5_mayHave (d := 1) (Nat.le_refl _)  hh) kk_163 rfl rfl (Nat.le_of_ble_eq_true rfl) ?_
  refine s_icmp_le (tgt := 171) C dX5_put__158 (by decide) (fun c => ?_) (fun c => ?_)
  · have h := it_t c h
    refine s_iconst C dX5_put__171 ic_m1 ?_
    refine s_weak (ls' := [some (rfX X 163), some (.int x1), none, none, none, none, none]) [true, true, false, false, false, false, false] rfl ?_
    exact wX5_put__p172 hd C  h M
  · have h := it_f c h
    refine s_aload_n C dX5_put__161 rfl rfl ?_
    refine s_iload_n C dX5_put__162 rfl rfl ?_
    refine s_iload C dX5_put__163 rfl ?_
    obtain ⟨r5, I5, hh, h⟩ := bd_e h
    refine s_cV0 (st := []) C M.rg (Nat.le_trans (by decide) hd) mwX5_above mlX5_77 dX5_put__165 (wX5_above (d := 2) (Nat.le_refl _)  hh) kk_163 rfl rfl (Nat.le_of_ble_eq_true rfl) ?_
    refine s_goto (tgt := 172) C dX5_put__168 (by decide) ?_
    refine s_weak (ls' := [some (rfX X 163), some (.int x1), none, none, none, none, none]) [true, true, false, false, false, false, false] rfl ?_
    exact wX5_put__p172 hd C  h M
theorem wX5_put__p69 {X : Cx} {d : Nat} (hd : 44 ≤ d) (C : CtxOK X mX5_put_) {x1 : Int32} {x2 : Int32} {x3 : Int32} {s1 : Int32} {I I' : Mm} {r : Int32}  (h : fX5_put__p69 x1 x2 x3 s1 I = some (r, I')) (M : MX X (xE X) d 0 0 (some (.int r)) S0 I') : WM X mX5_put_ 69 [some (rfX X 163), some (.int x1), some (.int x2), some (.int x3), none, none, none] [.int s1, rfX X 163] S0 I 0 0 := by
  unfold fX5_put__p69 at h
  refine s_iconst C dX5_put__69 ic_1 ?_
  refine s_bipush C dX5_put__70 bi_30 ?_
  obtain ⟨r1, I1, hh, h⟩ := bd_e h
  refine s_cV0 (st := []) C M.rg (Nat.le_trans (by decide) hd) mwX5_refuse mlX5_120 dX5_put__72 (wX5_refuse (d := 1) (Nat.le_refl _)  hh) kk_163 rfl rfl (Nat.le_of_ble_eq_true rfl) ?_
  refine s_if_eq (tgt := 81) C dX5_put__75 (by decide) (fun c => ?_) (fun c => ?_)
  · have h := it_t c h
    refine s_aload_n C dX5_put__81 rfl rfl ?_
    obtain ⟨r2, I2, hh, h⟩ := bd_e h
    refine s_cV0 (st := []) C M.rg (Nat.le_trans (by decide) hd) mwX5_change mlX5_127 dX5_put__82 (wX5_change (d := 3) (Nat.le_refl _)  hh) kk_163 rfl rfl (Nat.le_of_ble_eq_true rfl) ?_
    refine s_aload_n C dX5_put__85 rfl rfl ?_
    refine s_iload_n C dX5_put__86 rfl rfl ?_
    refine s_iload_n C dX5_put__87 rfl rfl ?_
    refine s_iload_n C dX5_put__88 rfl rfl ?_
    obtain ⟨r3, I3, hh, h⟩ := bd_e h
    refine s_cV0 (st := []) C M.rg (Nat.le_trans (by decide) hd) mwX5_enter mlX5_130 dX5_put__89 (wX5_enter (d := 3) (Nat.le_refl _)  hh) kk_163 rfl rfl (Nat.le_of_ble_eq_true rfl) ?_
    refine s_istore (ls' := [some (rfX X 163), some (.int x1), some (.int x2), some (.int x3), some (.int r3), none, none]) C dX5_put__92 (by decide) (Nat.le_of_ble_eq_true rfl) rfl rfl ?_
    refine s_aload_n C dX5_put__94 rfl rfl ?_
    refine s_iload_n C dX5_put__95 rfl rfl ?_
    refine s_iload C dX5_put__96 rfl ?_
    obtain ⟨r4, I4, hh, h⟩ := bd_e h
    refine s_cV0 (st := []) C M.rg (Nat.le_trans (by decide) hd) mwX5_hang mlX5_133 dX5_put__98 (wX5_hang (d := 2) (Nat.le_refl _)  hh) kk_163 rfl rfl (Nat.le_of_ble_eq_true rfl) ?_
    refine s_aload_n C dX5_put__101 rfl rfl ?_
    refine s_getR (b := 164) C dX5_put__102 kk_163 foX5_9 rfl rk_163_0 ?_
    refine s_iconst C dX5_put__105 ic_1 ?_
    refine s_dup2 C dX5_put__106 rfl rfl ?_
    refine s_ald (q := 1) C dX5_put__107 kk_164 (by decide) (by decide) (by decide) ?_
    refine s_iconst C dX5_put__108 ic_1 ?_
    refine s_iadd C dX5_put__109 ?_
    obtain ⟨I5, eI5, h⟩ := ltm_e h
    refine s_ast (q := 1) C dX5_put__110 kk_164 (by decide) (by decide) (by decide) eI5 ?_
    refine s_aload_n C dX5_put__111 rfl rfl ?_
    refine s_iload_n C dX5_put__112 rfl rfl ?_
    refine s_aload_n C dX5_put__113 rfl rfl ?_
    refine s_iload_n C dX5_put__114 rfl rfl ?_
    obtain ⟨r5, I6, hh, h⟩ := bd_e h
    refine s_cV0 (st := [.int x1, rfX X 163]) C M.rg (Nat.le_trans (by decide) hd) mwX5_count mlX5_124 dX5_put__115 (wX5_count (d := 43) (Nat.le_refl _)  hh) kk_163 rfl rfl (Nat.le_of_ble_eq_true rfl) ?_
    refine s_aload_n C dX5_put__118 rfl rfl ?_
    refine s_iload_n C dX5_put__119 rfl rfl ?_
    obtain ⟨r6, I7, hh, h⟩ := bd_e h
    refine s_cV0 (st := [.int r5, .int x1, rfX X 163]) C M.rg (Nat.le_trans (by decide) hd) mwX5_most mlX5_136 dX5_put__120 (wX5_most (d := 1) (Nat.le_refl _)  hh) kk_163 rfl rfl (Nat.le_of_ble_eq_true rfl) ?_
    refine s_icmp_le (tgt := 134) C dX5_put__123 (by decide) (fun c => ?_) (fun c => ?_)
    · have h := it_t c h
      refine s_aload_n C dX5_put__134 rfl rfl ?_
      refine s_iload_n C dX5_put__135 rfl rfl ?_
      obtain ⟨r7, I8, hh, h⟩ := bd_e h
      refine s_cV0 (st := [.int x1, rfX X 163]) C M.rg (Nat.le_trans (by decide) hd) mwX5_most mlX5_136 dX5_put__136 (wX5_most (d := 1) (Nat.le_refl _)  hh) kk_163 rfl rfl (Nat.le_of_ble_eq_true rfl) ?_
      refine s_weak (ls' := [some (rfX X 163), some (.int x1), none, none, some (.int r3), none, none]) [true, true, false, false, true, false, false] rfl ?_
      exact wX5_put__p139 hd C  h M
    · have h := it_f c h
      refine s_aload_n C dX5_put__126 rfl rfl ?_
      refine s_iload_n C dX5_put__127 rfl rfl ?_
      obtain ⟨r7, I8, hh, h⟩ := bd_e h
      refine s_cV0 (st := [.int x1, rfX X 163]) C M.rg (Nat.le_trans (by decide) hd) mwX5_count mlX5_124 dX5_put__128 (wX5_count (d := 43) (Nat.le_refl _)  hh) kk_163 rfl rfl (Nat.le_of_ble_eq_true rfl) ?_
      refine s_goto (tgt := 139) C dX5_put__131 (by decide) ?_
      refine s_weak (ls' := [some (rfX X 163), some (.int x1), none, none, some (.int r3), none, none]) [true, true, false, false, true, false, false] rfl ?_
      exact wX5_put__p139 hd C  h M
  · have h := it_f c h
    refine s_bipush C dX5_put__78 bi_m14 ?_
    obtain ⟨rfl, rfl⟩ := pr_e h
    exact s_iret C M dX5_put__80 rfl rfl (Nat.le_refl 0) (Nat.le_refl 0)
theorem wX5_put__p45 {X : Cx} {d : Nat} (hd : 44 ≤ d) (C : CtxOK X mX5_put_) {x1 : Int32} {x2 : Int32} {x3 : Int32} {s1 : Int32} {I I' : Mm} {r : Int32}  (h : fX5_put__p45 x1 x2 x3 s1 I = some (r, I')) (M : MX X (xE X) d 0 0 (some (.int r)) S0 I') : WM X mX5_put_ 45 [some (rfX X 163), some (.int x1), some (.int x2), some (.int x3), none, none, none] [.int s1, rfX X 163] S0 I 0 0 := by
  unfold fX5_put__p45 at h
  refine s_iconst C dX5_put__45 ic_2 ?_
  refine s_iload_n C dX5_put__46 rfl rfl ?_
  obtain ⟨r1, I1, hh, h⟩ := bd_e h
  refine s_cV0 (st := []) C M.rg (Nat.le_trans (by decide) hd) mwX5_refuse mlX5_120 dX5_put__47 (wX5_refuse (d := 1) (Nat.le_refl _)  hh) kk_163 rfl rfl (Nat.le_of_ble_eq_true rfl) ?_
  refine s_if_ne (tgt := 78) C dX5_put__50 (by decide) (fun c => ?_) (fun c => ?_)
  · have h := it_f c h
    refine s_bipush C dX5_put__78 bi_m14 ?_
    obtain ⟨rfl, rfl⟩ := pr_e h
    exact s_iret C M dX5_put__80 rfl rfl (Nat.le_refl 0) (Nat.le_refl 0)
  · have h := it_t c h
    refine s_aload_n C dX5_put__53 rfl rfl ?_
    refine s_aload_n C dX5_put__54 rfl rfl ?_
    refine s_iload_n C dX5_put__55 rfl rfl ?_
    obtain ⟨r2, I2, hh, h⟩ := bd_e h
    refine s_cV0 (st := [rfX X 163]) C M.rg (Nat.le_trans (by decide) hd) mwX5_count mlX5_124 dX5_put__56 (wX5_count (d := 43) (Nat.le_refl _)  hh) kk_163 rfl rfl (Nat.le_of_ble_eq_true rfl) ?_
    refine s_bipush C dX5_put__59 bi_30 ?_
    refine s_icmp_ne (tgt := 68) C dX5_put__61 (by decide) (fun c => ?_) (fun c => ?_)
    · have h := it_f c h
      refine s_iconst C dX5_put__68 ic_0 ?_
      exact wX5_put__p69 hd C  h M
    · have h := it_t c h
      refine s_iconst C dX5_put__64 ic_1 ?_
      refine s_goto (tgt := 69) C dX5_put__65 (by decide) ?_
      exact wX5_put__p69 hd C  h M
theorem wX5_put_ {E : Ev} {d : Nat} (hd : 44 ≤ d) {x1 : Int32} {x2 : Int32} {x3 : Int32} {I I' : Mm} {r : Int32}  (h : fX5_put_ x1 x2 x3 I = some (r, I')) : SemM E d 0 0 mX5_put_ [rfE E 163, .int x1, .int x2, .int x3] S0 I (some (.int r)) S0 I' := by
  unfold fX5_put_ at h
  refine SemM.ofX (E := E) (y := mX5_put_) (args := fun E => [rfE E 163, .int x1, .int x2, .int x3]) (r := fun E => (some (.int r))) (fun E => [some (rfE E 163), some (.int x1), some (.int x2), some (.int x3), none, none, none]) (by decide +kernel) (Nat.le_of_ble_eq_true rfl) rfl (fun X C M => ?_)
  refine s_iload_n C dX5_put__0 rfl rfl ?_
  obtain ⟨r1, I1, hh, h⟩ := bd_e h
  refine s_cS0 (st := []) C M.rg (Nat.le_trans (by decide) hd) mwX5_isRick mlX5_110 dX5_put__1 (wX5_isRick (d := 2) (Nat.le_refl _)  hh) rfl rfl (Nat.le_of_ble_eq_true rfl) ?_
  refine s_if_ne (tgt := 10) C dX5_put__4 (by decide) (fun c => ?_) (fun c => ?_)
  · have h := it_f c h
    refine s_iload_n C dX5_put__10 rfl rfl ?_
    obtain ⟨r2, I2, hh, h⟩ := bd_e h
    refine s_cS0 (st := []) C M.rg (Nat.le_trans (by decide) hd) mwX5_isWeight mlX5_114 dX5_put__11 (wX5_isWeight (d := 2) (Nat.le_refl _)  hh) rfl rfl (Nat.le_of_ble_eq_true rfl) ?_
    refine s_if_eq (tgt := 27) C dX5_put__14 (by decide) (fun c => ?_) (fun c => ?_)
    · have h := it_t c h
      refine s_bipush C dX5_put__27 bi_m12 ?_
      obtain ⟨rfl, rfl⟩ := pr_e h
      exact s_iret C M dX5_put__29 rfl rfl (Nat.le_refl 0) (Nat.le_refl 0)
    · have h := it_f c h
      refine s_iload_n C dX5_put__17 rfl rfl ?_
      refine s_iconst C dX5_put__18 ic_1 ?_
      refine s_bipush C dX5_put__19 bi_99 ?_
      obtain ⟨r3, I3, hh, h⟩ := bd_e h
      refine s_cS0 (st := []) C M.rg (Nat.le_trans (by decide) hd) mwX5_isBetween mlX5_58 dX5_put__21 (wX5_isBetween (d := 1) (Nat.le_refl _)  hh) rfl rfl (Nat.le_of_ble_eq_true rfl) ?_
      refine s_if_ne (tgt := 30) C dX5_put__24 (by decide) (fun c => ?_) (fun c => ?_)
      · have h := it_f c h
        refine s_aload_n C dX5_put__30 rfl rfl ?_
        refine s_aload_n C dX5_put__31 rfl rfl ?_
        refine s_iload_n C dX5_put__32 rfl rfl ?_
        refine s_iload_n C dX5_put__33 rfl rfl ?_
        obtain ⟨r4, I4, hh, h⟩ := bd_e h
        refine s_cV0 (st := [rfX X 163]) C M.rg (Nat.le_trans (by decide) hd) mwX5_find mlX5_117 dX5_put__34 (wX5_find (d := 2) (Nat.le_refl _)  hh) kk_163 rfl rfl (Nat.le_of_ble_eq_true rfl) ?_
        refine s_if_lt (tgt := 44) C dX5_put__37 (by decide) (fun c => ?_) (fun c => ?_)
        · have h := it_t c h
          refine s_iconst C dX5_put__44 ic_0 ?_
          exact wX5_put__p45 hd C  h M
        · have h := it_f c h
          refine s_iconst C dX5_put__40 ic_1 ?_
          refine s_goto (tgt := 45) C dX5_put__41 (by decide) ?_
          exact wX5_put__p45 hd C  h M
      · have h := it_t c h
        refine s_bipush C dX5_put__27 bi_m12 ?_
        obtain ⟨rfl, rfl⟩ := pr_e h
        exact s_iret C M dX5_put__29 rfl rfl (Nat.le_refl 0) (Nat.le_refl 0)
  · have h := it_t c h
    refine s_bipush C dX5_put__7 bi_m11 ?_
    obtain ⟨rfl, rfl⟩ := pr_e h
    exact s_iret C M dX5_put__9 rfl rfl (Nat.le_refl 0) (Nat.le_refl 0)
theorem wX5_unhang {E : Ev} {d : Nat} (hd : 3 ≤ d) {x1 : Int32} {x2 : Int32} {I I' : Mm} {r : Unit}  (h : fX5_unhang x1 x2 I = some (r, I')) : SemM E d 0 0 mX5_unhang [rfE E 163, .int x1, .int x2] S0 I none S0 I' := by
  unfold fX5_unhang at h
  refine SemM.ofX (E := E) (y := mX5_unhang) (args := fun E => [rfE E 163, .int x1, .int x2]) (r := fun E => none) (fun E => [some (rfE E 163), some (.int x1), some (.int x2), none]) (by decide +kernel) (Nat.le_of_ble_eq_true rfl) rfl (fun X C M => ?_)
  refine s_aload_n C dX5_unhang_0 rfl rfl ?_
  refine s_iload_n C dX5_unhang_1 rfl rfl ?_
  refine s_iload_n C dX5_unhang_2 rfl rfl ?_
  refine s_iconst C dX5_unhang_3 ic_2 ?_
  obtain ⟨r1, I1, hh, h⟩ := bd_e h
  refine s_cV0 (st := []) C M.rg (Nat.le_trans (by decide) hd) mwX5_of mlX5_62 dX5_unhang_4 (wX5_of (d := 1) (Nat.le_refl _)  hh) kk_163 rfl rfl (Nat.le_of_ble_eq_true rfl) ?_
  refine s_if_lt (tgt := 20) C dX5_unhang_7 (by decide) (fun c => ?_) (fun c => ?_)
  · have h := it_t c h
    refine s_aload_n C dX5_unhang_20 rfl rfl ?_
    refine s_iload_n C dX5_unhang_21 rfl rfl ?_
    refine s_iload_n C dX5_unhang_22 rfl rfl ?_
    refine s_iconst C dX5_unhang_23 ic_3 ?_
    obtain ⟨r2, I2, hh, h⟩ := bd_e h
    refine s_cV0 (st := []) C M.rg (Nat.le_trans (by decide) hd) mwX5_of mlX5_62 dX5_unhang_24 (wX5_of (d := 1) (Nat.le_refl _)  hh) kk_163 rfl rfl (Nat.le_of_ble_eq_true rfl) ?_
    refine s_istore_n (ls' := [some (rfX X 163), some (.int x1), some (.int x2), some (.int r2)]) C dX5_unhang_27 rfl (by decide) (Nat.le_of_ble_eq_true rfl) rfl rfl ?_
    refine s_aload_n C dX5_unhang_28 rfl rfl ?_
    refine s_iload_n C dX5_unhang_29 rfl rfl ?_
    refine s_aload_n C dX5_unhang_30 rfl rfl ?_
    refine s_iload_n C dX5_unhang_31 rfl rfl ?_
    refine s_iload_n C dX5_unhang_32 rfl rfl ?_
    obtain ⟨r3, I3, hh, h⟩ := bd_e h
    refine s_cV0 (st := [.int x1, rfX X 163]) C M.rg (Nat.le_trans (by decide) hd) mwX5_above mlX5_77 dX5_unhang_33 (wX5_above (d := 2) (Nat.le_refl _)  hh) kk_163 rfl rfl (Nat.le_of_ble_eq_true rfl) ?_
    refine s_iload_n C dX5_unhang_36 rfl rfl ?_
    refine s_iload_n C dX5_unhang_37 rfl rfl ?_
    obtain ⟨r4, I4, hh, h⟩ := bd_e h
    refine s_cV0 (st := []) C M.rg (Nat.le_trans (by decide) hd) mwX5_replace mlX5_97 dX5_unhang_38 (wX5_replace (d := 2) (Nat.le_refl _)  hh) kk_163 rfl rfl (Nat.le_of_ble_eq_true rfl) ?_
    obtain ⟨rfl, rfl⟩ := pr_e h
    exact s_vret C M dX5_unhang_41 rfl (Nat.le_refl 0) (Nat.le_refl 0)
  · have h := it_f c h
    refine s_aload_n C dX5_unhang_10 rfl rfl ?_
    refine s_iload_n C dX5_unhang_11 rfl rfl ?_
    refine s_iload_n C dX5_unhang_12 rfl rfl ?_
    refine s_iconst C dX5_unhang_13 ic_2 ?_
    obtain ⟨r2, I2, hh, h⟩ := bd_e h
    refine s_cV0 (st := []) C M.rg (Nat.le_trans (by decide) hd) mwX5_of mlX5_62 dX5_unhang_14 (wX5_of (d := 1) (Nat.le_refl _)  hh) kk_163 rfl rfl (Nat.le_of_ble_eq_true rfl) ?_
    refine s_goto (tgt := 27) C dX5_unhang_17 (by decide) ?_
    refine s_istore_n (ls' := [some (rfX X 163), some (.int x1), some (.int x2), some (.int r2)]) C dX5_unhang_27 rfl (by decide) (Nat.le_of_ble_eq_true rfl) rfl rfl ?_
    refine s_aload_n C dX5_unhang_28 rfl rfl ?_
    refine s_iload_n C dX5_unhang_29 rfl rfl ?_
    refine s_aload_n C dX5_unhang_30 rfl rfl ?_
    refine s_iload_n C dX5_unhang_31 rfl rfl ?_
    refine s_iload_n C dX5_unhang_32 rfl rfl ?_
    obtain ⟨r3, I3, hh, h⟩ := bd_e h
    refine s_cV0 (st := [.int x1, rfX X 163]) C M.rg (Nat.le_trans (by decide) hd) mwX5_above mlX5_77 dX5_unhang_33 (wX5_above (d := 2) (Nat.le_refl _)  hh) kk_163 rfl rfl (Nat.le_of_ble_eq_true rfl) ?_
    refine s_iload_n C dX5_unhang_36 rfl rfl ?_
    refine s_iload_n C dX5_unhang_37 rfl rfl ?_
    obtain ⟨r4, I4, hh, h⟩ := bd_e h
    refine s_cV0 (st := []) C M.rg (Nat.le_trans (by decide) hd) mwX5_replace mlX5_97 dX5_unhang_38 (wX5_replace (d := 2) (Nat.le_refl _)  hh) kk_163 rfl rfl (Nat.le_of_ble_eq_true rfl) ?_
    obtain ⟨rfl, rfl⟩ := pr_e h
    exact s_vret C M dX5_unhang_41 rfl (Nat.le_refl 0) (Nat.le_refl 0)
theorem wX5_takeOut_p35 {X : Cx} {d : Nat} (hd : 4 ≤ d) (C : CtxOK X mX5_takeOut) : ∀ (n : Nat) {x1 : Int32} {x2 : Int32} {x3 : Int32} {I I' : Mm} {r : Unit}  (_ : fX5_takeOut_p35 n x1 x2 x3 I = some (r, I')) (_ : MX X (xE X) d 0 0 none S0 I'), WM X mX5_takeOut 35 [some (rfX X 163), some (.int x1), some (.int x2), some (.int x3), none] [] S0 I 0 0 := by
  intro n
  induction n with
  | zero => intro x1 x2 x3 I I' r  h M; exact absurd h (by simp [fX5_takeOut_p35])
  | succ n ih =>
    intro x1 x2 x3 I I' r  h M
    rw [fX5_takeOut_p35] at h
    refine s_aload_n C dX5_takeOut_35 rfl rfl ?_
    refine s_iload_n C dX5_takeOut_36 rfl rfl ?_
    refine s_iload_n C dX5_takeOut_37 rfl rfl ?_
    refine s_iconst C dX5_takeOut_38 ic_2 ?_
    obtain ⟨r1, I1, hh, h⟩ := bd_e h
    refine s_cV0 (st := []) C M.rg (Nat.le_trans (by decide) hd) mwX5_of mlX5_62 dX5_takeOut_39 (wX5_of (d := 1) (Nat.le_refl _)  hh) kk_163 rfl rfl (Nat.le_of_ble_eq_true rfl) ?_
    refine s_if_lt (tgt := 56) C dX5_takeOut_42 (by decide) (fun c => ?_) (fun c => ?_)
    · have h := it_t c h
      refine s_aload_n C dX5_takeOut_56 rfl rfl ?_
      refine s_iload_n C dX5_takeOut_57 rfl rfl ?_
      refine s_iload_n C dX5_takeOut_58 rfl rfl ?_
      obtain ⟨r2, I2, hh, h⟩ := bd_e h
      refine s_cV0 (st := []) C M.rg (Nat.le_trans (by decide) hd) mwX5_unhang mlX5_152 dX5_takeOut_59 (wX5_unhang (d := 3) (Nat.le_refl _)  hh) kk_163 rfl rfl (Nat.le_of_ble_eq_true rfl) ?_
      refine s_aload_n C dX5_takeOut_62 rfl rfl ?_
      refine s_iload_n C dX5_takeOut_63 rfl rfl ?_
      refine s_iload_n C dX5_takeOut_64 rfl rfl ?_
      obtain ⟨r3, I3, hh, h⟩ := bd_e h
      refine s_cV0 (st := []) C M.rg (Nat.le_trans (by decide) hd) mwX5_above mlX5_77 dX5_takeOut_65 (wX5_above (d := 2) (Nat.le_refl _)  hh) kk_163 rfl rfl (Nat.le_of_ble_eq_true rfl) ?_
      refine s_istore (ls' := [some (rfX X 163), some (.int x1), some (.int x2), some (.int x3), some (.int r3)]) C dX5_takeOut_68 (by decide) (Nat.le_of_ble_eq_true rfl) rfl rfl ?_
      refine s_aload_n C dX5_takeOut_70 rfl rfl ?_
      refine s_iload_n C dX5_takeOut_71 rfl rfl ?_
      refine s_iload_n C dX5_takeOut_72 rfl rfl ?_
      refine s_iconst C dX5_takeOut_73 ic_2 ?_
      refine s_aload_n C dX5_takeOut_74 rfl rfl ?_
      refine s_iload_n C dX5_takeOut_75 rfl rfl ?_
      refine s_iload_n C dX5_takeOut_76 rfl rfl ?_
      refine s_iconst C dX5_takeOut_77 ic_2 ?_
      obtain ⟨r4, I4, hh, h⟩ := bd_e h
      refine s_cV0 (st := [.int 2, .int x3, .int x1, rfX X 163]) C M.rg (Nat.le_trans (by decide) hd) mwX5_of mlX5_62 dX5_takeOut_78 (wX5_of (d := 1) (Nat.le_refl _)  hh) kk_163 rfl rfl (Nat.le_of_ble_eq_true rfl) ?_
      obtain ⟨r5, I5, hh, h⟩ := bd_e h
      refine s_cV0 (st := []) C M.rg (Nat.le_trans (by decide) hd) mwX5_put mlX5_90 dX5_takeOut_81 (wX5_put (d := 1) (Nat.le_refl _)  hh) kk_163 rfl rfl (Nat.le_of_ble_eq_true rfl) ?_
      refine s_aload_n C dX5_takeOut_84 rfl rfl ?_
      refine s_iload_n C dX5_takeOut_85 rfl rfl ?_
      refine s_iload_n C dX5_takeOut_86 rfl rfl ?_
      refine s_iconst C dX5_takeOut_87 ic_3 ?_
      refine s_aload_n C dX5_takeOut_88 rfl rfl ?_
      refine s_iload_n C dX5_takeOut_89 rfl rfl ?_
      refine s_iload_n C dX5_takeOut_90 rfl rfl ?_
      refine s_iconst C dX5_takeOut_91 ic_3 ?_
      obtain ⟨r6, I6, hh, h⟩ := bd_e h
      refine s_cV0 (st := [.int 3, .int x3, .int x1, rfX X 163]) C M.rg (Nat.le_trans (by decide) hd) mwX5_of mlX5_62 dX5_takeOut_92 (wX5_of (d := 1) (Nat.le_refl _)  hh) kk_163 rfl rfl (Nat.le_of_ble_eq_true rfl) ?_
      obtain ⟨r7, I7, hh, h⟩ := bd_e h
      refine s_cV0 (st := []) C M.rg (Nat.le_trans (by decide) hd) mwX5_put mlX5_90 dX5_takeOut_95 (wX5_put (d := 1) (Nat.le_refl _)  hh) kk_163 rfl rfl (Nat.le_of_ble_eq_true rfl) ?_
      refine s_aload_n C dX5_takeOut_98 rfl rfl ?_
      refine s_iload_n C dX5_takeOut_99 rfl rfl ?_
      refine s_iload C dX5_takeOut_100 rfl ?_
      refine s_iload_n C dX5_takeOut_102 rfl rfl ?_
      refine s_iload_n C dX5_takeOut_103 rfl rfl ?_
      obtain ⟨r8, I8, hh, h⟩ := bd_e h
      refine s_cV0 (st := []) C M.rg (Nat.le_trans (by decide) hd) mwX5_replace mlX5_97 dX5_takeOut_104 (wX5_replace (d := 2) (Nat.le_refl _)  hh) kk_163 rfl rfl (Nat.le_of_ble_eq_true rfl) ?_
      obtain ⟨rfl, rfl⟩ := pr_e h
      exact s_vret C M dX5_takeOut_107 rfl (Nat.le_refl 0) (Nat.le_refl 0)
    · have h := it_f c h
      refine s_aload_n C dX5_takeOut_45 rfl rfl ?_
      refine s_iload_n C dX5_takeOut_46 rfl rfl ?_
      refine s_iload_n C dX5_takeOut_47 rfl rfl ?_
      refine s_iconst C dX5_takeOut_48 ic_2 ?_
      obtain ⟨r2, I2, hh, h⟩ := bd_e h
      refine s_cV0 (st := []) C M.rg (Nat.le_trans (by decide) hd) mwX5_of mlX5_62 dX5_takeOut_49 (wX5_of (d := 1) (Nat.le_refl _)  hh) kk_163 rfl rfl (Nat.le_of_ble_eq_true rfl) ?_
      refine s_istore_n (ls' := [some (rfX X 163), some (.int x1), some (.int x2), some (.int r2), none]) C dX5_takeOut_52 rfl (by decide) (Nat.le_of_ble_eq_true rfl) rfl rfl ?_
      refine s_goto (tgt := 35) C dX5_takeOut_53 (by decide) ?_
      exact ih  h M
theorem wX5_takeOut {E : Ev} {d : Nat} (hd : 4 ≤ d) {x1 : Int32} {x2 : Int32} {I I' : Mm} {r : Unit}  (h : fX5_takeOut x1 x2 I = some (r, I')) : SemM E d 0 0 mX5_takeOut [rfE E 163, .int x1, .int x2] S0 I none S0 I' := by
  unfold fX5_takeOut at h
  refine SemM.ofX (E := E) (y := mX5_takeOut) (args := fun E => [rfE E 163, .int x1, .int x2]) (r := fun E => none) (fun E => [some (rfE E 163), some (.int x1), some (.int x2), none, none]) (by decide +kernel) (Nat.le_of_ble_eq_true rfl) rfl (fun X C M => ?_)
  refine s_aload_n C dX5_takeOut_0 rfl rfl ?_
  refine s_iload_n C dX5_takeOut_1 rfl rfl ?_
  refine s_iload_n C dX5_takeOut_2 rfl rfl ?_
  refine s_iconst C dX5_takeOut_3 ic_2 ?_
  obtain ⟨r1, I1, hh, h⟩ := bd_e h
  refine s_cV0 (st := []) C M.rg (Nat.le_trans (by decide) hd) mwX5_of mlX5_62 dX5_takeOut_4 (wX5_of (d := 1) (Nat.le_refl _)  hh) kk_163 rfl rfl (Nat.le_of_ble_eq_true rfl) ?_
  refine s_if_lt (tgt := 20) C dX5_takeOut_7 (by decide) (fun c => ?_) (fun c => ?_)
  · have h := it_t c h
    refine s_aload_n C dX5_takeOut_20 rfl rfl ?_
    refine s_iload_n C dX5_takeOut_21 rfl rfl ?_
    refine s_iload_n C dX5_takeOut_22 rfl rfl ?_
    obtain ⟨r2, I2, hh, h⟩ := bd_e h
    refine s_cV0 (st := []) C M.rg (Nat.le_trans (by decide) hd) mwX5_unhang mlX5_152 dX5_takeOut_23 (wX5_unhang (d := 3) (Nat.le_refl _)  hh) kk_163 rfl rfl (Nat.le_of_ble_eq_true rfl) ?_
    obtain ⟨rfl, rfl⟩ := pr_e h
    exact s_vret C M dX5_takeOut_26 rfl (Nat.le_refl 0) (Nat.le_refl 0)
  · have h := it_f c h
    refine s_aload_n C dX5_takeOut_10 rfl rfl ?_
    refine s_iload_n C dX5_takeOut_11 rfl rfl ?_
    refine s_iload_n C dX5_takeOut_12 rfl rfl ?_
    refine s_iconst C dX5_takeOut_13 ic_3 ?_
    obtain ⟨r2, I2, hh, h⟩ := bd_e h
    refine s_cV0 (st := []) C M.rg (Nat.le_trans (by decide) hd) mwX5_of mlX5_62 dX5_takeOut_14 (wX5_of (d := 1) (Nat.le_refl _)  hh) kk_163 rfl rfl (Nat.le_of_ble_eq_true rfl) ?_
    refine s_if_ge (tgt := 27) C dX5_takeOut_17 (by decide) (fun c => ?_) (fun c => ?_)
    · have h := it_t c h
      refine s_aload_n C dX5_takeOut_27 rfl rfl ?_
      refine s_iload_n C dX5_takeOut_28 rfl rfl ?_
      refine s_iload_n C dX5_takeOut_29 rfl rfl ?_
      refine s_iconst C dX5_takeOut_30 ic_3 ?_
      obtain ⟨r3, I3, hh, h⟩ := bd_e h
      refine s_cV0 (st := []) C M.rg (Nat.le_trans (by decide) hd) mwX5_of mlX5_62 dX5_takeOut_31 (wX5_of (d := 1) (Nat.le_refl _)  hh) kk_163 rfl rfl (Nat.le_of_ble_eq_true rfl) ?_
      refine s_istore_n (ls' := [some (rfX X 163), some (.int x1), some (.int x2), some (.int r3), none]) C dX5_takeOut_34 rfl (by decide) (Nat.le_of_ble_eq_true rfl) rfl rfl ?_
      exact wX5_takeOut_p35 hd C _  h M
    · have h := it_f c h
      refine s_aload_n C dX5_takeOut_20 rfl rfl ?_
      refine s_iload_n C dX5_takeOut_21 rfl rfl ?_
      refine s_iload_n C dX5_takeOut_22 rfl rfl ?_
      obtain ⟨r3, I3, hh, h⟩ := bd_e h
      refine s_cV0 (st := []) C M.rg (Nat.le_trans (by decide) hd) mwX5_unhang mlX5_152 dX5_takeOut_23 (wX5_unhang (d := 3) (Nat.le_refl _)  hh) kk_163 rfl rfl (Nat.le_of_ble_eq_true rfl) ?_
      obtain ⟨rfl, rfl⟩ := pr_e h
      exact s_vret C M dX5_takeOut_26 rfl (Nat.le_refl 0) (Nat.le_refl 0)
theorem wX5_take {E : Ev} {d : Nat} (hd : 45 ≤ d) {x1 : Int32} {x2 : Int32} {I I' : Mm} {r : Int32}  (h : fX5_take x1 x2 I = some (r, I')) : SemM E d 0 0 mX5_take [rfE E 163, .int x1, .int x2] S0 I (some (.int r)) S0 I' := by
  unfold fX5_take at h
  refine SemM.ofX (E := E) (y := mX5_take) (args := fun E => [rfE E 163, .int x1, .int x2]) (r := fun E => (some (.int r))) (fun E => [some (rfE E 163), some (.int x1), some (.int x2), none, none]) (by decide +kernel) (Nat.le_of_ble_eq_true rfl) rfl (fun X C M => ?_)
  refine s_iload_n C dX5_take_0 rfl rfl ?_
  obtain ⟨r1, I1, hh, h⟩ := bd_e h
  refine s_cS0 (st := []) C M.rg (Nat.le_trans (by decide) hd) mwX5_isRick mlX5_110 dX5_take_1 (wX5_isRick (d := 2) (Nat.le_refl _)  hh) rfl rfl (Nat.le_of_ble_eq_true rfl) ?_
  refine s_if_eq (tgt := 16) C dX5_take_4 (by decide) (fun c => ?_) (fun c => ?_)
  · have h := it_t c h
    refine s_bipush C dX5_take_16 bi_m11 ?_
    obtain ⟨rfl, rfl⟩ := pr_e h
    exact s_iret C M dX5_take_18 rfl rfl (Nat.le_refl 0) (Nat.le_refl 0)
  · have h := it_f c h
    refine s_aload_n C dX5_take_7 rfl rfl ?_
    refine s_iload_n C dX5_take_8 rfl rfl ?_
    refine s_iload_n C dX5_take_9 rfl rfl ?_
    obtain ⟨r2, I2, hh, h⟩ := bd_e h
    refine s_cV0 (st := []) C M.rg (Nat.le_trans (by decide) hd) mwX5_find mlX5_117 dX5_take_10 (wX5_find (d := 2) (Nat.le_refl _)  hh) kk_163 rfl rfl (Nat.le_of_ble_eq_true rfl) ?_
    refine s_if_ge (tgt := 19) C dX5_take_13 (by decide) (fun c => ?_) (fun c => ?_)
    · have h := it_t c h
      refine s_aload_n C dX5_take_19 rfl rfl ?_
      obtain ⟨r3, I3, hh, h⟩ := bd_e h
      refine s_cV0 (st := []) C M.rg (Nat.le_trans (by decide) hd) mwX5_change mlX5_127 dX5_take_20 (wX5_change (d := 3) (Nat.le_refl _)  hh) kk_163 rfl rfl (Nat.le_of_ble_eq_true rfl) ?_
      refine s_aload_n C dX5_take_23 rfl rfl ?_
      refine s_iload_n C dX5_take_24 rfl rfl ?_
      refine s_iload_n C dX5_take_25 rfl rfl ?_
      obtain ⟨r4, I4, hh, h⟩ := bd_e h
      refine s_cV0 (st := []) C M.rg (Nat.le_trans (by decide) hd) mwX5_find mlX5_117 dX5_take_26 (wX5_find (d := 2) (Nat.le_refl _)  hh) kk_163 rfl rfl (Nat.le_of_ble_eq_true rfl) ?_
      refine s_istore_n (ls' := [some (rfX X 163), some (.int x1), some (.int x2), some (.int r4), none]) C dX5_take_29 rfl (by decide) (Nat.le_of_ble_eq_true rfl) rfl rfl ?_
      refine s_aload_n C dX5_take_30 rfl rfl ?_
      refine s_iload_n C dX5_take_31 rfl rfl ?_
      refine s_iload_n C dX5_take_32 rfl rfl ?_
      refine s_iconst C dX5_take_33 ic_1 ?_
      obtain ⟨r5, I5, hh, h⟩ := bd_e h
      refine s_cV0 (st := []) C M.rg (Nat.le_trans (by decide) hd) mwX5_of mlX5_62 dX5_take_34 (wX5_of (d := 1) (Nat.le_refl _)  hh) kk_163 rfl rfl (Nat.le_of_ble_eq_true rfl) ?_
      refine s_istore (ls' := [some (rfX X 163), some (.int x1), some (.int x2), some (.int r4), some (.int r5)]) C dX5_take_37 (by decide) (Nat.le_of_ble_eq_true rfl) rfl rfl ?_
      refine s_aload_n C dX5_take_39 rfl rfl ?_
      refine s_iload_n C dX5_take_40 rfl rfl ?_
      refine s_iload_n C dX5_take_41 rfl rfl ?_
      obtain ⟨r6, I6, hh, h⟩ := bd_e h
      refine s_cV0 (st := []) C M.rg (Nat.le_trans (by decide) hd) mwX5_takeOut mlX5_155 dX5_take_42 (wX5_takeOut (d := 4) (Nat.le_refl _)  hh) kk_163 rfl rfl (Nat.le_of_ble_eq_true rfl) ?_
      refine s_aload_n C dX5_take_45 rfl rfl ?_
      refine s_iload_n C dX5_take_46 rfl rfl ?_
      refine s_iload_n C dX5_take_47 rfl rfl ?_
      obtain ⟨r7, I7, hh, h⟩ := bd_e h
      refine s_cV0 (st := []) C M.rg (Nat.le_trans (by decide) hd) mwX5_clear mlX5_158 dX5_take_48 (wX5_clear (d := 2) (Nat.le_refl _)  hh) kk_163 rfl rfl (Nat.le_of_ble_eq_true rfl) ?_
      refine s_aload_n C dX5_take_51 rfl rfl ?_
      refine s_getR (b := 164) C dX5_take_52 kk_163 foX5_9 rfl rk_163_0 ?_
      refine s_iconst C dX5_take_55 ic_2 ?_
      refine s_dup2 C dX5_take_56 rfl rfl ?_
      refine s_ald (q := 2) C dX5_take_57 kk_164 (by decide) (by decide) (by decide) ?_
      refine s_iconst C dX5_take_58 ic_1 ?_
      refine s_iadd C dX5_take_59 ?_
      obtain ⟨I8, eI8, h⟩ := ltm_e h
      refine s_ast (q := 2) C dX5_take_60 kk_164 (by decide) (by decide) (by decide) eI8 ?_
      refine s_bipush C dX5_take_61 bi_100 ?_
      refine s_aload_n C dX5_take_63 rfl rfl ?_
      refine s_iload_n C dX5_take_64 rfl rfl ?_
      obtain ⟨r8, I9, hh, h⟩ := bd_e h
      refine s_cV0 (st := [.int 100]) C M.rg (Nat.le_trans (by decide) hd) mwX5_count mlX5_124 dX5_take_65 (wX5_count (d := 43) (Nat.le_refl _)  hh) kk_163 rfl rfl (Nat.le_of_ble_eq_true rfl) ?_
      refine s_imul C dX5_take_68 ?_
      refine s_aload_n C dX5_take_69 rfl rfl ?_
      refine s_getR (b := 164) C dX5_take_70 kk_163 foX5_9 rfl rk_163_0 ?_
      refine s_iconst C dX5_take_73 ic_0 ?_
      refine s_ald (q := 0) C dX5_take_74 kk_164 (by decide) (by decide) (by decide) ?_
      refine s_aload_n C dX5_take_75 rfl rfl ?_
      refine s_iload_n C dX5_take_76 rfl rfl ?_
      obtain ⟨r9, I10, hh, h⟩ := bd_e h
      refine s_cV0 (st := [.int (I9 164 0), .int (100 * r8)]) C M.rg (Nat.le_trans (by decide) hd) mwX5_most mlX5_136 dX5_take_77 (wX5_most (d := 1) (Nat.le_refl _)  hh) kk_163 rfl rfl (Nat.le_of_ble_eq_true rfl) ?_
      refine s_imul C dX5_take_80 ?_
      refine s_icmp_ge (tgt := 89) C dX5_take_81 (by decide) (fun c => ?_) (fun c => ?_)
      · have h := it_t c h
        refine s_iload C dX5_take_89 rfl ?_
        obtain ⟨rfl, rfl⟩ := pr_e h
        exact s_iret C M dX5_take_91 rfl rfl (Nat.le_refl 0) (Nat.le_refl 0)
      · have h := it_f c h
        refine s_aload_n C dX5_take_84 rfl rfl ?_
        refine s_iload_n C dX5_take_85 rfl rfl ?_
        obtain ⟨r10, I11, hh, h⟩ := bd_e h
        refine s_cV0 (st := []) C M.rg (Nat.le_trans (by decide) hd) mwX5_buildWhole mlX5_161 dX5_take_86 (wX5_buildWhole (d := 44) (Nat.le_refl _)  hh) kk_163 rfl rfl (Nat.le_of_ble_eq_true rfl) ?_
        refine s_iload C dX5_take_89 rfl ?_
        obtain ⟨rfl, rfl⟩ := pr_e h
        exact s_iret C M dX5_take_91 rfl rfl (Nat.le_refl 0) (Nat.le_refl 0)
    · have h := it_f c h
      refine s_bipush C dX5_take_16 bi_m11 ?_
      obtain ⟨rfl, rfl⟩ := pr_e h
      exact s_iret C M dX5_take_18 rfl rfl (Nat.le_refl 0) (Nat.le_refl 0)
theorem wX5_carryOut {E : Ev} {d : Nat} (hd : 46 ≤ d)  {I I' : Mm} {r : Int32}  (h : fX5_carryOut  I = some (r, I')) : SemM E d 0 0 mX5_carryOut [rfE E 163] S0 I (some (.int r)) S0 I' := by
  unfold fX5_carryOut at h
  refine SemM.ofX (E := E) (y := mX5_carryOut) (args := fun E => [rfE E 163]) (r := fun E => (some (.int r))) (fun E => [some (rfE E 163)]) (by decide +kernel) (Nat.le_of_ble_eq_true rfl) rfl (fun X C M => ?_)
  refine s_aload_n C dX5_carryOut_0 rfl rfl ?_
  refine s_getI C dX5_carryOut_1 kk_163 foX5_247 rfl ?_
  by_cases c1 : (I 163 15) = 43
  · have h := it_t c1 h
    refine s_lookup (off := 44) (tgt := 48) C dX5_carryOut_4 (by decide) (by rw [c1]; decide +kernel) (by decide) ?_
    refine s_aload_n C dX5_carryOut_48 rfl rfl ?_
    refine s_aload_n C dX5_carryOut_49 rfl rfl ?_
    refine s_getI C dX5_carryOut_50 kk_163 foX5_238 rfl ?_
    refine s_aload_n C dX5_carryOut_53 rfl rfl ?_
    refine s_getI C dX5_carryOut_54 kk_163 foX5_244 rfl ?_
    refine s_aload_n C dX5_carryOut_57 rfl rfl ?_
    refine s_getI C dX5_carryOut_58 kk_163 foX5_260 rfl ?_
    obtain ⟨r1, I1, hh, h⟩ := bd_e h
    refine s_cV0 (st := []) C M.rg (Nat.le_trans (by decide) hd) mwX5_put_ mlX5_266 dX5_carryOut_61 (wX5_put_ (d := 44) (Nat.le_refl _)  hh) kk_163 rfl rfl (Nat.le_of_ble_eq_true rfl) ?_
    obtain ⟨rfl, rfl⟩ := pr_e h
    exact s_iret C M dX5_carryOut_64 rfl rfl (Nat.le_refl 0) (Nat.le_refl 0)
  have h := it_f c1 h
  by_cases c2 : (I 163 15) = 45
  · have h := it_t c2 h
    refine s_lookup (off := 61) (tgt := 65) C dX5_carryOut_4 (by decide) (by rw [c2]; decide +kernel) (by decide) ?_
    refine s_aload_n C dX5_carryOut_65 rfl rfl ?_
    refine s_aload_n C dX5_carryOut_66 rfl rfl ?_
    refine s_getI C dX5_carryOut_67 kk_163 foX5_238 rfl ?_
    refine s_aload_n C dX5_carryOut_70 rfl rfl ?_
    refine s_getI C dX5_carryOut_71 kk_163 foX5_244 rfl ?_
    obtain ⟨r1, I1, hh, h⟩ := bd_e h
    refine s_cV0 (st := []) C M.rg (Nat.le_trans (by decide) hd) mwX5_take mlX5_268 dX5_carryOut_74 (wX5_take (d := 45) (Nat.le_refl _)  hh) kk_163 rfl rfl (Nat.le_of_ble_eq_true rfl) ?_
    obtain ⟨rfl, rfl⟩ := pr_e h
    exact s_iret C M dX5_carryOut_77 rfl rfl (Nat.le_refl 0) (Nat.le_refl 0)
  have h := it_f c2 h
  by_cases c3 : (I 163 15) = 61
  · have h := it_t c3 h
    refine s_lookup (off := 74) (tgt := 78) C dX5_carryOut_4 (by decide) (by rw [c3]; decide +kernel) (by decide) ?_
    refine s_aload_n C dX5_carryOut_78 rfl rfl ?_
    refine s_aload_n C dX5_carryOut_79 rfl rfl ?_
    refine s_getI C dX5_carryOut_80 kk_163 foX5_238 rfl ?_
    obtain ⟨r1, I1, hh, h⟩ := bd_e h
    refine s_cV0 (st := []) C M.rg (Nat.le_trans (by decide) hd) mwX5_build mlX5_271 dX5_carryOut_83 (wX5_build (d := 45) (Nat.le_refl _)  hh) kk_163 rfl rfl (Nat.le_of_ble_eq_true rfl) ?_
    obtain ⟨rfl, rfl⟩ := pr_e h
    exact s_iret C M dX5_carryOut_86 rfl rfl (Nat.le_refl 0) (Nat.le_refl 0)
  have h := it_f c3 h
  by_cases c4 : (I 163 15) = 62
  · have h := it_t c4 h
    refine s_lookup (off := 83) (tgt := 87) C dX5_carryOut_4 (by decide) (by rw [c4]; decide +kernel) (by decide) ?_
    refine s_aload_n C dX5_carryOut_87 rfl rfl ?_
    refine s_aload_n C dX5_carryOut_88 rfl rfl ?_
    refine s_getI C dX5_carryOut_89 kk_163 foX5_238 rfl ?_
    refine s_aload_n C dX5_carryOut_92 rfl rfl ?_
    refine s_getI C dX5_carryOut_93 kk_163 foX5_244 rfl ?_
    obtain ⟨r1, I1, hh, h⟩ := bd_e h
    refine s_cV0 (st := []) C M.rg (Nat.le_trans (by decide) hd) mwX5_pour mlX5_274 dX5_carryOut_96 (wX5_pour (d := 45) (Nat.le_refl _)  hh) kk_163 rfl rfl (Nat.le_of_ble_eq_true rfl) ?_
    obtain ⟨rfl, rfl⟩ := pr_e h
    exact s_iret C M dX5_carryOut_99 rfl rfl (Nat.le_refl 0) (Nat.le_refl 0)
  have h := it_f c4 h
  refine s_lookup (off := 96) (tgt := 100) C dX5_carryOut_4 (by decide) (by simp only [Op.lookupswitch.offset_cons, Op.lookupswitch.offset_nil]; rw [if_neg (Ne.symm (ne_i 43 (by decide +kernel) c1)), if_neg (Ne.symm (ne_i 45 (by decide +kernel) c2)), if_neg (Ne.symm (ne_i 61 (by decide +kernel) c3)), if_neg (Ne.symm (ne_i 62 (by decide +kernel) c4))]) (by decide) ?_
  refine s_aload_n C dX5_carryOut_100 rfl rfl ?_
  refine s_aload_n C dX5_carryOut_101 rfl rfl ?_
  refine s_getI C dX5_carryOut_102 kk_163 foX5_238 rfl ?_
  obtain ⟨r1, I1, hh, h⟩ := bd_e h
  refine s_cV0 (st := []) C M.rg (Nat.le_trans (by decide) hd) mwX5_limit mlX5_277 dX5_carryOut_105 (wX5_limit (d := 4) (Nat.le_refl _)  hh) kk_163 rfl rfl (Nat.le_of_ble_eq_true rfl) ?_
  obtain ⟨rfl, rfl⟩ := pr_e h
  exact s_iret C M dX5_carryOut_108 rfl rfl (Nat.le_refl 0) (Nat.le_refl 0)
theorem wX5_isBearing {E : Ev} {d : Nat} (hd : 2 ≤ d) {x0 : Int32} {I I' : Mm} {r : Int32}  (h : fX5_isBearing x0 I = some (r, I')) : SemM E d 0 0 mX5_isBearing [.int x0] S0 I (some (.int r)) S0 I' := by
  unfold fX5_isBearing at h
  refine SemM.ofX (E := E) (y := mX5_isBearing) (args := fun E => [.int x0]) (r := fun E => (some (.int r))) (fun E => [some (.int x0)]) (by decide +kernel) (Nat.le_of_ble_eq_true rfl) rfl (fun X C M => ?_)
  refine s_iload_n C dX5_isBearing_0 rfl rfl ?_
  refine s_bipush C dX5_isBearing_1 bi_99 ?_
  refine s_sipush C dX5_isBearing_3 si_999 ?_
  obtain ⟨r1, I1, hh, h⟩ := bd_e h
  refine s_cS0 (st := []) C M.rg (Nat.le_trans (by decide) hd) mwX5_isBetween mlX5_58 dX5_isBearing_6 (wX5_isBetween (d := 1) (Nat.le_refl _)  hh) rfl rfl (Nat.le_of_ble_eq_true rfl) ?_
  obtain ⟨hz, h⟩ := it_s h
  obtain ⟨rfl, rfl⟩ := pr_e h
  exact s_iret C M dX5_isBearing_9 rfl (nz_b hz) (Nat.le_refl 0) (Nat.le_refl 0)
theorem wX5_load_p9 {X : Cx} {d : Nat} (hd : 2 ≤ d) (C : CtxOK X mX5_load) : ∀ (n : Nat) {x1 : Int32} {x2 : Int32} {x3 : Int32} {x4 : Int32} {x5 : Int32} {x6 : Int32} {I I' : Mm} {r : Int32}  (_ : fX5_load_p9 n x1 x2 x3 x4 x5 x6 I = some (r, I')) (_ : MX X (xE X) d 0 0 (some (.int r)) S0 I'), WM X mX5_load 9 [some (rfX X 163), some (.int x1), some (.int x2), some (.int x3), some (.int x4), some (.int x5), some (.int x6), none] [] S0 I 0 0 := by
  intro n
  induction n with
  | zero => intro x1 x2 x3 x4 x5 x6 I I' r  h M; exact absurd h (by simp [fX5_load_p9])
  | succ n ih =>
    intro x1 x2 x3 x4 x5 x6 I I' r  h M
    rw [fX5_load_p9] at h
    refine s_iload C dX5_load_9 rfl ?_
    refine s_iload_n C dX5_load_11 rfl rfl ?_
    refine s_icmp_gt (tgt := 76) C dX5_load_12 (by decide) (fun c => ?_) (fun c => ?_)
    · have h := it_t c h
      refine s_iload C dX5_load_76 rfl ?_
      obtain ⟨rfl, rfl⟩ := pr_e h
      exact s_iret C M dX5_load_78 rfl rfl (Nat.le_refl 0) (Nat.le_refl 0)
    · have h := it_f c h
      refine s_aload_n C dX5_load_15 rfl rfl ?_
      refine s_iload_n C dX5_load_16 rfl rfl ?_
      refine s_aload_n C dX5_load_17 rfl rfl ?_
      refine s_getR (b := 176) C dX5_load_18 kk_163 foX5_24 rfl rk_163_9 ?_
      refine s_iload C dX5_load_21 rfl ?_
      obtain ⟨hb, h⟩ := it_n h
      refine s_ald (q := x6.toNatClampNeg) C dX5_load_23 kk_176 (by decide) rfl hb ?_
      refine s_iconst C dX5_load_24 ic_1 ?_
      obtain ⟨r1, I1, hh, h⟩ := bd_e h
      refine s_cV0 (st := []) C M.rg (Nat.le_trans (by decide) hd) mwX5_of mlX5_62 dX5_load_25 (wX5_of (d := 1) (Nat.le_refl _)  hh) kk_163 rfl rfl (Nat.le_of_ble_eq_true rfl) ?_
      refine s_istore (ls' := [some (rfX X 163), some (.int x1), some (.int x2), some (.int x3), some (.int x4), some (.int x5), some (.int x6), some (.int r1)]) C dX5_load_28 (by decide) (Nat.le_of_ble_eq_true rfl) rfl rfl ?_
      refine s_iload C dX5_load_30 rfl ?_
      refine s_iload C dX5_load_32 rfl ?_
      refine s_iload C dX5_load_34 rfl ?_
      refine s_iadd C dX5_load_36 ?_
      refine s_iload_n C dX5_load_37 rfl rfl ?_
      refine s_icmp_le (tgt := 45) C dX5_load_38 (by decide) (fun c => ?_) (fun c => ?_)
      · have h := it_t c h
        refine s_iconst C dX5_load_45 ic_0 ?_
        refine s_iadd C dX5_load_46 ?_
        obtain ⟨v1, ev1, h⟩ := ltm_e h
        refine s_top_i ev1 ?_
        refine s_istore (ls' := [some (rfX X 163), some (.int x1), some (.int x2), some (.int x3), some (.int v1), some (.int x5), some (.int x6), some (.int r1)]) C dX5_load_47 (by decide) (Nat.le_of_ble_eq_true rfl) rfl rfl ?_
        refine s_iload C dX5_load_49 rfl ?_
        refine s_iload C dX5_load_51 rfl ?_
        refine s_iadd C dX5_load_53 ?_
        refine s_iload_n C dX5_load_54 rfl rfl ?_
        refine s_icmp_le (tgt := 63) C dX5_load_55 (by decide) (fun c => ?_) (fun c => ?_)
        · have h := it_t c h
          refine s_iload C dX5_load_63 rfl ?_
          refine s_iload C dX5_load_65 rfl ?_
          refine s_iadd C dX5_load_67 ?_
          obtain ⟨v2, ev2, h⟩ := ltm_e h
          refine s_top_i ev2 ?_
          refine s_istore (ls' := [some (rfX X 163), some (.int x1), some (.int x2), some (.int x3), some (.int v1), some (.int v2), some (.int x6), some (.int r1)]) C dX5_load_68 (by decide) (Nat.le_of_ble_eq_true rfl) rfl rfl ?_
          obtain ⟨v3, ev3, h⟩ := ltm_e h
          refine s_iinc (v := v3) (ls' := [some (rfX X 163), some (.int x1), some (.int x2), some (.int x3), some (.int v1), some (.int v2), some (.int v3), some (.int r1)]) C dX5_load_70 rfl (by decide) (Nat.le_of_ble_eq_true rfl) (by rw [ev3, ic_1]) rfl rfl ?_
          refine s_goto (tgt := 9) C dX5_load_73 (by decide) ?_
          refine s_weak (ls' := [some (rfX X 163), some (.int x1), some (.int x2), some (.int x3), some (.int v1), some (.int v2), some (.int v3), none]) [true, true, true, true, true, true, true, false] rfl ?_
          exact ih  h M
        · have h := it_f c h
          refine s_iload C dX5_load_58 rfl ?_
          refine s_goto (tgt := 68) C dX5_load_60 (by decide) ?_
          refine s_istore (ls' := [some (rfX X 163), some (.int x1), some (.int x2), some (.int x3), some (.int v1), some (.int r1), some (.int x6), some (.int r1)]) C dX5_load_68 (by decide) (Nat.le_of_ble_eq_true rfl) rfl rfl ?_
          obtain ⟨v2, ev2, h⟩ := ltm_e h
          refine s_iinc (v := v2) (ls' := [some (rfX X 163), some (.int x1), some (.int x2), some (.int x3), some (.int v1), some (.int r1), some (.int v2), some (.int r1)]) C dX5_load_70 rfl (by decide) (Nat.le_of_ble_eq_true rfl) (by rw [ev2, ic_1]) rfl rfl ?_
          refine s_goto (tgt := 9) C dX5_load_73 (by decide) ?_
          refine s_weak (ls' := [some (rfX X 163), some (.int x1), some (.int x2), some (.int x3), some (.int v1), some (.int r1), some (.int v2), none]) [true, true, true, true, true, true, true, false] rfl ?_
          exact ih  h M
      · have h := it_f c h
        refine s_iconst C dX5_load_41 ic_1 ?_
        refine s_goto (tgt := 46) C dX5_load_42 (by decide) ?_
        refine s_iadd C dX5_load_46 ?_
        obtain ⟨v1, ev1, h⟩ := ltm_e h
        refine s_top_i ev1 ?_
        refine s_istore (ls' := [some (rfX X 163), some (.int x1), some (.int x2), some (.int x3), some (.int v1), some (.int x5), some (.int x6), some (.int r1)]) C dX5_load_47 (by decide) (Nat.le_of_ble_eq_true rfl) rfl rfl ?_
        refine s_iload C dX5_load_49 rfl ?_
        refine s_iload C dX5_load_51 rfl ?_
        refine s_iadd C dX5_load_53 ?_
        refine s_iload_n C dX5_load_54 rfl rfl ?_
        refine s_icmp_le (tgt := 63) C dX5_load_55 (by decide) (fun c => ?_) (fun c => ?_)
        · have h := it_t c h
          refine s_iload C dX5_load_63 rfl ?_
          refine s_iload C dX5_load_65 rfl ?_
          refine s_iadd C dX5_load_67 ?_
          obtain ⟨v2, ev2, h⟩ := ltm_e h
          refine s_top_i ev2 ?_
          refine s_istore (ls' := [some (rfX X 163), some (.int x1), some (.int x2), some (.int x3), some (.int v1), some (.int v2), some (.int x6), some (.int r1)]) C dX5_load_68 (by decide) (Nat.le_of_ble_eq_true rfl) rfl rfl ?_
          obtain ⟨v3, ev3, h⟩ := ltm_e h
          refine s_iinc (v := v3) (ls' := [some (rfX X 163), some (.int x1), some (.int x2), some (.int x3), some (.int v1), some (.int v2), some (.int v3), some (.int r1)]) C dX5_load_70 rfl (by decide) (Nat.le_of_ble_eq_true rfl) (by rw [ev3, ic_1]) rfl rfl ?_
          refine s_goto (tgt := 9) C dX5_load_73 (by decide) ?_
          refine s_weak (ls' := [some (rfX X 163), some (.int x1), some (.int x2), some (.int x3), some (.int v1), some (.int v2), some (.int v3), none]) [true, true, true, true, true, true, true, false] rfl ?_
          exact ih  h M
        · have h := it_f c h
          refine s_iload C dX5_load_58 rfl ?_
          refine s_goto (tgt := 68) C dX5_load_60 (by decide) ?_
          refine s_istore (ls' := [some (rfX X 163), some (.int x1), some (.int x2), some (.int x3), some (.int v1), some (.int r1), some (.int x6), some (.int r1)]) C dX5_load_68 (by decide) (Nat.le_of_ble_eq_true rfl) rfl rfl ?_
          obtain ⟨v2, ev2, h⟩ := ltm_e h
          refine s_iinc (v := v2) (ls' := [some (rfX X 163), some (.int x1), some (.int x2), some (.int x3), some (.int v1), some (.int r1), some (.int v2), some (.int r1)]) C dX5_load_70 rfl (by decide) (Nat.le_of_ble_eq_true rfl) (by rw [ev2, ic_1]) rfl rfl ?_
          refine s_goto (tgt := 9) C dX5_load_73 (by decide) ?_
          refine s_weak (ls' := [some (rfX X 163), some (.int x1), some (.int x2), some (.int x3), some (.int v1), some (.int r1), some (.int v2), none]) [true, true, true, true, true, true, true, false] rfl ?_
          exact ih  h M
theorem wX5_load {E : Ev} {d : Nat} (hd : 2 ≤ d) {x1 : Int32} {x2 : Int32} {x3 : Int32} {I I' : Mm} {r : Int32}  (h : fX5_load x1 x2 x3 I = some (r, I')) : SemM E d 0 0 mX5_load [rfE E 163, .int x1, .int x2, .int x3] S0 I (some (.int r)) S0 I' := by
  unfold fX5_load at h
  refine SemM.ofX (E := E) (y := mX5_load) (args := fun E => [rfE E 163, .int x1, .int x2, .int x3]) (r := fun E => (some (.int r))) (fun E => [some (rfE E 163), some (.int x1), some (.int x2), some (.int x3), none, none, none, none]) (by decide +kernel) (Nat.le_of_ble_eq_true rfl) rfl (fun X C M => ?_)
  refine s_iconst C dX5_load_0 ic_0 ?_
  refine s_istore (ls' := [some (rfX X 163), some (.int x1), some (.int x2), some (.int x3), some (.int 0), none, none, none]) C dX5_load_1 (by decide) (Nat.le_of_ble_eq_true rfl) rfl rfl ?_
  refine s_iconst C dX5_load_3 ic_0 ?_
  refine s_istore (ls' := [some (rfX X 163), some (.int x1), some (.int x2), some (.int x3), some (.int 0), some (.int 0), none, none]) C dX5_load_4 (by decide) (Nat.le_of_ble_eq_true rfl) rfl rfl ?_
  refine s_iconst C dX5_load_6 ic_0 ?_
  refine s_istore (ls' := [some (rfX X 163), some (.int x1), some (.int x2), some (.int x3), some (.int 0), some (.int 0), some (.int 0), none]) C dX5_load_7 (by decide) (Nat.le_of_ble_eq_true rfl) rfl rfl ?_
  exact wX5_load_p9 hd C _  h M
theorem wX5_rank_p17 {X : Cx} {d : Nat} (hd : 44 ≤ d) (C : CtxOK X mX5_rank) : ∀ (n : Nat) {x1 : Int32} {x2 : Int32} {x3 : Int32} {I I' : Mm} {r : Int32}  (_ : fX5_rank_p17 n x1 x2 x3 I = some (r, I')) (_ : MX X (xE X) d 0 0 (some (.int r)) S0 I'), WM X mX5_rank 17 [some (rfX X 163), some (.int x1), some (.int x2), some (.int x3)] [] S0 I 0 0 := by
  intro n
  induction n with
  | zero => intro x1 x2 x3 I I' r  h M; exact absurd h (by simp [fX5_rank_p17])
  | succ n ih =>
    intro x1 x2 x3 I I' r  h M
    rw [fX5_rank_p17] at h
    refine s_iload_n C dX5_rank_17 rfl rfl ?_
    refine s_aload_n C dX5_rank_18 rfl rfl ?_
    refine s_getI C dX5_rank_19 kk_163 foX5_84 rfl ?_
    refine s_icmp_ge (tgt := 47) C dX5_rank_22 (by decide) (fun c => ?_) (fun c => ?_)
    · have h := it_t c h
      refine s_iload_n C dX5_rank_47 rfl rfl ?_
      obtain ⟨rfl, rfl⟩ := pr_e h
      exact s_iret C M dX5_rank_48 rfl rfl (Nat.le_refl 0) (Nat.le_refl 0)
    · have h := it_f c h
      refine s_aload_n C dX5_rank_25 rfl rfl ?_
      refine s_iload_n C dX5_rank_26 rfl rfl ?_
      refine s_aload_n C dX5_rank_27 rfl rfl ?_
      refine s_getR (b := 176) C dX5_rank_28 kk_163 foX5_24 rfl rk_163_9 ?_
      refine s_iload_n C dX5_rank_31 rfl rfl ?_
      obtain ⟨hb, h⟩ := it_n h
      refine s_ald (q := x3.toNatClampNeg) C dX5_rank_32 kk_176 (by decide) rfl hb ?_
      refine s_iconst C dX5_rank_33 ic_0 ?_
      obtain ⟨r1, I1, hh, h⟩ := bd_e h
      refine s_cV0 (st := []) C M.rg (Nat.le_trans (by decide) hd) mwX5_of mlX5_62 dX5_rank_34 (wX5_of (d := 1) (Nat.le_refl _)  hh) kk_163 rfl rfl (Nat.le_of_ble_eq_true rfl) ?_
      refine s_iload_n C dX5_rank_37 rfl rfl ?_
      refine s_icmp_ge (tgt := 47) C dX5_rank_38 (by decide) (fun c => ?_) (fun c => ?_)
      · have h := it_t c h
        refine s_iload_n C dX5_rank_47 rfl rfl ?_
        obtain ⟨rfl, rfl⟩ := pr_e h
        exact s_iret C M dX5_rank_48 rfl rfl (Nat.le_refl 0) (Nat.le_refl 0)
      · have h := it_f c h
        obtain ⟨v1, ev1, h⟩ := ltm_e h
        refine s_iinc (v := v1) (ls' := [some (rfX X 163), some (.int x1), some (.int x2), some (.int v1)]) C dX5_rank_41 rfl (by decide) (Nat.le_of_ble_eq_true rfl) (by rw [ev1, ic_1]) rfl rfl ?_
        refine s_goto (tgt := 17) C dX5_rank_44 (by decide) ?_
        exact ih  h M
theorem wX5_rank {E : Ev} {d : Nat} (hd : 44 ≤ d) {x1 : Int32} {x2 : Int32} {I I' : Mm} {r : Int32}  (h : fX5_rank x1 x2 I = some (r, I')) : SemM E d 0 0 mX5_rank [rfE E 163, .int x1, .int x2] S0 I (some (.int r)) S0 I' := by
  unfold fX5_rank at h
  refine SemM.ofX (E := E) (y := mX5_rank) (args := fun E => [rfE E 163, .int x1, .int x2]) (r := fun E => (some (.int r))) (fun E => [some (rfE E 163), some (.int x1), some (.int x2), none]) (by decide +kernel) (Nat.le_of_ble_eq_true rfl) rfl (fun X C M => ?_)
  refine s_iload_n C dX5_rank_0 rfl rfl ?_
  obtain ⟨r1, I1, hh, h⟩ := bd_e h
  refine s_cS0 (st := []) C M.rg (Nat.le_trans (by decide) hd) mwX5_isRick mlX5_110 dX5_rank_1 (wX5_isRick (d := 2) (Nat.le_refl _)  hh) rfl rfl (Nat.le_of_ble_eq_true rfl) ?_
  refine s_if_ne (tgt := 10) C dX5_rank_4 (by decide) (fun c => ?_) (fun c => ?_)
  · have h := it_f c h
    refine s_aload_n C dX5_rank_10 rfl rfl ?_
    refine s_iload_n C dX5_rank_11 rfl rfl ?_
    obtain ⟨r2, I2, hh, h⟩ := bd_e h
    refine s_cV0 (st := []) C M.rg (Nat.le_trans (by decide) hd) mwX5_listAll mlX5_100 dX5_rank_12 (wX5_listAll (d := 43) (Nat.le_refl _)  hh) kk_163 rfl rfl (Nat.le_of_ble_eq_true rfl) ?_
    refine s_iconst C dX5_rank_15 ic_0 ?_
    refine s_istore_n (ls' := [some (rfX X 163), some (.int x1), some (.int x2), some (.int 0)]) C dX5_rank_16 rfl (by decide) (Nat.le_of_ble_eq_true rfl) rfl rfl ?_
    exact wX5_rank_p17 hd C _  h M
  · have h := it_t c h
    refine s_bipush C dX5_rank_7 bi_m11 ?_
    obtain ⟨rfl, rfl⟩ := pr_e h
    exact s_iret C M dX5_rank_9 rfl rfl (Nat.le_refl 0) (Nat.le_refl 0)
theorem wX5_cartOf {E : Ev} {d : Nat} (hd : 45 ≤ d) {x1 : Int32} {x2 : Int32} {x3 : Int32} {I I' : Mm} {r : Int32}  (h : fX5_cartOf x1 x2 x3 I = some (r, I')) : SemM E d 0 0 mX5_cartOf [rfE E 163, .int x1, .int x2, .int x3] S0 I (some (.int r)) S0 I' := by
  unfold fX5_cartOf at h
  refine SemM.ofX (E := E) (y := mX5_cartOf) (args := fun E => [rfE E 163, .int x1, .int x2, .int x3]) (r := fun E => (some (.int r))) (fun E => [some (rfE E 163), some (.int x1), some (.int x2), some (.int x3)]) (by decide +kernel) (Nat.le_of_ble_eq_true rfl) rfl (fun X C M => ?_)
  refine s_iload_n C dX5_cartOf_0 rfl rfl ?_
  obtain ⟨r1, I1, hh, h⟩ := bd_e h
  refine s_cS0 (st := []) C M.rg (Nat.le_trans (by decide) hd) mwX5_isRick mlX5_110 dX5_cartOf_1 (wX5_isRick (d := 2) (Nat.le_refl _)  hh) rfl rfl (Nat.le_of_ble_eq_true rfl) ?_
  refine s_if_eq (tgt := 16) C dX5_cartOf_4 (by decide) (fun c => ?_) (fun c => ?_)
  · have h := it_t c h
    refine s_bipush C dX5_cartOf_16 bi_m11 ?_
    obtain ⟨rfl, rfl⟩ := pr_e h
    exact s_iret C M dX5_cartOf_18 rfl rfl (Nat.le_refl 0) (Nat.le_refl 0)
  · have h := it_f c h
    refine s_aload_n C dX5_cartOf_7 rfl rfl ?_
    refine s_iload_n C dX5_cartOf_8 rfl rfl ?_
    refine s_iload_n C dX5_cartOf_9 rfl rfl ?_
    obtain ⟨r2, I2, hh, h⟩ := bd_e h
    refine s_cV0 (st := []) C M.rg (Nat.le_trans (by decide) hd) mwX5_find mlX5_117 dX5_cartOf_10 (wX5_find (d := 2) (Nat.le_refl _)  hh) kk_163 rfl rfl (Nat.le_of_ble_eq_true rfl) ?_
    refine s_if_ge (tgt := 19) C dX5_cartOf_13 (by decide) (fun c => ?_) (fun c => ?_)
    · have h := it_t c h
      refine s_iload_n C dX5_cartOf_19 rfl rfl ?_
      obtain ⟨r3, I3, hh, h⟩ := bd_e h
      refine s_cS0 (st := []) C M.rg (Nat.le_trans (by decide) hd) mwX5_isBearing mlX5_197 dX5_cartOf_20 (wX5_isBearing (d := 2) (Nat.le_refl _)  hh) rfl rfl (Nat.le_of_ble_eq_true rfl) ?_
      refine s_if_ne (tgt := 29) C dX5_cartOf_23 (by decide) (fun c => ?_) (fun c => ?_)
      · have h := it_f c h
        refine s_aload_n C dX5_cartOf_29 rfl rfl ?_
        refine s_iload_n C dX5_cartOf_30 rfl rfl ?_
        refine s_aload_n C dX5_cartOf_31 rfl rfl ?_
        refine s_iload_n C dX5_cartOf_32 rfl rfl ?_
        refine s_iload_n C dX5_cartOf_33 rfl rfl ?_
        obtain ⟨r4, I4, hh, h⟩ := bd_e h
        refine s_cV0 (st := [.int x1, rfX X 163]) C M.rg (Nat.le_trans (by decide) hd) mwX5_rank mlX5_182 dX5_cartOf_34 (wX5_rank (d := 44) (Nat.le_refl _)  hh) kk_163 rfl rfl (Nat.le_of_ble_eq_true rfl) ?_
        refine s_iload_n C dX5_cartOf_37 rfl rfl ?_
        obtain ⟨r5, I5, hh, h⟩ := bd_e h
        refine s_cV0 (st := []) C M.rg (Nat.le_trans (by decide) hd) mwX5_load mlX5_200 dX5_cartOf_38 (wX5_load (d := 2) (Nat.le_refl _)  hh) kk_163 rfl rfl (Nat.le_of_ble_eq_true rfl) ?_
        obtain ⟨rfl, rfl⟩ := pr_e h
        exact s_iret C M dX5_cartOf_41 rfl rfl (Nat.le_refl 0) (Nat.le_refl 0)
      · have h := it_t c h
        refine s_bipush C dX5_cartOf_26 bi_m12 ?_
        obtain ⟨rfl, rfl⟩ := pr_e h
        exact s_iret C M dX5_cartOf_28 rfl rfl (Nat.le_refl 0) (Nat.le_refl 0)
    · have h := it_f c h
      refine s_bipush C dX5_cartOf_16 bi_m11 ?_
      obtain ⟨rfl, rfl⟩ := pr_e h
      exact s_iret C M dX5_cartOf_18 rfl rfl (Nat.le_refl 0) (Nat.le_refl 0)
theorem wX5_carts {E : Ev} {d : Nat} (hd : 44 ≤ d) {x1 : Int32} {x2 : Int32} {I I' : Mm} {r : Int32}  (h : fX5_carts x1 x2 I = some (r, I')) : SemM E d 0 0 mX5_carts [rfE E 163, .int x1, .int x2] S0 I (some (.int r)) S0 I' := by
  unfold fX5_carts at h
  refine SemM.ofX (E := E) (y := mX5_carts) (args := fun E => [rfE E 163, .int x1, .int x2]) (r := fun E => (some (.int r))) (fun E => [some (rfE E 163), some (.int x1), some (.int x2)]) (by decide +kernel) (Nat.le_of_ble_eq_true rfl) rfl (fun X C M => ?_)
  refine s_iload_n C dX5_carts_0 rfl rfl ?_
  obtain ⟨r1, I1, hh, h⟩ := bd_e h
  refine s_cS0 (st := []) C M.rg (Nat.le_trans (by decide) hd) mwX5_isRick mlX5_110 dX5_carts_1 (wX5_isRick (d := 2) (Nat.le_refl _)  hh) rfl rfl (Nat.le_of_ble_eq_true rfl) ?_
  refine s_if_ne (tgt := 10) C dX5_carts_4 (by decide) (fun c => ?_) (fun c => ?_)
  · have h := it_f c h
    refine s_iload_n C dX5_carts_10 rfl rfl ?_
    obtain ⟨r2, I2, hh, h⟩ := bd_e h
    refine s_cS0 (st := []) C M.rg (Nat.le_trans (by decide) hd) mwX5_isBearing mlX5_197 dX5_carts_11 (wX5_isBearing (d := 2) (Nat.le_refl _)  hh) rfl rfl (Nat.le_of_ble_eq_true rfl) ?_
    refine s_if_ne (tgt := 20) C dX5_carts_14 (by decide) (fun c => ?_) (fun c => ?_)
    · have h := it_f c h
      refine s_aload_n C dX5_carts_20 rfl rfl ?_
      refine s_iload_n C dX5_carts_21 rfl rfl ?_
      obtain ⟨r3, I3, hh, h⟩ := bd_e h
      refine s_cV0 (st := []) C M.rg (Nat.le_trans (by decide) hd) mwX5_listAll mlX5_100 dX5_carts_22 (wX5_listAll (d := 43) (Nat.le_refl _)  hh) kk_163 rfl rfl (Nat.le_of_ble_eq_true rfl) ?_
      refine s_aload_n C dX5_carts_25 rfl rfl ?_
      refine s_getI C dX5_carts_26 kk_163 foX5_84 rfl ?_
      refine s_if_ne (tgt := 36) C dX5_carts_29 (by decide) (fun c => ?_) (fun c => ?_)
      · have h := it_f c h
        refine s_aload_n C dX5_carts_36 rfl rfl ?_
        refine s_iload_n C dX5_carts_37 rfl rfl ?_
        refine s_aload_n C dX5_carts_38 rfl rfl ?_
        refine s_getI C dX5_carts_39 kk_163 foX5_84 rfl ?_
        refine s_iconst C dX5_carts_42 ic_1 ?_
        refine s_isub C dX5_carts_43 ?_
        refine s_iload_n C dX5_carts_44 rfl rfl ?_
        obtain ⟨r4, I4, hh, h⟩ := bd_e h
        refine s_cV0 (st := []) C M.rg (Nat.le_trans (by decide) hd) mwX5_load mlX5_200 dX5_carts_45 (wX5_load (d := 2) (Nat.le_refl _)  hh) kk_163 rfl rfl (Nat.le_of_ble_eq_true rfl) ?_
        refine s_iconst C dX5_carts_48 ic_1 ?_
        refine s_iadd C dX5_carts_49 ?_
        obtain ⟨rfl, rfl⟩ := pr_e h
        exact s_iret C M dX5_carts_50 rfl rfl (Nat.le_refl 0) (Nat.le_refl 0)
      · have h := it_t c h
        refine s_iconst C dX5_carts_32 ic_0 ?_
        refine s_goto (tgt := 50) C dX5_carts_33 (by decide) ?_
        obtain ⟨rfl, rfl⟩ := pr_e h
        exact s_iret C M dX5_carts_50 rfl rfl (Nat.le_refl 0) (Nat.le_refl 0)
    · have h := it_t c h
      refine s_bipush C dX5_carts_17 bi_m12 ?_
      obtain ⟨rfl, rfl⟩ := pr_e h
      exact s_iret C M dX5_carts_19 rfl rfl (Nat.le_refl 0) (Nat.le_refl 0)
  · have h := it_t c h
    refine s_bipush C dX5_carts_7 bi_m11 ?_
    obtain ⟨rfl, rfl⟩ := pr_e h
    exact s_iret C M dX5_carts_9 rfl rfl (Nat.le_refl 0) (Nat.le_refl 0)
