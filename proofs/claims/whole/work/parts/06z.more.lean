/-! rules that rest on the words: native calls, the constant text -/
/-- where a code stands in "+-=>%" -/
def idx5 (c : Int32) : Int32 := if c = 43 then 0 else if c = 45 then 1 else if c = 61 then 2 else if c = 62 then 3 else if c = 37 then 4 else -1
theorem pr_e {α : Type} {a b : α} {I J : Mm} (h : some (a, I) = some (b, J)) : a = b ∧ I = J := by
  have h2 := Option.some.inj h
  exact ⟨congrArg Prod.fst h2, congrArg Prod.snd h2⟩
theorem on_n {β : Type} {A : β} {B : Nat → β} {x : β} (h : onm none A B = x) : A = x := h
theorem on_s {β : Type} {a : Nat} {A : β} {B : Nat → β} {x : β} (h : onm (some a) A B = x) : B a = x := h
theorem rv_cat (E : Ev) (o : Option Nat) : (rvE E o).category = 1 := by cases o <;> rfl
def fbI (b : UInt32) : Int32 := if Op.cmpValue (FP.fcmp b b) .l = 0 then b.toInt32 else 2143289344
theorem ok_o {ls : List (Option Value)} {k : Nat} {v : Value} {E : Ev} {o : Option Nat} (h : ls[k]? = some (some (rvE E o))) (hc : v.category = 1) : okst ls (k + 1) v = true := by
  have e := rv_cat E o
  simp only [okst, h, e, hc]
  rfl
section RL7
variable {X : Cx} {y : Yd} {pc : Nat} {ls ls' : List (Option Value)} {st : List Value} {S : Sx} {I I1 : Mm} {k n : Nat}
theorem s_ldcwf {ix : Nat} {v : UInt32} (C : CtxOK X y) (d : decode y.2.1 pc = .ok (.ldc_w ix, 3)) (hw : Cond.constantFloat y.1.cls ix v ∈ lw_good) (K : WM X y (pc + 3) ls (.float v :: st) S I k n) : WM X y pc ls st S I k n := by
  intro H locs lsa r s l T hT Xs
  obtain ⟨t, a, b⟩ := K H locs lsa r s l T hT Xs
  refine ⟨t, ?_, b⟩
  obtain ⟨kk, cf, hk, hcf, hcp⟩ := Cond.constantFloat_spec C.2.2.2.1 (C.2.2.2.2.1 _ hw)
  obtain ⟨k', hk', he⟩ := Xs.warmed.alike.2.2 _ _ hk
  have hexec := C.1
  have hdg : decode (xc X).code pc = .ok (.ldc_w ix, 3) := by rw [C.2.1]; exact d
  jvm_step Xs.here [hexec, hdg, ldc_w.sem, ldc.wp_float (s := T) (f := F0 (xm X) pc lsa st) Xs.here.top hk' (by rw [he]; exact hcf) hcp]
  exact a
theorem s_ldcS {ix : Nat} (C : CtxOK X y) (d : decode y.2.1 pc = .ok (.ldc ix, 2)) (h1 : y.1.cls = "LeaningRicksModel") (h2 : ix = 250) (K : WM X y (pc + 2) ls (.ref ((xE X).2.2.2.2.2.2.1 0) :: st) S I k n) : WM X y pc ls st S I k n := by
  subst h2
  intro H locs lsa r s l
  exact va_ldcS C.1 C.2.1 (own := y.1.cls) C.2.2.2.1 (by rw [h1]; exact C.2.2.2.2.2.2.2.2.2.2.2.2.2.1) d (K H locs lsa r s l)
theorem s_f2raw {ix d kk nn : Nat} {b : UInt32} (C : CtxOK X y) (hR : RG X d kk nn) (hd : 1 ≤ d) (hl : Cond.methodLink y.1.cls ix ⟨"java/lang/Float", "floatToRawIntBits", "(F)I"⟩ ∈ lw_good) (dd : decode y.2.1 pc = .ok (.invokestatic ix, 3)) (hcat : (st.map fun v => v.category).sum ≤ 8)
    (K : WM X y (pc + 3) ls (.int b.toInt32 :: st) S I k n) : WM X y pc ls (.float b :: st) S I k n := fun H locs lsa r s l =>
  vn_f2i C.1 C.2.1 (C.2.2.1.trans l.1.symm) C.2.2.2.1 (C.2.2.2.2.1 _ hl) (C.2.2.2.2.1 _ wn_floatToRawIntBits_n) (C.2.2.2.2.1 _ wn_floatToRawIntBits_s) (C.2.2.2.2.1 _ wn_floatToRawIntBits_i) (Nat.le_trans hd hR.1) (Nat.le_trans (by omega) hR.2.1) dd (K H locs lsa r s l)
theorem s_d2raw {ix d kk nn : Nat} {b : UInt64} (C : CtxOK X y) (hR : RG X d kk nn) (hd : 1 ≤ d) (hl : Cond.methodLink y.1.cls ix ⟨"java/lang/Double", "doubleToRawLongBits", "(D)J"⟩ ∈ lw_good) (dd : decode y.2.1 pc = .ok (.invokestatic ix, 3)) (hcat : (st.map fun v => v.category).sum ≤ 8)
    (K : WM X y (pc + 3) ls (.long b.toInt64 :: st) S I k n) : WM X y pc ls (.double b :: st) S I k n := fun H locs lsa r s l =>
  vn_d2l C.1 C.2.1 (C.2.2.1.trans l.1.symm) C.2.2.2.1 (C.2.2.2.2.1 _ hl) (C.2.2.2.2.1 _ wn_doubleToRawLongBits_n) (C.2.2.2.2.1 _ wn_doubleToRawLongBits_s) (C.2.2.2.2.1 _ wn_doubleToRawLongBits_i) (Nat.le_trans hd hR.1) (Nat.le_trans (by omega) hR.2.1) dd (K H locs lsa r s l)
theorem cp_row (I : Mm) (s t n : Nat) : cpI I s t n t = va_cpy (I s) (I t) 0 0 n := by
  funext q
  show (if t = t ∧ q < n then I s q else I t q) = (if 0 ≤ q ∧ q < 0 + n then I s (0 + (q - 0)) else I t q)
  by_cases h : q < n
  · rw [if_pos ⟨rfl, h⟩, if_pos (by omega), show 0 + (q - 0) = q by omega]
  · rw [if_neg (by omega), if_neg (by omega)]
theorem cp_off (I : Mm) (s t n : Nat) {i : Nat} (h : i ≠ t) : cpI I s t n i = I i := by
  funext q
  simp [cpI, h]
theorem s_copy {ix d kk nn a0 a : Nat} (C : CtxOK X y) (hR : RG X d kk nn) (hd : 1 ≤ d) (hl : Cond.methodLink y.1.cls ix ⟨"java/lang/System", "arraycopy", "(Ljava/lang/Object;ILjava/lang/Object;II)V"⟩ ∈ lw_good) (dd : decode y.2.1 pc = .ok (.invokestatic ix, 3)) (hk0 : S.2.1 a0 = 40) (hk1 : S.2.1 a = 40) (e : I1 = cpI I a0 a 30) (hcat : (st.map fun v => v.category).sum ≤ 8)
    (K : WM X y (pc + 3) ls st S I1 k n) : WM X y pc ls (.int 30 :: .int 0 :: rfX X a :: .int 0 :: rfX X a0 :: st) S I k n := by
  intro H locs lsa r s l T hT Xs
  have ha0 : a0 < S.1 := rep_lt r (by omega)
  have ha : a < S.1 := rep_lt r (by omega)
  have he0 := ws_at (E := xE X) (S := S) (I := I) ha0
  have he1 := ws_at (E := xE X) (S := S) (I := I) ha
  rw [cell_i hk0 (by decide)] at he0
  rw [cell_i hk1 (by decide)] at he1
  have hc0 : H[(xE X).1.size + a0]? = some (vp_cell (xE X).2.2.1 (30, .inl (I a0))) := r.1 a0 _ he0
  have hc1 : H[(xE X).1.size + a]? = some (vp_cell (xE X).2.2.1 (30, .inl (I a))) := r.1 a _ he1
  obtain ⟨-, k0, hk0', cm0, hkk0⟩ := (C.2.2.2.2.2.1.2 0 _ rfl).1 30 (fun j => .int (I a0 j))
  obtain ⟨-, k1, hk1', cm1, hkk1⟩ := (C.2.2.2.2.2.1.2 0 _ rfl).1 30 (fun j => .int (I a j))
  have hts := C.2.2.2.2.1
  obtain ⟨vm', X', step⟩ := Xs.arraycopy C.1 C.2.2.2.1 (hts _ hl) (hts _ wn_arraycopy_n) (hts _ wn_arraycopy_s) (hts _ wn_arraycopy_i) (src := (xE X).1.size + a0) (dst := (xE X).1.size + a) (cs := vp_cell (xE X).2.2.1 (30, .inl (I a0))) (cd := vp_cell (xE X).2.2.1 (30, .inl (I a))) (srcPos := 0) (destPos := 0) (n := 30) (by rw [hT]; exact hc0) (by rw [hT]; exact hc1)
    (fun _ h => by cases h) (fun _ h => by cases h) (fun h => by cases h) (fun h => by cases h) hk0' hk1' hkk0 hkk1 rfl (by decide) (by decide) (by decide)
    (by show ¬ _ > ((arrV (xE X).2.2.1 30 (fun j => .int (I a0 j))).slots.size : Int); rw [arrV_size]; decide)
    (by show ¬ _ > ((arrV (xE X).2.2.1 30 (fun j => .int (I a j))).slots.size : Int); rw [arrV_size]; decide)
    (fun vm₁ _ i hi => by
      have hi' : i < 30 := hi
      have e9 : (vp_cell (xE X).2.2.1 (30, .inl (I a0))).slots.getD ((0 : Int32).toNatClampNeg + i) .null = .int (I a0 i) := by
        show (arrV (xE X).2.2.1 30 (fun j => .int (I a0 j))).slots.getD _ _ = _
        rw [show (0 : Int32).toNatClampNeg + i = i from Nat.zero_add i, Array.getD_eq_getD_getElem?, arrV_read _ _ hi']
        rfl
      exact ⟨by rw [e9]; rfl, by rw [e9]; exact trivial⟩)
    (g := F0 (xm X) pc lsa (.int 30 :: .int 0 :: rfX X a :: .int 0 :: rfX X a0 :: st)) rfl (l.1.trans C.2.2.1.symm) (rest := st) rfl (by rw [C.2.1]; exact dd) (Nat.le_trans hd hR.1)
    (by
      have hw : nativeFrameWords "java/lang/System" "arraycopy" 5 ≤ 20 := by decide
      have := hR.2.1
      show 2 * 0 + _ + _ ≤ _
      omega)
  have e1 : copied (vp_cell (xE X).2.2.1 (30, .inl (I a0))) (vp_cell (xE X).2.2.1 (30, .inl (I a))) 0 0 30 = vp_cell (xE X).2.2.1 (30, .inl (va_cpy (I a0) (I a) 0 0 30)) := va_copied (fun z => .int z) (xE X).2.2.1 (xE X).2.2.1 (I a0) (I a) (Nat.le_refl 30)
  rw [e1] at X' step
  have hal : (xE X).1.size + a < H.size := (Array.getElem?_eq_some_iff.mp hc1).1
  have oq : ∀ q : Nat, q ≠ (xE X).1.size + a → (H.setIfInBounds ((xE X).1.size + a) (vp_cell (xE X).2.2.1 (30, .inl (va_cpy (I a0) (I a) 0 0 30))))[q]? = H[q]? := fun q hq => by simp [Array.getElem?_setIfInBounds, Ne.symm hq]
  have p1 := r.1.set (ws_D _ _ _) he1 (e := cellE (xE X) S I1 a) (H1 := H.setIfInBounds ((xE X).1.size + a) (vp_cell (xE X).2.2.1 (30, .inl (va_cpy (I a0) (I a) 0 0 30)))) (by
    rw [cell_i hk1 (by decide), e, cp_row]
    show (H.setIfInBounds _ _)[_]? = some _
    simp [Array.getElem?_setIfInBounds, hal]) oq
  rw [ws_upd (I' := I1) ha (fun i hi => by rw [e]; exact cp_off I a0 a 30 hi) rfl] at p1
  obtain ⟨t, a1, b1⟩ := K (H.setIfInBounds ((xE X).1.size + a) (vp_cell (xE X).2.2.1 (30, .inl (va_cpy (I a0) (I a) 0 0 30)))) _ lsa ⟨p1, by simpa using r.2.1, fun q hq => (oq q (by have : q < (xE X).1.size := hq; omega)).trans (r.2.2.1 q hq), r.2.2.2⟩
    ⟨by simpa using s.1, fun q g1 g2 => (oq q (fun e9 => g2 (by rw [e9]; exact Nat.le_add_right _ _))).trans (s.2.1 q g1 g2), fun q hq => by
      rcases List.mem_append.mp hq with h | h
      · exact s.2.2 q h
      · obtain ⟨z, -, hz⟩ := List.mem_map.mp h
        rw [← hz]
        exact Nat.le_add_right _ _⟩ l _ (by rw [← hT]; rfl) X'
  exact ⟨t, step t a1, b1⟩
/-- the law's script -/
def LX (X : Cx) (b L : Nat) (xz : Nat → Int32) : Prop := va_X b L xz (xs X) (xs X).heap ∧ b < (xs X).heap.size ∧ ¬ Fr (xE X) b
theorem s_slen {b L : Nat} {xz : Nat → Int32} (C : CtxOK X y) (hX : LX X b L xz) (d : decode y.2.1 pc = .ok (.arraylength, 1)) (K : WM X y (pc + 1) ls (.int (Int32.ofNat L) :: st) S I k n) : WM X y pc ls (.ref b :: st) S I k n := fun H locs lsa r s l =>
  va_slen C.1 C.2.1 hX.1 hX.2.1 hX.2.2 s d (K H locs lsa r s l)
theorem s_sld {b L : Nat} {xz : Nat → Int32} {i : Int32} (C : CtxOK X y) (hX : LX X b L xz) (d : decode y.2.1 pc = .ok (.iaload, 1)) (hin : ¬ (i < 0 ∨ L ≤ i.toNatClampNeg)) (K : WM X y (pc + 1) ls (.int (xz i.toNatClampNeg) :: st) S I k n) : WM X y pc ls (.int i :: .ref b :: st) S I k n := fun H locs lsa r s l =>
  va_sld C.1 C.2.1 hX.1 hX.2.1 hX.2.2 s hin d (K H locs lsa r s l)
abbrev mL_law : Yd := (yL_law, cL_law, 4, (some .boolean))
end RL7
