/-! rules that rest on the words: native calls, the constant text -/
theorem pr_e {α : Type} {a b : α} {I J : Mm} (h : some (a, I) = some (b, J)) : a = b ∧ I = J := by
  have h2 := Option.some.inj h
  exact ⟨congrArg Prod.fst h2, congrArg Prod.snd h2⟩
theorem on_n {β : Type} {A : β} {B : Nat → β} {x : β} (h : onm none A B = x) : A = x := h
theorem on_s {β : Type} {a : Nat} {A : β} {B : Nat → β} {x : β} (h : onm (some a) A B = x) : B a = x := h
theorem rv_cat (E : Ev) (o : Option Nat) : (rvE E o).category = 1 := by cases o <;> rfl
def fbI (b : UInt32) : Int32 := if Op.cmpValue (FP.fcmp b b) .l = 0 then b.toInt32 else 2143289344
theorem ok_o {ls : List (Option Value)} {k : Nat} {v : Value} {E : Ev} {o : Option Nat} (h : ls[k]? = some (some (rvE E o))) (hc : v.category = 1) : okst ls (k + 1) v = true := by
  have e := rv_cat E o
  simp only [okst, h, e, hc]
  rfl
section RL7
variable {X : Cx} {y : Yd} {pc : Nat} {ls ls' : List (Option Value)} {st : List Value} {S : Sx} {I I1 : Mm} {k n : Nat}
theorem s_ldcwf {ix : Nat} {v : UInt32} (C : CtxOK X y) (d : decode y.2.1 pc = .ok (.ldc_w ix, 3)) (hw : Cond.constantFloat y.1.cls ix v ∈ lw_good) (K : WM X y (pc + 3) ls (.float v :: st) S I k n) : WM X y pc ls st S I k n := by
  intro H locs lsa r s l T hT Xs
  obtain ⟨t, a, b⟩ := K H locs lsa r s l T hT Xs
  refine ⟨t, ?_, b⟩
  obtain ⟨kk, cf, hk, hcf, hcp⟩ := Cond.constantFloat_spec C.2.2.2.1 (C.2.2.2.2.1 _ hw)
  obtain ⟨k', hk', he⟩ := Xs.warmed.alike.2.2 _ _ hk
  have hexec := C.1
  have hdg : decode (xc X).code pc = .ok (.ldc_w ix, 3) := by rw [C.2.1]; exact d
  jvm_step Xs.here [hexec, hdg, ldc_w.sem, ldc.wp_float (s := T) (f := F0 (xm X) pc lsa st) Xs.here.top hk' (by rw [he]; exact hcf) hcp]
  exact a
theorem s_f2raw {ix d kk nn : Nat} {b : UInt32} (C : CtxOK X y) (hR : RG X d kk nn) (hd : 1 ≤ d) (hl : Cond.methodLink y.1.cls ix ⟨"java/lang/Float", "floatToRawIntBits", "(F)I"⟩ ∈ lw_good) (dd : decode y.2.1 pc = .ok (.invokestatic ix, 3)) (hcat : (st.map fun v => v.category).sum ≤ 8)
    (K : WM X y (pc + 3) ls (.int b.toInt32 :: st) S I k n) : WM X y pc ls (.float b :: st) S I k n := fun H locs lsa r s l =>
  vn_f2i C.1 C.2.1 (C.2.2.1.trans l.1.symm) C.2.2.2.1 (C.2.2.2.2.1 _ hl) (C.2.2.2.2.1 _ wn_floatToRawIntBits_n) (C.2.2.2.2.1 _ wn_floatToRawIntBits_s) (C.2.2.2.2.1 _ wn_floatToRawIntBits_i) (Nat.le_trans hd hR.1) (Nat.le_trans (by omega) hR.2.1) dd (K H locs lsa r s l)
theorem s_d2raw {ix d kk nn : Nat} {b : UInt64} (C : CtxOK X y) (hR : RG X d kk nn) (hd : 1 ≤ d) (hl : Cond.methodLink y.1.cls ix ⟨"java/lang/Double", "doubleToRawLongBits", "(D)J"⟩ ∈ lw_good) (dd : decode y.2.1 pc = .ok (.invokestatic ix, 3)) (hcat : (st.map fun v => v.category).sum ≤ 8)
    (K : WM X y (pc + 3) ls (.long b.toInt64 :: st) S I k n) : WM X y pc ls (.double b :: st) S I k n := fun H locs lsa r s l =>
  vn_d2l C.1 C.2.1 (C.2.2.1.trans l.1.symm) C.2.2.2.1 (C.2.2.2.2.1 _ hl) (C.2.2.2.2.1 _ wn_doubleToRawLongBits_n) (C.2.2.2.2.1 _ wn_doubleToRawLongBits_s) (C.2.2.2.2.1 _ wn_doubleToRawLongBits_i) (Nat.le_trans hd hR.1) (Nat.le_trans (by omega) hR.2.1) dd (K H locs lsa r s l)
theorem cp_row (I : Mm) (s t n : Nat) : cpI I s t n t = va_cpy (I s) (I t) 0 0 n := by
  funext q
  show (if t = t ∧ q < n then I s q else I t q) = (if 0 ≤ q ∧ q < 0 + n then I s (0 + (q - 0)) else I t q)
  by_cases h : q < n
  · rw [if_pos ⟨rfl, h⟩, if_pos (by omega), show 0 + (q - 0) = q by omega]
  · rw [if_neg (by omega), if_neg (by omega)]
theorem cp_off (I : Mm) (s t n : Nat) {i : Nat} (h : i ≠ t) : cpI I s t n i = I i := by
  funext q
  simp [cpI, h]
theorem s_copy {ix d kk nn a0 a : Nat} (C : CtxOK X y) (hR : RG X d kk nn) (hd : 1 ≤ d) (hl : Cond.methodLink y.1.cls ix ⟨"java/lang/System", "arraycopy", "(Ljava/lang/Object;ILjava/lang/Object;II)V"⟩ ∈ lw_good) (dd : decode y.2.1 pc = .ok (.invokestatic ix, 3)) (hk0 : S.2.1 a0 = 40) (hk1 : S.2.1 a = 40) (e : I1 = cpI I a0 a 30) (hcat : (st.map fun v => v.category).sum ≤ 8)
    (K : WM X y (pc + 3) ls st S I1 k n) : WM X y pc ls (.int 30 :: .int 0 :: rfX X a :: .int 0 :: rfX X a0 :: st) S I k n := by
  intro H locs lsa r s l T hT Xs
  have ha0 : a0 < S.1 := rep_lt r (by omega)
  have ha : a < S.1 := rep_lt r (by omega)
  have he0 := ws_at (E := xE X) (S := S) (I := I) ha0
  have he1 := ws_at (E := xE X) (S := S) (I := I) ha
  rw [cell_i hk0 (by decide)] at he0
  rw [cell_i hk1 (by decide)] at he1
  have hc0 : H[(xE X).1.size + a0]? = some (vp_cell (xE X).2.2.1 (30, .inl (I a0))) := r.1 a0 _ he0
  have hc1 : H[(xE X).1.size + a]? = some (vp_cell (xE X).2.2.1 (30, .inl (I a))) := r.1 a _ he1
  obtain ⟨-, k0, hk0', cm0, hkk0⟩ := (C.2.2.2.2.2.1.2 0 _ rfl).1 30 (fun j => .int (I a0 j))
  obtain ⟨-, k1, hk1', cm1, hkk1⟩ := (C.2.2.2.2.2.1.2 0 _ rfl).1 30 (fun j => .int (I a j))
  have hts := C.2.2.2.2.1
  obtain ⟨vm', X', step⟩ := Xs.arraycopy C.1 C.2.2.2.1 (hts _ hl) (hts _ wn_arraycopy_n) (hts _ wn_arraycopy_s) (hts _ wn_arraycopy_i) (src := (xE X).1.size + a0) (dst := (xE X).1.size + a) (cs := vp_cell (xE X).2.2.1 (30, .inl (I a0))) (cd := vp_cell (xE X).2.2.1 (30, .inl (I a))) (srcPos := 0) (destPos := 0) (n := 30) (by rw [hT]; exact hc0) (by rw [hT]; exact hc1)
    (fun _ h => by cases h) (fun _ h => by cases h) (fun h => by cases h) (fun h => by cases h) hk0' hk1' hkk0 hkk1 rfl (by decide) (by decide) (by decide)
    (by show ¬ _ > ((arrV (xE X).2.2.1 30 (fun j => .int (I a0 j))).slots.size : Int); rw [arrV_size]; decide)
    (by show ¬ _ > ((arrV (xE X).2.2.1 30 (fun j => .int (I a j))).slots.size : Int); rw [arrV_size]; decide)
    (fun vm₁ _ i hi => by
      have hi' : i < 30 := hi
      have e9 : (vp_cell (xE X).2.2.1 (30, .inl (I a0))).slots.getD ((0 : Int32).toNatClampNeg + i) .null = .int (I a0 i) := by
        show (arrV (xE X).2.2.1 30 (fun j => .int (I a0 j))).slots.getD _ _ = _
        rw [show (0 : Int32).toNatClampNeg + i = i from Nat.zero_add i, Array.getD_eq_getD_getElem?, arrV_read _ _ hi']
        rfl
      exact ⟨by rw [e9]; rfl, by rw [e9]; exact trivial⟩)
    (g := F0 (xm X) pc lsa (.int 30 :: .int 0 :: rfX X a :: .int 0 :: rfX X a0 :: st)) rfl (l.1.trans C.2.2.1.symm) (rest := st) rfl (by rw [C.2.1]; exact dd) (Nat.le_trans hd hR.1)
    (by
      have hw : nativeFrameWords "java/lang/System" "arraycopy" 5 ≤ 20 := by decide
      have := hR.2.1
      show 2 * 0 + _ + _ ≤ _
      omega)
  have e1 : copied (vp_cell (xE X).2.2.1 (30, .inl (I a0))) (vp_cell (xE X).2.2.1 (30, .inl (I a))) 0 0 30 = vp_cell (xE X).2.2.1 (30, .inl (va_cpy (I a0) (I a) 0 0 30)) := va_copied (fun z => .int z) (xE X).2.2.1 (xE X).2.2.1 (I a0) (I a) (Nat.le_refl 30)
  rw [e1] at X' step
  have hal : (xE X).1.size + a < H.size := (Array.getElem?_eq_some_iff.mp hc1).1
  have oq : ∀ q : Nat, q ≠ (xE X).1.size + a → (H.setIfInBounds ((xE X).1.size + a) (vp_cell (xE X).2.2.1 (30, .inl (va_cpy (I a0) (I a) 0 0 30))))[q]? = H[q]? := fun q hq => by simp [Array.getElem?_setIfInBounds, Ne.symm hq]
  have p1 := r.1.set (ws_D _ _ _) he1 (e := cellE (xE X) S I1 a) (H1 := H.setIfInBounds ((xE X).1.size + a) (vp_cell (xE X).2.2.1 (30, .inl (va_cpy (I a0) (I a) 0 0 30)))) (by
    rw [cell_i hk1 (by decide), e, cp_row]
    show (H.setIfInBounds _ _)[_]? = some _
    simp [Array.getElem?_setIfInBounds, hal]) oq
  rw [ws_upd (I' := I1) ha (fun i hi => by rw [e]; exact cp_off I a0 a 30 hi) rfl] at p1
  obtain ⟨t, a1, b1⟩ := K (H.setIfInBounds ((xE X).1.size + a) (vp_cell (xE X).2.2.1 (30, .inl (va_cpy (I a0) (I a) 0 0 30)))) _ lsa ⟨p1, by simpa using r.2.1, fun q hq => (oq q (by have : q < (xE X).1.size := hq; omega)).trans (r.2.2.1 q hq), r.2.2.2⟩
    ⟨by simpa using s.1, fun q g1 g2 => (oq q (fun e9 => g2 (by rw [e9]; exact Nat.le_add_right _ _))).trans (s.2.1 q g1 g2), fun q hq => by
      rcases List.mem_append.mp hq with h | h
      · exact s.2.2 q h
      · obtain ⟨z, -, hz⟩ := List.mem_map.mp h
        rw [← hz]
        exact Nat.le_add_right _ _⟩ l _ (by rw [← hT]; rfl) X'
  exact ⟨t, step t a1, b1⟩
abbrev mL_law : Yd := (yL_law, cL_law, 9, (some .boolean))
/-- what lies in the start's heap, at this point: the texts, their row, the script -/
theorem nw_at {H : Heap} {locs : List Loc} (C : CtxOK X y) (r : RepH (xE X) S I H) (s : va_S (Fr (xE X)) (xs X).heap H locs) : vk_S 20 txL txB (adS (xE X)) (adB (xE X)) (Fr (xE X)) (xs X) (xs X).heap ∧ va_Z "java/lang/String" "COMPACT_STRINGS" "Z" (.int 1) (Fr (xE X)) (xs X) (xs X).heap ∧ va_Z "LeaningRicksLaw" "TEXTS" "[Ljava/lang/String;" (.ref (txE (xE X))) (Fr (xE X)) (xs X) (xs X).heap ∧ va_T (.object "java/lang/String") (txE (xE X)) 20 (fun j => .ref (adS (xE X) j)) (Fr (xE X)) (xs X) (xs X).heap ∧ va_Zq "jdk/internal/util/Preconditions" "SIOOBE_FORMATTER" "Ljava/util/function/BiFunction;" (Fr (xE X)) (xs X) (xs X).heap ∧ va_X (scB (xE X)) (scL (xE X)) (scX (xE X)) (xs X) (xs X).heap ∧ scL (xE X) ≤ 260 ∧ scB (xE X) < (xs X).heap.size ∧ ¬ Fr (xE X) (scB (xE X)) := by
  obtain ⟨q1, q2, q3, q4, q5, q6, q7, q8, q9, q10, q11⟩ := C.2.2.2.2.2.2.2.2.2.2
  have hz := C.2.2.2.2.2.2.2.2.2.1
  have hq : ∀ a : Nat, a < (xE X).1.size → ¬ Fr (xE X) a → (xs X).heap[a]? = (xE X).1[a]? := fun a ha hf => (s.2.1 a (Nat.lt_of_lt_of_le ha hz) hf).symm.trans (r.2.2.1 a ha)
  have hb : ¬ Fr (xE X) (scB (xE X)) := fun h => by have h' : (xE X).1.size ≤ scB (xE X) := h; omega
  exact ⟨q4.kept hq, q5.kept hq, q6.kept hq, q7.kept hq, q8.kept hq, q9.kept (hq _ q11 hb), q10, Nat.lt_of_lt_of_le q11 hz, hb⟩
/-- the law's script -/
def LX (X : Cx) (b L : Nat) (xz : Nat → Int32) : Prop := scB (xE X) = b ∧ scL (xE X) = L ∧ scX (xE X) = xz
theorem s_slen {b L : Nat} {xz : Nat → Int32} (C : CtxOK X y) (hX : LX X b L xz) (d : decode y.2.1 pc = .ok (.arraylength, 1)) (K : WM X y (pc + 1) ls (.int (Int32.ofNat L) :: st) S I k n) : WM X y pc ls (.ref b :: st) S I k n := fun H locs lsa r s l => by
  obtain ⟨rfl, rfl, rfl⟩ := hX
  obtain ⟨-, -, -, -, -, q, -, q2, q3⟩ := nw_at C r s
  exact va_slen C.1 C.2.1 q q2 q3 s d (K H locs lsa r s l)
theorem s_sld {b L : Nat} {xz : Nat → Int32} {i : Int32} (C : CtxOK X y) (hX : LX X b L xz) (d : decode y.2.1 pc = .ok (.iaload, 1)) (hin : ¬ (i < 0 ∨ L ≤ i.toNatClampNeg)) (K : WM X y (pc + 1) ls (.int (xz i.toNatClampNeg) :: st) S I k n) : WM X y pc ls (.int i :: .ref b :: st) S I k n := fun H locs lsa r s l => by
  obtain ⟨rfl, rfl, rfl⟩ := hX
  obtain ⟨-, -, -, -, -, q, -, q2, q3⟩ := nw_at C r s
  exact va_sld C.1 C.2.1 q q2 q3 s hin d (K H locs lsa r s l)
/-! the texts -/
theorem s_txs {ix : Nat} (C : CtxOK X y) (d : decode y.2.1 pc = .ok (.getstatic ix, 3)) (hl : Cond.fieldLink y.1.cls ix "LeaningRicksLaw" "TEXTS" "[Ljava/lang/String;" ∈ lw_good)
    (K : WM X y (pc + 3) ls (.ref (txE (xE X)) :: st) S I k n) : WM X y pc ls st S I k n := fun H locs lsa r s l =>
  va_gets C.1 C.2.1 (nw_at C r s).2.2.1 s C.2.2.2.1 (C.2.2.2.2.1 _ hl) (fun _ h => h) d (K H locs lsa r s l)
theorem s_txl (C : CtxOK X y) (d : decode y.2.1 pc = .ok (.arraylength, 1)) (K : WM X y (pc + 1) ls (.int 20 :: st) S I k n) : WM X y pc ls (.ref (txE (xE X)) :: st) S I k n := fun H locs lsa r s l =>
  va_tlen C.1 C.2.1 (nw_at C r s).2.2.2.1 s (v := 20) rfl d (K H locs lsa r s l)
theorem s_txa {i : Int32} (C : CtxOK X y) (d : decode y.2.1 pc = .ok (.aaload, 1)) (hin : ¬ (i < 0 ∨ 20 ≤ i.toNatClampNeg)) (K : WM X y (pc + 1) ls (.ref (adS (xE X) i.toNatClampNeg) :: st) S I k n) : WM X y pc ls (.int i :: .ref (txE (xE X)) :: st) S I k n := fun H locs lsa r s l =>
  vb_tq C.1 C.2.1 (nw_at C r s).2.2.2.1 s hin (v := .ref (adS (xE X) i.toNatClampNeg)) rfl d (K H locs lsa r s l)
theorem s_strF {t ix : Nat} {nm ds : String} {v : Value} (C : CtxOK X y) (d : decode y.2.1 pc = .ok (.getfield ix, 3)) (hl : Cond.fieldLink y.1.cls ix "java/lang/String" nm ds ∈ lw_good)
    (hv : ∀ (s : State), vk_S 20 txL txB (adS (xE X)) (adB (xE X)) (Fr (xE X)) s s.heap → va_OF "java/lang/String" nm ds v (adS (xE X) t) (Fr (xE X)) s s.heap)
    (K : WM X y (pc + 3) ls (v :: st) S I k n) : WM X y pc ls (.ref (adS (xE X) t) :: st) S I k n := fun H locs lsa r s l =>
  vk_getf C.1 C.2.1 (hv (xs X) (nw_at C r s).1) s C.2.2.2.1 (C.2.2.2.2.1 _ hl) (fun _ h => h) d (K H locs lsa r s l)
theorem s_strC {t ix : Nat} (ht : t < 20) (C : CtxOK X y) (d : decode y.2.1 pc = .ok (.getfield ix, 3)) (hl : Cond.fieldLink y.1.cls ix "java/lang/String" "coder" "B" ∈ lw_good)
    (K : WM X y (pc + 3) ls (.int 0 :: st) S I k n) : WM X y pc ls (.ref (adS (xE X) t) :: st) S I k n := s_strF C d hl (fun _ q => (q.1 t ht).2.1) K
theorem s_strV {t ix : Nat} (ht : t < 20) (C : CtxOK X y) (d : decode y.2.1 pc = .ok (.getfield ix, 3)) (hl : Cond.fieldLink y.1.cls ix "java/lang/String" "value" "[B" ∈ lw_good)
    (K : WM X y (pc + 3) ls (.ref (adB (xE X) t) :: st) S I k n) : WM X y pc ls (.ref (adS (xE X) t) :: st) S I k n := s_strF C d hl (fun _ q => (q.1 t ht).2.2.1) K
theorem s_cmpS {ix : Nat} (C : CtxOK X y) (d : decode y.2.1 pc = .ok (.getstatic ix, 3)) (hl : Cond.fieldLink y.1.cls ix "java/lang/String" "COMPACT_STRINGS" "Z" ∈ lw_good)
    (K : WM X y (pc + 3) ls (.int 1 :: st) S I k n) : WM X y pc ls st S I k n := fun H locs lsa r s l =>
  va_gets C.1 C.2.1 (nw_at C r s).2.1 s C.2.2.2.1 (C.2.2.2.2.1 _ hl) (fun _ h => h) d (K H locs lsa r s l)
theorem s_sio {ix : Nat} (C : CtxOK X y) (d : decode y.2.1 pc = .ok (.getstatic ix, 3)) (hl : Cond.fieldLink y.1.cls ix "jdk/internal/util/Preconditions" "SIOOBE_FORMATTER" "Ljava/util/function/BiFunction;" ∈ lw_good)
    (K1 : WM X y (pc + 3) ls (.null :: st) S I k n) (K2 : ∀ a : Nat, WM X y (pc + 3) ls (.ref a :: st) S I k n) : WM X y pc ls st S I k n := fun H locs lsa r s l => by
  rcases (nw_at C r s).2.2.2.2.1 with q | ⟨a, q⟩
  · exact va_gets C.1 C.2.1 q s C.2.2.2.1 (C.2.2.2.2.1 _ hl) (fun _ h => h) d (K1 H locs lsa r s l)
  · exact va_gets C.1 C.2.1 q s C.2.2.2.1 (C.2.2.2.2.1 _ hl) (fun _ h => h) d (K2 a H locs lsa r s l)
def tlen (t : Nat) : Int32 := Int32.ofNat (txL.getD t 0)
def tchr (t k : Nat) : Int32 := (txB.getD t []).getD k 0
theorem s_blen {t : Nat} (ht : t < 20) (C : CtxOK X y) (d : decode y.2.1 pc = .ok (.arraylength, 1)) (K : WM X y (pc + 1) ls (.int (tlen t) :: st) S I k n) : WM X y pc ls (.ref (adB (xE X) t) :: st) S I k n := fun H locs lsa r s l =>
  va_tlen C.1 C.2.1 ((nw_at C r s).1.1 t ht).2.2.2 s (v := tlen t) rfl d (K H locs lsa r s l)
theorem s_bld {t : Nat} {i : Int32} (ht : t < 20) (hin : ¬ (i < 0 ∨ txL.getD t 0 ≤ i.toNatClampNeg)) (C : CtxOK X y) (d : decode y.2.1 pc = .ok (.baload, 1)) (K : WM X y (pc + 1) ls (.int (tchr t i.toNatClampNeg) :: st) S I k n) : WM X y pc ls (.int i :: .ref (adB (xE X) t) :: st) S I k n := fun H locs lsa r s l =>
  va_tb C.1 C.2.1 ((nw_at C r s).1.1 t ht).2.2.2 s (i := i) hin (v := .int (tchr t i.toNatClampNeg)) rfl d (K H locs lsa r s l)
theorem s_i2b {a : Int32} (C : CtxOK X y) (d : decode y.2.1 pc = .ok (.i2b, 1)) (K : WM X y (pc + 1) ls (.int a.toInt8.toInt32 :: st) S I k n) : WM X y pc ls (.int a :: st) S I k n := fun H locs lsa r s l =>
  lv_i2b C.1 C.2.1 d rfl (K H locs lsa r s l)
end RL7
