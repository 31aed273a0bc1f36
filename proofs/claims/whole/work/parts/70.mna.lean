/-! ===== new int[8][373] ===== -/
def mnaS (S : Sx) : Sx := (S.1 + 9, fun a => if a = S.1 then 8 else if S.1 < a ∧ a < S.1 + 9 then 383 else S.2.1 a, fun b i => if b = S.1 ∧ i < 8 then some (S.1 + 1 + i) else S.2.2 b i)
theorem outer_is (c : ClassId) (N h0 : Nat) : ∀ i : Nat, Jvm.Free.Multi.outerC c N h0 i = arrV c N (fun j => va_rf (if j < i then some (h0 + 1 + j) else none))
  | 0 => by
    show ({ cls := c, slots := Array.replicate N .null, vm := .none } : Cell) = _
    rw [arrV_new]
    exact congrArg (arrV c N) (funext fun j => by simp [va_rf])
  | i + 1 => by
    show (Jvm.Free.Multi.outerC c N h0 i).setSlot i (.ref (h0 + 1 + i)) = _
    rw [outer_is c N h0 i, arrV_store]
    refine congrArg (arrV c N) (funext fun j => ?_)
    by_cases e : j = i
    · subst e
      simp [updV, va_rf]
    · by_cases h : j < i
      · simp [updV, e, h, Nat.lt_succ_of_lt h]
      · simp [updV, e, h, show ¬ j < i + 1 by omega]
theorem s_mna {ix d kk nn : Nat} {X : Cx} {y : Yd} {pc : Nat} {ls : List (Option Value)} {st : List Value} {S : Sx} {I : Mm} {k n : Nat} (C : CtxOK X y) (dd : decode y.2.1 pc = .ok (.multianewarray ix 2, 4)) (w1 : Cond.classLink y.1.cls ix "[[I" ∈ lw_good) (w2 : Cond.arrayClass .int ∈ lw_good) (hf : Fsh S I) (hR : RG X d kk nn) (hk : k + 9 ≤ kk) (hn : n + 2992 ≤ nn)
    (K : WM X y (pc + 4) ls (rfX X S.1 :: st) (mnaS S) I (k + 9) (n + 2992)) : WM X y pc ls (.int 373 :: .int 8 :: st) S I k n := by
  intro H locs lsa r s l T hT Xs
  have hts := C.2.2.2.2.1
  have hz : H.size = (xE X).1.size + S.1 := r.2.1
  obtain ⟨vm₁, cA, comp, hW, fA, fC, hO, hI, X', step⟩ := Xs.multianewarray2F C.1 (ty := .int) C.2.2.2.1 (hts _ w1) C.2.2.2.2.2.2.2.2.2.2.2.2.2.2.2.2 (hts _ w2) (g := F0 (xm X) pc lsa (.int 373 :: .int 8 :: st)) rfl (by rw [C.2.1]; exact dd) (n := 8) (k := 373) rfl (by decide) (by decide) (by decide) (by decide) (by decide) rfl rfl
    (Nat.le_trans hk hR.2.2.1) (Nat.le_trans hn hR.2.2.2)
  have hcA : cA = (xE X).2.2.2.2.2.1 := Option.some.inj (fA.symm.trans (C.2.2.2.2.2.1.2 3 _ rfl).2)
  have hcI : comp = (xE X).2.2.1 := Option.some.inj (fC.symm.trans (C.2.2.2.2.2.1.2 0 _ rfl).2)
  subst hcA
  subst hcI
  have e8 : (8 : Int32).toNatClampNeg = 8 := by decide
  have e3 : (373 : Int32).toNatClampNeg = 373 := by decide
  rw [e8, e3] at X' step
  generalize hF : Jvm.Free.Multi.fill (T.setVm vm₁) (xE X).2.2.2.2.2.1 (xE X).2.2.1 8 373 (defaultValue .int) 8 = F at X' step
  have hTh : (T.setVm vm₁).heap = H := hT
  obtain ⟨f1, f2, -, -⟩ := Jvm.Free.Multi.fill_facts (T.setVm vm₁) (xE X).2.2.2.2.2.1 (xE X).2.2.1 8 373 (defaultValue .int) 8
  rw [hF, hTh] at f1 f2
  have hold : ∀ x : Nat, x < H.size → F.heap[x]? = H[x]? := fun x hx => by
    have := Jvm.Free.Multi.fill_old (T.setVm vm₁) (xE X).2.2.2.2.2.1 (xE X).2.2.1 8 373 (defaultValue .int) (a := x) (by rw [hTh]; exact hx) 8
    rw [hF, hTh] at this
    exact this
  have hrow : ∀ j : Nat, j < 8 → F.heap[H.size + 1 + j]? = some (arrV (xE X).2.2.1 373 (fun _ => .int 0)) := fun j hj => by
    have := Jvm.Free.Multi.fill_inner (T.setVm vm₁) (xE X).2.2.2.2.2.1 (xE X).2.2.1 8 373 (defaultValue .int) 8 j hj
    rw [hF, hTh] at this
    rw [this, ← arrV_new]
    rfl
  rw [outer_is] at f2
  have hrep : RepH (xE X) (mnaS S) I F.heap := by
    refine ⟨fun k9 q hk9 => ?_, by rw [f1, hz]; show _ = (xE X).1.size + (S.1 + 9); omega, fun q hq => (hold q (by omega)).trans (r.2.2.1 q hq), fun a ha => ?_⟩
    · have hlt : k9 < S.1 + 9 := by
        have := (List.getElem?_eq_some_iff.mp hk9).1
        simpa [wsE, mnaS] using this
      have hq := (ws_at (E := xE X) (S := mnaS S) (I := I) (k := k9) hlt).symm.trans hk9
      cases hq
      rcases Nat.lt_trichotomy k9 S.1 with h | h | h
      · have e1 : (mnaS S).2.1 k9 = S.2.1 k9 := by show (if k9 = S.1 then 8 else if S.1 < k9 ∧ k9 < S.1 + 9 then 383 else S.2.1 k9) = _; rw [if_neg (by omega), if_neg (by omega)]
        have e2 : (mnaS S).2.2 k9 = S.2.2 k9 := by funext i; exact if_neg (by omega)
        have e4 : rowE (xE X) (mnaS S) k9 = rowE (xE X) S k9 := by unfold rowE; rw [e2]
        have e5 : cellE (xE X) (mnaS S) I k9 = cellE (xE X) S I k9 := by simp only [cellE, fsE, e1, e2, e4]
        rw [e5]
        exact (r.1 k9 _ (ws_at h)).kept (hold _ (by show (xE X).1.size + k9 < _; omega))
      · subst h
        have e1 : (mnaS S).2.1 S.1 = 8 := if_pos rfl
        obtain ⟨cA', ty', h1, h2, -⟩ := cell_r (E := xE X) (I := I) e1 (by decide)
        have h2' : some ((xE X).2.2.2.2.2.1, FieldType.array .int) = some (cA', ty') := h2
        cases h2'
        rw [h1]
        show F.heap[(xE X).1.size + S.1]? = some (vp_cell _ _)
        rw [← hz, f2, vp_cell_q]
        congr 2
        funext j
        have h0 := (hf S.1 j (Nat.le_refl _)).1
        by_cases hj : j < 8
        · have : (mnaS S).2.2 S.1 j = some (S.1 + 1 + j) := if_pos ⟨rfl, hj⟩
          simp only [rowE, this, hj, if_true, Option.map_some]
          rw [hz]
          exact congrArg (fun z => va_rf (some z)) (show (xE X).1.size + S.1 + 1 + j = (xE X).1.size + (S.1 + 1 + j) by omega)
        · have : (mnaS S).2.2 S.1 j = none := (if_neg (by omega)).trans h0
          simp only [rowE, this, hj, if_false, Option.map_none]
      · have e1 : (mnaS S).2.1 k9 = 383 := by show (if k9 = S.1 then 8 else if S.1 < k9 ∧ k9 < S.1 + 9 then 383 else S.2.1 k9) = _; rw [if_neg (by omega), if_pos (by omega)]
        rw [cell_i e1 (by decide)]
        show F.heap[(xE X).1.size + k9]? = some (vp_cell _ _)
        rw [show (xE X).1.size + k9 = H.size + 1 + (k9 - S.1 - 1) by omega, hrow _ (by omega), vp_cell_i]
        congr 2
        funext j
        rw [(hf k9 j (by omega)).2]
    · have ha' : S.1 + 9 ≤ a := ha
      show (if a = S.1 then 8 else if S.1 < a ∧ a < S.1 + 9 then 383 else S.2.1 a) = 9
      rw [if_neg (by omega), if_neg (by omega)]
      exact r.2.2.2 a (by omega)
  obtain ⟨t, a1, b1⟩ := K F.heap locs lsa hrep ⟨Nat.le_trans s.1 (by rw [f1]; omega), fun q h1 h2 => (hold q (Nat.lt_of_lt_of_le h1 s.1)).trans (s.2.1 q h1 h2), s.2.2⟩ l F rfl X'
  refine ⟨t, step t ?_, b1⟩
  have e9 : T.heap.size = (xE X).1.size + S.1 := by rw [hT]; exact hz
  rw [e9]
  exact a1
