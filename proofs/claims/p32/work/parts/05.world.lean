/-! ===== the finished world ===== -/
def kdL : List Nat := [4, 3, 6, 1, 40, 40, 40, 1, 40, 40, 40, 1, 40, 40, 40, 3, 6, 1, 40, 40, 40, 1, 40, 40, 40, 1, 40, 40, 40, 7, 2, 70, 2, 70, 0, 30, 70, 3, 6, 1, 40, 40, 40, 1, 40, 40, 40, 1, 40, 40, 40, 3, 6, 1, 40, 40, 40, 1, 40, 40, 40, 1, 40, 40, 40, 3, 6, 1, 40, 40, 40, 1, 40, 40, 40, 1, 40, 40, 40, 3, 6, 1, 40, 40, 40, 1, 40, 40, 40, 1, 40, 40, 40, 3, 6, 1, 40, 40, 40, 1, 40, 40, 40, 1, 40, 40, 40, 3, 6, 1, 40, 40, 40, 1, 40, 40, 40, 1, 40, 40, 40, 3, 6, 1, 40, 40, 40, 1, 40, 40, 40, 1, 40, 40, 40, 3, 6, 1, 40, 40, 40, 1, 40, 40, 40, 1, 40, 40, 40, 3, 6, 1, 40, 40, 40, 1, 40, 40, 40, 1, 40, 40, 40]
def kd0 (a : Nat) : Nat := kdL.getD a 9
def R0k (k a j : Nat) : Option Nat := match k with
  | 4 => (match j with | 0 => some 1 | 1 => some 15 | 3 => some 29 | 6 => some 30 | 7 => some 32 | 8 => some 34 | _ => none)
  | 3 => (match j with | 0 => some (a + 1) | _ => none)
  | 6 => if j < 3 then some (a + 1 + 4 * j) else none
  | 1 => if j < 3 then some (a + 1 + j) else none
  | 7 => if j < 9 then some (37 + 14 * j) else none
  | 2 => (match j with | 0 => some (a + 1) | _ => none)
  | 0 => (match j with | 0 => some 35 | 1 => some 36 | _ => none)
  | _ => none
def R0 (a j : Nat) : Option Nat := R0k (kd0 a) a j
abbrev S0 : Sx := (163, kd0, R0)
theorem kd_lt {a : Nat} (h : kd0 a ≠ 9) : a < 163 := by
  rcases Nat.lt_or_ge a 163 with q | q
  · exact q
  · exact absurd (by unfold kd0; rw [List.getD_eq_getElem?_getD, List.getElem?_eq_none (by show 163 ≤ a; exact q)]; rfl) h
theorem kd1a : ∀ a, a < 163 → kd0 a = 1 → kd0 (a + 1) = 40 ∧ kd0 (a + 2) = 40 ∧ kd0 (a + 3) = 40 := by decide +kernel
theorem kd1 {a : Nat} (h : kd0 a = 1) : kd0 (a + 1) = 40 ∧ kd0 (a + 2) = 40 ∧ kd0 (a + 3) = 40 := kd1a a (kd_lt (by omega)) h
theorem kd2a : ∀ a, a < 163 → kd0 a = 2 → kd0 (a + 1) = 70 := by decide +kernel
theorem kd2 {a : Nat} (h : kd0 a = 2) : kd0 (a + 1) = 70 := kd2a a (kd_lt (by omega)) h
theorem kd3a : ∀ a, a < 163 → kd0 a = 3 → kd0 (a + 1) = 6 := by decide +kernel
theorem kd3 {a : Nat} (h : kd0 a = 3) : kd0 (a + 1) = 6 := kd3a a (kd_lt (by omega)) h
theorem kd6a : ∀ a, a < 163 → kd0 a = 6 → ∀ j, j < 3 → kd0 (a + 1 + 4 * j) = 1 := by decide +kernel
theorem kd6 {a j : Nat} (h : kd0 a = 6) (hj : j < 3) : kd0 (a + 1 + 4 * j) = 1 := kd6a a (kd_lt (by omega)) h j hj
theorem kd7 {j : Nat} (hj : j < 9) : kd0 (37 + 14 * j) = 3 := (by decide +kernel : ∀ j, j < 9 → kd0 (37 + 14 * j) = 3) j hj
theorem rr1 {a : Nat} (h : kd0 a = 1) : R0 a 0 = some (a + 1) ∧ R0 a 1 = some (a + 2) ∧ R0 a 2 = some (a + 3) := by unfold R0; rw [h]; exact ⟨rfl, rfl, rfl⟩
theorem rr2 {a : Nat} (h : kd0 a = 2) : R0 a 0 = some (a + 1) := by unfold R0; rw [h]; rfl
theorem rr3 {a : Nat} (h : kd0 a = 3) : R0 a 0 = some (a + 1) := by unfold R0; rw [h]; rfl
theorem rr6 {a j : Nat} (h : kd0 a = 6) (hj : j < 3) : R0 a j = some (a + 1 + 4 * j) := by unfold R0; rw [h]; exact if_pos hj
theorem rr7 {a j : Nat} (h : kd0 a = 7) (hj : j < 9) : R0 a j = some (37 + 14 * j) := by unfold R0; rw [h]; exact if_pos hj
theorem ck_lt {i : Int32} {m : Nat} (h : ¬ (i < 0 ∨ m ≤ i.toNatClampNeg)) : i.toNatClampNeg < m := Nat.not_le.mp fun q => h (Or.inr q)
theorem kk_0 : kd0 0 = 4 := by decide +kernel
theorem kk_29 : kd0 29 = 7 := by decide +kernel
theorem kk_30 : kd0 30 = 2 := by decide +kernel
theorem kk_31 : kd0 31 = 70 := by decide +kernel
theorem kk_32 : kd0 32 = 2 := by decide +kernel
theorem kk_33 : kd0 33 = 70 := by decide +kernel
theorem kk_34 : kd0 34 = 0 := by decide +kernel
theorem kk_35 : kd0 35 = 30 := by decide +kernel
theorem kk_36 : kd0 36 = 70 := by decide +kernel
theorem kk_1 : kd0 1 = 3 := by decide +kernel
theorem kk_15 : kd0 15 = 3 := by decide +kernel
theorem rk_0_0 : R0 0 0 = some 1 := by decide +kernel
theorem rk_0_1 : R0 0 1 = some 15 := by decide +kernel
theorem rk_0_3 : R0 0 3 = some 29 := by decide +kernel
theorem rk_0_6 : R0 0 6 = some 30 := by decide +kernel
theorem rk_0_7 : R0 0 7 = some 32 := by decide +kernel
theorem rk_0_8 : R0 0 8 = some 34 := by decide +kernel
theorem rk_34_0 : R0 34 0 = some 35 := by decide +kernel
theorem rk_34_1 : R0 34 1 = some 36 := by decide +kernel
/-! control words of the functions that the methods are -/
def bd {α β : Type} (o : Option (α × Mm)) (k : α → Mm → Option β) : Option β := match o with
  | some q => k q.1 q.2
  | none => none
def ltm {α β : Type} (a : α) (k : α → β) : β := k a
def onm {β : Type} (o : Option Nat) (A : β) (B : Nat → β) : β := match o with
  | none => A
  | some a => B a
theorem bd_e {α β : Type} {o : Option (α × Mm)} {k : α → Mm → Option β} {x : β} (h : bd o k = some x) : ∃ (a : α) (I : Mm), o = some (a, I) ∧ k a I = some x := by
  cases o with
  | none => cases h
  | some q => exact ⟨q.1, q.2, rfl, h⟩
theorem ltm_e {α β : Type} {a : α} {k : α → Option β} {x : β} (h : ltm a k = some x) : ∃ b, b = a ∧ k b = some x := ⟨a, rfl, h⟩
theorem it_t {c : Prop} [Decidable c] {β : Type} {a b : Option β} {x : β} (hc : c) (h : (if c then a else b) = some x) : a = some x := by rwa [if_pos hc] at h
theorem it_f {c : Prop} [Decidable c] {β : Type} {a b : Option β} {x : β} (hc : ¬ c) (h : (if c then a else b) = some x) : b = some x := by rwa [if_neg hc] at h
theorem it_n {c : Prop} [Decidable c] {β : Type} {a : Option β} {x : β} (h : (if c then none else a) = some x) : ¬ c ∧ a = some x := by
  by_cases hc : c
  · rw [if_pos hc] at h; cases h
  · rw [if_neg hc] at h; exact ⟨hc, h⟩
theorem it_s {c : Prop} [Decidable c] {β : Type} {a : Option β} {x : β} (h : (if c then a else none) = some x) : c ∧ a = some x := by
  by_cases hc : c
  · rw [if_pos hc] at h; exact ⟨hc, h⟩
  · rw [if_neg hc] at h; cases h
theorem nz_b {v : Int32} (h : v = 0 ∨ v = 1) : narrow .boolean (.int v) = .int v := by rcases h with rfl | rfl <;> rfl
theorem fz_b {v : Int32} (h : v = 0 ∨ v = 1) : fits .boolean (.int v) = true := by rcases h with rfl | rfl <;> rfl
theorem ne_i {x z : Int32} (k : Int) (hz : z.toInt = k) (h : ¬ x = z) : x.toInt ≠ k := fun q => h (Int32.toInt_inj.mp (q.trans hz.symm))
def mxI (a b : Int32) : Int32 := if a < b then b else a
def mnI (a b : Int32) : Int32 := if b < a then b else a
def cpI (I : Mm) (s t n : Nat) : Mm := fun b k => if b = t ∧ k < n then I s k else I b k
section RL5
variable {X : Cx} {y : Yd} {pc : Nat} {ls ls' : List (Option Value)} {st : List Value} {S : Sx} {I I1 : Mm} {k n : Nat}
def RG (X : Cx) (d kk nn : Nat) : Prop := d ≤ (xR X).frames ∧ 41 * d ≤ (xR X).locals ∧ kk ≤ (xR X).cells ∧ nn ≤ (xR X).slots
theorem MX.rg {E : Ev} {d k' n' : Nat} {r : Option Value} {S' : Sx} {I' : Mm} (M : MX X E d k' n' r S' I') : RG X d k' n' := by
  obtain ⟨-, h, -⟩ := M
  rw [RG, h]
  exact ⟨Nat.le_refl _, Nat.le_refl _, Nat.le_refl _, Nat.le_refl _⟩
theorem s_top_i {v w' : Int32} (e : v = w') (K : WM X y pc ls (.int v :: st) S I k n) : WM X y pc ls (.int w' :: st) S I k n := e ▸ K
theorem s_top_l {v w' : Int64} (e : v = w') (K : WM X y pc ls (.long v :: st) S I k n) : WM X y pc ls (.long w' :: st) S I k n := e ▸ K
theorem s_top_f {v w' : UInt32} (e : v = w') (K : WM X y pc ls (.float v :: st) S I k n) : WM X y pc ls (.float w' :: st) S I k n := e ▸ K
theorem s_top_d {v w' : UInt64} (e : v = w') (K : WM X y pc ls (.double v :: st) S I k n) : WM X y pc ls (.double w' :: st) S I k n := e ▸ K
theorem s_putI {a c j ix : Nat} {v : Int32} (C : CtxOK X y) (d : decode y.2.1 pc = .ok (.putfield ix, 3)) (hk : S.2.1 a = c) (hf : PutOK y.1.cls ix c j .int) (hr : isR c j = false) (e : I1 = wr I a j v)
    (K : WM X y (pc + 3) ls st S I1 k n) : WM X y pc ls (.int v :: rfX X a :: st) S I k n := s_putT C d hk hf hr rfl rfl (e ▸ K)
theorem s_putZ {a c j ix : Nat} {v : Int32} (C : CtxOK X y) (d : decode y.2.1 pc = .ok (.putfield ix, 3)) (hk : S.2.1 a = c) (hf : PutOK y.1.cls ix c j .boolean) (hr : isR c j = false) (hz : v = 0 ∨ v = 1) (e : I1 = wr I a j v)
    (K : WM X y (pc + 3) ls st S I1 k n) : WM X y pc ls (.int v :: rfX X a :: st) S I k n := s_putT C d hk hf hr (nz_b hz) (fz_b hz) (e ▸ K)
theorem s_ald {a m q : Nat} {i : Int32} (C : CtxOK X y) (d : decode y.2.1 pc = .ok (.iaload, 1)) (hk : S.2.1 a = m) (hm : 10 ≤ m) (hj : i.toNatClampNeg = q) (hin : ¬ (i < 0 ∨ m - 10 ≤ i.toNatClampNeg))
    (K : WM X y (pc + 1) ls (.int (I a q) :: st) S I k n) : WM X y pc ls (.int i :: rfX X a :: st) S I k n := s_iald C d hk hm hin (hj ▸ K)
theorem s_ast {a m q : Nat} {i v : Int32} (C : CtxOK X y) (d : decode y.2.1 pc = .ok (.iastore, 1)) (hk : S.2.1 a = m) (hm : 10 ≤ m) (hj : i.toNatClampNeg = q) (hin : ¬ (i < 0 ∨ m - 10 ≤ i.toNatClampNeg)) (e : I1 = wr I a q v)
    (K : WM X y (pc + 1) ls st S I1 k n) : WM X y pc ls (.int v :: .int i :: rfX X a :: st) S I k n := s_iast C d hk hm hin (hj ▸ e ▸ K)
theorem s_cV {c np ix a d d' kk nn mc ms : Nat} {yc : Yd} {as st0 : List Value} {r : Option Value} {S1 : Sx} (C : CtxOK X y) (hR : RG X d kk nn) (hd : d' + 1 ≤ d) (hw : MthV yc c np) (hl : Cond.methodLink y.1.cls ix yc.1 ∈ lw_good) (dd : decode y.2.1 pc = .ok (.invokevirtual ix, 3))
    (hS : SemM (xE X) d' mc ms yc (rfX X a :: as) S I r S1 I1) (ha : S.2.1 a = c) (hlen : as.length = np) (hst : st0 = as.reverse ++ rfX X a :: st) (hcat : (st.map fun v => v.category).sum ≤ 8) (hc : k + mc ≤ kk) (hn : n + ms ≤ nn)
    (K : WM X y (pc + 3) ls (r.toList ++ st) S1 I1 (k + mc) (n + ms)) : WM X y pc ls st0 S I k n := by
  intro H locs lsa rp s l
  obtain ⟨h1, h2, h3, h4, h5, h6, ⟨T, N, h7⟩, h8⟩ := hw
  obtain ⟨g1, g2, g3, g4⟩ := hR
  have hts := C.2.2.2.2.1
  have hal : a < S.1 := rep_lt rp (by omega)
  have he := ws_at (E := xE X) (S := S) (I := I) hal
  rw [cell_o ha h8] at he
  have cb : CallB (xR X) (xs X) (xa X) y.1.cls ix yc.1 yc.2.1 yc.2.2.1 yc.2.2.2 (GW yc) (rmD d' mc ms) mc ms np :=
    callB_of np hts (gwG h4) rfl rfl rfl (hts _ h3) (hts _ hl) h5 ⟨Nat.le_trans hd g1, Nat.le_trans (show 8 + (yc.2.2.1 + 11) + 41 * d' ≤ 41 * d by omega) g2⟩
  have hrun := va_runV (e := xe X) (g := F0 (xm X) pc lsa st0) (locs := locs) (cells := k) (slots := n) (rest := st) (below := xb X) (meth := xM X) ⟨C.1, C.2.1, C.2.2.1, C.2.2.2.1, hts⟩ (hS (xl X)) ⟨cb, hts _ h1, hts _ h2⟩
    ⟨blind, va_recv C.2.2.2.2.2.1 rp.1 h7 he, fun U hU hW => ⟨rfl, And.intro (show RepH (xE X) S I U.heap from hU ▸ rp) (And.intro (va_K.moved hW.alike C.2.2.2.2.2.1) (NW.warm hW C.2.2.2.2.2.2.2.2.2.2))⟩⟩ rfl hlen l.1 hst (lv_room hcat) dd ⟨Nat.le_trans hc g3, Nat.le_trans hn g4⟩
  exact s_back C s l hrun K
theorem s_cS {np ix d d' kk nn mc ms : Nat} {yc : Yd} {as st0 : List Value} {r : Option Value} {S1 : Sx} (C : CtxOK X y) (hR : RG X d kk nn) (hd : d' + 1 ≤ d) (hw : MthS yc np) (hl : Cond.methodLink y.1.cls ix yc.1 ∈ lw_good) (dd : decode y.2.1 pc = .ok (.invokestatic ix, 3))
    (hS : SemM (xE X) d' mc ms yc as S I r S1 I1) (hlen : as.length = np) (hst : st0 = as.reverse ++ st) (hcat : (st.map fun v => v.category).sum ≤ 8) (hc : k + mc ≤ kk) (hn : n + ms ≤ nn)
    (K : WM X y (pc + 3) ls (r.toList ++ st) S1 I1 (k + mc) (n + ms)) : WM X y pc ls st0 S I k n := by
  intro H locs lsa rp s l
  obtain ⟨h1, h3, h4, h5, h6⟩ := hw
  obtain ⟨g1, g2, g3, g4⟩ := hR
  have hts := C.2.2.2.2.1
  have cb : CallB (xR X) (xs X) (xa X) y.1.cls ix yc.1 yc.2.1 yc.2.2.1 yc.2.2.2 (GW yc) (rmD d' mc ms) mc ms np :=
    callB_of np hts (gwG h4) rfl rfl rfl (hts _ h3) (hts _ hl) h5 ⟨Nat.le_trans hd g1, Nat.le_trans (show 8 + (yc.2.2.1 + 11) + 41 * d' ≤ 41 * d by omega) g2⟩
  have hrun := va_runS (e := xe X) (g := F0 (xm X) pc lsa st0) (locs := locs) (cells := k) (slots := n) (rest := st) (below := xb X) (meth := xM X) ⟨C.1, C.2.1, C.2.2.1, C.2.2.2.1, hts⟩ (hS (xl X)) ⟨cb, hts _ h1⟩
    ⟨blind, fun U hU hW => ⟨rfl, And.intro (show RepH (xE X) S I U.heap from hU ▸ rp) (And.intro (va_K.moved hW.alike C.2.2.2.2.2.1) (NW.warm hW C.2.2.2.2.2.2.2.2.2.2))⟩⟩ rfl hlen l.1 hst (lv_room hcat) dd ⟨Nat.le_trans hc g3, Nat.le_trans hn g4⟩
  exact s_back C s l hrun K
theorem s_max {ix d kk nn : Nat} {a b : Int32} (C : CtxOK X y) (hR : RG X d kk nn) (hd : 1 ≤ d) (hl : Cond.methodLink y.1.cls ix Lib.Math.max.name ∈ lw_good) (dd : decode y.2.1 pc = .ok (.invokestatic ix, 3)) (w1 : Cond.static Lib.Math.max.name ∈ lw_good) (w2 : Cond.initialized "java/lang/Math" ∈ lw_good) (w3 : Cond.code Lib.Math.max.name Lib.Math.max.code 2 (some .int) ∈ lw_good) (hcat : (st.map fun v => v.category).sum ≤ 8) (hc : k ≤ kk) (hn : n ≤ nn)
    (K : WM X y (pc + 3) ls (.int (mxI a b) :: st) S I k n) : WM X y pc ls (.int b :: .int a :: st) S I k n := fun H locs lsa r s l =>
  va_mmax C.1 C.2.1 (C.2.2.1.trans l.1.symm) C.2.2.2.1 (C.2.2.2.2.1 _ hl) (C.2.2.2.2.1 _ w1) (C.2.2.2.2.1 _ w2) (C.2.2.2.2.1 _ w3) (Nat.le_trans hd hR.1) (Nat.le_trans (by omega) hR.2.1) (Nat.le_trans hc hR.2.2.1) (Nat.le_trans hn hR.2.2.2) dd (K H locs lsa r s l)
theorem s_min {ix d kk nn : Nat} {a b : Int32} (C : CtxOK X y) (hR : RG X d kk nn) (hd : 1 ≤ d) (hl : Cond.methodLink y.1.cls ix Lib.Math.min.name ∈ lw_good) (dd : decode y.2.1 pc = .ok (.invokestatic ix, 3)) (w1 : Cond.static Lib.Math.min.name ∈ lw_good) (w2 : Cond.initialized "java/lang/Math" ∈ lw_good) (w3 : Cond.code Lib.Math.min.name Lib.Math.min.code 2 (some .int) ∈ lw_good) (hcat : (st.map fun v => v.category).sum ≤ 8) (hc : k ≤ kk) (hn : n ≤ nn)
    (K : WM X y (pc + 3) ls (.int (mnI a b) :: st) S I k n) : WM X y pc ls (.int b :: .int a :: st) S I k n := fun H locs lsa r s l =>
  va_mmin C.1 C.2.1 (C.2.2.1.trans l.1.symm) C.2.2.2.1 (C.2.2.2.2.1 _ hl) (C.2.2.2.2.1 _ w1) (C.2.2.2.2.1 _ w2) (C.2.2.2.2.1 _ w3) (Nat.le_trans hd hR.1) (Nat.le_trans (by omega) hR.2.1) (Nat.le_trans hc hR.2.2.1) (Nat.le_trans hn hR.2.2.2) dd (K H locs lsa r s l)
end RL5
/-! calls in a world that doesn't grow -/
section RL6
variable {X : Cx} {y : Yd} {pc : Nat} {ls ls' : List (Option Value)} {st : List Value} {I I1 : Mm} {k n : Nat}
theorem s_cV0 {c np ix a d d' : Nat} {yc : Yd} {as st0 : List Value} {r : Option Value} (C : CtxOK X y) (hR : RG X d k n) (hd : d' + 1 ≤ d) (hw : MthV yc c np) (hl : Cond.methodLink y.1.cls ix yc.1 ∈ lw_good) (dd : decode y.2.1 pc = .ok (.invokevirtual ix, 3))
    (hS : SemM (xE X) d' 0 0 yc (rfX X a :: as) S0 I r S0 I1) (ha : kd0 a = c) (hlen : as.length = np) (hst : st0 = as.reverse ++ rfX X a :: st) (hcat : (st.map fun v => v.category).sum ≤ 8)
    (K : WM X y (pc + 3) ls (r.toList ++ st) S0 I1 k n) : WM X y pc ls st0 S0 I k n := s_cV C hR hd hw hl dd hS ha hlen hst hcat (Nat.le_refl k) (Nat.le_refl n) K
theorem s_cS0 {np ix d d' : Nat} {yc : Yd} {as st0 : List Value} {r : Option Value} (C : CtxOK X y) (hR : RG X d k n) (hd : d' + 1 ≤ d) (hw : MthS yc np) (hl : Cond.methodLink y.1.cls ix yc.1 ∈ lw_good) (dd : decode y.2.1 pc = .ok (.invokestatic ix, 3))
    (hS : SemM (xE X) d' 0 0 yc as S0 I r S0 I1) (hlen : as.length = np) (hst : st0 = as.reverse ++ st) (hcat : (st.map fun v => v.category).sum ≤ 8)
    (K : WM X y (pc + 3) ls (r.toList ++ st) S0 I1 k n) : WM X y pc ls st0 S0 I k n := s_cS C hR hd hw hl dd hS hlen hst hcat (Nat.le_refl k) (Nat.le_refl n) K
end RL6
theorem SemM.ofX {E : Ev} {d k n : Nat} {y : Yd} {args : Ev → List Value} {S S' : Sx} {I I' : Mm} {r : Ev → Option Value} (ls : Ev → List (Option Value)) (hy : plainName y.1.cls = true) (hsl : (lg_sl (args E)).length ≤ y.2.2.1) (hls : lv_args 0 (args E) = al 0 (ls E))
    (body : ∀ X : Cx, CtxOK X y → MX X (xE X) d k n (r (xE X)) S' I' → WM X y 0 (ls (xE X)) [] S I 0 0) : SemM E d k n y (args E) S I (r E) S' I' :=
  SemM.of hy hsl hls (fun X C M => by
    obtain ⟨h1, h2, h3⟩ := M
    subst h1
    exact body X C ⟨rfl, h2, h3⟩)
abbrev rfE (E : Ev) (k : Nat) : Value := .ref (E.1.size + k)
