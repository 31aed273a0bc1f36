/-! ===== fields, arrays, calls, ends ===== -/
abbrev rfX (X : Cx) (k : Nat) : Value := .ref ((xE X).1.size + k)
theorem ws_upd {E : Ev} {S : Sx} {I I' : Mm} {k : Nat} {e : va_E} (hk : k < S.1) (ho : ∀ i, i ≠ k → I' i = I i) (he : e = cellE E S I' k) : (wsE E S I).set k (E.1.size + k, e) = wsE E S I' := by
  apply List.ext_getElem?
  intro i
  by_cases hi : i = k
  · subst hi
    rw [List.getElem?_set_self (by simp [wsE, hk]), ws_at hk, he]
  · rw [List.getElem?_set_ne (Ne.symm hi)]
    by_cases h : i < S.1
    · rw [ws_at h, ws_at h]
      simp only [cellE, fsE, ho i hi]
    · rw [List.getElem?_eq_none (by simp [wsE]; omega), List.getElem?_eq_none (by simp [wsE]; omega)]
theorem wr_row (I : Mm) (a j : Nat) (v : Int32) : (wr I a j v) a = upd (I a) j v := by
  funext q
  by_cases h : q = j <;> simp [wr, upd, h]
theorem wr_off (I : Mm) (a j : Nat) (v : Int32) {i : Nat} (h : i ≠ a) : (wr I a j v) i = I i := by
  funext q
  simp [wr, h]
theorem rep_lt {E : Ev} {S : Sx} {I : Mm} {H : Heap} (r : RepH E S I H) {a : Nat} (h : S.2.1 a ≠ 9) : a < S.1 := by
  rcases Nat.lt_or_ge a S.1 with q | q
  · exact q
  · exact absurd (r.2.2.2 a q) h
theorem cell_o {E : Ev} {S : Sx} {I : Mm} {a c : Nat} (h : S.2.1 a = c) (hc : c < 6) : cellE E S I a = .inr (c, fsE E S I a c) := by
  subst h
  simp [cellE, hc]
theorem cell_i {E : Ev} {S : Sx} {I : Mm} {a m : Nat} (h : S.2.1 a = m) (hm : 10 ≤ m) : cellE E S I a = .inl (E.2.2.1, m - 10, .inl (I a)) := by
  subst h
  simp only [cellE]
  rw [if_neg (by omega), if_neg (by omega), if_neg (by omega)]
theorem fs_get {E : Ev} {S : Sx} {I : Mm} {a c j : Nat} (hj : j < nfs c) : (fsE E S I a c)[j]? = some (if isR c j then rvE E (S.2.2 a j) else .int (I a j)) := by
  simp [fsE, hj]
theorem fs_set {E : Ev} {S : Sx} {I : Mm} {a c j : Nat} {v : Int32} (hr : isR c j = false) : (fsE E S I a c).set j (.int v) = fsE E S (wr I a j v) a c := by
  apply List.ext_getElem?
  intro i
  by_cases hi : i = j
  · subst hi
    by_cases h : i < nfs c
    · rw [List.getElem?_set_self (by simp [fsE, h]), fs_get h]
      simp [hr, wr]
    · rw [List.getElem?_eq_none (by simp [fsE]; omega), List.getElem?_eq_none (by simp [fsE]; omega)]
  · rw [List.getElem?_set_ne (Ne.symm hi)]
    by_cases h : i < nfs c
    · rw [fs_get h, fs_get h]
      simp [wr, hi]
    · rw [List.getElem?_eq_none (by simp [fsE]; omega), List.getElem?_eq_none (by simp [fsE]; omega)]
/-- a field that a pool entry of a class names: field j of class c -/
def FldOK (own : String) (ix c j : Nat) : Prop := ∃ (T : u_T) (C : String), vwCl[c]? = some (C, T, nfs c) ∧ j < nfs c ∧ c < 6 ∧ (∀ w ∈ u_ws C T (nfs c), w ∈ lw_good) ∧ (T j).1 = C ∧
  (Cond.fieldLink own ix C (T j).2.1 (T j).2.2.1 ∈ lw_good ∨ ∃ host, Cond.fieldLinkNest own ix C (T j).2.1 (T j).2.2.1 host ∈ lw_nest)
/-- one that may be written, of this type -/
def PutOK (own : String) (ix c j : Nat) (ty : FieldType) : Prop := ∃ (T : u_T) (C : String) (ty0 : Nat → FieldType), vwCl[c]? = some (C, T, nfs c) ∧ j < nfs c ∧ c < 6 ∧ (∀ w ∈ u_ws C T (nfs c), w ∈ lw_good) ∧ (T j).1 = C ∧
  (Cond.fieldLink own ix C (T j).2.1 (T j).2.2.1 ∈ lw_good ∨ ∃ host, Cond.fieldLinkNest own ix C (T j).2.1 (T j).2.2.1 host ∈ lw_nest) ∧
  (∀ k, k < nfs c → parseFieldDescriptor (T k).2.2.1 = some (ty0 k)) ∧ (∀ a, a < nfs c → ∀ b, b < nfs c → a ≠ b → (T a).2.1 ≠ (T b).2.1) ∧ (T j).2.2.2 = false ∧ parseFieldDescriptor (T j).2.2.1 = some ty
section RL2
variable {X : Cx} {y : Yd} {pc : Nat} {ls ls' : List (Option Value)} {st : List Value} {S : Sx} {I : Mm} {k n : Nat}
theorem s_get {a c j ix : Nat} {v : Value} (C : CtxOK X y) (d : decode y.2.1 pc = .ok (.getfield ix, 3)) (hk : S.2.1 a = c) (hf : FldOK y.1.cls ix c j) (hv : (if isR c j then rvE (xE X) (S.2.2 a j) else .int (I a j)) = v)
    (K : WM X y (pc + 3) ls (v :: st) S I k n) : WM X y pc ls (rfX X a :: st) S I k n := by
  intro H locs lsa r s l
  obtain ⟨T, Cn, h1, h2, h3, h4, h5, h6⟩ := hf
  have ha : a < S.1 := rep_lt r (by omega)
  have he := ws_at (E := xE X) (S := S) (I := I) ha
  rw [cell_o hk h3] at he
  have hsame : ∀ x, (xs X).fieldFound? (T j).1 (T j).2.1 (T j).2.2.1 = some x → (xs X).fieldFound? Cn (T j).2.1 (T j).2.2.1 = some x := fun x h => by rw [h5] at h; exact h
  rcases h6 with h6 | ⟨host, h6⟩
  · exact va_get C.1 C.2.1 C.2.2.2.2.1 h4 C.2.2.2.1 C.2.2.2.2.2.1 r.1 a he h1 j h2 (C.2.2.2.2.1 _ h6) hsame (by rw [fs_get h2, hv]) d (K H locs lsa r s l)
  · exact va_getN C.1 C.2.1 C.2.2.2.2.1 h4 C.2.2.2.1 C.2.2.2.2.2.1 r.1 a he h1 j h2 (va_Nw.use rfl (C.2.2.2.2.2.2.2.2.2.2.1 _ h6)) hsame (by rw [fs_get h2, hv]) d (K H locs lsa r s l)
theorem s_getI {a c j ix : Nat} (C : CtxOK X y) (d : decode y.2.1 pc = .ok (.getfield ix, 3)) (hk : S.2.1 a = c) (hf : FldOK y.1.cls ix c j) (hr : isR c j = false)
    (K : WM X y (pc + 3) ls (.int (I a j) :: st) S I k n) : WM X y pc ls (rfX X a :: st) S I k n := s_get C d hk hf (by rw [hr]; rfl) K
theorem s_getR {a c j ix b : Nat} (C : CtxOK X y) (d : decode y.2.1 pc = .ok (.getfield ix, 3)) (hk : S.2.1 a = c) (hf : FldOK y.1.cls ix c j) (hr : isR c j = true) (hb : S.2.2 a j = some b)
    (K : WM X y (pc + 3) ls (rfX X b :: st) S I k n) : WM X y pc ls (rfX X a :: st) S I k n := s_get C d hk hf (by rw [hr, hb]; rfl) K
theorem s_putT {a c j ix : Nat} {v : Int32} {ty : FieldType} (C : CtxOK X y) (d : decode y.2.1 pc = .ok (.putfield ix, 3)) (hk : S.2.1 a = c) (hf : PutOK y.1.cls ix c j ty) (hr : isR c j = false) (hn : narrow ty (.int v) = .int v) (hfit : fits ty (.int v) = true)
    (K : WM X y (pc + 3) ls st S (wr I a j v) k n) : WM X y pc ls (.int v :: rfX X a :: st) S I k n := by
  intro H locs lsa r s l
  obtain ⟨T, Cn, ty0, h1, h2, h3, h4, h5, h6, h7, h8, h9, h10⟩ := hf
  have ha : a < S.1 := rep_lt r (by omega)
  have he := ws_at (E := xE X) (S := S) (I := I) ha
  rw [cell_o hk h3] at he
  have hsame : ∀ x, (xs X).fieldFound? (T j).1 (T j).2.1 (T j).2.2.1 = some x → (xs X).fieldFound? Cn (T j).2.1 (T j).2.2.1 = some x := fun x h => by rw [h5] at h; exact h
  have hz : H.size = (xE X).1.size + S.1 := r.2.1
  have fin : ∀ (H1 : Heap) (locs1 : List Loc), va_P (xE X).2.1 vwCl ((wsE (xE X) S I).set a ((xE X).1.size + a, .inr (c, (fsE (xE X) S I a c).set j (.int v)))) H1 → va_S (Fr (xE X)) (xs X).heap H1 locs1 → H1.size = H.size → (∀ q, q < (xE X).1.size → H1[q]? = H[q]?) →
      W (xp X) (xl X) (xe X) (xR X) (xs X) (xm X) (xa X) (xb X) (xM X) (xc X) H1 locs1 k n (xQ X) (F0 (xm X) (pc + 3) lsa st) := by
    intro H1 locs1 p1 s1 z1 o1
    rw [fs_set hr, ws_upd (I' := wr I a j v) ha (fun i hi => wr_off I a j v hi) (by rw [cell_o hk h3])] at p1
    exact K H1 locs1 lsa ⟨p1, z1.trans hz, fun q hq => (o1 q hq).trans (r.2.2.1 q hq), r.2.2.2⟩ s1 l
  have hap := va_apart (own := y.1.cls) C.2.2.2.2.1 h4 ty0 h7 h8 C.2.2.2.2.2.1 h1
  obtain ⟨rr, g1, cell, q1, q2, q3, q4⟩ := r.1 a _ he
  have hrr : rr = (Cn, T, nfs c) := Option.some.inj (g1.symm.trans h1)
  subst hrr
  obtain ⟨hS, hfc, kC, hkC, hkind⟩ := C.2.2.2.2.2.1.1 c _ h1
  obtain ⟨cf, kf, fi, f, hi, hsl⟩ := hS j h2
  have hlay := C.2.2.2.2.1 _ (h4 _ (u_in_lay h2))
  unfold u_lay at hlay
  rw [if_neg (by rw [h9]; decide)] at hlay
  have hst := (u_facts hfc hkC (u_lays C.2.2.2.2.1 h4 h2) hi).1
  have h6' := u_store hfc hkC hkind hlay hi h10 hn hfit
  have goal : ∀ (H' : Heap), H'[(xE X).1.size + a]? = some (cell.setSlot f.slot (.int v)) → H'.size = H.size → (∀ q, q ≠ (xE X).1.size + a → H'[q]? = H[q]?) → W (xp X) (xl X) (xe X) (xR X) (xs X) (xm X) (xa X) (xb X) (xM X) (xc X) H' (locs ++ [⟨(xE X).1.size + a, f.slot⟩]) k n (xQ X) (F0 (xm X) (pc + 3) lsa st) := by
    intro H' e1 e2 e3
    rw [hsl] at e1
    refine fin H' _ (r.1.set (ws_D _ _ _) he ⟨_, h1, t_OB.to (V := updV (vp_V (fsE (xE X) S I a c)) j (.int v)) ⟨_, e1, q2, q3, t_set q4 hap h2 _⟩ (fun i _ => vp_updV_set (by simp [fsE, h2]) _ i)⟩ e3) ?_ e2 (fun q hq => e3 q (by omega))
    exact s.put e2 e3 (show (xE X).1.size ≤ (xE X).1.size + a by omega)
  rcases h6 with h6 | ⟨host, h6⟩
  · exact W.putK C.1 C.2.1 (f := f) ⟨C.2.2.2.1, C.2.2.2.2.1 _ h6, ⟨_, _, _, hsame _ hi⟩, hst⟩ (by rw [q2]; exact h6') q1 q3 (by rw [hsl]; exact k2_hasslot (q4 j h2)) rfl rfl d goal
  · exact va_WputK C.1 C.2.1 (f := f) C.2.2.2.1 (va_Nw.use rfl (C.2.2.2.2.2.2.2.2.2.2.1 _ h6)) (hsame _ hi) hst (by rw [q2]; exact h6') q1 q3 (by rw [hsl]; exact k2_hasslot (q4 j h2)) rfl rfl d goal
end RL2
section RL3
variable {X : Cx} {y : Yd} {pc : Nat} {ls ls' : List (Option Value)} {st : List Value} {S : Sx} {I : Mm} {k n : Nat}
theorem s_iald {a m : Nat} {i : Int32} (C : CtxOK X y) (d : decode y.2.1 pc = .ok (.iaload, 1)) (hk : S.2.1 a = m) (hm : 10 ≤ m) (hin : ¬ (i < 0 ∨ m - 10 ≤ i.toNatClampNeg))
    (K : WM X y (pc + 1) ls (.int (I a i.toNatClampNeg) :: st) S I k n) : WM X y pc ls (.int i :: rfX X a :: st) S I k n := by
  intro H locs lsa r s l
  have ha : a < S.1 := rep_lt r (by omega)
  have he := ws_at (E := xE X) (S := S) (I := I) ha
  rw [cell_i hk hm] at he
  exact va_iald C.1 C.2.1 C.2.2.2.2.2.1 r.1 a 0 he rfl hin d (K H locs lsa r s l)
theorem s_iast {a m : Nat} {i v : Int32} (C : CtxOK X y) (d : decode y.2.1 pc = .ok (.iastore, 1)) (hk : S.2.1 a = m) (hm : 10 ≤ m) (hin : ¬ (i < 0 ∨ m - 10 ≤ i.toNatClampNeg))
    (K : WM X y (pc + 1) ls st S (wr I a i.toNatClampNeg v) k n) : WM X y pc ls (.int v :: .int i :: rfX X a :: st) S I k n := by
  intro H locs lsa r s l
  have ha : a < S.1 := rep_lt r (by omega)
  have he := ws_at (E := xE X) (S := S) (I := I) ha
  rw [cell_i hk hm] at he
  refine W.iast C.1 C.2.1 (r.1 a _ he) ((C.2.2.2.2.2.1.2 0 _ rfl).1 (m - 10) (fun j => .int (I a j))) (fun q => by cases q) (by show ¬ (i < 0 ∨ (arrV _ _ _).slots.size ≤ _); rw [arrV_size]; exact hin) rfl rfl d fun H1 e z oq => ?_
  have p1 : va_P (xE X).2.1 vwCl ((wsE (xE X) S I).set a ((xE X).1.size + a, cellE (xE X) S (wr I a i.toNatClampNeg v) a)) H1 := by
    refine r.1.set (ws_D _ _ _) he ?_ oq
    rw [cell_i hk hm, wr_row]
    show H1[(xE X).1.size + a]? = some (vp_cell _ _)
    rw [e]
    rw [vp_cell_i, vp_cell_i, arrV_store]
    congr 2
    funext q
    by_cases hq : q = i.toNatClampNeg
    · subst hq
      simp [updV, upd]
    · simp [updV, upd, hq]
  rw [ws_upd (I' := wr I a i.toNatClampNeg v) ha (fun j hj => wr_off I a _ v hj) rfl] at p1
  exact K H1 _ lsa ⟨p1, z.trans r.2.1, fun q hq => (oq q (Nat.ne_of_lt (Nat.lt_of_lt_of_le hq (Nat.le_add_right _ _)))).trans (r.2.2.1 q hq), r.2.2.2⟩ (s.put z oq (show (xE X).1.size ≤ (xE X).1.size + a by omega)) l
theorem s_alen {a m : Nat} {v : Int32} (C : CtxOK X y) (d : decode y.2.1 pc = .ok (.arraylength, 1)) (hk : S.2.1 a = m) (hm : 10 ≤ m) (hv : Int32.ofNat (m - 10) = v)
    (K : WM X y (pc + 1) ls (.int v :: st) S I k n) : WM X y pc ls (rfX X a :: st) S I k n := by
  intro H locs lsa r s l
  have ha : a < S.1 := rep_lt r (by omega)
  have he := ws_at (E := xE X) (S := S) (I := I) ha
  rw [cell_i hk hm] at he
  exact va_alen C.1 C.2.1 C.2.2.2.2.2.1 r.1 a 0 he rfl hv d (K H locs lsa r s l)
/-- the arrays of references: what they are over, how long -/
def rkT (m : Nat) : Nat × Nat := match m with
  | 6 => (1, 3)
  | _ => (2, 9)
theorem cell_r {E : Ev} {S : Sx} {I : Mm} {a m : Nat} (h : S.2.1 a = m) (hm : 6 ≤ m ∧ m ≤ 7) : ∃ (cA : ClassId) (ty : FieldType), cellE E S I a = .inl (cA, (rkT m).2, .inr (.inr (.inr (.inr (rowE E S a))))) ∧ (tyl E)[(rkT m).1]? = some (cA, ty) ∧ ty.isReference = true := by
  subst h
  rcases (show S.2.1 a = 6 ∨ S.2.1 a = 7 by omega) with h | h
  · exact ⟨_, _, by simp only [cellE, h]; rfl, by rw [h]; rfl, rfl⟩
  · exact ⟨_, _, by simp only [cellE, h]; rfl, by rw [h]; rfl, rfl⟩
theorem s_alenR {a m : Nat} {v : Int32} (C : CtxOK X y) (d : decode y.2.1 pc = .ok (.arraylength, 1)) (hk : S.2.1 a = m) (hm : 6 ≤ m ∧ m ≤ 7) (hv : Int32.ofNat (rkT m).2 = v)
    (K : WM X y (pc + 1) ls (.int v :: st) S I k n) : WM X y pc ls (rfX X a :: st) S I k n := by
  intro H locs lsa r s l
  have ha : a < S.1 := rep_lt r (by omega)
  have he := ws_at (E := xE X) (S := S) (I := I) ha
  obtain ⟨cA, ty, h1, h2, h3⟩ := cell_r (E := xE X) (I := I) hk hm
  rw [h1] at he
  exact va_alen C.1 C.2.1 C.2.2.2.2.2.1 r.1 a _ he h2 hv d (K H locs lsa r s l)
theorem s_aald {a m b : Nat} {i : Int32} (C : CtxOK X y) (d : decode y.2.1 pc = .ok (.aaload, 1)) (hk : S.2.1 a = m) (hm : 6 ≤ m ∧ m ≤ 7) (hin : ¬ (i < 0 ∨ (rkT m).2 ≤ i.toNatClampNeg)) (hb : S.2.2 a i.toNatClampNeg = some b)
    (K : WM X y (pc + 1) ls (rfX X b :: st) S I k n) : WM X y pc ls (.int i :: rfX X a :: st) S I k n := by
  intro H locs lsa r s l
  have ha : a < S.1 := rep_lt r (by omega)
  have he := ws_at (E := xE X) (S := S) (I := I) ha
  obtain ⟨cA, ty, h1, h2, h3⟩ := cell_r (E := xE X) (I := I) hk hm
  rw [h1] at he
  have hlt : i.toNatClampNeg < (rkT m).2 := Nat.not_le.mp fun q => hin (Or.inr q)
  have hv : va_rf (rowE (xE X) S a i.toNatClampNeg) = rfX X b := by simp only [rowE, hb]; rfl
  exact W.aald (v := rfX X b) (ty := ty) C.1 C.2.1 (r.1 a _ he) ((C.2.2.2.2.2.1.2 _ _ h2).1 (rkT m).2 (fun j => va_rf (rowE (xE X) S a j))) h3 (fun q => by cases q) (by show ¬ (i < 0 ∨ (arrV _ _ _).slots.size ≤ _); rw [arrV_size]; exact hin) (by show (arrV _ _ _).slots[_]? = _; rw [arrV_read _ _ hlt, hv]) rfl rfl d (K H locs lsa r s l)
/-! calls -/
def QcR (E : Ev) (r : Option Value) (S : Sx) (I : Mm) : Array Value → State → Outcome → State → Prop := fun _ st oc t => (oc = .returned r ∧ RepU E S I t) ∧ va_F (Fr E) st t
def rmD (d k n : Nat) : Room := { frames := d, cells := k, slots := n, locals := 41 * d }
/-- a method's contract: with these arguments over the world (S, I) it returns r, the world then being (S', I') -/
def SemM (E : Ev) (d k n : Nat) (y : Yd) (args : List Value) (S : Sx) (I : Mm) (r : Option Value) (S' : Sx) (I' : Mm) : Prop :=
  ∀ l : Launch, Met l y.1 (GW y) (rmD d k n) (va_Pc args (fun U => RepU E S I U)) (QcR E r S' I') k n (Fr E)
/-- a context's goal is the contract's -/
def MX (X : Cx) (E : Ev) (d k n : Nat) (r : Option Value) (S' : Sx) (I' : Mm) : Prop := xE X = E ∧ xR X = rmD d k n ∧ xQ X = MQ (xb X) (QcR E r S' I') (xa X) (xs X) k n (Fr E)
theorem SemM.of {E : Ev} {d k n : Nat} {y : Yd} {args : List Value} {S S' : Sx} {I I' : Mm} {r : Option Value} {ls : List (Option Value)} (hy : plainName y.1.cls = true) (hsl : (lg_sl args).length ≤ y.2.2.1) (hls : lv_args 0 args = al 0 ls)
    (body : ∀ X : Cx, CtxOK X y → MX X E d k n r S' I' → WM X y 0 ls [] S I 0 0) : SemM E d k n y args S I r S' I' := by
  intro l
  refine Met.ofW (cc := y.2.1) (maxL := y.2.2.1) (ret := y.2.2.2) (ws' := lw_good) hy rfl ?_
  intro p e s m as below meth c s₁ B hml hv
  obtain ⟨rfl, hR, hK, hN⟩ := hv
  have hts := atoms_spec (ws := GW y) B.pre
  have hnm := name_of_methodNamed B.named B.method
  have hown : s.vm.findClass y.1.cls = some m.cls := findClass_of_methodNamed B.named
  have hbase : E.1.size ≤ s.heap.size := by rw [hR.2.1]; omega
  have hb := body (p, l, e, (headSpec (GW y) (rmD d k n)).room, s, m, args.toArray, below, meth, c, MQ below (QcR E r S' I') args.toArray s k n (Fr E), E)
    ⟨B.exec, B.bytes, hml, hown, fun w hw => hts w (List.mem_cons_of_mem _ hw), hK, B.returns, B.notSynchronized, fun h => hnm.1.trans h, hbase, hN⟩ ⟨rfl, rfl, rfl⟩
  have hl := lv_entry args (n := y.2.2.1) hsl
  rw [lg_entry_eq]
  generalize (lg_sl args ++ List.replicate (y.2.2.1 - (lg_sl args).length) Slot.unset).toArray = lsa at hl ⊢
  rw [hls] at hl
  exact hb s.heap [] lsa hR va_S.rf hl
def MthV (y : Yd) (c np : Nat) : Prop := Cond.instanceMethod y.1 ∈ lw_good ∧ Cond.selects y.1.cls y.1 y.1 ∈ lw_good ∧ Cond.initialized y.1.cls ∈ lw_good ∧ Cond.code y.1 y.2.1 y.2.2.1 y.2.2.2 ∈ lw_good ∧ (y.1.cls ≠ "java/lang/invoke/MethodHandle" ∧ y.1.cls ≠ "java/lang/invoke/VarHandle" ∧ (parseMethodDescriptor y.1.desc).map (fun d => d.parameters.length) = some np) ∧ y.2.2.1 ≤ 22 ∧ (∃ (T : u_T) (N : Nat), vwCl[c]? = some (y.1.cls, T, N)) ∧ c < 6
def MthS (y : Yd) (np : Nat) : Prop := Cond.static y.1 ∈ lw_good ∧ Cond.initialized y.1.cls ∈ lw_good ∧ Cond.code y.1 y.2.1 y.2.2.1 y.2.2.2 ∈ lw_good ∧ (y.1.cls ≠ "java/lang/invoke/MethodHandle" ∧ y.1.cls ≠ "java/lang/invoke/VarHandle" ∧ (parseMethodDescriptor y.1.desc).map (fun d => d.parameters.length) = some np) ∧ y.2.2.1 ≤ 22
theorem gwG {y : Yd} (h : Cond.code y.1 y.2.1 y.2.2.1 y.2.2.2 ∈ lw_good) : GoodIn lw_good (GW y) := by
  intro w hw
  rcases List.mem_cons.mp hw with rfl | hw
  · exact ⟨h, Or.inl rfl⟩
  · exact ⟨hw, good_of_word (List.mem_filter.mp hw).2⟩
theorem blind {E : Ev} {S : Sx} {I : Mm} {args : List Value} : FrameBlind (va_Pc args (fun U => RepU E S I U)) :=
  fun a U g mk q => ⟨q.1, q.2.1, va_K.moved (u := U) (U := U.calling g mk a) (Vm.Alike.refl U.vm) q.2.2.1, NW.same (u := U) (U := U.calling g mk a) rfl q.2.2.2⟩
/-- what comes back from a call -/
theorem s_back {mc ms : Nat} {r : Option Value} {S1 : Sx} {I1 : Mm} {st0 : List Value} {a : Array Value} {H : Heap} {locs : List Loc} {lsa : Array Slot} (C : CtxOK X y) (s : va_S (Fr (xE X)) (xs X).heap H locs) (l : lv_has lsa y.2.2.1 (al 0 ls))
    (hr : va_Run (xp X) (xl X) (xe X) (xR X) (xs X) (xm X) (xa X) (xb X) (xM X) (xc X) H locs k n mc ms (F0 (xm X) pc lsa st0) st (QcR (xE X) r S1 I1 a) (Fr (xE X)))
    (K : WM X y (pc + 3) ls (r.toList ++ st) S1 I1 (k + mc) (n + ms)) : W (xp X) (xl X) (xe X) (xR X) (xs X) (xm X) (xa X) (xb X) (xM X) (xc X) H locs k n (xQ X) (F0 (xm X) pc lsa st0) := by
  intro T hT Xs
  obtain ⟨v, st₀, t, T', L, h0, X', hL, e1, e2, ⟨⟨hv, hR1, -⟩, hz, hk⟩, step⟩ := hr T hT Xs
  cases hv
  rw [h0] at hz hk
  obtain ⟨t2, a1, b1⟩ := K T'.heap (locs ++ L) lsa (by rw [e1]; exact hR1)
    ⟨Nat.le_trans s.1 (by rw [e1]; exact hz), fun q h1 h2 => by rw [e1, hk q (Nat.lt_of_lt_of_le h1 s.1) h2]; exact s.2.1 q h1 h2, fun q hq => by
      rcases List.mem_append.mp hq with h | h
      · exact s.2.2 q h
      · exact hL q h⟩ l T' rfl X'
  exact ⟨t2, step t2 a1, b1⟩
theorem s_callV {c np ix a d d' kk nn mc ms : Nat} {yc : Yd} {as st0 : List Value} {r : Option Value} {S1 : Sx} {I1 : Mm} (C : CtxOK X y) (hR : xR X = rmD d kk nn) (hd : d' + 1 ≤ d) (hw : MthV yc c np) (hl : Cond.methodLink y.1.cls ix yc.1 ∈ lw_good) (dd : decode y.2.1 pc = .ok (.invokevirtual ix, 3))
    (hS : SemM (xE X) d' mc ms yc (rfX X a :: as) S I r S1 I1) (ha : S.2.1 a = c) (hlen : as.length = np) (hst : st0 = as.reverse ++ rfX X a :: st) (hcat : (st.map fun v => v.category).sum ≤ 8) (hc : k + mc ≤ kk) (hn : n + ms ≤ nn)
    (K : WM X y (pc + 3) ls (r.toList ++ st) S1 I1 (k + mc) (n + ms)) : WM X y pc ls st0 S I k n := by
  intro H locs lsa rp s l
  obtain ⟨h1, h2, h3, h4, h5, h6, ⟨T, N, h7⟩, h8⟩ := hw
  have hts := C.2.2.2.2.1
  have hal : a < S.1 := rep_lt rp (by omega)
  have he := ws_at (E := xE X) (S := S) (I := I) hal
  rw [cell_o ha h8] at he
  have cb : CallB (xR X) (xs X) (xa X) y.1.cls ix yc.1 yc.2.1 yc.2.2.1 yc.2.2.2 (GW yc) (rmD d' mc ms) mc ms np :=
    callB_of np hts (gwG h4) rfl rfl rfl (hts _ h3) (hts _ hl) h5 ⟨by rw [hR]; exact hd, by rw [hR]; show 8 + (yc.2.2.1 + 11) + 41 * d' ≤ 41 * d; omega⟩
  have hrun := va_runV (e := xe X) (g := F0 (xm X) pc lsa st0) (locs := locs) (cells := k) (slots := n) (rest := st) (below := xb X) (meth := xM X) ⟨C.1, C.2.1, C.2.2.1, C.2.2.2.1, hts⟩ (hS (xl X)) ⟨cb, hts _ h1, hts _ h2⟩
    ⟨blind, va_recv C.2.2.2.2.2.1 rp.1 h7 he, fun U hU hW => ⟨rfl, And.intro (show RepH (xE X) S I U.heap from hU ▸ rp) (And.intro (va_K.moved hW.alike C.2.2.2.2.2.1) (NW.warm hW C.2.2.2.2.2.2.2.2.2.2))⟩⟩ rfl hlen l.1 hst (lv_room hcat) dd ⟨by rw [hR]; exact hc, by rw [hR]; exact hn⟩
  exact s_back C s l hrun K
theorem s_callS {np ix d d' kk nn mc ms : Nat} {yc : Yd} {as st0 : List Value} {r : Option Value} {S1 : Sx} {I1 : Mm} (C : CtxOK X y) (hR : xR X = rmD d kk nn) (hd : d' + 1 ≤ d) (hw : MthS yc np) (hl : Cond.methodLink y.1.cls ix yc.1 ∈ lw_good) (dd : decode y.2.1 pc = .ok (.invokestatic ix, 3))
    (hS : SemM (xE X) d' mc ms yc as S I r S1 I1) (hlen : as.length = np) (hst : st0 = as.reverse ++ st) (hcat : (st.map fun v => v.category).sum ≤ 8) (hc : k + mc ≤ kk) (hn : n + ms ≤ nn)
    (K : WM X y (pc + 3) ls (r.toList ++ st) S1 I1 (k + mc) (n + ms)) : WM X y pc ls st0 S I k n := by
  intro H locs lsa rp s l
  obtain ⟨h1, h3, h4, h5, h6⟩ := hw
  have hts := C.2.2.2.2.1
  have cb : CallB (xR X) (xs X) (xa X) y.1.cls ix yc.1 yc.2.1 yc.2.2.1 yc.2.2.2 (GW yc) (rmD d' mc ms) mc ms np :=
    callB_of np hts (gwG h4) rfl rfl rfl (hts _ h3) (hts _ hl) h5 ⟨by rw [hR]; exact hd, by rw [hR]; show 8 + (yc.2.2.1 + 11) + 41 * d' ≤ 41 * d; omega⟩
  have hrun := va_runS (e := xe X) (g := F0 (xm X) pc lsa st0) (locs := locs) (cells := k) (slots := n) (rest := st) (below := xb X) (meth := xM X) ⟨C.1, C.2.1, C.2.2.1, C.2.2.2.1, hts⟩ (hS (xl X)) ⟨cb, hts _ h1⟩
    ⟨blind, fun U hU hW => ⟨rfl, And.intro (show RepH (xE X) S I U.heap from hU ▸ rp) (And.intro (va_K.moved hW.alike C.2.2.2.2.2.1) (NW.warm hW C.2.2.2.2.2.2.2.2.2.2))⟩⟩ rfl hlen l.1 hst (lv_room hcat) dd ⟨by rw [hR]; exact hc, by rw [hR]; exact hn⟩
  exact s_back C s l hrun K
/-! ends -/
theorem s_end {E : Ev} {r : Option Value} {H : Heap} {locs : List Loc} {t : State} (C : CtxOK X y) (rp : RepH (xE X) S I H) (s : va_S (Fr (xE X)) (xs X).heap H locs) (hE : xE X = E) (ht : t.heap = H) (hW : (xs X).WarmedH t.vm) : QcR E r S I (xa X) (xs X) (.returned r) t := by
  subst hE
  exact ⟨⟨rfl, And.intro (show RepH (xE X) S I t.heap from ht ▸ rp) (And.intro (va_K.moved hW.alike C.2.2.2.2.2.1) (NW.warm hW C.2.2.2.2.2.2.2.2.2.2))⟩, s.F ht⟩
theorem s_iret {E : Ev} {d k' n' : Nat} {v : Int32} {ty : FieldType} (C : CtxOK X y) (M : MX X E d k' n' (some (.int v)) S I) (dd : decode y.2.1 pc = .ok (.ireturn, 1)) (hret : y.2.2.2 = some ty) (hn : narrow ty (.int v) = .int v) (hk : k ≤ k') (hn' : n ≤ n') : WM X y pc ls [.int v] S I k n := by
  intro H locs lsa rp s l
  obtain ⟨hE, hR, hQ⟩ := M
  rw [hQ]
  refine W.widen hk hn' (W.zret C.1 C.2.1 (C.2.2.2.2.2.2.1.trans hret) hn (fun t ht hW => s_end C rp s hE ht hW) ?_ dd C.2.2.2.2.2.2.2.1)
  rw [← hE]; exact s.2.2
theorem s_lret {E : Ev} {d k' n' : Nat} {v : Int64} (C : CtxOK X y) (M : MX X E d k' n' (some (.long v)) S I) (dd : decode y.2.1 pc = .ok (.lreturn, 1)) (hret : y.2.2.2 = some .long) (hk : k ≤ k') (hn' : n ≤ n') : WM X y pc ls [.long v] S I k n := by
  intro H locs lsa rp s l
  obtain ⟨hE, hR, hQ⟩ := M
  rw [hQ]
  refine W.widen hk hn' (W.lret C.1 C.2.1 (C.2.2.2.2.2.2.1.trans hret) (fun t ht hW => s_end C rp s hE ht hW) ?_ dd C.2.2.2.2.2.2.2.1)
  rw [← hE]; exact s.2.2
theorem s_vret {E : Ev} {d k' n' : Nat} (C : CtxOK X y) (M : MX X E d k' n' none S I) (dd : decode y.2.1 pc = .ok (.return_, 1)) (hret : y.2.2.2 = none) (hk : k ≤ k') (hn' : n ≤ n') : WM X y pc ls [] S I k n := by
  intro H locs lsa rp s l
  obtain ⟨hE, hR, hQ⟩ := M
  rw [hQ]
  refine W.widen hk hn' (W.vret C.1 C.2.1 (C.2.2.2.2.2.2.1.trans hret) (fun t ht hW => s_end C rp s hE ht hW) ?_ dd C.2.2.2.2.2.2.2.1)
  rw [← hE]; exact s.2.2
theorem s_aret {E : Ev} {d k' n' : Nat} {o : Option Nat} {rt : FieldType} (C : CtxOK X y) (M : MX X E d k' n' (some (rvE E o)) S I) (dd : decode y.2.1 pc = .ok (.areturn, 1)) (hret : y.2.2.2 = some rt) (hrt : (∃ n, rt = .object n) ∨ ∃ t, rt = .array t) (hk : k ≤ k') (hn' : n ≤ n') : WM X y pc ls [rvE (xE X) o] S I k n := by
  intro H locs lsa rp s l
  obtain ⟨hE, hR, hQ⟩ := M
  rw [hQ]
  refine W.widen hk hn' (W.aret C.1 C.2.1 (C.2.2.2.2.2.2.1.trans hret) hrt (by cases o with | none => exact Or.inl rfl | some x => exact Or.inr ⟨_, rfl⟩) (fun t ht hW => hE ▸ s_end C rp s rfl ht hW) ?_ dd C.2.2.2.2.2.2.2.1)
  rw [← hE]; exact s.2.2
end RL3
