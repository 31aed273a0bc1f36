/-! ===== the abstract world: cells by their numbers behind the start's heap; ints and references apart ===== -/
abbrev Mm : Type := Nat → Nat → Int32
/-- how many cells; of what kind each is; the references in them -/
abbrev Sx : Type := Nat × (Nat → Nat) × (Nat → Nat → Option Nat)
/-- the start's heap, the classes' numbers and slots, the array classes of int, Rick, Yard; where the row of texts lies, and the script, its length, its ints; the texts, their bytes -/
abbrev Ev : Type := Heap × va_G × ClassId × ClassId × ClassId × (Nat × Nat × Nat × (Nat → Int32)) × (Nat → Nat) × (Nat → Nat)
abbrev txE (E : Ev) : Nat := E.2.2.2.2.2.1.1
abbrev scB (E : Ev) : Nat := E.2.2.2.2.2.1.2.1
abbrev scL (E : Ev) : Nat := E.2.2.2.2.2.1.2.2.1
abbrev scX (E : Ev) : Nat → Int32 := E.2.2.2.2.2.1.2.2.2
abbrev adS (E : Ev) : Nat → Nat := E.2.2.2.2.2.2.1
abbrev adB (E : Ev) : Nat → Nat := E.2.2.2.2.2.2.2
abbrev Cx : Type := Program × Launch × Jvm.Env × Room × State × MethodId × Array Value × List Frame × Method × Code × (State → Prop) × Ev
abbrev xp (X : Cx) : Program := X.1
abbrev xl (X : Cx) : Launch := X.2.1
abbrev xe (X : Cx) : Jvm.Env := X.2.2.1
abbrev xR (X : Cx) : Room := X.2.2.2.1
abbrev xs (X : Cx) : State := X.2.2.2.2.1
abbrev xm (X : Cx) : MethodId := X.2.2.2.2.2.1
abbrev xa (X : Cx) : Array Value := X.2.2.2.2.2.2.1
abbrev xb (X : Cx) : List Frame := X.2.2.2.2.2.2.2.1
abbrev xM (X : Cx) : Method := X.2.2.2.2.2.2.2.2.1
abbrev xc (X : Cx) : Code := X.2.2.2.2.2.2.2.2.2.1
abbrev xQ (X : Cx) : State → Prop := X.2.2.2.2.2.2.2.2.2.2.1
abbrev xE (X : Cx) : Ev := X.2.2.2.2.2.2.2.2.2.2.2
/-- a method: its name, its code, its locals, what it returns -/
abbrev Yd : Type := MethodName × ByteArray × Nat × Option FieldType
def wr (I : Mm) (a j : Nat) (v : Int32) : Mm := fun b k => if b = a ∧ k = j then v else I b k
/-- how many fields a class has -/
def nfs (c : Nat) : Nat := match c with
  | 0 => 4
  | 1 => 5
  | 2 => 2
  | 3 => 8
  | 4 => 11
  | _ => 0
/-- is a field a reference -/
def isR (c j : Nat) : Bool := match c with
  | 0 => decide (j < 2)
  | 1 => decide (j < 3)
  | 2 => decide (j < 1)
  | 3 => decide (j < 1)
  | 4 => [0, 1, 3, 6, 7, 8].contains j
  | _ => false
def rvE (E : Ev) (o : Option Nat) : Value := va_rf (o.map (fun k => E.1.size + k))
def fsE (E : Ev) (S : Sx) (I : Mm) (k c : Nat) : List Value := (List.range (nfs c)).map fun j => if isR c j then rvE E (S.2.2 k j) else .int (I k j)
def rowE (E : Ev) (S : Sx) (k : Nat) : Nat → Option Nat := fun j => (S.2.2 k j).map (fun k => E.1.size + k)
def cellE (E : Ev) (S : Sx) (I : Mm) (k : Nat) : va_E :=
  if S.2.1 k < 6 then .inr (S.2.1 k, fsE E S I k (S.2.1 k))
  else if S.2.1 k = 6 then .inl (E.2.2.2.1, 3, .inr (.inr (.inr (.inr (rowE E S k)))))
  else if S.2.1 k = 7 then .inl (E.2.2.2.2.1, 9, .inr (.inr (.inr (.inr (rowE E S k)))))
  else .inl (E.2.2.1, S.2.1 k - 10, .inl (I k))
def wsE (E : Ev) (S : Sx) (I : Mm) : va_W := (List.range S.1).map fun k => (E.1.size + k, cellE E S I k)
def tyl (E : Ev) : List (ClassId × FieldType) := [(E.2.2.1, .int), (E.2.2.2.1, .object "LeaningRicks$Rick"), (E.2.2.2.2.1, .object "LeaningRicks$Yard")]
def Fr (E : Ev) : Nat → Prop := fun q => E.1.size ≤ q
/-- the heap is the world -/
def RepH (E : Ev) (S : Sx) (I : Mm) (H : Heap) : Prop := va_P E.2.1 vwCl (wsE E S I) H ∧ H.size = E.1.size + S.1 ∧ (∀ q, q < E.1.size → H[q]? = E.1[q]?) ∧ ∀ a, S.1 ≤ a → S.2.1 a = 9
/-- links between nest mates -/
def isNw : Cond → Bool
  | .fieldLinkNest .. => true
  | .methodLinkNest .. => true
  | _ => false
def lw_nest : List Cond := lw_tbl.filter isNw
theorem nw_mem {w : Cond} (k : Nat) (h : lw_tbl[k]? = some w) (g : isNw w = true) : w ∈ lw_nest := List.mem_filter.mpr ⟨List.mem_of_getElem? h, g⟩
/-- what else of the tables and of the old cells a method may use -/
def txL : List Nat := [7, 16, 15, 4, 13, 2, 5, 3, 7, 3, 7, 3, 6, 6, 13, 6, 3, 3, 3, 8]
def txB : List (List Int32) := [[43, 48, 58, 53, 42, 49, 48], [43, 48, 58, 57, 57, 57, 42, 57, 57, 59, 43, 48, 58, 48, 42, 49], [43, 49, 58, 53, 48, 48, 42, 55, 59, 45, 49, 58, 53, 48, 48], [45, 48, 58, 53], [45, 48, 58, 49, 48, 48, 59, 45, 48, 58, 49, 48, 49], [61, 48], [61, 49, 59, 61, 50], [62, 48, 49], [62, 49, 48, 59, 62, 48, 50], [37, 53, 53], [37, 57, 48, 59, 37, 54, 48], [37, 55, 48], [43, 48, 58, 53, 42, 48], [43, 51, 58, 53, 42, 49], [43, 50, 58, 55, 42, 53, 59, 43, 50, 58, 55, 42, 53], [45, 50, 58, 57, 57, 57], [62, 48, 48], [62, 50, 48], [37, 57, 57], [61, 48, 59, 61, 48, 59, 61, 48]]
def NW (E : Ev) (U : State) : Prop := (∀ w ∈ lw_nest, va_Nw w U) ∧ va_AO "LeaningRicks$Rick" U ∧ va_AO "LeaningRicks$Yard" U ∧ vk_S 20 txL txB (adS E) (adB E) (Fr E) U E.1 ∧ va_Z "java/lang/String" "COMPACT_STRINGS" "Z" (.int 1) (Fr E) U E.1 ∧ va_Z "LeaningRicksLaw" "TEXTS" "[Ljava/lang/String;" (.ref (txE E)) (Fr E) U E.1 ∧ va_T (.object "java/lang/String") (txE E) 20 (fun j => .ref (adS E j)) (Fr E) U E.1 ∧ va_Zq "jdk/internal/util/Preconditions" "SIOOBE_FORMATTER" "Ljava/util/function/BiFunction;" (Fr E) U E.1 ∧ va_X (scB E) (scL E) (scX E) U E.1 ∧ scL E ≤ 260 ∧ scB E < E.1.size
theorem NW.moved {E : Ev} {u U : State} (ha : u.vm.Alike U.vm) (hn : ∀ w ∈ lw_nest, va_Nw w U) (q : NW E u) : NW E U := by
  obtain ⟨h1, h2, h3, h4, h5, h6, h7, h8, h9, h10⟩ := q
  exact ⟨hn, h2.moved ha, h3.moved ha, h4.moved ha, h5.moved ha, h6.moved ha, h7.moved ha, h8.moved ha, h9.moved ha, h10⟩
theorem NW.same {E : Ev} {u U : State} (h : u.vm = U.vm) (q : NW E u) : NW E U := by
  refine NW.moved (by rw [h]; exact Vm.Alike.refl _) (fun w hw => ?_) q
  have hq := (List.mem_filter.mp hw).2
  cases w <;> first | (cases hq; done) | exact va_Nw.same rfl h (q.1 _ hw)
theorem NW.warm {E : Ev} {s U : State} (hW : s.WarmedH U.vm) (q : NW E s) : NW E U := by
  refine NW.moved hW.alike (fun w hw => ?_) q
  have hq := (List.mem_filter.mp hw).2
  cases w <;> first | (cases hq; done) | exact va_Nw.warmF hW (q.1 _ hw) | exact va_Nw.warmM hW (q.1 _ hw)
def RepU (E : Ev) (S : Sx) (I : Mm) (U : State) : Prop := RepH E S I U.heap ∧ va_K E.2.1 vwCl (tyl E) U ∧ NW E U
theorem ws_at {E : Ev} {S : Sx} {I : Mm} {k : Nat} (h : k < S.1) : (wsE E S I)[k]? = some (E.1.size + k, cellE E S I k) := by
  simp [wsE, h]
theorem ws_D (E : Ev) (S : Sx) (I : Mm) : va_D (Fr E) (wsE E S I) := by
  have key : ∀ (i : Nat) (p : Nat × va_E), (wsE E S I)[i]? = some p → p.1 = E.1.size + i := by
    intro i p h
    simp only [wsE, List.getElem?_map] at h
    by_cases hi : i < S.1
    · rw [List.getElem?_range hi] at h
      cases h
      rfl
    · rw [List.getElem?_eq_none (by rw [List.length_range]; omega)] at h
      cases h
  refine ⟨fun i j p q hi hj e => ?_, fun k q hk => ?_⟩
  · have := key i p hi
    have := key j q hj
    omega
  · show E.1.size ≤ q.1
    rw [key k q hk]
    omega
theorem ws_set {E : Ev} {S : Sx} {I : Mm} {k j : Nat} {v : Int32} {e : va_E} (hk : k < S.1) (he : e = cellE E S (wr I k j v) k) : (wsE E S I).set k (E.1.size + k, e) = wsE E S (wr I k j v) := by
  apply List.ext_getElem?
  intro i
  by_cases hi : i = k
  · subst hi
    rw [List.getElem?_set_self (by simp [wsE, hk]), ws_at hk, he]
  · rw [List.getElem?_set_ne (Ne.symm hi)]
    by_cases h : i < S.1
    · rw [ws_at h, ws_at h]
      have e1 : ∀ j', wr I k j v i j' = I i j' := fun j' => by simp [wr, hi]
      have e2 : (wr I k j v) i = I i := funext e1
      simp only [cellE, fsE, e1, e2]
    · rw [List.getElem?_eq_none (by simp [wsE]; omega), List.getElem?_eq_none (by simp [wsE]; omega)]
/-- the locals: what each holds, or nothing that is known -/
def al : Nat → List (Option Value) → List (Nat × Value)
  | _, [] => []
  | i, none :: l => al (i + 1) l
  | i, some v :: l => (i, v) :: al (i + 1) l
theorem al_mem : ∀ (l : List (Option Value)) (i : Nat) (q : Nat × Value), q ∈ al i l ↔ i ≤ q.1 ∧ l[q.1 - i]? = some (some q.2)
  | [], i, q => by simp [al]
  | none :: l, i, q => by
    rw [al, al_mem l (i + 1) q]
    constructor
    · rintro ⟨h1, h2⟩
      refine ⟨by omega, ?_⟩
      rw [show q.1 - i = (q.1 - (i + 1)) + 1 by omega, List.getElem?_cons_succ]
      exact h2
    · rintro ⟨h1, h2⟩
      by_cases h : q.1 = i
      · rw [h, Nat.sub_self] at h2
        simp at h2
      · refine ⟨by omega, ?_⟩
        rw [show q.1 - i = (q.1 - (i + 1)) + 1 by omega, List.getElem?_cons_succ] at h2
        exact h2
  | some v :: l, i, q => by
    rw [al, List.mem_cons, al_mem l (i + 1) q]
    constructor
    · rintro (rfl | ⟨h1, h2⟩)
      · simp
      · refine ⟨by omega, ?_⟩
        rw [show q.1 - i = (q.1 - (i + 1)) + 1 by omega, List.getElem?_cons_succ]
        exact h2
    · rintro ⟨h1, h2⟩
      by_cases h : q.1 = i
      · rw [h, Nat.sub_self] at h2
        simp at h2
        left
        exact Prod.ext h h2.symm
      · right
        refine ⟨by omega, ?_⟩
        rw [show q.1 - i = (q.1 - (i + 1)) + 1 by omega, List.getElem?_cons_succ] at h2
        exact h2
theorem al_get {ls : List (Option Value)} {lsa : Array Slot} {nL i : Nat} {v : Value} (h : lv_has lsa nL (al 0 ls)) (hv : ls[i]? = some (some v)) : lsa[i]? = some (.val v) :=
  h.2.2 (i, v) ((al_mem ls 0 (i, v)).mpr ⟨Nat.zero_le _, by simpa using hv⟩)
/-- may a value be laid at i: nothing wide stands just ahead, and of a wide one the next is free -/
def okst (ls : List (Option Value)) (i : Nat) (v : Value) : Bool :=
  (match i with
    | 0 => true
    | k + 1 => match ls[k]? with
      | some (some w) => !(w.category == 2)
      | _ => true) && (!(v.category == 2) || (match ls[i + 1]? with
        | some none => true
        | _ => false))
theorem al_set1 {ls : List (Option Value)} {lsa : Array Slot} {nL i : Nat} {v : Value} (hi : i < ls.length) (h : lv_has lsa nL ((i, v) :: (al 0 ls).filter (fun q => !(q.1 == i) && !(q.1 + 1 == i && q.2.category == 2)))) (ok : okst ls i v = true) : lv_has lsa nL (al 0 (ls.set i (some v))) := by
  refine ⟨h.1, h.2.1, fun q hq => h.2.2 q ?_⟩
  obtain ⟨-, h2⟩ := (al_mem _ _ _).mp hq
  rw [Nat.sub_zero] at h2
  by_cases e : q.1 = i
  · rw [e, List.getElem?_set_self hi] at h2
    simp at h2
    exact List.mem_cons.mpr (Or.inl (Prod.ext e h2.symm))
  · rw [List.getElem?_set_ne (Ne.symm e)] at h2
    refine List.mem_cons.mpr (Or.inr (List.mem_filter.mpr ⟨(al_mem _ _ _).mpr ⟨Nat.zero_le _, by simpa using h2⟩, ?_⟩))
    simp only [Bool.and_eq_true, Bool.not_eq_true', beq_eq_false_iff_ne, ne_eq, Bool.and_eq_false_iff]
    refine ⟨e, ?_⟩
    by_cases e2 : q.1 + 1 = i
    · right
      subst e2
      have := (Bool.and_eq_true _ _ ▸ ok).1
      simp only [h2] at this
      simpa using this
    · exact Or.inl e2
theorem al_set2 {ls : List (Option Value)} {lsa : Array Slot} {nL i : Nat} {v : Value} (hi : i < ls.length) (hc : v.category = 2) (h : lv_has lsa nL ((i, v) :: (al 0 ls).filter (fun q => !(q.1 == i) && (!(q.1 == i + 1) && !(q.1 + 1 == i && q.2.category == 2))))) (ok : okst ls i v = true) : lv_has lsa nL (al 0 (ls.set i (some v))) := by
  refine ⟨h.1, h.2.1, fun q hq => h.2.2 q ?_⟩
  obtain ⟨-, h2⟩ := (al_mem _ _ _).mp hq
  rw [Nat.sub_zero] at h2
  by_cases e : q.1 = i
  · rw [e, List.getElem?_set_self hi] at h2
    simp at h2
    exact List.mem_cons.mpr (Or.inl (Prod.ext e h2.symm))
  · rw [List.getElem?_set_ne (Ne.symm e)] at h2
    refine List.mem_cons.mpr (Or.inr (List.mem_filter.mpr ⟨(al_mem _ _ _).mpr ⟨Nat.zero_le _, by simpa using h2⟩, ?_⟩))
    simp only [Bool.and_eq_true, Bool.not_eq_true', beq_eq_false_iff_ne, ne_eq, Bool.and_eq_false_iff]
    refine ⟨e, ?_, ?_⟩
    · intro e3
      have := (Bool.and_eq_true _ _ ▸ ok).2
      rw [← e3] at this
      simp [h2, hc] at this
    · by_cases e2 : q.1 + 1 = i
      · right
        subst e2
        have := (Bool.and_eq_true _ _ ▸ ok).1
        simp only [h2] at this
        simpa using this
      · exact Or.inl e2
/-- some of the locals, the others forgotten -/
def mk_ : List Bool → List (Option Value) → List (Option Value)
  | true :: b, v :: l => v :: mk_ b l
  | false :: b, _ :: l => none :: mk_ b l
  | _, _ => []
theorem mk_get : ∀ (b : List Bool) (l : List (Option Value)) (i : Nat) (v : Value), (mk_ b l)[i]? = some (some v) → l[i]? = some (some v)
  | [], _, i, v, h => by simp [mk_] at h
  | true :: b, [], i, v, h => by simp [mk_] at h
  | false :: b, [], i, v, h => by simp [mk_] at h
  | true :: b, x :: l, 0, v, h => by simpa [mk_] using h
  | true :: b, x :: l, i + 1, v, h => by
    simp only [mk_, List.getElem?_cons_succ] at h ⊢
    exact mk_get b l i v h
  | false :: b, x :: l, 0, v, h => by simp [mk_] at h
  | false :: b, x :: l, i + 1, v, h => by
    simp only [mk_, List.getElem?_cons_succ] at h ⊢
    exact mk_get b l i v h
/-- the words that every method shares -/
def lw_good : List Cond := lw_tbl.filter goodWord
theorem gw_mem {w : Cond} (k : Nat) (h : lw_tbl[k]? = some w) (g : goodWord w = true) : w ∈ lw_good := List.mem_filter.mpr ⟨List.mem_of_getElem? h, g⟩
theorem gw_tbl {w : Cond} (h : w ∈ lw_good) : w ∈ lw_tbl := (List.mem_filter.mp h).1
def GW (y : Yd) : List Cond := .code y.1 y.2.1 y.2.2.1 y.2.2.2 :: lw_good
theorem gw_in {y : Yd} (h : Cond.code y.1 y.2.1 y.2.2.1 y.2.2.2 ∈ lw_tbl) : GoodIn lw_tbl (GW y) := by
  intro w hw
  rcases List.mem_cons.mp hw with rfl | hw
  · exact ⟨h, Or.inl rfl⟩
  · exact ⟨gw_tbl hw, good_of_word (List.mem_filter.mp hw).2⟩
/-- the method's own context -/
def CtxOK (X : Cx) (y : Yd) : Prop :=
  (xp X).tables.exec = Jvm.exec ∧ (xc X).code = y.2.1 ∧ (xc X).maxLocals = y.2.2.1 ∧ (xs X).vm.findClass y.1.cls = some (xm X).cls ∧ (∀ w ∈ lw_good, w.before (xa X) (xs X) = true) ∧ va_K (xE X).2.1 vwCl (tyl (xE X)) (xs X) ∧ (xM X).sig.returnType = y.2.2.2 ∧ (xM X).locks = false ∧ (y.1.name = "<init>" → (xM X).name = "<init>") ∧ (xE X).1.size ≤ (xs X).heap.size ∧ NW (xE X) (xs X)
/-- at pc, with the locals ls and the stack st, the world (S, I), k cells of n slots new since the method began: it comes to its end as it should -/
def WM (X : Cx) (y : Yd) (pc : Nat) (ls : List (Option Value)) (st : List Value) (S : Sx) (I : Mm) (k n : Nat) : Prop :=
  ∀ (H : Heap) (locs : List Loc) (lsa : Array Slot), RepH (xE X) S I H → va_S (Fr (xE X)) (xs X).heap H locs → lv_has lsa y.2.2.1 (al 0 ls) →
    W (xp X) (xl X) (xe X) (xR X) (xs X) (xm X) (xa X) (xb X) (xM X) (xc X) H locs k n (xQ X) (F0 (xm X) pc lsa st)
section RL
variable {X : Cx} {y : Yd} {pc : Nat} {ls ls' : List (Option Value)} {st : List Value} {S : Sx} {I : Mm} {k n : Nat}
theorem s_weak (b : List Bool) (e : mk_ b ls = ls') (K : WM X y pc ls' st S I k n) : WM X y pc ls st S I k n := by
  intro H locs lsa r s h
  refine K H locs lsa r s ⟨h.1, h.2.1, fun q hq => ?_⟩
  obtain ⟨h1, h2⟩ := (al_mem _ _ _).mp hq
  rw [← e] at h2
  exact h.2.2 q ((al_mem _ _ _).mpr ⟨h1, mk_get b ls _ _ h2⟩)
theorem s_pc {pc' : Nat} (e : pc = pc') (K : WM X y pc' ls st S I k n) : WM X y pc ls st S I k n := e ▸ K
theorem s_iconst {z : Int} {v : Int32} (C : CtxOK X y) (d : decode y.2.1 pc = .ok (.iconst z, 1)) (hv : Int32.ofInt z = v) (K : WM X y (pc + 1) ls (.int v :: st) S I k n) : WM X y pc ls st S I k n := fun H locs lsa r s l => lv_iconst C.1 C.2.1 d hv (K H locs lsa r s l)
theorem s_bipush {z : Int} {v : Int32} (C : CtxOK X y) (d : decode y.2.1 pc = .ok (.bipush z, 2)) (hv : (Int8.ofInt z).toInt32 = v) (K : WM X y (pc + 2) ls (.int v :: st) S I k n) : WM X y pc ls st S I k n := fun H locs lsa r s l => lv_bipush C.1 C.2.1 d hv (K H locs lsa r s l)
theorem s_sipush {z : Int} {v : Int32} (C : CtxOK X y) (d : decode y.2.1 pc = .ok (.sipush z, 3)) (hv : (Int16.ofInt z).toInt32 = v) (K : WM X y (pc + 3) ls (.int v :: st) S I k n) : WM X y pc ls st S I k n := fun H locs lsa r s l => lv_sipush C.1 C.2.1 d hv (K H locs lsa r s l)
theorem s_lconst {z : Fin 2} {v : Int64} (C : CtxOK X y) (d : decode y.2.1 pc = .ok (.lconst z, 1)) (hv : Int64.ofNat (z : Nat) = v) (K : WM X y (pc + 1) ls (.long v :: st) S I k n) : WM X y pc ls st S I k n := fun H locs lsa r s l => lv_lconst C.1 C.2.1 d hv (K H locs lsa r s l)
theorem s_fconst0 (C : CtxOK X y) (d : decode y.2.1 pc = .ok (.fconst 0, 1)) (K : WM X y (pc + 1) ls (.float FP.fconst0 :: st) S I k n) : WM X y pc ls st S I k n := fun H locs lsa r s l => lv_fconst0 C.1 C.2.1 d (K H locs lsa r s l)
theorem s_fconst1 (C : CtxOK X y) (d : decode y.2.1 pc = .ok (.fconst 1, 1)) (K : WM X y (pc + 1) ls (.float FP.fconst1 :: st) S I k n) : WM X y pc ls st S I k n := fun H locs lsa r s l => lv_fconst1 C.1 C.2.1 d (K H locs lsa r s l)
theorem s_fconst2 (C : CtxOK X y) (d : decode y.2.1 pc = .ok (.fconst 2, 1)) (K : WM X y (pc + 1) ls (.float FP.fconst2 :: st) S I k n) : WM X y pc ls st S I k n := fun H locs lsa r s l => lv_fconst2 C.1 C.2.1 d (K H locs lsa r s l)
theorem s_dconst0 (C : CtxOK X y) (d : decode y.2.1 pc = .ok (.dconst 0, 1)) (K : WM X y (pc + 1) ls (.double FP.dconst0 :: st) S I k n) : WM X y pc ls st S I k n := fun H locs lsa r s l => lv_dconst0 C.1 C.2.1 d (K H locs lsa r s l)
theorem s_dconst1 (C : CtxOK X y) (d : decode y.2.1 pc = .ok (.dconst 1, 1)) (K : WM X y (pc + 1) ls (.double FP.dconst1 :: st) S I k n) : WM X y pc ls st S I k n := fun H locs lsa r s l => lv_dconst1 C.1 C.2.1 d (K H locs lsa r s l)
theorem s_null (C : CtxOK X y) (d : decode y.2.1 pc = .ok (.aconst_null, 1)) (K : WM X y (pc + 1) ls (.null :: st) S I k n) : WM X y pc ls st S I k n := fun H locs lsa r s l => lv_null C.1 C.2.1 d (K H locs lsa r s l)
theorem s_ldc {ix : Nat} {v : Int32} (C : CtxOK X y) (d : decode y.2.1 pc = .ok (.ldc ix, 2)) (hw : Cond.constant y.1.cls ix v ∈ lw_good) (K : WM X y (pc + 2) ls (.int v :: st) S I k n) : WM X y pc ls st S I k n := fun H locs lsa r s l => lv_ldc C.1 C.2.1 C.2.2.2.1 (C.2.2.2.2.1 _ hw) d (K H locs lsa r s l)
theorem s_ldcw {ix : Nat} {v : Int32} (C : CtxOK X y) (d : decode y.2.1 pc = .ok (.ldc_w ix, 3)) (hw : Cond.constant y.1.cls ix v ∈ lw_good) (K : WM X y (pc + 3) ls (.int v :: st) S I k n) : WM X y pc ls st S I k n := fun H locs lsa r s l => lv_ldcw C.1 C.2.1 C.2.2.2.1 (C.2.2.2.2.1 _ hw) d (K H locs lsa r s l)
theorem s_ldc2 {ix : Nat} {v : Int64} (C : CtxOK X y) (d : decode y.2.1 pc = .ok (.ldc2_w ix, 3)) (hw : Cond.constantLong y.1.cls ix v ∈ lw_good) (K : WM X y (pc + 3) ls (.long v :: st) S I k n) : WM X y pc ls st S I k n := fun H locs lsa r s l => lv_ldc2 C.1 C.2.1 C.2.2.2.1 (C.2.2.2.2.1 _ hw) d (K H locs lsa r s l)
theorem s_ldcf {ix : Nat} {v : UInt32} (C : CtxOK X y) (d : decode y.2.1 pc = .ok (.ldc ix, 2)) (hw : Cond.constantFloat y.1.cls ix v ∈ lw_good) (K : WM X y (pc + 2) ls (.float v :: st) S I k n) : WM X y pc ls st S I k n := fun H locs lsa r s l => lv_ldcf C.1 C.2.1 C.2.2.2.1 (C.2.2.2.2.1 _ hw) d (K H locs lsa r s l)
theorem s_ldcd {ix : Nat} {v : UInt64} (C : CtxOK X y) (d : decode y.2.1 pc = .ok (.ldc2_w ix, 3)) (hw : Cond.constantDouble y.1.cls ix v ∈ lw_good) (K : WM X y (pc + 3) ls (.double v :: st) S I k n) : WM X y pc ls st S I k n := fun H locs lsa r s l => lv_ldc2d C.1 C.2.1 C.2.2.2.1 (C.2.2.2.2.1 _ hw) d (K H locs lsa r s l)
theorem s_iload_n {i : Nat} {q : Fin 4} {v : Int32} (C : CtxOK X y) (d : decode y.2.1 pc = .ok (.iload_n q, 1)) (hi : (q : Nat) = i) (hl : ls[i]? = some (some (.int v))) (K : WM X y (pc + 1) ls (.int v :: st) S I k n) : WM X y pc ls st S I k n := fun H locs lsa r s l => lv_iload_n C.1 C.2.1 d hi (al_get l hl) (K H locs lsa r s l)
theorem s_iload {i : Nat} {v : Int32} (C : CtxOK X y) (d : decode y.2.1 pc = .ok (.iload i, 2)) (hl : ls[i]? = some (some (.int v))) (K : WM X y (pc + 2) ls (.int v :: st) S I k n) : WM X y pc ls st S I k n := fun H locs lsa r s l => lv_iload C.1 C.2.1 d (al_get l hl) (K H locs lsa r s l)
theorem s_istore_n {i : Nat} {q : Fin 4} {v : Int32} (C : CtxOK X y) (d : decode y.2.1 pc = .ok (.istore_n q, 1)) (hi : (q : Nat) = i) (hi2 : i < y.2.2.1) (hi3 : i < ls.length) (ok : okst ls i (.int v) = true) (e : ls.set i (some (.int v)) = ls') (K : WM X y (pc + 1) ls' st S I k n) : WM X y pc ls (.int v :: st) S I k n := fun H locs lsa r s l => lv_istore_n C.1 C.2.1 d hi l hi2 rfl (fun lsa2 l2 => K H locs lsa2 r s (e ▸ al_set1 hi3 l2 ok))
theorem s_istore {i : Nat} {v : Int32} (C : CtxOK X y) (d : decode y.2.1 pc = .ok (.istore i, 2)) (hi2 : i < y.2.2.1) (hi3 : i < ls.length) (ok : okst ls i (.int v) = true) (e : ls.set i (some (.int v)) = ls') (K : WM X y (pc + 2) ls' st S I k n) : WM X y pc ls (.int v :: st) S I k n := fun H locs lsa r s l => lv_istore C.1 C.2.1 d l hi2 rfl (fun lsa2 l2 => K H locs lsa2 r s (e ▸ al_set1 hi3 l2 ok))
theorem s_lload_n {i : Nat} {q : Fin 4} {v : Int64} (C : CtxOK X y) (d : decode y.2.1 pc = .ok (.lload_n q, 1)) (hi : (q : Nat) = i) (hl : ls[i]? = some (some (.long v))) (K : WM X y (pc + 1) ls (.long v :: st) S I k n) : WM X y pc ls st S I k n := fun H locs lsa r s l => lv_lload_n C.1 C.2.1 d hi (al_get l hl) (K H locs lsa r s l)
theorem s_lload {i : Nat} {v : Int64} (C : CtxOK X y) (d : decode y.2.1 pc = .ok (.lload i, 2)) (hl : ls[i]? = some (some (.long v))) (K : WM X y (pc + 2) ls (.long v :: st) S I k n) : WM X y pc ls st S I k n := fun H locs lsa r s l => lv_lload C.1 C.2.1 d (al_get l hl) (K H locs lsa r s l)
theorem s_lstore_n {i : Nat} {q : Fin 4} {v : Int64} (C : CtxOK X y) (d : decode y.2.1 pc = .ok (.lstore_n q, 1)) (hi : (q : Nat) = i) (hi2 : i + 1 < y.2.2.1) (hi3 : i < ls.length) (ok : okst ls i (.long v) = true) (e : ls.set i (some (.long v)) = ls') (K : WM X y (pc + 1) ls' st S I k n) : WM X y pc ls (.long v :: st) S I k n := fun H locs lsa r s l => lv_lstore_n C.1 C.2.1 d hi l hi2 rfl (fun lsa2 l2 => K H locs lsa2 r s (e ▸ al_set2 hi3 rfl l2 ok))
theorem s_lstore {i : Nat} {v : Int64} (C : CtxOK X y) (d : decode y.2.1 pc = .ok (.lstore i, 2)) (hi2 : i + 1 < y.2.2.1) (hi3 : i < ls.length) (ok : okst ls i (.long v) = true) (e : ls.set i (some (.long v)) = ls') (K : WM X y (pc + 2) ls' st S I k n) : WM X y pc ls (.long v :: st) S I k n := fun H locs lsa r s l => lv_lstore C.1 C.2.1 d l hi2 rfl (fun lsa2 l2 => K H locs lsa2 r s (e ▸ al_set2 hi3 rfl l2 ok))
theorem s_fload_n {i : Nat} {q : Fin 4} {v : UInt32} (C : CtxOK X y) (d : decode y.2.1 pc = .ok (.fload_n q, 1)) (hi : (q : Nat) = i) (hl : ls[i]? = some (some (.float v))) (K : WM X y (pc + 1) ls (.float v :: st) S I k n) : WM X y pc ls st S I k n := fun H locs lsa r s l => lv_fload_n C.1 C.2.1 d hi (al_get l hl) (K H locs lsa r s l)
theorem s_fload {i : Nat} {v : UInt32} (C : CtxOK X y) (d : decode y.2.1 pc = .ok (.fload i, 2)) (hl : ls[i]? = some (some (.float v))) (K : WM X y (pc + 2) ls (.float v :: st) S I k n) : WM X y pc ls st S I k n := fun H locs lsa r s l => lv_fload C.1 C.2.1 d (al_get l hl) (K H locs lsa r s l)
theorem s_fstore_n {i : Nat} {q : Fin 4} {v : UInt32} (C : CtxOK X y) (d : decode y.2.1 pc = .ok (.fstore_n q, 1)) (hi : (q : Nat) = i) (hi2 : i < y.2.2.1) (hi3 : i < ls.length) (ok : okst ls i (.float v) = true) (e : ls.set i (some (.float v)) = ls') (K : WM X y (pc + 1) ls' st S I k n) : WM X y pc ls (.float v :: st) S I k n := fun H locs lsa r s l => lv_fstore_n C.1 C.2.1 d hi l hi2 rfl (fun lsa2 l2 => K H locs lsa2 r s (e ▸ al_set1 hi3 l2 ok))
theorem s_fstore {i : Nat} {v : UInt32} (C : CtxOK X y) (d : decode y.2.1 pc = .ok (.fstore i, 2)) (hi2 : i < y.2.2.1) (hi3 : i < ls.length) (ok : okst ls i (.float v) = true) (e : ls.set i (some (.float v)) = ls') (K : WM X y (pc + 2) ls' st S I k n) : WM X y pc ls (.float v :: st) S I k n := fun H locs lsa r s l => lv_fstore C.1 C.2.1 d l hi2 rfl (fun lsa2 l2 => K H locs lsa2 r s (e ▸ al_set1 hi3 l2 ok))
theorem s_dload_n {i : Nat} {q : Fin 4} {v : UInt64} (C : CtxOK X y) (d : decode y.2.1 pc = .ok (.dload_n q, 1)) (hi : (q : Nat) = i) (hl : ls[i]? = some (some (.double v))) (K : WM X y (pc + 1) ls (.double v :: st) S I k n) : WM X y pc ls st S I k n := fun H locs lsa r s l => lv_dload_n C.1 C.2.1 d hi (al_get l hl) (K H locs lsa r s l)
theorem s_dload {i : Nat} {v : UInt64} (C : CtxOK X y) (d : decode y.2.1 pc = .ok (.dload i, 2)) (hl : ls[i]? = some (some (.double v))) (K : WM X y (pc + 2) ls (.double v :: st) S I k n) : WM X y pc ls st S I k n := fun H locs lsa r s l => lv_dload C.1 C.2.1 d (al_get l hl) (K H locs lsa r s l)
theorem s_dstore_n {i : Nat} {q : Fin 4} {v : UInt64} (C : CtxOK X y) (d : decode y.2.1 pc = .ok (.dstore_n q, 1)) (hi : (q : Nat) = i) (hi2 : i + 1 < y.2.2.1) (hi3 : i < ls.length) (ok : okst ls i (.double v) = true) (e : ls.set i (some (.double v)) = ls') (K : WM X y (pc + 1) ls' st S I k n) : WM X y pc ls (.double v :: st) S I k n := fun H locs lsa r s l => lv_dstore_n C.1 C.2.1 d hi l hi2 rfl (fun lsa2 l2 => K H locs lsa2 r s (e ▸ al_set2 hi3 rfl l2 ok))
theorem s_dstore {i : Nat} {v : UInt64} (C : CtxOK X y) (d : decode y.2.1 pc = .ok (.dstore i, 2)) (hi2 : i + 1 < y.2.2.1) (hi3 : i < ls.length) (ok : okst ls i (.double v) = true) (e : ls.set i (some (.double v)) = ls') (K : WM X y (pc + 2) ls' st S I k n) : WM X y pc ls (.double v :: st) S I k n := fun H locs lsa r s l => lv_dstore C.1 C.2.1 d l hi2 rfl (fun lsa2 l2 => K H locs lsa2 r s (e ▸ al_set2 hi3 rfl l2 ok))
theorem s_aload_n {i : Nat} {q : Fin 4} {v : Nat} (C : CtxOK X y) (d : decode y.2.1 pc = .ok (.aload_n q, 1)) (hi : (q : Nat) = i) (hl : ls[i]? = some (some (.ref v))) (K : WM X y (pc + 1) ls (.ref v :: st) S I k n) : WM X y pc ls st S I k n := fun H locs lsa r s l => lv_aload_n C.1 C.2.1 d hi (al_get l hl) (K H locs lsa r s l)
theorem s_aload {i : Nat} {v : Nat} (C : CtxOK X y) (d : decode y.2.1 pc = .ok (.aload i, 2)) (hl : ls[i]? = some (some (.ref v))) (K : WM X y (pc + 2) ls (.ref v :: st) S I k n) : WM X y pc ls st S I k n := fun H locs lsa r s l => lv_aload C.1 C.2.1 d (al_get l hl) (K H locs lsa r s l)
theorem s_astore_n {i : Nat} {q : Fin 4} {v : Nat} (C : CtxOK X y) (d : decode y.2.1 pc = .ok (.astore_n q, 1)) (hi : (q : Nat) = i) (hi2 : i < y.2.2.1) (hi3 : i < ls.length) (ok : okst ls i (.ref v) = true) (e : ls.set i (some (.ref v)) = ls') (K : WM X y (pc + 1) ls' st S I k n) : WM X y pc ls (.ref v :: st) S I k n := fun H locs lsa r s l => lv_astore_n C.1 C.2.1 d hi l hi2 rfl (fun lsa2 l2 => K H locs lsa2 r s (e ▸ al_set1 hi3 l2 ok))
theorem s_astore {i : Nat} {v : Nat} (C : CtxOK X y) (d : decode y.2.1 pc = .ok (.astore i, 2)) (hi2 : i < y.2.2.1) (hi3 : i < ls.length) (ok : okst ls i (.ref v) = true) (e : ls.set i (some (.ref v)) = ls') (K : WM X y (pc + 2) ls' st S I k n) : WM X y pc ls (.ref v :: st) S I k n := fun H locs lsa r s l => lv_astore C.1 C.2.1 d l hi2 rfl (fun lsa2 l2 => K H locs lsa2 r s (e ▸ al_set1 hi3 l2 ok))
theorem s_aload_no {i : Nat} {q : Fin 4} {o : Option Nat} (C : CtxOK X y) (d : decode y.2.1 pc = .ok (.aload_n q, 1)) (hi : (q : Nat) = i) (hl : ls[i]? = some (some (rvE (xE X) o))) (K : WM X y (pc + 1) ls (rvE (xE X) o :: st) S I k n) : WM X y pc ls st S I k n := by
  cases o with
  | none => exact fun H locs lsa r s l => lv_aload_nN C.1 C.2.1 d hi (al_get l hl) (K H locs lsa r s l)
  | some x => exact s_aload_n C d hi hl K
theorem s_aload_o {i : Nat} {o : Option Nat} (C : CtxOK X y) (d : decode y.2.1 pc = .ok (.aload i, 2)) (hl : ls[i]? = some (some (rvE (xE X) o))) (K : WM X y (pc + 2) ls (rvE (xE X) o :: st) S I k n) : WM X y pc ls st S I k n := by
  cases o with
  | none => exact fun H locs lsa r s l => lv_aloadN C.1 C.2.1 d (al_get l hl) (K H locs lsa r s l)
  | some x => exact s_aload C d hl K
theorem s_astore_no {i : Nat} {q : Fin 4} {o : Option Nat} (C : CtxOK X y) (d : decode y.2.1 pc = .ok (.astore_n q, 1)) (hi : (q : Nat) = i) (hi2 : i < y.2.2.1) (hi3 : i < ls.length) (ok : okst ls i .null = true) (e : ls.set i (some (rvE (xE X) o)) = ls') (K : WM X y (pc + 1) ls' st S I k n) : WM X y pc ls (rvE (xE X) o :: st) S I k n := by
  cases o with
  | none => exact fun H locs lsa r s l => lv_astore_nN C.1 C.2.1 d hi l hi2 rfl (fun lsa2 l2 => K H locs lsa2 r s (e ▸ al_set1 hi3 l2 ok))
  | some x => exact s_astore_n C d hi hi2 hi3 ok e K
theorem s_astore_o {i : Nat} {o : Option Nat} (C : CtxOK X y) (d : decode y.2.1 pc = .ok (.astore i, 2)) (hi2 : i < y.2.2.1) (hi3 : i < ls.length) (ok : okst ls i .null = true) (e : ls.set i (some (rvE (xE X) o)) = ls') (K : WM X y (pc + 2) ls' st S I k n) : WM X y pc ls (rvE (xE X) o :: st) S I k n := by
  cases o with
  | none => exact fun H locs lsa r s l => lv_astoreN C.1 C.2.1 d l hi2 rfl (fun lsa2 l2 => K H locs lsa2 r s (e ▸ al_set1 hi3 l2 ok))
  | some x => exact s_astore C d hi2 hi3 ok e K
theorem s_ifnonnull {x : Nat} {off : Int} {tgt : Nat} (C : CtxOK X y) (d : decode y.2.1 pc = .ok (.ifnonnull off, 3)) (ht : (pc : Int) + off = (tgt : Int)) (K : WM X y tgt ls st S I k n) : WM X y pc ls (.ref x :: st) S I k n := fun H locs lsa r s l => lv_ifnonnull C.1 C.2.1 d ht (K H locs lsa r s l)
theorem s_ifnonnullN {off : Int} (C : CtxOK X y) (d : decode y.2.1 pc = .ok (.ifnonnull off, 3)) (K : WM X y (pc + 3) ls st S I k n) : WM X y pc ls (.null :: st) S I k n := fun H locs lsa r s l => lv_ifnonnullN C.1 C.2.1 d (K H locs lsa r s l)
theorem s_ifnull {x : Nat} {off : Int} (C : CtxOK X y) (d : decode y.2.1 pc = .ok (.ifnull off, 3)) (K : WM X y (pc + 3) ls st S I k n) : WM X y pc ls (.ref x :: st) S I k n := fun H locs lsa r s l => lv_ifnull C.1 C.2.1 d (K H locs lsa r s l)
theorem s_ifnullN {off : Int} {tgt : Nat} (C : CtxOK X y) (d : decode y.2.1 pc = .ok (.ifnull off, 3)) (ht : (pc : Int) + off = (tgt : Int)) (K : WM X y tgt ls st S I k n) : WM X y pc ls (.null :: st) S I k n := fun H locs lsa r s l => lv_ifnullN C.1 C.2.1 d ht (K H locs lsa r s l)
theorem s_iinc {i : Nat} {z : Int} {x v : Int32} (C : CtxOK X y) (d : decode y.2.1 pc = .ok (.iinc i z, 3)) (hl : ls[i]? = some (some (.int x))) (hi2 : i < y.2.2.1) (hi3 : i < ls.length) (hv : x + Int32.ofInt z = v) (ok : okst ls i (.int v) = true) (e : ls.set i (some (.int v)) = ls') (K : WM X y (pc + 3) ls' st S I k n) : WM X y pc ls st S I k n := by
  intro H locs lsa r s l
  obtain ⟨q, hq⟩ := List.getElem?_of_mem ((al_mem ls 0 (i, .int x)).mpr ⟨Nat.zero_le _, by simpa using hl⟩)
  exact lv_iinc C.1 C.2.1 d l hq hv hi2 rfl (fun lsa2 l2 => K H locs lsa2 r s (e ▸ al_set1 hi3 l2 ok))
theorem s_iadd {a b : Int32} (C : CtxOK X y) (d : decode y.2.1 pc = .ok (.iadd, 1))  (K : WM X y (pc + 1) ls (.int (a + b) :: st) S I k n) : WM X y pc ls (.int b :: .int a :: st) S I k n := fun H locs lsa r s l => lv_iadd C.1 C.2.1 d (K H locs lsa r s l)
theorem s_isub {a b : Int32} (C : CtxOK X y) (d : decode y.2.1 pc = .ok (.isub, 1))  (K : WM X y (pc + 1) ls (.int (a - b) :: st) S I k n) : WM X y pc ls (.int b :: .int a :: st) S I k n := fun H locs lsa r s l => lv_isub C.1 C.2.1 d (K H locs lsa r s l)
theorem s_imul {a b : Int32} (C : CtxOK X y) (d : decode y.2.1 pc = .ok (.imul, 1))  (K : WM X y (pc + 1) ls (.int (a * b) :: st) S I k n) : WM X y pc ls (.int b :: .int a :: st) S I k n := fun H locs lsa r s l => lv_imul C.1 C.2.1 d (K H locs lsa r s l)
theorem s_iand {a b : Int32} (C : CtxOK X y) (d : decode y.2.1 pc = .ok (.iand, 1))  (K : WM X y (pc + 1) ls (.int (a &&& b) :: st) S I k n) : WM X y pc ls (.int b :: .int a :: st) S I k n := fun H locs lsa r s l => lv_iand C.1 C.2.1 d (K H locs lsa r s l)
theorem s_ior {a b : Int32} (C : CtxOK X y) (d : decode y.2.1 pc = .ok (.ior, 1))  (K : WM X y (pc + 1) ls (.int (a ||| b) :: st) S I k n) : WM X y pc ls (.int b :: .int a :: st) S I k n := fun H locs lsa r s l => lv_ior C.1 C.2.1 d (K H locs lsa r s l)
theorem s_ishl {a b : Int32} (C : CtxOK X y) (d : decode y.2.1 pc = .ok (.ishl, 1))  (K : WM X y (pc + 1) ls (.int (a <<< (b &&& 31)) :: st) S I k n) : WM X y pc ls (.int b :: .int a :: st) S I k n := fun H locs lsa r s l => lv_ishl C.1 C.2.1 d (K H locs lsa r s l)
theorem s_idiv {a b : Int32} (C : CtxOK X y) (d : decode y.2.1 pc = .ok (.idiv, 1)) (hz : ¬ b = 0) (K : WM X y (pc + 1) ls (.int (a / b) :: st) S I k n) : WM X y pc ls (.int b :: .int a :: st) S I k n := fun H locs lsa r s l => lv_idiv C.1 C.2.1 d hz (K H locs lsa r s l)
theorem s_irem {a b : Int32} (C : CtxOK X y) (d : decode y.2.1 pc = .ok (.irem, 1)) (hz : ¬ b = 0) (K : WM X y (pc + 1) ls (.int (a - a / b * b) :: st) S I k n) : WM X y pc ls (.int b :: .int a :: st) S I k n := fun H locs lsa r s l => lv_irem C.1 C.2.1 d hz (K H locs lsa r s l)
theorem s_ladd {a b : Int64} (C : CtxOK X y) (d : decode y.2.1 pc = .ok (.ladd, 1))  (K : WM X y (pc + 1) ls (.long (a + b) :: st) S I k n) : WM X y pc ls (.long b :: .long a :: st) S I k n := fun H locs lsa r s l => lv_ladd C.1 C.2.1 d (K H locs lsa r s l)
theorem s_lsub {a b : Int64} (C : CtxOK X y) (d : decode y.2.1 pc = .ok (.lsub, 1))  (K : WM X y (pc + 1) ls (.long (a - b) :: st) S I k n) : WM X y pc ls (.long b :: .long a :: st) S I k n := fun H locs lsa r s l => lv_lsub C.1 C.2.1 d (K H locs lsa r s l)
theorem s_lor {a b : Int64} (C : CtxOK X y) (d : decode y.2.1 pc = .ok (.lor, 1))  (K : WM X y (pc + 1) ls (.long (a ||| b) :: st) S I k n) : WM X y pc ls (.long b :: .long a :: st) S I k n := fun H locs lsa r s l => lv_lor C.1 C.2.1 d (K H locs lsa r s l)
theorem s_lmul {a b : Int64} (C : CtxOK X y) (d : decode y.2.1 pc = .ok (.lmul, 1))  (K : WM X y (pc + 1) ls (.long (a * b) :: st) S I k n) : WM X y pc ls (.long b :: .long a :: st) S I k n := fun H locs lsa r s l => lv_lmul C.1 C.2.1 d (K H locs lsa r s l)
theorem s_land {a b : Int64} (C : CtxOK X y) (d : decode y.2.1 pc = .ok (.land, 1))  (K : WM X y (pc + 1) ls (.long (a &&& b) :: st) S I k n) : WM X y pc ls (.long b :: .long a :: st) S I k n := fun H locs lsa r s l => lv_land C.1 C.2.1 d (K H locs lsa r s l)
theorem s_lshr {a : Int64} {b : Int32} (C : CtxOK X y) (d : decode y.2.1 pc = .ok (.lshr, 1))  (K : WM X y (pc + 1) ls (.long (a >>> (b.toInt64 &&& 63)) :: st) S I k n) : WM X y pc ls (.int b :: .long a :: st) S I k n := fun H locs lsa r s l => lv_lshr C.1 C.2.1 d rfl (K H locs lsa r s l)
theorem s_lushr {a : Int64} {b : Int32} (C : CtxOK X y) (d : decode y.2.1 pc = .ok (.lushr, 1))  (K : WM X y (pc + 1) ls (.long ((a.toUInt64 >>> (b.toInt64.toUInt64 &&& Int64.toUInt64 63)).toInt64) :: st) S I k n) : WM X y pc ls (.int b :: .long a :: st) S I k n := fun H locs lsa r s l => lv_lushr C.1 C.2.1 d rfl (K H locs lsa r s l)
theorem s_l2i {a : Int64} (C : CtxOK X y) (d : decode y.2.1 pc = .ok (.l2i, 1))  (K : WM X y (pc + 1) ls (.int a.toInt32 :: st) S I k n) : WM X y pc ls (.long a :: st) S I k n := fun H locs lsa r s l => lv_l2i C.1 C.2.1 d rfl (K H locs lsa r s l)
theorem s_ishr {a b : Int32} (C : CtxOK X y) (d : decode y.2.1 pc = .ok (.ishr, 1)) (K : WM X y (pc + 1) ls (.int (a >>> (b &&& 31)) :: st) S I k n) : WM X y pc ls (.int b :: .int a :: st) S I k n := fun H locs lsa r s l => lv_ishr C.1 C.2.1 d (K H locs lsa r s l)
theorem s_lshl {a : Int64} {b : Int32} (C : CtxOK X y) (d : decode y.2.1 pc = .ok (.lshl, 1))  (K : WM X y (pc + 1) ls (.long (a <<< (b.toInt64 &&& 63)) :: st) S I k n) : WM X y pc ls (.int b :: .long a :: st) S I k n := fun H locs lsa r s l => lv_lshl C.1 C.2.1 d rfl (K H locs lsa r s l)
theorem s_lcmp {a b : Int64} (C : CtxOK X y) (d : decode y.2.1 pc = .ok (.lcmp, 1))  (K : WM X y (pc + 1) ls (.int (lg_cmp a b) :: st) S I k n) : WM X y pc ls (.long b :: .long a :: st) S I k n := fun H locs lsa r s l => W.lcmp C.1 C.2.1 d (K H locs lsa r s l)
theorem s_i2l {a : Int32} (C : CtxOK X y) (d : decode y.2.1 pc = .ok (.i2l, 1))  (K : WM X y (pc + 1) ls (.long a.toInt64 :: st) S I k n) : WM X y pc ls (.int a :: st) S I k n := fun H locs lsa r s l => lv_i2l C.1 C.2.1 d rfl (K H locs lsa r s l)
theorem s_i2c {a : Int32} (C : CtxOK X y) (d : decode y.2.1 pc = .ok (.i2c, 1))  (K : WM X y (pc + 1) ls (.int (a.toUInt32 % 65536).toInt32 :: st) S I k n) : WM X y pc ls (.int a :: st) S I k n := fun H locs lsa r s l => lv_i2c C.1 C.2.1 d rfl (K H locs lsa r s l)
theorem s_i2f {a : Int32} (C : CtxOK X y) (d : decode y.2.1 pc = .ok (.i2f, 1))  (K : WM X y (pc + 1) ls (.float (FP.i2f a) :: st) S I k n) : WM X y pc ls (.int a :: st) S I k n := fun H locs lsa r s l => lv_i2f C.1 C.2.1 d (K H locs lsa r s l)
theorem s_i2d {a : Int32} (C : CtxOK X y) (d : decode y.2.1 pc = .ok (.i2d, 1))  (K : WM X y (pc + 1) ls (.double (FP.i2d a) :: st) S I k n) : WM X y pc ls (.int a :: st) S I k n := fun H locs lsa r s l => lv_i2d C.1 C.2.1 d (K H locs lsa r s l)
theorem s_f2i {a : UInt32} (C : CtxOK X y) (d : decode y.2.1 pc = .ok (.f2i, 1))  (K : WM X y (pc + 1) ls (.int (FP.f2i a) :: st) S I k n) : WM X y pc ls (.float a :: st) S I k n := fun H locs lsa r s l => lv_f2i C.1 C.2.1 d (K H locs lsa r s l)
theorem s_d2l {a : UInt64} (C : CtxOK X y) (d : decode y.2.1 pc = .ok (.d2l, 1))  (K : WM X y (pc + 1) ls (.long (FP.d2l a) :: st) S I k n) : WM X y pc ls (.double a :: st) S I k n := fun H locs lsa r s l => lv_d2l C.1 C.2.1 d (K H locs lsa r s l)
theorem s_fmul {a b : UInt32} (C : CtxOK X y) (d : decode y.2.1 pc = .ok (.fmul, 1)) (hz : vf_n32 (FP.fmul a b)) (K : WM X y (pc + 1) ls (.float (FP.fmul a b) :: st) S I k n) : WM X y pc ls (.float b :: .float a :: st) S I k n := fun H locs lsa r s l => lv_fmul C.1 C.2.1 d hz (K H locs lsa r s l)
theorem s_fdiv {a b : UInt32} (C : CtxOK X y) (d : decode y.2.1 pc = .ok (.fdiv, 1)) (hz : vf_n32 (FP.fdiv a b)) (K : WM X y (pc + 1) ls (.float (FP.fdiv a b) :: st) S I k n) : WM X y pc ls (.float b :: .float a :: st) S I k n := fun H locs lsa r s l => lv_fdiv C.1 C.2.1 d hz (K H locs lsa r s l)
theorem s_fsub {a b : UInt32} (C : CtxOK X y) (d : decode y.2.1 pc = .ok (.fsub, 1)) (hz : vf_n32 (FP.fsub a b)) (K : WM X y (pc + 1) ls (.float (FP.fsub a b) :: st) S I k n) : WM X y pc ls (.float b :: .float a :: st) S I k n := fun H locs lsa r s l => lv_fsub C.1 C.2.1 d hz (K H locs lsa r s l)
theorem s_dmul {a b : UInt64} (C : CtxOK X y) (d : decode y.2.1 pc = .ok (.dmul, 1)) (hz : vf_n64 (FP.dmul a b)) (K : WM X y (pc + 1) ls (.double (FP.dmul a b) :: st) S I k n) : WM X y pc ls (.double b :: .double a :: st) S I k n := fun H locs lsa r s l => lv_dmul C.1 C.2.1 d hz (K H locs lsa r s l)
theorem s_ddiv {a b : UInt64} (C : CtxOK X y) (d : decode y.2.1 pc = .ok (.ddiv, 1)) (hz : vf_n64 (FP.ddiv a b)) (K : WM X y (pc + 1) ls (.double (FP.ddiv a b) :: st) S I k n) : WM X y pc ls (.double b :: .double a :: st) S I k n := fun H locs lsa r s l => lv_ddiv C.1 C.2.1 d hz (K H locs lsa r s l)
theorem s_dsub {a b : UInt64} (C : CtxOK X y) (d : decode y.2.1 pc = .ok (.dsub, 1)) (hz : vf_n64 (FP.dsub a b)) (K : WM X y (pc + 1) ls (.double (FP.dsub a b) :: st) S I k n) : WM X y pc ls (.double b :: .double a :: st) S I k n := fun H locs lsa r s l => lv_dsub C.1 C.2.1 d hz (K H locs lsa r s l)
theorem s_fcmp {a b : UInt32} {op : CmpOp} (C : CtxOK X y) (d : decode y.2.1 pc = .ok (.fcmp op, 1))  (K : WM X y (pc + 1) ls (.int (Op.cmpValue (FP.fcmp a b) op) :: st) S I k n) : WM X y pc ls (.float b :: .float a :: st) S I k n := fun H locs lsa r s l => lv_fcmp C.1 C.2.1 d (K H locs lsa r s l)
theorem s_dcmp {a b : UInt64} {op : CmpOp} (C : CtxOK X y) (d : decode y.2.1 pc = .ok (.dcmp op, 1))  (K : WM X y (pc + 1) ls (.int (Op.cmpValue (FP.dcmp a b) op) :: st) S I k n) : WM X y pc ls (.double b :: .double a :: st) S I k n := fun H locs lsa r s l => lv_dcmp C.1 C.2.1 d (K H locs lsa r s l)
theorem s_dup {v : Value} (C : CtxOK X y) (d : decode y.2.1 pc = .ok (.dup, 1)) (hc : v.category = 1) (K : WM X y (pc + 1) ls (v :: v :: st) S I k n) : WM X y pc ls (v :: st) S I k n := fun H locs lsa r s l => lv_dup C.1 C.2.1 d hc (K H locs lsa r s l)
theorem s_pop {v : Value} (C : CtxOK X y) (d : decode y.2.1 pc = .ok (.pop, 1)) (hc : v.category = 1) (K : WM X y (pc + 1) ls st S I k n) : WM X y pc ls (v :: st) S I k n := fun H locs lsa r s l => lv_pop C.1 C.2.1 d hc (K H locs lsa r s l)
theorem s_dup2 {v v2 : Value} (C : CtxOK X y) (d : decode y.2.1 pc = .ok (.dup2, 1)) (hc : v.category = 1) (hc2 : v2.category = 1) (K : WM X y (pc + 1) ls (v :: v2 :: v :: v2 :: st) S I k n) : WM X y pc ls (v :: v2 :: st) S I k n := fun H locs lsa r s l => lv_dup2_11 C.1 C.2.1 d hc hc2 (K H locs lsa r s l)
theorem s_if_eq {x : Int32} {off : Int} {tgt : Nat} (C : CtxOK X y) (d : decode y.2.1 pc = .ok (.ifCond .eq off, 3)) (ht : (pc : Int) + off = (tgt : Int)) (K1 : x = 0 → WM X y tgt ls st S I k n) (K2 : ¬ x = 0 → WM X y (pc + 3) ls st S I k n) : WM X y pc ls (.int x :: st) S I k n := fun H locs lsa r s l => lv_if_eq C.1 C.2.1 d ht (fun h => K1 h H locs lsa r s l) (fun h => K2 h H locs lsa r s l)
theorem s_icmp_eq {x y2 : Int32} {off : Int} {tgt : Nat} (C : CtxOK X y) (d : decode y.2.1 pc = .ok (.if_icmp .eq off, 3)) (ht : (pc : Int) + off = (tgt : Int)) (K1 : x = y2 → WM X y tgt ls st S I k n) (K2 : ¬ x = y2 → WM X y (pc + 3) ls st S I k n) : WM X y pc ls (.int y2 :: .int x :: st) S I k n := fun H locs lsa r s l => lv_icmp_eq C.1 C.2.1 d ht (fun h => K1 h H locs lsa r s l) (fun h => K2 h H locs lsa r s l)
theorem s_if_ne {x : Int32} {off : Int} {tgt : Nat} (C : CtxOK X y) (d : decode y.2.1 pc = .ok (.ifCond .ne off, 3)) (ht : (pc : Int) + off = (tgt : Int)) (K1 : ¬ x = 0 → WM X y tgt ls st S I k n) (K2 : x = 0 → WM X y (pc + 3) ls st S I k n) : WM X y pc ls (.int x :: st) S I k n := fun H locs lsa r s l => lv_if_ne C.1 C.2.1 d ht (fun h => K1 h H locs lsa r s l) (fun h => K2 h H locs lsa r s l)
theorem s_icmp_ne {x y2 : Int32} {off : Int} {tgt : Nat} (C : CtxOK X y) (d : decode y.2.1 pc = .ok (.if_icmp .ne off, 3)) (ht : (pc : Int) + off = (tgt : Int)) (K1 : ¬ x = y2 → WM X y tgt ls st S I k n) (K2 : x = y2 → WM X y (pc + 3) ls st S I k n) : WM X y pc ls (.int y2 :: .int x :: st) S I k n := fun H locs lsa r s l => lv_icmp_ne C.1 C.2.1 d ht (fun h => K1 h H locs lsa r s l) (fun h => K2 h H locs lsa r s l)
theorem s_if_lt {x : Int32} {off : Int} {tgt : Nat} (C : CtxOK X y) (d : decode y.2.1 pc = .ok (.ifCond .lt off, 3)) (ht : (pc : Int) + off = (tgt : Int)) (K1 : x < 0 → WM X y tgt ls st S I k n) (K2 : ¬ x < 0 → WM X y (pc + 3) ls st S I k n) : WM X y pc ls (.int x :: st) S I k n := fun H locs lsa r s l => lv_if_lt C.1 C.2.1 d ht (fun h => K1 h H locs lsa r s l) (fun h => K2 h H locs lsa r s l)
theorem s_icmp_lt {x y2 : Int32} {off : Int} {tgt : Nat} (C : CtxOK X y) (d : decode y.2.1 pc = .ok (.if_icmp .lt off, 3)) (ht : (pc : Int) + off = (tgt : Int)) (K1 : x < y2 → WM X y tgt ls st S I k n) (K2 : ¬ x < y2 → WM X y (pc + 3) ls st S I k n) : WM X y pc ls (.int y2 :: .int x :: st) S I k n := fun H locs lsa r s l => lv_icmp_lt C.1 C.2.1 d ht (fun h => K1 h H locs lsa r s l) (fun h => K2 h H locs lsa r s l)
theorem s_if_ge {x : Int32} {off : Int} {tgt : Nat} (C : CtxOK X y) (d : decode y.2.1 pc = .ok (.ifCond .ge off, 3)) (ht : (pc : Int) + off = (tgt : Int)) (K1 : 0 ≤ x → WM X y tgt ls st S I k n) (K2 : ¬ 0 ≤ x → WM X y (pc + 3) ls st S I k n) : WM X y pc ls (.int x :: st) S I k n := fun H locs lsa r s l => lv_if_ge C.1 C.2.1 d ht (fun h => K1 h H locs lsa r s l) (fun h => K2 h H locs lsa r s l)
theorem s_icmp_ge {x y2 : Int32} {off : Int} {tgt : Nat} (C : CtxOK X y) (d : decode y.2.1 pc = .ok (.if_icmp .ge off, 3)) (ht : (pc : Int) + off = (tgt : Int)) (K1 : y2 ≤ x → WM X y tgt ls st S I k n) (K2 : ¬ y2 ≤ x → WM X y (pc + 3) ls st S I k n) : WM X y pc ls (.int y2 :: .int x :: st) S I k n := fun H locs lsa r s l => lv_icmp_ge C.1 C.2.1 d ht (fun h => K1 h H locs lsa r s l) (fun h => K2 h H locs lsa r s l)
theorem s_if_gt {x : Int32} {off : Int} {tgt : Nat} (C : CtxOK X y) (d : decode y.2.1 pc = .ok (.ifCond .gt off, 3)) (ht : (pc : Int) + off = (tgt : Int)) (K1 : 0 < x → WM X y tgt ls st S I k n) (K2 : ¬ 0 < x → WM X y (pc + 3) ls st S I k n) : WM X y pc ls (.int x :: st) S I k n := fun H locs lsa r s l => lv_if_gt C.1 C.2.1 d ht (fun h => K1 h H locs lsa r s l) (fun h => K2 h H locs lsa r s l)
theorem s_icmp_gt {x y2 : Int32} {off : Int} {tgt : Nat} (C : CtxOK X y) (d : decode y.2.1 pc = .ok (.if_icmp .gt off, 3)) (ht : (pc : Int) + off = (tgt : Int)) (K1 : y2 < x → WM X y tgt ls st S I k n) (K2 : ¬ y2 < x → WM X y (pc + 3) ls st S I k n) : WM X y pc ls (.int y2 :: .int x :: st) S I k n := fun H locs lsa r s l => lv_icmp_gt C.1 C.2.1 d ht (fun h => K1 h H locs lsa r s l) (fun h => K2 h H locs lsa r s l)
theorem s_if_le {x : Int32} {off : Int} {tgt : Nat} (C : CtxOK X y) (d : decode y.2.1 pc = .ok (.ifCond .le off, 3)) (ht : (pc : Int) + off = (tgt : Int)) (K1 : x ≤ 0 → WM X y tgt ls st S I k n) (K2 : ¬ x ≤ 0 → WM X y (pc + 3) ls st S I k n) : WM X y pc ls (.int x :: st) S I k n := fun H locs lsa r s l => lv_if_le C.1 C.2.1 d ht (fun h => K1 h H locs lsa r s l) (fun h => K2 h H locs lsa r s l)
theorem s_icmp_le {x y2 : Int32} {off : Int} {tgt : Nat} (C : CtxOK X y) (d : decode y.2.1 pc = .ok (.if_icmp .le off, 3)) (ht : (pc : Int) + off = (tgt : Int)) (K1 : x ≤ y2 → WM X y tgt ls st S I k n) (K2 : ¬ x ≤ y2 → WM X y (pc + 3) ls st S I k n) : WM X y pc ls (.int y2 :: .int x :: st) S I k n := fun H locs lsa r s l => lv_icmp_le C.1 C.2.1 d ht (fun h => K1 h H locs lsa r s l) (fun h => K2 h H locs lsa r s l)
theorem s_goto {off : Int} {tgt : Nat} (C : CtxOK X y) (d : decode y.2.1 pc = .ok (.goto off, 3)) (ht : (pc : Int) + off = (tgt : Int)) (K : WM X y tgt ls st S I k n) : WM X y pc ls st S I k n := fun H locs lsa r s l => lv_goto C.1 C.2.1 d ht (K H locs lsa r s l)
theorem s_lookup {dflt : Int} {ps : Array (Int × Int)} {len : Nat} {x : Int32} {off : Int} {tgt : Nat} (C : CtxOK X y) (d : decode y.2.1 pc = .ok (.lookupswitch dflt ps, len)) (hp : (ps.toList.zip (ps.toList.drop 1)).all (fun (a, next) => a.1 < next.1) = true) (ho : Op.lookupswitch.offset ps.toList dflt x.toInt = off) (ht : (pc : Int) + off = (tgt : Int)) (K : WM X y tgt ls st S I k n) : WM X y pc ls (.int x :: st) S I k n := fun H locs lsa r s l => lv_lookup C.1 C.2.1 d hp ho ht (K H locs lsa r s l)
theorem s_tableOut {dflt lo hi : Int} {offs : Array Int} {len : Nat} {x : Int32} {tgt : Nat} (C : CtxOK X y) (d : decode y.2.1 pc = .ok (.tableswitch dflt lo hi offs, len)) (h : x.toInt < lo ∨ hi < x.toInt) (ht : (pc : Int) + dflt = (tgt : Int)) (K : WM X y tgt ls st S I k n) : WM X y pc ls (.int x :: st) S I k n := fun H locs lsa r s l => lv_tableOut C.1 C.2.1 d h ht (K H locs lsa r s l)
theorem s_tableIn {dflt lo hi : Int} {offs : Array Int} {len : Nat} {x : Int32} {off : Int} {tgt : Nat} (C : CtxOK X y) (d : decode y.2.1 pc = .ok (.tableswitch dflt lo hi offs, len)) (h1 : ¬ x.toInt < lo) (h2 : ¬ hi < x.toInt) (ho : offs[(x.toInt - lo).toNat]? = some off) (ht : (pc : Int) + off = (tgt : Int)) (K : WM X y tgt ls st S I k n) : WM X y pc ls (.int x :: st) S I k n := fun H locs lsa r s l => lv_tableIn C.1 C.2.1 d h1 h2 ho ht (K H locs lsa r s l)
end RL
