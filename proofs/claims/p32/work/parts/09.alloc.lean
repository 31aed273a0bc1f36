/-! ===== a world that grows: new objects, arrays, references laid ===== -/
def gr (S : Sx) (c : Nat) : Sx := (S.1 + 1, fun a => if a = S.1 then c else S.2.1 a, S.2.2)
def sr (S : Sx) (a j v : Nat) : Sx := (S.1, S.2.1, fun b i => if b = a ∧ i = j then some v else S.2.2 b i)
def Fsh (S : Sx) (I : Mm) : Prop := ∀ a j, S.1 ≤ a → S.2.2 a j = none ∧ I a j = 0
theorem Fsh.gr {S : Sx} {I : Mm} {c : Nat} (h : Fsh S I) : Fsh (gr S c) I := fun a j ha => h a j (by have : S.1 + 1 ≤ a := ha; omega)
theorem Fsh.sr {S : Sx} {I : Mm} {a j v : Nat} (h : Fsh S I) (ha : a < S.1) : Fsh (sr S a j v) I := fun b i hb => by
  have hb' : S.1 ≤ b := hb
  refine ⟨?_, (h b i hb').2⟩
  show (if b = a ∧ i = j then some v else S.2.2 b i) = none
  rw [if_neg (by omega)]
  exact (h b i hb').1
theorem Fsh.wr {S : Sx} {I : Mm} {a j : Nat} {v : Int32} (h : Fsh S I) (ha : a < S.1) : Fsh S (wr I a j v) := fun b i hb => by
  refine ⟨(h b i hb).1, ?_⟩
  show (if b = a ∧ i = j then v else I b i) = 0
  rw [if_neg (by omega)]
  exact (h b i hb).2
theorem cellE_gr {E : Ev} {S : Sx} {I : Mm} {c k : Nat} (hk : k < S.1) : cellE E (gr S c) I k = cellE E S I k := by
  have e : (gr S c).2.1 k = S.2.1 k := if_neg (by omega)
  have e2 : (gr S c).2.2 = S.2.2 := rfl
  have e3 : rowE E (gr S c) k = rowE E S k := rfl
  simp only [cellE, fsE, e, e2, e3]
theorem ws_gr (E : Ev) (S : Sx) (I : Mm) (c : Nat) : wsE E (gr S c) I = wsE E S I ++ [(E.1.size + S.1, cellE E (gr S c) I S.1)] := by
  show (List.range (S.1 + 1)).map _ = _
  rw [List.range_succ, List.map_append]
  congr 1
  apply List.map_congr_left
  intro k hk
  rw [cellE_gr (List.mem_range.mp hk)]
theorem kd_new (S : Sx) (c : Nat) : (gr S c).2.1 S.1 = c := if_pos rfl
theorem ws_updS {E : Ev} {S S' : Sx} {I : Mm} {k : Nat} {e : va_E} (hk : k < S.1) (hn : S'.1 = S.1) (hkd : S'.2.1 = S.2.1) (ho : ∀ i, i ≠ k → S'.2.2 i = S.2.2 i) (he : e = cellE E S' I k) : (wsE E S I).set k (E.1.size + k, e) = wsE E S' I := by
  apply List.ext_getElem?
  intro i
  by_cases hi : i = k
  · subst hi
    rw [List.getElem?_set_self (by simp [wsE, hk]), ws_at (by rw [hn]; exact hk), he]
  · rw [List.getElem?_set_ne (Ne.symm hi)]
    by_cases h : i < S.1
    · rw [ws_at h, ws_at (by rw [hn]; exact h)]
      have e3 : rowE E S' i = rowE E S i := by unfold rowE; rw [ho i hi]
      simp only [cellE, fsE, ho i hi, hkd, e3]
    · rw [List.getElem?_eq_none (by simp [wsE]; omega), List.getElem?_eq_none (by simp [wsE]; omega)]
theorem rep_gr {E : Ev} {S : Sx} {I : Mm} {H H1 : Heap} {c : Nat} (r : RepH E S I H) (hc : c ≠ 9 ∨ True) (z : H1.size = E.1.size + S.1 + 1) (o : ∀ q, q < E.1.size + S.1 → H1[q]? = H[q]?) (hn : va_at E.2.1 vwCl (E.1.size + S.1, cellE E (gr S c) I S.1) H1) : RepH E (gr S c) I H1 := by
  refine ⟨?_, by rw [z]; rfl, fun q hq => (o q (by omega)).trans (r.2.2.1 q hq), fun a ha => ?_⟩
  · rw [ws_gr]
    refine (r.1.kept (fun k x hx => o x.1 (by have := (r.1 k x hx).lt; rw [r.2.1] at this; exact this))).app (fun k x hx => ?_)
    have hz : k < 1 := (List.getElem?_eq_some_iff.mp hx).1
    rw [show k = 0 by omega] at hx
    cases hx
    exact hn
  · have h1 : S.1 + 1 ≤ a := ha
    show (if a = S.1 then c else S.2.1 a) = 9
    rw [if_neg (by omega)]
    exact r.2.2.2 a (by omega)
theorem vS_new {E : Ev} {S : Sx} {I : Mm} {s : State} {H H1 : Heap} {locs : List Loc} (r : RepH E S I H) (hs : va_S (Fr E) s.heap H locs) (z : H1.size = E.1.size + S.1 + 1) (o : ∀ q, q < E.1.size + S.1 → H1[q]? = H[q]?) : va_S (Fr E) s.heap H1 locs := by
  refine ⟨Nat.le_trans hs.1 (by rw [z, r.2.1]; omega), fun q h1 h2 => (o q ?_).trans (hs.2.1 q h1 h2), hs.2.2⟩
  have := Nat.lt_of_lt_of_le h1 hs.1
  rw [r.2.1] at this
  exact this
section RLA
variable {X : Cx} {y : Yd} {pc : Nat} {ls ls' : List (Option Value)} {st : List Value} {S : Sx} {I I1 : Mm} {k n : Nat}
theorem s_new {c ix d kk nn : Nat} {T : u_T} {Cn : String} (ty : Nat → FieldType) (C : CtxOK X y) (dd : decode y.2.1 pc = .ok (.new ix, 3)) (hcl : vwCl[c]? = some (Cn, T, nfs c)) (hc : c < 6) (hin : ∀ w ∈ u_ws Cn T (nfs c), w ∈ lw_good) (hty : ∀ k, k < nfs c → parseFieldDescriptor (T k).2.2.1 = some (ty k)) (hdef : ∀ j, j < nfs c → defaultValue (ty j) = if isR c j then .null else .int 0)
    (w1 : Cond.classLink y.1.cls ix Cn ∈ lw_good) (w2 : Cond.instantiable Cn (nfs c) ∈ lw_good) (w3 : Cond.initialized Cn ∈ lw_good) (hf : Fsh S I) (hR : RG X d kk nn) (hk : k + 1 ≤ kk) (hn : n + nfs c ≤ nn)
    (K : WM X y (pc + 3) ls (rfX X S.1 :: st) (gr S c) I (k + 1) (n + nfs c)) : WM X y pc ls st S I k n := by
  intro H locs lsa r s l
  have hts := C.2.2.2.2.1
  have hKn := C.2.2.2.2.2.1.1 c _ hcl
  refine W.newcK C.1 C.2.1 C.2.2.2.1 (hts _ w1) (hts _ w2) (hts _ w3) rfl dd (Nat.le_trans hk hR.2.2.1) (Nat.le_trans hn hR.2.2.2) hKn.2.1 r.2.1 (fun H1 kC hkC e1 z1 o1 => ?_)
  refine K H1 locs lsa (rep_gr r (Or.inr trivial) z1 o1 ?_) (vS_new r s z1 o1) l
  rw [cell_o (kd_new S c) hc]
  refine ⟨_, hcl, (u_born ty hts hin hKn hkC e1 hty).to (fun j hj => ?_)⟩
  rw [hdef j hj]
  simp only [vp_V, fsE, List.getD_eq_getElem?_getD, List.getElem?_map, List.getElem?_range hj, Option.map_some, Option.getD_some]
  have h0 := hf S.1 j (Nat.le_refl _)
  by_cases hr : isR c j = true
  · rw [if_pos hr, if_pos hr]
    show Value.null = rvE (xE X) (S.2.2 S.1 j)
    rw [h0.1]
    rfl
  · rw [if_neg hr, if_neg hr, h0.2]
theorem s_newa {m d kk nn : Nat} {v : Int32} (C : CtxOK X y) (dd : decode y.2.1 pc = .ok (.newarray .int, 2)) (w1 : Cond.arrayClass .int ∈ lw_good) (hv : ¬ v < 0) (hm : v.toNatClampNeg = m) (hb : m * 4 ≤ 536870912) (hf : Fsh S I) (hR : RG X d kk nn) (hk : k + 1 ≤ kk) (hn : n + m ≤ nn)
    (K : WM X y (pc + 2) ls (rfX X S.1 :: st) (gr S (10 + m)) I (k + 1) (n + m)) : WM X y pc ls (.int v :: st) S I k n := by
  intro H locs lsa r s l
  have hts := C.2.2.2.2.1
  refine va_newaK (atype := .int) C.1 C.2.1 (hts _ w1) rfl dd rfl hv hm hb (Nat.le_trans hk hR.2.2.1) (Nat.le_trans hn hR.2.2.2) r.2.1 (fun H1 cA e1 z1 o1 _ hcA => ?_)
  have h2 : (xs X).vm.findClass ("[" ++ FieldType.int.toString) = some (xE X).2.2.1 := (C.2.2.2.2.2.1.2 0 _ rfl).2
  have h3 : cA = (xE X).2.2.1 := Option.some.inj (hcA.symm.trans h2)
  subst h3
  refine K H1 locs lsa (rep_gr r (Or.inr trivial) z1 o1 ?_) (vS_new r s z1 o1) l
  rw [cell_i (kd_new S (10 + m)) (by omega), show 10 + m - 10 = m by omega]
  show H1[(xE X).1.size + S.1]? = some (vp_cell _ _)
  rw [e1, vp_cell_i]
  congr 2
  funext j
  rw [(hf S.1 j (Nat.le_refl _)).2]
  rfl
theorem s_anew {c ix m d kk nn : Nat} {v : Int32} {Cn : String} (C : CtxOK X y) (dd : decode y.2.1 pc = .ok (.anewarray ix, 3)) (hc : (c = 6 ∧ Cn = "LeaningRicks$Rick") ∨ (c = 7 ∧ Cn = "LeaningRicks$Yard")) (hm' : (rkT c).2 = m) (w1 : Cond.classLink y.1.cls ix Cn ∈ lw_good) (hv : ¬ v < 0) (hm : v.toNatClampNeg = m) (hf : Fsh S I) (hR : RG X d kk nn) (hk : k + 1 ≤ kk) (hn : n + m ≤ nn)
    (K : WM X y (pc + 3) ls (rfX X S.1 :: st) (gr S c) I (k + 1) (n + m)) : WM X y pc ls (.int v :: st) S I k n := by
  intro H locs lsa r s l
  have hts := C.2.2.2.2.1
  have hNW := C.2.2.2.2.2.2.2.2.2.2
  have hover : (Cond.arrayOver (.object Cn)).before (xa X) (xs X) = true := by
    rcases hc with ⟨-, rfl⟩ | ⟨-, rfl⟩
    · exact va_AO.use hNW.2.1
    · exact va_AO.use hNW.2.2.1
  have hm9 : m ≤ 9 := by rcases hc with ⟨rfl, -⟩ | ⟨rfl, -⟩ <;> (subst hm'; decide)
  subst hm
  refine W.anew C.1 C.2.1 C.2.2.2.1 (hts _ w1) hover rfl dd rfl hv (by omega) (Nat.le_trans hk hR.2.2.1) (Nat.le_trans hn hR.2.2.2) (fun cA kA comp f1 f2 f3 f4 => ?_)
  have hc2 : 6 ≤ c ∧ c ≤ 7 := by rcases hc with ⟨rfl, -⟩ | ⟨rfl, -⟩ <;> decide
  obtain ⟨cA', ty', h1, h2, h3⟩ := cell_r (E := xE X) (I := I) (kd_new S c) hc2
  have hcA : cA' = cA := by
    have hk2 := (C.2.2.2.2.2.1.2 _ _ h2).2
    rcases hc with ⟨rfl, rfl⟩ | ⟨rfl, rfl⟩
    · have h2' : some ((xE X).2.2.2.1, FieldType.object "LeaningRicks$Rick") = some (cA', ty') := h2
      cases h2'
      obtain ⟨_, _, _, _, _, g4⟩ := hk2
      exact Option.some.inj (g4.symm.trans f1)
    · have h2' : some ((xE X).2.2.2.2.1, FieldType.object "LeaningRicks$Yard") = some (cA', ty') := h2
      cases h2'
      obtain ⟨_, _, _, _, _, g4⟩ := hk2
      exact Option.some.inj (g4.symm.trans f1)
  subst hcA
  have hz : H.size = (xE X).1.size + S.1 := r.2.1
  have e1 : (H.push ({ cls := cA', slots := Array.replicate v.toNatClampNeg .null, vm := .none } : Cell))[(xE X).1.size + S.1]? = some (arrV cA' v.toNatClampNeg (fun _ => .null)) := by rw [← hz, Array.getElem?_push_size, ← arrV_new]
  have o1 : ∀ q : Nat, q < (xE X).1.size + S.1 → (H.push ({ cls := cA', slots := Array.replicate v.toNatClampNeg .null, vm := .none } : Cell))[q]? = H[q]? := fun q hq => by rw [Array.getElem?_push, if_neg (by omega)]
  have z1 : (H.push ({ cls := cA', slots := Array.replicate v.toNatClampNeg .null, vm := .none } : Cell)).size = (xE X).1.size + S.1 + 1 := by rw [Array.size_push, hz]
  have K' := K _ locs lsa (rep_gr (c := c) r (Or.inr trivial) z1 o1 (by
    rw [h1]
    show (H.push _)[(xE X).1.size + S.1]? = some (vp_cell _ _)
    rw [e1, vp_cell_q, hm']
    congr 2
    funext j
    show Value.null = va_rf (rowE (xE X) (gr S c) S.1 j)
    have : (gr S c).2.2 S.1 j = none := (hf S.1 j (Nat.le_refl _)).1
    simp only [rowE, this]
    rfl)) (vS_new r s z1 o1) l
  rw [hz]
  exact K'
theorem s_putR {a c j ix b : Nat} {ty : FieldType} (C : CtxOK X y) (dd : decode y.2.1 pc = .ok (.putfield ix, 3)) (hk : S.2.1 a = c) (T : u_T) (ty0 : Nat → FieldType) (hcl : vwCl[c]? = some (y.1.cls, T, nfs c)) (hj : j < nfs c) (hc : c < 6) (hin : ∀ w ∈ u_ws y.1.cls T (nfs c), w ∈ lw_good) (hT : (T j).1 = y.1.cls) (w1 : Cond.fieldLink y.1.cls ix y.1.cls (T j).2.1 (T j).2.2.1 ∈ lw_good)
    (hty : ∀ k, k < nfs c → parseFieldDescriptor (T k).2.2.1 = some (ty0 k)) (hnm : ∀ a, a < nfs c → ∀ b, b < nfs c → a ≠ b → (T a).2.1 ≠ (T b).2.1) (hfin : (T j).2.2.2 = true) (hd : parseFieldDescriptor (T j).2.2.1 = some ty) (hr : isR c j = true) (hnr : ∀ q : Nat, narrow ty (.ref q) = .ref q ∧ fits ty (.ref q) = true) (hini : y.1.name = "<init>")
    (K : WM X y (pc + 3) ls st (sr S a j b) I k n) : WM X y pc ls (rfX X b :: rfX X a :: st) S I k n := by
  intro H locs lsa r s l
  have ha : a < S.1 := rep_lt r (by omega)
  have he := ws_at (E := xE X) (S := S) (I := I) ha
  rw [cell_o hk hc] at he
  have hts := C.2.2.2.2.1
  have hap := va_apart (own := y.1.cls) hts hin ty0 hty hnm C.2.2.2.2.2.1 hcl
  obtain ⟨rr, g1, cell, q1, q2, q3, q4⟩ := r.1 a _ he
  have hrr : rr = (y.1.cls, T, nfs c) := Option.some.inj (g1.symm.trans hcl)
  subst hrr
  obtain ⟨hS, hfc, kC, hkC, hkind⟩ := C.2.2.2.2.2.1.1 c _ hcl
  obtain ⟨cf, kf, fi, f, hi, hsl⟩ := hS j hj
  have hlay := hts _ (hin _ (u_in_lay hj))
  unfold u_lay at hlay
  rw [if_pos hfin] at hlay
  have hst := (u_facts hfc hkC (u_lays hts hin hj) hi).1
  have hcf : (xm X).cls = cf := by
    obtain ⟨_, _, c', _, _, _, -, -, hf', -, -, -, hown2, -⟩ := Cond.laysFinal_spec hlay
    have e1 : c' = cf := by have := hi.symm.trans hf'; simp at this; exact this.1.symm
    rw [hT] at hown2
    rw [← e1]; exact Option.some.inj (C.2.2.2.1.symm.trans hown2)
  have h6 := u_fits hfc hkC hkind (Or.inr hlay) hi hd (hnr ((xE X).1.size + b)).1 (hnr ((xE X).1.size + b)).2
  have hsame : (xs X).fieldFound? y.1.cls (T j).2.1 (T j).2.2.1 = some (cf, kf, fi, f) := by rw [← hT]; exact hi
  refine W.putFinK C.1 C.2.1 C.2.2.2.1 (hts _ w1) hsame hst hcf (C.2.2.2.2.2.2.2.2.1 hini) (by rw [q2]; exact h6) q1 q3 (by rw [hsl]; exact k2_hasslot (q4 j hj)) rfl rfl dd fun H' e1 e2 e3 => ?_
  rw [hsl] at e1
  have hfs : (fsE (xE X) S I a c).set j (rfX X b) = fsE (xE X) (sr S a j b) I a c := by
    apply List.ext_getElem?
    intro i
    by_cases hij : i = j
    · subst hij
      rw [List.getElem?_set_self (by simp [fsE, hj]), fs_get hj, if_pos hr]
      show _ = some (rvE (xE X) (if a = a ∧ i = i then some b else S.2.2 a i))
      rw [if_pos ⟨rfl, rfl⟩]
      rfl
    · rw [List.getElem?_set_ne (Ne.symm hij)]
      by_cases h : i < nfs c
      · rw [fs_get h, fs_get h]
        have : (sr S a j b).2.2 a i = S.2.2 a i := if_neg (by omega)
        rw [this]
      · rw [List.getElem?_eq_none (by simp [fsE]; omega), List.getElem?_eq_none (by simp [fsE]; omega)]
  have p1 := r.1.set (ws_D _ _ _) he (e := cellE (xE X) (sr S a j b) I a) (H1 := H') (by
    rw [cell_o (show (sr S a j b).2.1 a = c from hk) hc, ← hfs]
    exact ⟨_, hcl, t_OB.to (V := updV (vp_V (fsE (xE X) S I a c)) j (rfX X b)) ⟨_, e1, q2, q3, t_set q4 hap hj _⟩ (fun i _ => vp_updV_set (by simp [fsE, hj]) _ i)⟩) e3
  rw [ws_updS (S' := sr S a j b) ha rfl rfl (fun i hi2 => by funext q; exact if_neg (by omega)) rfl] at p1
  exact K H' _ lsa ⟨p1, e2.trans r.2.1, fun q hq => (e3 q (Nat.ne_of_lt (Nat.lt_of_lt_of_le hq (Nat.le_add_right _ _)))).trans (r.2.2.1 q hq), r.2.2.2⟩ (s.put e2 e3 (show (xE X).1.size ≤ (xE X).1.size + a by omega)) l
theorem s_aast {a c ci b q : Nat} {i : Int32} (C : CtxOK X y) (dd : decode y.2.1 pc = .ok (.aastore, 1)) (hk : S.2.1 a = c) (hc : (c = 6 ∧ ci = 1) ∨ (c = 7 ∧ ci = 3)) (hb : S.2.1 b = ci) (hq : i.toNatClampNeg = q) (hin : ¬ (i < 0 ∨ (rkT c).2 ≤ i.toNatClampNeg))
    (K : WM X y (pc + 1) ls st (sr S a q b) I k n) : WM X y pc ls (rfX X b :: .int i :: rfX X a :: st) S I k n := by
  intro H locs lsa r s l
  subst hq
  have ha : a < S.1 := rep_lt r (by omega)
  have hbl : b < S.1 := rep_lt r (by omega)
  have he := ws_at (E := xE X) (S := S) (I := I) ha
  have hcc : 6 ≤ c ∧ c ≤ 7 := by omega
  obtain ⟨cA, ty, h1, h2, h3⟩ := cell_r (E := xE X) (I := I) hk hcc
  obtain ⟨cA', ty', h1', h2', -⟩ := cell_r (E := xE X) (S := sr S a i.toNatClampNeg b) (I := I) hk hcc
  have hAA : cA' = cA := congrArg Prod.fst (Option.some.inj (h2'.symm.trans h2))
  subst hAA
  rw [h1] at he
  have hev := ws_at (E := xE X) (S := S) (I := I) hbl
  rw [cell_o hb (by omega)] at hev
  have hlt : i.toNatClampNeg < (rkT c).2 := Nat.not_le.mp fun q => hin (Or.inr q)
  have h0 : ¬ i < 0 := fun q => hin (Or.inl q)
  obtain ⟨r', hr', cellV, g1, g2, g3, -⟩ := r.1 b _ hev
  have hcls := (C.2.2.2.2.2.1.1 ci r' hr').2
  have hra := (C.2.2.2.2.2.1.2 _ _ h2).2
  have hobj : ty = .object r'.1 := by
    rcases hc with ⟨rfl, rfl⟩ | ⟨rfl, rfl⟩
    · have e1 : some (RX1, TX1, 5) = some r' := hr'
      have e2 : some ((xE X).2.2.2.1, FieldType.object "LeaningRicks$Rick") = some (cA', ty) := h2
      cases e1; cases e2; rfl
    · have e1 : some (RX3, TX3, 8) = some r' := hr'
      have e2 : some ((xE X).2.2.2.2.1, FieldType.object "LeaningRicks$Yard") = some (cA', ty) := h2
      cases e1; cases e2; rfl
  subst hobj
  obtain ⟨kA, comp, k1, k2, k3, -⟩ := hra
  have hcomp : comp = (xE X).2.1.1 ci := Option.some.inj (k3.symm.trans hcls.1)
  subst hcomp
  obtain ⟨kC, hkC, -⟩ := hcls.2
  refine W.aast C.1 C.2.1 (r.1 a _ he) (fun q h => by cases h) (fun h => by cases h) k1 k2 rfl hkC ⟨h0, by show _ < (arrV _ _ _).slots.size; rw [arrV_size]; exact hlt⟩ g1 (fun q h => by rw [g3] at h; cases h) (by rw [g2]; exact hkC) (by rw [g2]; exact va_assign hcls) rfl rfl dd fun H1 e z oq => ?_
  have p1 := r.1.set (ws_D _ _ _) he (e := cellE (xE X) (sr S a i.toNatClampNeg b) I a) (H1 := H1) (by
    rw [h1']
    show H1[(xE X).1.size + a]? = some (vp_cell _ _)
    rw [e, vp_cell_q, vp_cell_q, arrV_store]
    congr 2
    funext q
    by_cases hq : q = i.toNatClampNeg
    · subst hq
      simp [updV, rowE, sr, va_rf]
    · simp [updV, rowE, sr, hq]) oq
  rw [ws_updS (S' := sr S a i.toNatClampNeg b) ha rfl rfl (fun j hj => by funext q; exact if_neg (by omega)) rfl] at p1
  exact K H1 _ lsa ⟨p1, z.trans r.2.1, fun q hq => (oq q (Nat.ne_of_lt (Nat.lt_of_lt_of_le hq (Nat.le_add_right _ _)))).trans (r.2.2.1 q hq), r.2.2.2⟩ (s.put z oq (show (xE X).1.size ≤ (xE X).1.size + a by omega)) l
theorem s_oinit {a ix d kk nn : Nat} (C : CtxOK X y) (hR : RG X d kk nn) (hd : 1 ≤ d) (w1 : Cond.methodLink y.1.cls ix Lib.objectInit ∈ lw_good) (w2 : Cond.instanceMethod Lib.objectInit ∈ lw_good) (w3 : Cond.code Lib.objectInit ⟨#[0xb1]⟩ 1 none ∈ lw_good) (dd : decode y.2.1 pc = .ok (.invokespecial ix, 3)) (hcat : (st.map fun v => v.category).sum ≤ 8)
    (K : WM X y (pc + 3) ls st S I k n) : WM X y pc ls (rfX X a :: st) S I k n := by
  intro H locs lsa r s l
  have hts := C.2.2.2.2.1
  refine W.objInit C.1 C.2.1 C.2.2.2.1 (hts _ w1) (hts _ w2) (hts _ w3) rfl (by show lsa.size = _; rw [C.2.2.1]; exact l.1) rfl dd (Nat.le_trans hd hR.1) ?_ (K H locs lsa r s l)
  have := hR.2.1
  show 2 * 0 + _ + 12 ≤ _
  omega
theorem s_cI {np ix a d d' kk nn mc ms : Nat} {yc : Yd} {as st0 : List Value} {S1 : Sx} (C : CtxOK X y) (hR : RG X d kk nn) (hd : d' + 1 ≤ d) (hnm : yc.1.name = "<init>") (hret : yc.2.2.2 = none) (h1 : Cond.instanceMethod yc.1 ∈ lw_good) (h3 : Cond.initialized yc.1.cls ∈ lw_good) (h4 : Cond.code yc.1 yc.2.1 yc.2.2.1 yc.2.2.2 ∈ lw_good) (h5 : yc.1.cls ≠ "java/lang/invoke/MethodHandle" ∧ yc.1.cls ≠ "java/lang/invoke/VarHandle" ∧ (parseMethodDescriptor yc.1.desc).map (fun d => d.parameters.length) = some np) (h6 : yc.2.2.1 ≤ 22)
    (hl : Cond.methodLink y.1.cls ix yc.1 ∈ lw_good ∨ ∃ host, Cond.methodLinkNest y.1.cls ix yc.1 host ∈ lw_nest) (dd : decode y.2.1 pc = .ok (.invokespecial ix, 3))
    (hS : SemM (xE X) d' mc ms yc (rfX X a :: as) S I none S1 I1) (hlen : as.length = np) (hst : st0 = as.reverse ++ rfX X a :: st) (hcat : (st.map fun v => v.category).sum ≤ 8) (hc : k + mc ≤ kk) (hn : n + ms ≤ nn)
    (K : WM X y (pc + 3) ls st S1 I1 (k + mc) (n + ms)) : WM X y pc ls st0 S I k n := by
  intro H locs lsa rp s l
  obtain ⟨g1, g2, g3, g4⟩ := hR
  have hts := C.2.2.2.2.1
  have hpre : PreS (xs X) H (va_Pc (rfX X a :: as) (fun U => RepU (xE X) S I U)) (rfX X a :: as) := ⟨blind, fun U hU hW => ⟨rfl, And.intro (show RepH (xE X) S I U.heap from hU ▸ rp) (And.intro (va_K.moved hW.alike C.2.2.2.2.2.1) (NW.warm hW C.2.2.2.2.2.2.2.2.2.2))⟩⟩
  have hrm : (rmD d' mc ms).frames + 1 ≤ (xR X).frames ∧ 8 + (yc.2.2.1 + 11) + (rmD d' mc ms).locals ≤ (xR X).locals := ⟨Nat.le_trans hd g1, Nat.le_trans (show 8 + (yc.2.2.1 + 11) + 41 * d' ≤ 41 * d by omega) g2⟩
  have hM := hS (xl X)
  rcases hl with hl | ⟨host, hl⟩
  · have cb : CallB (xR X) (xs X) (xa X) y.1.cls ix yc.1 yc.2.1 yc.2.2.1 none (GW yc) (rmD d' mc ms) mc ms np := by
      have := callB_of (R := xR X) np hts (gwG h4) rfl rfl rfl (hts _ h3) (hts _ hl) h5 hrm
      rw [hret] at this
      exact this
    have hrun := va_runI (e := xe X) (g := F0 (xm X) pc lsa st0) (locs := locs) (cells := k) (slots := n) (rest := st) (below := xb X) (meth := xM X) ⟨C.1, C.2.1, C.2.2.1, C.2.2.2.1, hts⟩ hM ⟨cb, hnm, hts _ h1⟩ hpre rfl hlen l.1 hst (lv_room hcat) dd ⟨Nat.le_trans hc g3, Nat.le_trans hn g4⟩
    exact s_back C s l hrun K
  · have cb : va_CN (xR X) (xs X) (xa X) y.1.cls ix yc.1 host yc.2.1 yc.2.2.1 none (GW yc) (rmD d' mc ms) mc ms np := by
      have := va_cnB (R := xR X) (own := y.1.cls) (host := host) (index := ix) np hts (gwG h4) rfl rfl rfl (C.2.2.2.2.2.2.2.2.2.2.1 _ hl) (hts _ h3) h5 hrm
      rw [hret] at this
      exact this
    have hrun := va_runIN (e := xe X) (g := F0 (xm X) pc lsa st0) (locs := locs) (cells := k) (slots := n) (rest := st) (below := xb X) (meth := xM X) ⟨C.1, C.2.1, C.2.2.1, C.2.2.2.1, hts⟩ hM ⟨cb, hnm, hts _ h1⟩ hpre rfl hlen l.1 hst (lv_room hcat) dd ⟨Nat.le_trans hc g3, Nat.le_trans hn g4⟩
    exact s_back C s l hrun K
end RLA
