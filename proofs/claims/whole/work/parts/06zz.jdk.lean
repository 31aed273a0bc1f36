/-! ===== the JDK's own methods that the reference calls: Float.floatToIntBits, String.indexOf of the constant text ===== -/
/-- as Met.ofW; the method has no row among the natives, though its class may -/
theorem met_ofWF {l : Launch} {y : MethodName} {ws ws' : List Cond} {rm : Room} {Pc : Array Value → State → Prop} {Qc : Array Value → State → Outcome → State → Prop} {mc ms : Nat} {free : Addr → Prop} {cc : ByteArray} {maxL : Nat} {ret : Option FieldType}
    (hy : plainFor y = true) (hw : ws = Cond.code y cc maxL ret :: ws')
    (body : ∀ p e s m args below meth c s₁, BodyLoose p l y (headSpec ws rm) cc maxL ret e s m args below meth c s₁ → c.maxLocals = maxL → Pc args s →
      W p l e (headSpec ws rm).room s m args below meth c s.heap [] 0 0 (MQ below Qc args s mc ms free) (entryFrame m args maxL)) : Met l y ws rm Pc Qc mc ms free := by
  refine MetFree.of_bodySF (code := cc) (maxLocals := maxL) (ret := ret) hy ?_ ?_
  · intro args s m h hn
    obtain ⟨meth, c, h1, h2, h3, h4, h5, h6, -, -⟩ := Cond.code_spec hn (atoms_spec (ws := ws) h _ (by rw [hw]; exact List.mem_cons_self))
    exact ⟨meth, c, h1, h2, h3, h4, h5, h6⟩
  · intro p e s m args below meth c s₁ B hml hP _
    have hh0 : s₁.heap = s.heap := by rw [B.state]; rfl
    obtain ⟨t, a1, o, b1, b2, b3⟩ := body p e s m args below meth c s₁ B hml hP s₁ hh0 (Stand.of_body B)
    exact ⟨t, o, a1, b1, b2, ⟨b3.1, b3.2⟩⟩
theorem semM_ofF {E : Ev} {d k n : Nat} {y : Yd} {args : List Value} {S S' : Sx} {I I' : Mm} {r : Option Value} {ls : List (Option Value)} (hy : plainFor y.1 = true) (hsl : (lg_sl args).length ≤ y.2.2.1) (hls : lv_args 0 args = al 0 ls)
    (body : ∀ X : Cx, CtxOK X y → MX X E d k n r S' I' → WM X y 0 ls [] S I 0 0) : SemM E d k n y args S I r S' I' := by
  intro l
  refine met_ofWF (cc := y.2.1) (maxL := y.2.2.1) (ret := y.2.2.2) (ws' := lw_good) hy rfl ?_
  intro p e s m as below meth c s₁ B hml hv
  obtain ⟨rfl, hR, hK, hN⟩ := hv
  have hts := atoms_spec (ws := GW y) B.pre
  have hnm := name_of_methodNamed B.named B.method
  have hown : s.vm.findClass y.1.cls = some m.cls := findClass_of_methodNamed B.named
  have hbase : E.1.size ≤ s.heap.size := by rw [hR.2.1]; omega
  have hb := body (p, l, e, (headSpec (GW y) (rmD d k n)).room, s, m, args.toArray, below, meth, c, MQ below (QcR E r S' I') args.toArray s k n (Fr E), E)
    ⟨B.exec, B.bytes, hml, hown, fun w hw => hts w (List.mem_cons_of_mem _ hw), hK, B.returns, B.notSynchronized, fun h => hnm.1.trans h, hbase, hN⟩ ⟨rfl, rfl, rfl⟩
  have hl := lv_entry args (n := y.2.2.1) hsl
  rw [lg_entry_eq]
  generalize (lg_sl args ++ List.replicate (y.2.2.1 - (lg_sl args).length) Slot.unset).toArray = lsa at hl ⊢
  rw [hls] at hl
  exact hb s.heap [] lsa hR va_S.rf hl
theorem semM_ofXF {E : Ev} {d k n : Nat} {y : Yd} {args : Ev → List Value} {S S' : Sx} {I I' : Mm} {r : Ev → Option Value} (ls : Ev → List (Option Value)) (hy : plainFor y.1 = true) (hsl : (lg_sl (args E)).length ≤ y.2.2.1) (hls : lv_args 0 (args E) = al 0 (ls E))
    (body : ∀ X : Cx, CtxOK X y → MX X (xE X) d k n (r (xE X)) S' I' → WM X y 0 (ls (xE X)) [] S I 0 0) : SemM E d k n y (args E) S I (r E) S' I' :=
  semM_ofF hy hsl hls (fun X C M => by
    obtain ⟨h1, h2, h3⟩ := M
    subst h1
    exact body X C ⟨rfl, h2, h3⟩)
theorem mwFn : MthS mJxf58ca_isNaN_12338 1 := ⟨gw_mem 965 (by decide +kernel) (by decide +kernel), gw_mem 79 (by decide +kernel) (by decide +kernel), gw_mem 966 (by decide +kernel) (by decide +kernel), ⟨by decide +kernel, by decide +kernel, by decide +kernel⟩, by decide⟩
theorem mwFb : MthS mJxf58ca_floatToIntBits_5c35a 1 := ⟨gw_mem 962 (by decide +kernel) (by decide +kernel), gw_mem 79 (by decide +kernel) (by decide +kernel), gw_mem 963 (by decide +kernel) (by decide +kernel), ⟨by decide +kernel, by decide +kernel, by decide +kernel⟩, by decide⟩
theorem wFn {E : Ev} {d : Nat} {b : UInt32} {I : Mm} : SemM E d 0 0 mJxf58ca_isNaN_12338 [.float b] S0 I (some (.int (if Op.cmpValue (FP.fcmp b b) .l = 0 then 0 else 1))) S0 I := by
  refine semM_ofXF (E := E) (y := mJxf58ca_isNaN_12338) (args := fun E => [.float b]) (r := fun E => (some (.int (if Op.cmpValue (FP.fcmp b b) .l = 0 then 0 else 1)))) (fun E => [some (.float b)]) (by decide +kernel) (Nat.le_of_ble_eq_true rfl) rfl (fun X C M => ?_)
  refine s_fload_n C dJxf58ca_isNaN_12338_0 rfl rfl ?_
  refine s_fload_n C dJxf58ca_isNaN_12338_1 rfl rfl ?_
  refine s_fcmp C dJxf58ca_isNaN_12338_2 ?_
  refine s_if_eq (tgt := 10) C dJxf58ca_isNaN_12338_3 (by decide) (fun c => ?_) (fun c => ?_)
  · refine s_iconst C dJxf58ca_isNaN_12338_10 ic_0 ?_
    refine s_top_i (show (if Op.cmpValue (FP.fcmp b b) .l = 0 then (0 : Int32) else 1) = 0 from if_pos c) ?_
    exact s_iret C M dJxf58ca_isNaN_12338_11 rfl (nz_b (by split <;> simp)) (Nat.le_refl 0) (Nat.le_refl 0)
  · refine s_iconst C dJxf58ca_isNaN_12338_6 ic_1 ?_
    refine s_goto (tgt := 11) C dJxf58ca_isNaN_12338_7 (by decide) ?_
    refine s_top_i (show (if Op.cmpValue (FP.fcmp b b) .l = 0 then (0 : Int32) else 1) = 1 from if_neg c) ?_
    exact s_iret C M dJxf58ca_isNaN_12338_11 rfl (nz_b (by split <;> simp)) (Nat.le_refl 0) (Nat.le_refl 0)
theorem wFb {E : Ev} {d : Nat} (hd : 2 ≤ d) {b : UInt32} {I : Mm} : SemM E d 0 0 mJxf58ca_floatToIntBits_5c35a [.float b] S0 I (some (.int (fbI b))) S0 I := by
  refine semM_ofXF (E := E) (y := mJxf58ca_floatToIntBits_5c35a) (args := fun E => [.float b]) (r := fun E => (some (.int (fbI b)))) (fun E => [some (.float b)]) (by decide +kernel) (Nat.le_of_ble_eq_true rfl) rfl (fun X C M => ?_)
  refine s_fload_n C dJxf58ca_floatToIntBits_5c35a_0 rfl rfl ?_
  refine s_cS0 (st := []) C M.rg (Nat.le_trans (by decide) hd) mwFn mlJxf58ca_59 dJxf58ca_floatToIntBits_5c35a_1 (wFn (d := 1)) rfl rfl (Nat.le_of_ble_eq_true rfl) ?_
  refine s_if_ne (tgt := 12) C dJxf58ca_floatToIntBits_5c35a_4 (by decide) (fun c => ?_) (fun c => ?_)
  · have q : ¬ Op.cmpValue (FP.fcmp b b) .l = 0 := fun e => c (if_pos e)
    refine s_ldc C dJxf58ca_floatToIntBits_5c35a_12 coJxf58ca_77 ?_
    refine s_top_i (show fbI b = 2143289344 from if_neg q) ?_
    exact s_iret C M dJxf58ca_floatToIntBits_5c35a_14 rfl rfl (Nat.le_refl 0) (Nat.le_refl 0)
  · have q : Op.cmpValue (FP.fcmp b b) .l = 0 := by
      by_cases z : Op.cmpValue (FP.fcmp b b) .l = 0
      · exact z
      · rw [if_neg z] at c; exact absurd c (by decide)
    refine s_fload_n C dJxf58ca_floatToIntBits_5c35a_7 rfl rfl ?_
    refine s_f2raw C M.rg (Nat.le_trans (by decide) hd) mlJxf58ca_74 dJxf58ca_floatToIntBits_5c35a_8 (Nat.le_of_ble_eq_true rfl) ?_
    refine s_top_i (show fbI b = b.toInt32 from if_pos q) ?_
    exact s_iret C M dJxf58ca_floatToIntBits_5c35a_11 rfl rfl (Nat.le_refl 0) (Nat.le_refl 0)
/-! the constant text -/
abbrev adS (E : Ev) : Nat := E.2.2.2.2.2.2.1 0
abbrev adB (E : Ev) : Nat := E.2.2.2.2.2.2.2 0
section STX
variable {X : Cx} {y : Yd} {pc : Nat} {ls ls' : List (Option Value)} {st : List Value} {S : Sx} {I I1 : Mm} {k n : Nat}
theorem str_at {H : Heap} {locs : List Loc} (C : CtxOK X y) (r : RepH (xE X) S I H) (s : va_S (Fr (xE X)) (xs X).heap H locs) : vk_S 1 [5] [[43, 45, 61, 62, 37]] (xE X).2.2.2.2.2.2.1 (xE X).2.2.2.2.2.2.2 (Fr (xE X)) (xs X) (xs X).heap ∧ va_Z "java/lang/String" "COMPACT_STRINGS" "Z" (.int 1) (Fr (xE X)) (xs X) (xs X).heap := by
  have q := C.2.2.2.2.2.2.2.2.2.2
  have hz := C.2.2.2.2.2.2.2.2.2.1
  have hq : ∀ a : Nat, a < (xE X).1.size → ¬ Fr (xE X) a → (xs X).heap[a]? = (xE X).1[a]? := fun a ha hf => (s.2.1 a (Nat.lt_of_lt_of_le ha hz) hf).symm.trans (r.2.2.1 a ha)
  exact ⟨q.2.2.2.2.1.kept hq, q.2.2.2.2.2.1.kept hq⟩
theorem s_strF {ix : Nat} {nm ds : String} {v : Value} (C : CtxOK X y) (d : decode y.2.1 pc = .ok (.getfield ix, 3)) (hl : Cond.fieldLink y.1.cls ix "java/lang/String" nm ds ∈ lw_good)
    (hv : ∀ (s : State), vk_S 1 [5] [[43, 45, 61, 62, 37]] (xE X).2.2.2.2.2.2.1 (xE X).2.2.2.2.2.2.2 (Fr (xE X)) s s.heap → va_OF "java/lang/String" nm ds v (adS (xE X)) (Fr (xE X)) s s.heap)
    (K : WM X y (pc + 3) ls (v :: st) S I k n) : WM X y pc ls (.ref (adS (xE X)) :: st) S I k n := fun H locs lsa r s l =>
  vk_getf C.1 C.2.1 (hv (xs X) (str_at C r s).1) s C.2.2.2.1 (C.2.2.2.2.1 _ hl) (fun _ h => h) d (K H locs lsa r s l)
theorem s_strC {ix : Nat} (C : CtxOK X y) (d : decode y.2.1 pc = .ok (.getfield ix, 3)) (hl : Cond.fieldLink y.1.cls ix "java/lang/String" "coder" "B" ∈ lw_good)
    (K : WM X y (pc + 3) ls (.int 0 :: st) S I k n) : WM X y pc ls (.ref (adS (xE X)) :: st) S I k n := s_strF C d hl (fun _ q => (q.1 0 (by decide)).2.1) K
theorem s_strV {ix : Nat} (C : CtxOK X y) (d : decode y.2.1 pc = .ok (.getfield ix, 3)) (hl : Cond.fieldLink y.1.cls ix "java/lang/String" "value" "[B" ∈ lw_good)
    (K : WM X y (pc + 3) ls (.ref (adB (xE X)) :: st) S I k n) : WM X y pc ls (.ref (adS (xE X)) :: st) S I k n := s_strF C d hl (fun _ q => (q.1 0 (by decide)).2.2.1) K
theorem s_cmpS {ix : Nat} (C : CtxOK X y) (d : decode y.2.1 pc = .ok (.getstatic ix, 3)) (hl : Cond.fieldLink y.1.cls ix "java/lang/String" "COMPACT_STRINGS" "Z" ∈ lw_good)
    (K : WM X y (pc + 3) ls (.int 1 :: st) S I k n) : WM X y pc ls st S I k n := fun H locs lsa r s l =>
  va_gets C.1 C.2.1 (str_at C r s).2 s C.2.2.2.1 (C.2.2.2.2.1 _ hl) (fun _ h => h) d (K H locs lsa r s l)
theorem s_blen (C : CtxOK X y) (d : decode y.2.1 pc = .ok (.arraylength, 1)) (K : WM X y (pc + 1) ls (.int 5 :: st) S I k n) : WM X y pc ls (.ref (adB (xE X)) :: st) S I k n := fun H locs lsa r s l =>
  va_tlen C.1 C.2.1 ((str_at C r s).1.1 0 (by decide)).2.2.2 s (v := 5) rfl d (K H locs lsa r s l)
def byt (j : Nat) : Int32 := ([43, 45, 61, 62, 37] : List Int32).getD j 0
theorem s_bld {i : Int32} {j : Nat} (hj : i.toNatClampNeg = j) (hin : ¬ (i < 0 ∨ 5 ≤ i.toNatClampNeg)) (C : CtxOK X y) (d : decode y.2.1 pc = .ok (.baload, 1)) (K : WM X y (pc + 1) ls (.int (byt j) :: st) S I k n) : WM X y pc ls (.int i :: .ref (adB (xE X)) :: st) S I k n := fun H locs lsa r s l =>
  va_tb C.1 C.2.1 ((str_at C r s).1.1 0 (by decide)).2.2.2 s (i := i) hin (v := .int (byt j)) (by rw [hj]; rfl) d (K H locs lsa r s l)
theorem s_i2b {a : Int32} (C : CtxOK X y) (d : decode y.2.1 pc = .ok (.i2b, 1)) (K : WM X y (pc + 1) ls (.int a.toInt8.toInt32 :: st) S I k n) : WM X y pc ls (.int a :: st) S I k n := fun H locs lsa r s l =>
  lv_i2b C.1 C.2.1 d rfl (K H locs lsa r s l)
theorem s_ishr {a b : Int32} (C : CtxOK X y) (d : decode y.2.1 pc = .ok (.ishr, 1)) (K : WM X y (pc + 1) ls (.int (a >>> (b &&& 31)) :: st) S I k n) : WM X y pc ls (.int b :: .int a :: st) S I k n := fun H locs lsa r s l =>
  lv_ishr C.1 C.2.1 d (K H locs lsa r s l)
def MthT (y : Yd) (np : Nat) : Prop := Cond.instanceMethod y.1 ∈ lw_good ∧ Cond.selects y.1.cls y.1 y.1 ∈ lw_good ∧ Cond.initialized y.1.cls ∈ lw_good ∧ Cond.code y.1 y.2.1 y.2.2.1 y.2.2.2 ∈ lw_good ∧ (y.1.cls ≠ "java/lang/invoke/MethodHandle" ∧ y.1.cls ≠ "java/lang/invoke/VarHandle" ∧ (parseMethodDescriptor y.1.desc).map (fun d => d.parameters.length) = some np) ∧ y.2.2.1 ≤ 22 ∧ y.1.cls = "java/lang/String"
theorem s_cT {np ix d d' : Nat} {yc : Yd} {as st0 : List Value} {r : Option Value} (C : CtxOK X y) (hR : RG X d k n) (hd : d' + 1 ≤ d) (hw : MthT yc np) (hl : Cond.methodLink y.1.cls ix yc.1 ∈ lw_good) (dd : decode y.2.1 pc = .ok (.invokevirtual ix, 3))
    (hS : SemM (xE X) d' 0 0 yc (.ref (adS (xE X)) :: as) S0 I r S0 I1) (hlen : as.length = np) (hst : st0 = as.reverse ++ .ref (adS (xE X)) :: st) (hcat : (st.map fun v => v.category).sum ≤ 8)
    (K : WM X y (pc + 3) ls (r.toList ++ st) S0 I1 k n) : WM X y pc ls st0 S0 I k n := by
  intro H locs lsa rp s l
  obtain ⟨h1, h2, h3, h4, h5, h6, h7⟩ := hw
  obtain ⟨g1, g2, g3, g4⟩ := hR
  have hts := C.2.2.2.2.1
  have cb : CallB (xR X) (xs X) (xa X) y.1.cls ix yc.1 yc.2.1 yc.2.2.1 yc.2.2.2 (GW yc) (rmD d' 0 0) 0 0 np :=
    callB_of np hts (gwG h4) rfl rfl rfl (hts _ h3) (hts _ hl) h5 ⟨Nat.le_trans hd g1, Nat.le_trans (show 8 + (yc.2.2.1 + 11) + 41 * d' ≤ 41 * d by omega) g2⟩
  have hrun := va_runV (e := xe X) (g := F0 (xm X) pc lsa st0) (locs := locs) (cells := k) (slots := n) (rest := st) (below := xb X) (meth := xM X) ⟨C.1, C.2.1, C.2.2.1, C.2.2.2.1, hts⟩ (hS (xl X)) ⟨cb, hts _ h1, hts _ h2⟩
    ⟨blind, (by rw [h7]; exact vk_recv (str_at C rp s).1 (by decide) s), fun U hU hW => ⟨rfl, And.intro (show RepH (xE X) S0 I U.heap from hU ▸ rp) (And.intro (va_K.moved hW.alike C.2.2.2.2.2.1) (NW.warm hW C.2.2.2.2.2.2.2.2.2.2))⟩⟩ rfl hlen l.1 hst (lv_room hcat) dd ⟨g3, g4⟩
  exact s_back C s l hrun K
end STX
theorem fl_9 : Cond.fieldLink RJ0 9 "java/lang/String" "value" "[B" ∈ lw_good := gw_mem 1160 (by decide +kernel) (by decide +kernel)
theorem fl_15 : Cond.fieldLink RJ0 15 "java/lang/String" "coder" "B" ∈ lw_good := gw_mem 1159 (by decide +kernel) (by decide +kernel)
theorem fl_38 : Cond.fieldLink RJ0 38 "java/lang/String" "COMPACT_STRINGS" "Z" ∈ lw_good := gw_mem 1015 (by decide +kernel) (by decide +kernel)
theorem mt_ix1 : MthT mJ0_indexOf_0f7a4 1 := ⟨gw_mem 1004 (by decide +kernel) (by decide +kernel), gw_mem 1005 (by decide +kernel) (by decide +kernel), gw_mem 81 (by decide +kernel) (by decide +kernel), gw_mem 1006 (by decide +kernel) (by decide +kernel), ⟨by decide +kernel, by decide +kernel, by decide +kernel⟩, by decide, rfl⟩
theorem mt_ix2 : MthT mJ0_indexOf_7cf53 2 := ⟨gw_mem 1008 (by decide +kernel) (by decide +kernel), gw_mem 1009 (by decide +kernel) (by decide +kernel), gw_mem 81 (by decide +kernel) (by decide +kernel), gw_mem 1010 (by decide +kernel) (by decide +kernel), ⟨by decide +kernel, by decide +kernel, by decide +kernel⟩, by decide, rfl⟩
theorem mt_lat : MthT mJ0_isLatin1_aae02 0 := ⟨gw_mem 1012 (by decide +kernel) (by decide +kernel), gw_mem 1013 (by decide +kernel) (by decide +kernel), gw_mem 81 (by decide +kernel) (by decide +kernel), gw_mem 1014 (by decide +kernel) (by decide +kernel), ⟨by decide +kernel, by decide +kernel, by decide +kernel⟩, by decide, rfl⟩
theorem mt_len : MthT mJ0_length_8abf5 0 := ⟨gw_mem 1018 (by decide +kernel) (by decide +kernel), gw_mem 1019 (by decide +kernel) (by decide +kernel), gw_mem 81 (by decide +kernel) (by decide +kernel), gw_mem 1020 (by decide +kernel) (by decide +kernel), ⟨by decide +kernel, by decide +kernel, by decide +kernel⟩, by decide, rfl⟩
theorem mt_cod : MthT mJ0_coder_7d493 0 := ⟨gw_mem 1022 (by decide +kernel) (by decide +kernel), gw_mem 1023 (by decide +kernel) (by decide +kernel), gw_mem 81 (by decide +kernel) (by decide +kernel), gw_mem 1024 (by decide +kernel) (by decide +kernel), ⟨by decide +kernel, by decide +kernel, by decide +kernel⟩, by decide, rfl⟩
theorem ms_ix : MthS mJ1_indexOf_4cfef 4 := ⟨gw_mem 1026 (by decide +kernel) (by decide +kernel), gw_mem 82 (by decide +kernel) (by decide +kernel), gw_mem 1027 (by decide +kernel) (by decide +kernel), ⟨by decide +kernel, by decide +kernel, by decide +kernel⟩, by decide⟩
theorem ms_can : MthS mJ1_canEncode_9a6ad 1 := ⟨gw_mem 1029 (by decide +kernel) (by decide +kernel), gw_mem 82 (by decide +kernel) (by decide +kernel), gw_mem 1030 (by decide +kernel) (by decide +kernel), ⟨by decide +kernel, by decide +kernel, by decide +kernel⟩, by decide⟩
theorem ms_chr : MthS mJ1_indexOfChar_4cfef 4 := ⟨gw_mem 1034 (by decide +kernel) (by decide +kernel), gw_mem 82 (by decide +kernel) (by decide +kernel), gw_mem 1035 (by decide +kernel) (by decide +kernel), ⟨by decide +kernel, by decide +kernel, by decide +kernel⟩, by decide⟩
theorem si_255 : (Int16.ofInt 255).toInt32 = 255 := by decide +kernel
theorem wT_lat {E : Ev} {d : Nat} {I : Mm} : SemM E d 0 0 mJ0_isLatin1_aae02 [.ref (adS E)] S0 I (some (.int 1)) S0 I := by
  refine SemM.ofX (E := E) (y := mJ0_isLatin1_aae02) (args := fun E => [.ref (adS E)]) (r := fun E => (some (.int 1))) (fun E => [some (.ref (adS E))]) (by decide +kernel) (Nat.le_of_ble_eq_true rfl) rfl (fun X C M => ?_)
  refine s_cmpS C dJ0_isLatin1_aae02_0 fl_38 ?_
  refine s_if_eq (tgt := 17) C dJ0_isLatin1_aae02_3 (by decide) (fun c => absurd c (by decide)) (fun _ => ?_)
  refine s_aload_n C dJ0_isLatin1_aae02_6 rfl rfl ?_
  refine s_strC C dJ0_isLatin1_aae02_7 fl_15 ?_
  refine s_if_ne (tgt := 17) C dJ0_isLatin1_aae02_10 (by decide) (fun c => absurd rfl c) (fun _ => ?_)
  refine s_iconst C dJ0_isLatin1_aae02_13 ic_1 ?_
  refine s_goto (tgt := 18) C dJ0_isLatin1_aae02_14 (by decide) ?_
  exact s_iret C M dJ0_isLatin1_aae02_18 rfl (nz_b (by decide)) (Nat.le_refl 0) (Nat.le_refl 0)
theorem wT_cod {E : Ev} {d : Nat} {I : Mm} : SemM E d 0 0 mJ0_coder_7d493 [.ref (adS E)] S0 I (some (.int 0)) S0 I := by
  refine SemM.ofX (E := E) (y := mJ0_coder_7d493) (args := fun E => [.ref (adS E)]) (r := fun E => (some (.int 0))) (fun E => [some (.ref (adS E))]) (by decide +kernel) (Nat.le_of_ble_eq_true rfl) rfl (fun X C M => ?_)
  refine s_cmpS C dJ0_coder_7d493_0 fl_38 ?_
  refine s_if_eq (tgt := 13) C dJ0_coder_7d493_3 (by decide) (fun c => absurd c (by decide)) (fun _ => ?_)
  refine s_aload_n C dJ0_coder_7d493_6 rfl rfl ?_
  refine s_strC C dJ0_coder_7d493_7 fl_15 ?_
  refine s_goto (tgt := 14) C dJ0_coder_7d493_10 (by decide) ?_
  exact s_iret C M dJ0_coder_7d493_14 rfl rfl (Nat.le_refl 0) (Nat.le_refl 0)
theorem wT_len {E : Ev} {d : Nat} (hd : 2 ≤ d) {I : Mm} : SemM E d 0 0 mJ0_length_8abf5 [.ref (adS E)] S0 I (some (.int 5)) S0 I := by
  refine SemM.ofX (E := E) (y := mJ0_length_8abf5) (args := fun E => [.ref (adS E)]) (r := fun E => (some (.int 5))) (fun E => [some (.ref (adS E))]) (by decide +kernel) (Nat.le_of_ble_eq_true rfl) rfl (fun X C M => ?_)
  refine s_aload_n C dJ0_length_8abf5_0 rfl rfl ?_
  refine s_strV C dJ0_length_8abf5_1 fl_9 ?_
  refine s_blen C dJ0_length_8abf5_4 ?_
  refine s_aload_n C dJ0_length_8abf5_5 rfl rfl ?_
  refine s_cT (st := [.int 5]) C M.rg (Nat.le_trans (by decide) hd) mt_cod mlJ0_335 dJ0_length_8abf5_6 (wT_cod (d := 1)) rfl rfl (Nat.le_of_ble_eq_true rfl) ?_
  refine s_ishr C dJ0_length_8abf5_9 ?_
  exact s_iret C M dJ0_length_8abf5_10 rfl rfl (Nat.le_refl 0) (Nat.le_refl 0)
theorem wT_can {E : Ev} {d : Nat} {a : Int32} {I : Mm} : SemM E d 0 0 mJ1_canEncode_9a6ad [.int a] S0 I (some (.int (if a < 0 ∨ 255 < a then 0 else 1))) S0 I := by
  refine SemM.ofX (E := E) (y := mJ1_canEncode_9a6ad) (args := fun E => [.int a]) (r := fun E => (some (.int (if a < 0 ∨ 255 < a then 0 else 1)))) (fun E => [some (.int a)]) (by decide +kernel) (Nat.le_of_ble_eq_true rfl) rfl (fun X C M => ?_)
  refine s_iload_n C dJ1_canEncode_9a6ad_0 rfl rfl ?_
  refine s_if_lt (tgt := 15) C dJ1_canEncode_9a6ad_1 (by decide) (fun c => ?_) (fun c => ?_)
  · refine s_iconst C dJ1_canEncode_9a6ad_15 ic_0 ?_
    refine s_top_i (show (if a < 0 ∨ 255 < a then (0 : Int32) else 1) = 0 from if_pos (Or.inl c)) ?_
    exact s_iret C M dJ1_canEncode_9a6ad_16 rfl (nz_b (by split <;> simp)) (Nat.le_refl 0) (Nat.le_refl 0)
  · refine s_iload_n C dJ1_canEncode_9a6ad_4 rfl rfl ?_
    refine s_sipush C dJ1_canEncode_9a6ad_5 si_255 ?_
    refine s_icmp_gt (tgt := 15) C dJ1_canEncode_9a6ad_8 (by decide) (fun c2 => ?_) (fun c2 => ?_)
    · refine s_iconst C dJ1_canEncode_9a6ad_15 ic_0 ?_
      refine s_top_i (show (if a < 0 ∨ 255 < a then (0 : Int32) else 1) = 0 from if_pos (Or.inr c2)) ?_
      exact s_iret C M dJ1_canEncode_9a6ad_16 rfl (nz_b (by split <;> simp)) (Nat.le_refl 0) (Nat.le_refl 0)
    · refine s_iconst C dJ1_canEncode_9a6ad_11 ic_1 ?_
      refine s_goto (tgt := 16) C dJ1_canEncode_9a6ad_12 (by decide) ?_
      refine s_top_i (show (if a < 0 ∨ 255 < a then (0 : Int32) else 1) = 1 from if_neg (fun h => h.elim c c2)) ?_
      exact s_iret C M dJ1_canEncode_9a6ad_16 rfl (nz_b (by split <;> simp)) (Nat.le_refl 0) (Nat.le_refl 0)
/-- where a byte stands -/
def ixB (c : Int32) : Int32 := if 43 = c then 0 else if 45 = c then 1 else if 61 = c then 2 else if 62 = c then 3 else if 37 = c then 4 else -1
theorem chr_loop {X : Cx} {a b : Int32} {I : Mm} (C : CtxOK X mJ1_indexOfChar_4cfef) (M : MX X (xE X) 1 0 0 (some (.int b)) S0 I) {i v : Int32} {j : Nat} (hj : i.toNatClampNeg = j) (hin : ¬ (i < 0 ∨ 5 ≤ i.toNatClampNeg)) (h5 : ¬ 5 ≤ i) (hv : i + Int32.ofInt 1 = v) (hb : byt j = a.toInt8.toInt32 → b = i)
    (K : byt j ≠ a.toInt8.toInt32 → WM X mJ1_indexOfChar_4cfef 7 [some (.ref (adB (xE X))), some (.int a), some (.int 0), some (.int 5), some (.int a.toInt8.toInt32), some (.int v)] [] S0 I 0 0) :
    WM X mJ1_indexOfChar_4cfef 7 [some (.ref (adB (xE X))), some (.int a), some (.int 0), some (.int 5), some (.int a.toInt8.toInt32), some (.int i)] [] S0 I 0 0 := by
  refine s_iload C dJ1_indexOfChar_4cfef_7 rfl ?_
  refine s_iload_n C dJ1_indexOfChar_4cfef_9 rfl rfl ?_
  refine s_icmp_ge (tgt := 31) C dJ1_indexOfChar_4cfef_10 (by decide) (fun c => absurd c h5) (fun _ => ?_)
  refine s_aload_n C dJ1_indexOfChar_4cfef_13 rfl rfl ?_
  refine s_iload C dJ1_indexOfChar_4cfef_14 rfl ?_
  refine s_bld hj hin C dJ1_indexOfChar_4cfef_16 ?_
  refine s_iload C dJ1_indexOfChar_4cfef_17 rfl ?_
  refine s_icmp_ne (tgt := 25) C dJ1_indexOfChar_4cfef_19 (by decide) (fun c => ?_) (fun c => ?_)
  · refine s_iinc (v := v) (ls' := [some (.ref (adB (xE X))), some (.int a), some (.int 0), some (.int 5), some (.int a.toInt8.toInt32), some (.int v)]) C dJ1_indexOfChar_4cfef_25 rfl (by decide) (Nat.le_of_ble_eq_true rfl) hv rfl rfl ?_
    refine s_goto (tgt := 7) C dJ1_indexOfChar_4cfef_28 (by decide) ?_
    exact K c
  · have e : byt j = a.toInt8.toInt32 := c
    refine s_iload C dJ1_indexOfChar_4cfef_22 rfl ?_
    have := hb e
    subst this
    exact s_iret C M dJ1_indexOfChar_4cfef_24 rfl rfl (Nat.le_refl 0) (Nat.le_refl 0)
theorem wT_chr {E : Ev} {a : Int32} {I : Mm} : SemM E 1 0 0 mJ1_indexOfChar_4cfef [.ref (adB E), .int a, .int 0, .int 5] S0 I (some (.int (ixB a.toInt8.toInt32))) S0 I := by
  refine SemM.ofX (E := E) (y := mJ1_indexOfChar_4cfef) (args := fun E => [.ref (adB E), .int a, .int 0, .int 5]) (r := fun E => (some (.int (ixB a.toInt8.toInt32)))) (fun E => [some (.ref (adB E)), some (.int a), some (.int 0), some (.int 5), none, none]) (by decide +kernel) (Nat.le_of_ble_eq_true rfl) rfl (fun X C M => ?_)
  refine s_iload_n C dJ1_indexOfChar_4cfef_0 rfl rfl ?_
  refine s_i2b C dJ1_indexOfChar_4cfef_1 ?_
  refine s_istore (ls' := [some (.ref (adB (xE X))), some (.int a), some (.int 0), some (.int 5), some (.int a.toInt8.toInt32), none]) C dJ1_indexOfChar_4cfef_2 (by decide) (Nat.le_of_ble_eq_true rfl) rfl rfl ?_
  refine s_iload_n C dJ1_indexOfChar_4cfef_4 rfl rfl ?_
  refine s_istore (ls' := [some (.ref (adB (xE X))), some (.int a), some (.int 0), some (.int 5), some (.int a.toInt8.toInt32), some (.int 0)]) C dJ1_indexOfChar_4cfef_5 (by decide) (Nat.le_of_ble_eq_true rfl) rfl rfl ?_
  refine chr_loop (j := 0) (v := 1) C M rfl (by decide) (by decide) (by decide) (fun e => if_pos e) (fun c0 => ?_)
  refine chr_loop (j := 1) (v := 2) C M rfl (by decide) (by decide) (by decide) (fun e => (if_neg c0).trans (if_pos e)) (fun c1 => ?_)
  refine chr_loop (j := 2) (v := 3) C M rfl (by decide) (by decide) (by decide) (fun e => (if_neg c0).trans ((if_neg c1).trans (if_pos e))) (fun c2 => ?_)
  refine chr_loop (j := 3) (v := 4) C M rfl (by decide) (by decide) (by decide) (fun e => (if_neg c0).trans ((if_neg c1).trans ((if_neg c2).trans (if_pos e)))) (fun c3 => ?_)
  refine chr_loop (j := 4) (v := 5) C M rfl (by decide) (by decide) (by decide) (fun e => (if_neg c0).trans ((if_neg c1).trans ((if_neg c2).trans ((if_neg c3).trans (if_pos e))))) (fun c4 => ?_)
  refine s_iload C dJ1_indexOfChar_4cfef_7 rfl ?_
  refine s_iload_n C dJ1_indexOfChar_4cfef_9 rfl rfl ?_
  refine s_icmp_ge (tgt := 31) C dJ1_indexOfChar_4cfef_10 (by decide) (fun _ => ?_) (fun c => absurd (by decide) c)
  refine s_iconst C dJ1_indexOfChar_4cfef_31 ic_m1 ?_
  refine s_top_i (show ixB a.toInt8.toInt32 = -1 from (if_neg c0).trans ((if_neg c1).trans ((if_neg c2).trans ((if_neg c3).trans (if_neg c4))))) ?_
  exact s_iret C M dJ1_indexOfChar_4cfef_32 rfl rfl (Nat.le_refl 0) (Nat.le_refl 0)
theorem ix_small : ∀ k : Nat, k < 256 → ixB ((Int32.ofNat k).toInt8.toInt32) = idx5 (Int32.ofNat k) := by decide +kernel
theorem ix_all (a : Int32) : (if a < 0 ∨ 255 < a then -1 else ixB a.toInt8.toInt32) = idx5 a := by
  by_cases c : a < 0 ∨ 255 < a
  · rw [if_pos c]
    unfold idx5
    rw [if_neg (fun e => by subst e; revert c; decide), if_neg (fun e => by subst e; revert c; decide), if_neg (fun e => by subst e; revert c; decide), if_neg (fun e => by subst e; revert c; decide), if_neg (fun e => by subst e; revert c; decide)]
  · rw [if_neg c]
    have h1 : 0 ≤ a.toInt := by
      have := Int32.not_lt.mp (fun h => c (Or.inl h))
      simpa using Int32.le_iff_toInt_le.mp this
    have h2 : a.toInt ≤ 255 := by
      have := Int32.not_lt.mp (fun h => c (Or.inr h))
      simpa using Int32.le_iff_toInt_le.mp this
    have e : a = Int32.ofNat a.toInt.toNat := by
      apply Int32.toInt_inj.mp
      rw [Int32.toInt_ofNat_of_lt (by omega)]; omega
    rw [e]
    exact ix_small _ (by omega)
theorem wT_ixL {E : Ev} {d : Nat} (hd : 2 ≤ d) {a : Int32} {I : Mm} : SemM E d 0 0 mJ1_indexOf_4cfef [.ref (adB E), .int a, .int 0, .int 5] S0 I (some (.int (idx5 a))) S0 I := by
  refine SemM.ofX (E := E) (y := mJ1_indexOf_4cfef) (args := fun E => [.ref (adB E), .int a, .int 0, .int 5]) (r := fun E => (some (.int (idx5 a)))) (fun E => [some (.ref (adB E)), some (.int a), some (.int 0), some (.int 5)]) (by decide +kernel) (Nat.le_of_ble_eq_true rfl) rfl (fun X C M => ?_)
  refine s_iload_n C dJ1_indexOf_4cfef_0 rfl rfl ?_
  refine s_cS0 (st := []) C M.rg (Nat.le_trans (by decide) hd) ms_can mlJ1_88 dJ1_indexOf_4cfef_1 (wT_can (d := 1)) rfl rfl (Nat.le_of_ble_eq_true rfl) ?_
  have ia := ix_all a
  refine s_if_ne (tgt := 9) C dJ1_indexOf_4cfef_4 (by decide) (fun c => ?_) (fun c => ?_)
  · have q : ¬ (a < 0 ∨ 255 < a) := fun e => c (if_pos e)
    rw [if_neg q] at ia
    refine s_iload_n C dJ1_indexOf_4cfef_9 rfl rfl ?_
    refine s_iconst C dJ1_indexOf_4cfef_10 ic_0 ?_
    refine s_max C M.rg (Nat.le_trans (by decide) hd) (gw_mem 1031 (by decide +kernel) (by decide +kernel)) dJ1_indexOf_4cfef_11 w_max_s w_math_i w_max_c (Nat.le_of_ble_eq_true rfl) (Nat.le_refl 0) (Nat.le_refl 0) ?_
    refine s_istore_n (ls' := [some (.ref (adB (xE X))), some (.int a), some (.int 0), some (.int 5)]) C dJ1_indexOf_4cfef_14 rfl (by decide) (Nat.le_of_ble_eq_true rfl) rfl rfl ?_
    refine s_iload_n C dJ1_indexOf_4cfef_15 rfl rfl ?_
    refine s_aload_n C dJ1_indexOf_4cfef_16 rfl rfl ?_
    refine s_blen C dJ1_indexOf_4cfef_17 ?_
    refine s_min C M.rg (Nat.le_trans (by decide) hd) (gw_mem 1032 (by decide +kernel) (by decide +kernel)) dJ1_indexOf_4cfef_18 w_min_s w_math_i w_min_c (Nat.le_of_ble_eq_true rfl) (Nat.le_refl 0) (Nat.le_refl 0) ?_
    refine s_istore_n (ls' := [some (.ref (adB (xE X))), some (.int a), some (.int 0), some (.int 5)]) C dJ1_indexOf_4cfef_21 rfl (by decide) (Nat.le_of_ble_eq_true rfl) rfl rfl ?_
    refine s_iload_n C dJ1_indexOf_4cfef_22 rfl rfl ?_
    refine s_iload_n C dJ1_indexOf_4cfef_23 rfl rfl ?_
    refine s_icmp_lt (tgt := 29) C dJ1_indexOf_4cfef_24 (by decide) (fun _ => ?_) (fun c => absurd (by decide) c)
    refine s_aload_n C dJ1_indexOf_4cfef_29 rfl rfl ?_
    refine s_iload_n C dJ1_indexOf_4cfef_30 rfl rfl ?_
    refine s_iload_n C dJ1_indexOf_4cfef_31 rfl rfl ?_
    refine s_iload_n C dJ1_indexOf_4cfef_32 rfl rfl ?_
    refine s_cS0 (st := []) C M.rg (Nat.le_trans (by decide) hd) ms_chr mlJ1_95 dJ1_indexOf_4cfef_33 (wT_chr (a := a)) rfl rfl (Nat.le_of_ble_eq_true rfl) ?_
    refine s_top_i ia.symm ?_
    exact s_iret C M dJ1_indexOf_4cfef_36 rfl rfl (Nat.le_refl 0) (Nat.le_refl 0)
  · have q : a < 0 ∨ 255 < a := by
      by_cases z : a < 0 ∨ 255 < a
      · exact z
      · rw [if_neg z] at c; exact absurd c (by decide)
    rw [if_pos q] at ia
    refine s_iconst C dJ1_indexOf_4cfef_7 ic_m1 ?_
    refine s_top_i ia.symm ?_
    exact s_iret C M dJ1_indexOf_4cfef_8 rfl rfl (Nat.le_refl 0) (Nat.le_refl 0)
theorem wT_ix2 {E : Ev} {d : Nat} (hd : 3 ≤ d) {a : Int32} {I : Mm} : SemM E d 0 0 mJ0_indexOf_7cf53 [.ref (adS E), .int a, .int 0] S0 I (some (.int (idx5 a))) S0 I := by
  refine SemM.ofX (E := E) (y := mJ0_indexOf_7cf53) (args := fun E => [.ref (adS E), .int a, .int 0]) (r := fun E => (some (.int (idx5 a)))) (fun E => [some (.ref (adS E)), some (.int a), some (.int 0)]) (by decide +kernel) (Nat.le_of_ble_eq_true rfl) rfl (fun X C M => ?_)
  refine s_aload_n C dJ0_indexOf_7cf53_0 rfl rfl ?_
  refine s_cT (st := []) C M.rg (Nat.le_trans (by decide) hd) mt_lat mlJ0_492 dJ0_indexOf_7cf53_1 (wT_lat (d := 1)) rfl rfl (Nat.le_of_ble_eq_true rfl) ?_
  refine s_if_eq (tgt := 23) C dJ0_indexOf_7cf53_4 (by decide) (fun c => absurd c (by decide)) (fun _ => ?_)
  refine s_aload_n C dJ0_indexOf_7cf53_7 rfl rfl ?_
  refine s_strV C dJ0_indexOf_7cf53_8 fl_9 ?_
  refine s_iload_n C dJ0_indexOf_7cf53_11 rfl rfl ?_
  refine s_iload_n C dJ0_indexOf_7cf53_12 rfl rfl ?_
  refine s_aload_n C dJ0_indexOf_7cf53_13 rfl rfl ?_
  refine s_cT (st := [.int 0, .int a, .ref (adB (xE X))]) C M.rg (Nat.le_trans (by decide) hd) mt_len mlJ0_505 dJ0_indexOf_7cf53_14 (wT_len (d := 2) (Nat.le_refl 2)) rfl rfl (Nat.le_of_ble_eq_true rfl) ?_
  refine s_cS0 (st := []) C M.rg (Nat.le_trans (by decide) hd) ms_ix mlJ0_637 dJ0_indexOf_7cf53_17 (wT_ixL (d := 2) (Nat.le_refl 2) (a := a)) rfl rfl (Nat.le_of_ble_eq_true rfl) ?_
  refine s_goto (tgt := 36) C dJ0_indexOf_7cf53_20 (by decide) ?_
  exact s_iret C M dJ0_indexOf_7cf53_36 rfl rfl (Nat.le_refl 0) (Nat.le_refl 0)
theorem wT_ix1 {E : Ev} {d : Nat} (hd : 4 ≤ d) {a : Int32} {I : Mm} : SemM E d 0 0 mJ0_indexOf_0f7a4 [.ref (adS E), .int a] S0 I (some (.int (idx5 a))) S0 I := by
  refine SemM.ofX (E := E) (y := mJ0_indexOf_0f7a4) (args := fun E => [.ref (adS E), .int a]) (r := fun E => (some (.int (idx5 a)))) (fun E => [some (.ref (adS E)), some (.int a)]) (by decide +kernel) (Nat.le_of_ble_eq_true rfl) rfl (fun X C M => ?_)
  refine s_aload_n C dJ0_indexOf_0f7a4_0 rfl rfl ?_
  refine s_iload_n C dJ0_indexOf_0f7a4_1 rfl rfl ?_
  refine s_iconst C dJ0_indexOf_0f7a4_2 ic_0 ?_
  refine s_cT (st := []) C M.rg (Nat.le_trans (by decide) hd) mt_ix2 mlJ0_633 dJ0_indexOf_0f7a4_3 (wT_ix2 (d := 3) (Nat.le_refl 3) (a := a)) rfl rfl (Nat.le_of_ble_eq_true rfl) ?_
  exact s_iret C M dJ0_indexOf_0f7a4_6 rfl rfl (Nat.le_refl 0) (Nat.le_refl 0)
section RL8
variable {X : Cx} {y : Yd} {pc : Nat} {ls : List (Option Value)} {st : List Value} {I : Mm} {k n : Nat}
theorem s_idx {d : Nat} {a : Int32} (C : CtxOK X y) (hR : RG X d k n) (hd : 20 ≤ d) (dd : decode y.2.1 pc = .ok (.invokevirtual 252, 3)) (hl : Cond.methodLink y.1.cls 252 yJ0_indexOf_0f7a4 ∈ lw_good) (hcat : (st.map fun v => v.category).sum ≤ 8)
    (K : WM X y (pc + 3) ls (.int (idx5 a) :: st) S0 I k n) : WM X y pc ls (.int a :: .ref ((xE X).2.2.2.2.2.2.1 0) :: st) S0 I k n :=
  s_cT (st := st) C hR (Nat.le_trans (by decide) hd) mt_ix1 hl dd (wT_ix1 (d := 4) (Nat.le_refl 4) (a := a)) rfl rfl hcat K
theorem s_fbits {ix d : Nat} {b : UInt32} (C : CtxOK X y) (hR : RG X d k n) (hd : 6 ≤ d) (hl : Cond.methodLink y.1.cls ix yJxf58ca_floatToIntBits_5c35a ∈ lw_good) (dd : decode y.2.1 pc = .ok (.invokestatic ix, 3)) (hcat : (st.map fun v => v.category).sum ≤ 8)
    (K : WM X y (pc + 3) ls (.int (fbI b) :: st) S0 I k n) : WM X y pc ls (.float b :: st) S0 I k n :=
  s_cS0 (st := st) C hR (Nat.le_trans (by decide) hd) mwFb hl dd (wFb (d := 2) (Nat.le_refl 2)) rfl rfl hcat K
end RL8
