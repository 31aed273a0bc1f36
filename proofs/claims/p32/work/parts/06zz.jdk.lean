/-! ===== the JDK's own methods that the law and the class call ===== -/
/-- as Met.ofW; the method has no row among the natives, though its class may -/
theorem met_ofWF {l : Launch} {y : MethodName} {ws ws' : List Cond} {rm : Room} {Pc : Array Value → State → Prop} {Qc : Array Value → State → Outcome → State → Prop} {mc ms : Nat} {free : Addr → Prop} {cc : ByteArray} {maxL : Nat} {ret : Option FieldType}
    (hy : plainFor y = true) (hw : ws = Cond.code y cc maxL ret :: ws')
    (body : ∀ p e s m args below meth c s₁, BodyLoose p l y (headSpec ws rm) cc maxL ret e s m args below meth c s₁ → c.maxLocals = maxL → Pc args s →
      W p l e (headSpec ws rm).room s m args below meth c s.heap [] 0 0 (MQ below Qc args s mc ms free) (entryFrame m args maxL)) : Met l y ws rm Pc Qc mc ms free := by
  refine MetFree.of_bodySF (code := cc) (maxLocals := maxL) (ret := ret) hy ?_ ?_
  · intro args s m h hn
    obtain ⟨meth, c, h1, h2, h3, h4, h5, h6, -, -⟩ := Cond.code_spec hn (atoms_spec (ws := ws) h _ (by rw [hw]; exact List.mem_cons_self))
    exact ⟨meth, c, h1, h2, h3, h4, h5, h6⟩
  · intro p e s m args below meth c s₁ B hml hP _
    have hh0 : s₁.heap = s.heap := by rw [B.state]; rfl
    obtain ⟨t, a1, o, b1, b2, b3⟩ := body p e s m args below meth c s₁ B hml hP s₁ hh0 (Stand.of_body B)
    exact ⟨t, o, a1, b1, b2, ⟨b3.1, b3.2⟩⟩
theorem semM_ofF {E : Ev} {d k n : Nat} {y : Yd} {args : List Value} {S S' : Sx} {I I' : Mm} {r : Option Value} {ls : List (Option Value)} (hy : plainFor y.1 = true) (hsl : (lg_sl args).length ≤ y.2.2.1) (hls : lv_args 0 args = al 0 ls)
    (body : ∀ X : Cx, CtxOK X y → MX X E d k n r S' I' → WM X y 0 ls [] S I 0 0) : SemM E d k n y args S I r S' I' := by
  intro l
  refine met_ofWF (cc := y.2.1) (maxL := y.2.2.1) (ret := y.2.2.2) (ws' := lw_good) hy rfl ?_
  intro p e s m as below meth c s₁ B hml hv
  obtain ⟨rfl, hR, hK, hN⟩ := hv
  have hts := atoms_spec (ws := GW y) B.pre
  have hnm := name_of_methodNamed B.named B.method
  have hown : s.vm.findClass y.1.cls = some m.cls := findClass_of_methodNamed B.named
  have hbase : E.1.size ≤ s.heap.size := by rw [hR.2.1]; omega
  have hb := body (p, l, e, (headSpec (GW y) (rmD d k n)).room, s, m, args.toArray, below, meth, c, MQ below (QcR E r S' I') args.toArray s k n (Fr E), E)
    ⟨B.exec, B.bytes, hml, hown, fun w hw => hts w (List.mem_cons_of_mem _ hw), hK, B.returns, B.notSynchronized, fun h => hnm.1.trans h, hbase, hN⟩ ⟨rfl, rfl, rfl⟩
  have hl := lv_entry args (n := y.2.2.1) hsl
  rw [lg_entry_eq]
  generalize (lg_sl args ++ List.replicate (y.2.2.1 - (lg_sl args).length) Slot.unset).toArray = lsa at hl ⊢
  rw [hls] at hl
  exact hb s.heap [] lsa hR va_S.rf hl
theorem semM_ofXF {E : Ev} {d k n : Nat} {y : Yd} {args : Ev → List Value} {S S' : Sx} {I I' : Mm} {r : Ev → Option Value} (ls : Ev → List (Option Value)) (hy : plainFor y.1 = true) (hsl : (lg_sl (args E)).length ≤ y.2.2.1) (hls : lv_args 0 (args E) = al 0 (ls E))
    (body : ∀ X : Cx, CtxOK X y → MX X (xE X) d k n (r (xE X)) S' I' → WM X y 0 (ls (xE X)) [] S I 0 0) : SemM E d k n y (args E) S I (r E) S' I' :=
  semM_ofF hy hsl hls (fun X C M => by
    obtain ⟨h1, h2, h3⟩ := M
    subst h1
    exact body X C ⟨rfl, h2, h3⟩)
theorem mwFn : MthS mJxf58ca_isNaN_12338 1 := ⟨gw_mem 642 (by decide +kernel) (by decide +kernel), gw_mem 32 (by decide +kernel) (by decide +kernel), gw_mem 643 (by decide +kernel) (by decide +kernel), ⟨by decide +kernel, by decide +kernel, by decide +kernel⟩, by decide⟩
theorem mwFb : MthS mJxf58ca_floatToIntBits_5c35a 1 := ⟨gw_mem 639 (by decide +kernel) (by decide +kernel), gw_mem 32 (by decide +kernel) (by decide +kernel), gw_mem 640 (by decide +kernel) (by decide +kernel), ⟨by decide +kernel, by decide +kernel, by decide +kernel⟩, by decide⟩
theorem wFn {E : Ev} {d : Nat} {b : UInt32} {I : Mm} : SemM E d 0 0 mJxf58ca_isNaN_12338 [.float b] S0 I (some (.int (if Op.cmpValue (FP.fcmp b b) .l = 0 then 0 else 1))) S0 I := by
  refine semM_ofXF (E := E) (y := mJxf58ca_isNaN_12338) (args := fun E => [.float b]) (r := fun E => (some (.int (if Op.cmpValue (FP.fcmp b b) .l = 0 then 0 else 1)))) (fun E => [some (.float b)]) (by decide +kernel) (Nat.le_of_ble_eq_true rfl) rfl (fun X C M => ?_)
  refine s_fload_n C dJxf58ca_isNaN_12338_0 rfl rfl ?_
  refine s_fload_n C dJxf58ca_isNaN_12338_1 rfl rfl ?_
  refine s_fcmp C dJxf58ca_isNaN_12338_2 ?_
  refine s_if_eq (tgt := 10) C dJxf58ca_isNaN_12338_3 (by decide) (fun c => ?_) (fun c => ?_)
  · refine s_iconst C dJxf58ca_isNaN_12338_10 ic_0 ?_
    refine s_top_i (show (if Op.cmpValue (FP.fcmp b b) .l = 0 then (0 : Int32) else 1) = 0 from if_pos c) ?_
    exact s_iret C M dJxf58ca_isNaN_12338_11 rfl (nz_b (by split <;> simp)) (Nat.le_refl 0) (Nat.le_refl 0)
  · refine s_iconst C dJxf58ca_isNaN_12338_6 ic_1 ?_
    refine s_goto (tgt := 11) C dJxf58ca_isNaN_12338_7 (by decide) ?_
    refine s_top_i (show (if Op.cmpValue (FP.fcmp b b) .l = 0 then (0 : Int32) else 1) = 1 from if_neg c) ?_
    exact s_iret C M dJxf58ca_isNaN_12338_11 rfl (nz_b (by split <;> simp)) (Nat.le_refl 0) (Nat.le_refl 0)
theorem wFb {E : Ev} {d : Nat} (hd : 2 ≤ d) {b : UInt32} {I : Mm} : SemM E d 0 0 mJxf58ca_floatToIntBits_5c35a [.float b] S0 I (some (.int (fbI b))) S0 I := by
  refine semM_ofXF (E := E) (y := mJxf58ca_floatToIntBits_5c35a) (args := fun E => [.float b]) (r := fun E => (some (.int (fbI b)))) (fun E => [some (.float b)]) (by decide +kernel) (Nat.le_of_ble_eq_true rfl) rfl (fun X C M => ?_)
  refine s_fload_n C dJxf58ca_floatToIntBits_5c35a_0 rfl rfl ?_
  refine s_cS0 (st := []) C M.rg (Nat.le_trans (by decide) hd) mwFn mlJxf58ca_59 dJxf58ca_floatToIntBits_5c35a_1 (wFn (d := 1)) rfl rfl (Nat.le_of_ble_eq_true rfl) ?_
  refine s_if_ne (tgt := 12) C dJxf58ca_floatToIntBits_5c35a_4 (by decide) (fun c => ?_) (fun c => ?_)
  · have q : ¬ Op.cmpValue (FP.fcmp b b) .l = 0 := fun e => c (if_pos e)
    refine s_ldc C dJxf58ca_floatToIntBits_5c35a_12 coJxf58ca_77 ?_
    refine s_top_i (show fbI b = 2143289344 from if_neg q) ?_
    exact s_iret C M dJxf58ca_floatToIntBits_5c35a_14 rfl rfl (Nat.le_refl 0) (Nat.le_refl 0)
  · have q : Op.cmpValue (FP.fcmp b b) .l = 0 := by
      by_cases z : Op.cmpValue (FP.fcmp b b) .l = 0
      · exact z
      · rw [if_neg z] at c; exact absurd c (by decide)
    refine s_fload_n C dJxf58ca_floatToIntBits_5c35a_7 rfl rfl ?_
    refine s_f2raw C M.rg (Nat.le_trans (by decide) hd) mlJxf58ca_74 dJxf58ca_floatToIntBits_5c35a_8 (Nat.le_of_ble_eq_true rfl) ?_
    refine s_top_i (show fbI b = b.toInt32 from if_pos q) ?_
    exact s_iret C M dJxf58ca_floatToIntBits_5c35a_11 rfl rfl (Nat.le_refl 0) (Nat.le_refl 0)
theorem mwBc : MthS mJ13_bitCount_95d88 1 := ⟨gw_mem 589 (by decide +kernel) (by decide +kernel), gw_mem 31 (by decide +kernel) (by decide +kernel), gw_mem 590 (by decide +kernel) (by decide +kernel), ⟨by decide +kernel, by decide +kernel, by decide +kernel⟩, by decide⟩
theorem mwCh : MthS mJ1_charAt_3b067 2 := ⟨gw_mem 430 (by decide +kernel) (by decide +kernel), gw_mem 28 (by decide +kernel) (by decide +kernel), gw_mem 431 (by decide +kernel) (by decide +kernel), ⟨by decide +kernel, by decide +kernel, by decide +kernel⟩, by decide⟩
theorem mwC0 : MthS mJ0_checkIndex_df160 2 := ⟨gw_mem 433 (by decide +kernel) (by decide +kernel), gw_mem 27 (by decide +kernel) (by decide +kernel), gw_mem 434 (by decide +kernel) (by decide +kernel), ⟨by decide +kernel, by decide +kernel, by decide +kernel⟩, by decide⟩
theorem mwC3 : MthS mJ3_checkIndex_8e157 3 := ⟨gw_mem 438 (by decide +kernel) (by decide +kernel), gw_mem 29 (by decide +kernel) (by decide +kernel), gw_mem 439 (by decide +kernel) (by decide +kernel), ⟨by decide +kernel, by decide +kernel, by decide +kernel⟩, by decide⟩
theorem mwCell : MthS mL_cell 2 := ⟨gw_mem 405 (by decide +kernel) (by decide +kernel), gw_mem 19 (by decide +kernel) (by decide +kernel), gw_mem 406 (by decide +kernel) (by decide +kernel), ⟨by decide +kernel, by decide +kernel, by decide +kernel⟩, by decide⟩
section STX
variable {X : Cx} {y : Yd} {pc : Nat} {ls ls' : List (Option Value)} {st : List Value} {S : Sx} {I I1 : Mm} {k n : Nat}
def MthT (y : Yd) (np : Nat) : Prop := Cond.instanceMethod y.1 ∈ lw_good ∧ Cond.selects y.1.cls y.1 y.1 ∈ lw_good ∧ Cond.initialized y.1.cls ∈ lw_good ∧ Cond.code y.1 y.2.1 y.2.2.1 y.2.2.2 ∈ lw_good ∧ (y.1.cls ≠ "java/lang/invoke/MethodHandle" ∧ y.1.cls ≠ "java/lang/invoke/VarHandle" ∧ (parseMethodDescriptor y.1.desc).map (fun d => d.parameters.length) = some np) ∧ y.2.2.1 ≤ 22 ∧ y.1.cls = "java/lang/String"
theorem s_cT {t np ix d d' : Nat} {yc : Yd} {as st0 : List Value} {r : Option Value} (ht : t < 20) (C : CtxOK X y) (hR : RG X d k n) (hd : d' + 1 ≤ d) (hw : MthT yc np) (hl : Cond.methodLink y.1.cls ix yc.1 ∈ lw_good) (dd : decode y.2.1 pc = .ok (.invokevirtual ix, 3))
    (hS : SemM (xE X) d' 0 0 yc (.ref (adS (xE X) t) :: as) S0 I r S0 I1) (hlen : as.length = np) (hst : st0 = as.reverse ++ .ref (adS (xE X) t) :: st) (hcat : (st.map fun v => v.category).sum ≤ 8)
    (K : WM X y (pc + 3) ls (r.toList ++ st) S0 I1 k n) : WM X y pc ls st0 S0 I k n := by
  intro H locs lsa rp s l
  obtain ⟨h1, h2, h3, h4, h5, h6, h7⟩ := hw
  obtain ⟨g1, g2, g3, g4⟩ := hR
  have hts := C.2.2.2.2.1
  have cb : CallB (xR X) (xs X) (xa X) y.1.cls ix yc.1 yc.2.1 yc.2.2.1 yc.2.2.2 (GW yc) (rmD d' 0 0) 0 0 np :=
    callB_of np hts (gwG h4) rfl rfl rfl (hts _ h3) (hts _ hl) h5 ⟨Nat.le_trans hd g1, Nat.le_trans (show 8 + (yc.2.2.1 + 11) + 41 * d' ≤ 41 * d by omega) g2⟩
  have hrun := va_runV (e := xe X) (g := F0 (xm X) pc lsa st0) (locs := locs) (cells := k) (slots := n) (rest := st) (below := xb X) (meth := xM X) ⟨C.1, C.2.1, C.2.2.1, C.2.2.2.1, hts⟩ (hS (xl X)) ⟨cb, hts _ h1, hts _ h2⟩
    ⟨blind, (by rw [h7]; exact vk_recv (nw_at C rp s).1 ht s), fun U hU hW => ⟨rfl, And.intro (show RepH (xE X) S0 I U.heap from hU ▸ rp) (And.intro (va_K.moved hW.alike C.2.2.2.2.2.1) (NW.warm hW C.2.2.2.2.2.2.2.2.2.2))⟩⟩ rfl hlen l.1 hst (lv_room hcat) dd ⟨g3, g4⟩
  exact s_back C s l hrun K
end STX
theorem fl_9 : Cond.fieldLink RJ0 9 "java/lang/String" "value" "[B" ∈ lw_good := gw_mem 691 (by decide +kernel) (by decide +kernel)
theorem fl_15 : Cond.fieldLink RJ0 15 "java/lang/String" "coder" "B" ∈ lw_good := gw_mem 692 (by decide +kernel) (by decide +kernel)
theorem fl_38 : Cond.fieldLink RJ0 38 "java/lang/String" "COMPACT_STRINGS" "Z" ∈ lw_good := gw_mem 419 (by decide +kernel) (by decide +kernel)
theorem fl_1053 : Cond.fieldLink RJ0 1053 "jdk/internal/util/Preconditions" "SIOOBE_FORMATTER" "Ljava/util/function/BiFunction;" ∈ lw_good := gw_mem 435 (by decide +kernel) (by decide +kernel)
theorem fl_L52 : Cond.fieldLink RL 52 "LeaningRicksLaw" "TEXTS" "[Ljava/lang/String;" ∈ lw_good := gw_mem 503 (by decide +kernel) (by decide +kernel)
theorem mt_lat : MthT mJ0_isLatin1_aae02 0 := ⟨gw_mem 426 (by decide +kernel) (by decide +kernel), gw_mem 427 (by decide +kernel) (by decide +kernel), gw_mem 27 (by decide +kernel) (by decide +kernel), gw_mem 428 (by decide +kernel) (by decide +kernel), ⟨by decide +kernel, by decide +kernel, by decide +kernel⟩, by decide, rfl⟩
theorem mt_len : MthT mJ0_length_8abf5 0 := ⟨gw_mem 412 (by decide +kernel) (by decide +kernel), gw_mem 413 (by decide +kernel) (by decide +kernel), gw_mem 27 (by decide +kernel) (by decide +kernel), gw_mem 414 (by decide +kernel) (by decide +kernel), ⟨by decide +kernel, by decide +kernel, by decide +kernel⟩, by decide, rfl⟩
theorem mt_cod : MthT mJ0_coder_7d493 0 := ⟨gw_mem 416 (by decide +kernel) (by decide +kernel), gw_mem 417 (by decide +kernel) (by decide +kernel), gw_mem 27 (by decide +kernel) (by decide +kernel), gw_mem 418 (by decide +kernel) (by decide +kernel), ⟨by decide +kernel, by decide +kernel, by decide +kernel⟩, by decide, rfl⟩
theorem mt_chr : MthT mJ0_charAt_5068e 1 := ⟨gw_mem 422 (by decide +kernel) (by decide +kernel), gw_mem 423 (by decide +kernel) (by decide +kernel), gw_mem 27 (by decide +kernel) (by decide +kernel), gw_mem 424 (by decide +kernel) (by decide +kernel), ⟨by decide +kernel, by decide +kernel, by decide +kernel⟩, by decide, rfl⟩
theorem wT_lat {E : Ev} {d t : Nat} (ht : t < 20) {I : Mm} : SemM E d 0 0 mJ0_isLatin1_aae02 [.ref (adS E t)] S0 I (some (.int 1)) S0 I := by
  refine SemM.ofX (E := E) (y := mJ0_isLatin1_aae02) (args := fun E => [.ref (adS E t)]) (r := fun E => (some (.int 1))) (fun E => [some (.ref (adS E t))]) (by decide +kernel) (Nat.le_of_ble_eq_true rfl) rfl (fun X C M => ?_)
  refine s_cmpS C dJ0_isLatin1_aae02_0 fl_38 ?_
  refine s_if_eq (tgt := 17) C dJ0_isLatin1_aae02_3 (by decide) (fun c => absurd c (by decide)) (fun _ => ?_)
  refine s_aload_n C dJ0_isLatin1_aae02_6 rfl rfl ?_
  refine s_strC ht C dJ0_isLatin1_aae02_7 fl_15 ?_
  refine s_if_ne (tgt := 17) C dJ0_isLatin1_aae02_10 (by decide) (fun c => absurd rfl c) (fun _ => ?_)
  refine s_iconst C dJ0_isLatin1_aae02_13 ic_1 ?_
  refine s_goto (tgt := 18) C dJ0_isLatin1_aae02_14 (by decide) ?_
  exact s_iret C M dJ0_isLatin1_aae02_18 rfl (nz_b (by decide)) (Nat.le_refl 0) (Nat.le_refl 0)
theorem wT_cod {E : Ev} {d t : Nat} (ht : t < 20) {I : Mm} : SemM E d 0 0 mJ0_coder_7d493 [.ref (adS E t)] S0 I (some (.int 0)) S0 I := by
  refine SemM.ofX (E := E) (y := mJ0_coder_7d493) (args := fun E => [.ref (adS E t)]) (r := fun E => (some (.int 0))) (fun E => [some (.ref (adS E t))]) (by decide +kernel) (Nat.le_of_ble_eq_true rfl) rfl (fun X C M => ?_)
  refine s_cmpS C dJ0_coder_7d493_0 fl_38 ?_
  refine s_if_eq (tgt := 13) C dJ0_coder_7d493_3 (by decide) (fun c => absurd c (by decide)) (fun _ => ?_)
  refine s_aload_n C dJ0_coder_7d493_6 rfl rfl ?_
  refine s_strC ht C dJ0_coder_7d493_7 fl_15 ?_
  refine s_goto (tgt := 14) C dJ0_coder_7d493_10 (by decide) ?_
  exact s_iret C M dJ0_coder_7d493_14 rfl rfl (Nat.le_refl 0) (Nat.le_refl 0)
theorem tl_sh : ∀ t, t < 20 → tlen t >>> ((0 : Int32) &&& 31) = tlen t := by decide +kernel
theorem wT_len {E : Ev} {d t : Nat} (ht : t < 20) (hd : 2 ≤ d) {I : Mm} : SemM E d 0 0 mJ0_length_8abf5 [.ref (adS E t)] S0 I (some (.int (tlen t))) S0 I := by
  refine SemM.ofX (E := E) (y := mJ0_length_8abf5) (args := fun E => [.ref (adS E t)]) (r := fun E => (some (.int (tlen t)))) (fun E => [some (.ref (adS E t))]) (by decide +kernel) (Nat.le_of_ble_eq_true rfl) rfl (fun X C M => ?_)
  refine s_aload_n C dJ0_length_8abf5_0 rfl rfl ?_
  refine s_strV ht C dJ0_length_8abf5_1 fl_9 ?_
  refine s_blen ht C dJ0_length_8abf5_4 ?_
  refine s_aload_n C dJ0_length_8abf5_5 rfl rfl ?_
  refine s_cT (st := [.int (tlen t)]) ht C M.rg (Nat.le_trans (by decide) hd) mt_cod mlJ0_335 dJ0_length_8abf5_6 (wT_cod (d := 1) ht) rfl rfl (Nat.le_of_ble_eq_true rfl) ?_
  refine s_ishr C dJ0_length_8abf5_9 ?_
  refine s_top_i (tl_sh t ht).symm ?_
  exact s_iret C M dJ0_length_8abf5_10 rfl rfl (Nat.le_refl 0) (Nat.le_refl 0)
theorem wC3r {E : Ev} {d a : Nat} {i n : Int32} (h1 : ¬ i < 0) (h2 : i < n) {I : Mm} : SemM E d 0 0 mJ3_checkIndex_8e157 [.int i, .int n, .ref a] S0 I (some (.int i)) S0 I := by
  refine SemM.ofX (E := E) (y := mJ3_checkIndex_8e157) (args := fun E => [.int i, .int n, .ref a]) (r := fun E => (some (.int i))) (fun E => [some (.int i), some (.int n), some (.ref a)]) (by decide +kernel) (Nat.le_of_ble_eq_true rfl) rfl (fun X C M => ?_)
  refine s_iload_n C dJ3_checkIndex_8e157_0 rfl rfl ?_
  refine s_if_lt (tgt := 9) C dJ3_checkIndex_8e157_1 (by decide) (fun c => absurd c h1) (fun _ => ?_)
  refine s_iload_n C dJ3_checkIndex_8e157_4 rfl rfl ?_
  refine s_iload_n C dJ3_checkIndex_8e157_5 rfl rfl ?_
  refine s_icmp_lt (tgt := 16) C dJ3_checkIndex_8e157_6 (by decide) (fun _ => ?_) (fun c => absurd h2 c)
  refine s_iload_n C dJ3_checkIndex_8e157_16 rfl rfl ?_
  exact s_iret C M dJ3_checkIndex_8e157_17 rfl rfl (Nat.le_refl 0) (Nat.le_refl 0)
theorem wC3n {E : Ev} {d : Nat} {i n : Int32} (h1 : ¬ i < 0) (h2 : i < n) {I : Mm} : SemM E d 0 0 mJ3_checkIndex_8e157 [.int i, .int n, .null] S0 I (some (.int i)) S0 I := by
  refine SemM.ofX (E := E) (y := mJ3_checkIndex_8e157) (args := fun E => [.int i, .int n, .null]) (r := fun E => (some (.int i))) (fun E => [some (.int i), some (.int n), some .null]) (by decide +kernel) (Nat.le_of_ble_eq_true rfl) rfl (fun X C M => ?_)
  refine s_iload_n C dJ3_checkIndex_8e157_0 rfl rfl ?_
  refine s_if_lt (tgt := 9) C dJ3_checkIndex_8e157_1 (by decide) (fun c => absurd c h1) (fun _ => ?_)
  refine s_iload_n C dJ3_checkIndex_8e157_4 rfl rfl ?_
  refine s_iload_n C dJ3_checkIndex_8e157_5 rfl rfl ?_
  refine s_icmp_lt (tgt := 16) C dJ3_checkIndex_8e157_6 (by decide) (fun _ => ?_) (fun c => absurd h2 c)
  refine s_iload_n C dJ3_checkIndex_8e157_16 rfl rfl ?_
  exact s_iret C M dJ3_checkIndex_8e157_17 rfl rfl (Nat.le_refl 0) (Nat.le_refl 0)
theorem wC0 {E : Ev} {d : Nat} (hd : 2 ≤ d) {i n : Int32} (h1 : ¬ i < 0) (h2 : i < n) {I : Mm} : SemM E d 0 0 mJ0_checkIndex_df160 [.int i, .int n] S0 I none S0 I := by
  refine SemM.ofX (E := E) (y := mJ0_checkIndex_df160) (args := fun E => [.int i, .int n]) (r := fun E => none) (fun E => [some (.int i), some (.int n)]) (by decide +kernel) (Nat.le_of_ble_eq_true rfl) rfl (fun X C M => ?_)
  refine s_iload_n C dJ0_checkIndex_df160_0 rfl rfl ?_
  refine s_iload_n C dJ0_checkIndex_df160_1 rfl rfl ?_
  refine s_sio C dJ0_checkIndex_df160_2 fl_1053 ?_ (fun a => ?_)
  · refine s_cS0 (st := []) C M.rg (Nat.le_trans (by decide) hd) mwC3 mlJ0_1059 dJ0_checkIndex_df160_5 (wC3n (d := 1) h1 h2) rfl rfl (Nat.le_of_ble_eq_true rfl) ?_
    refine s_pop C dJ0_checkIndex_df160_8 rfl ?_
    exact s_vret C M dJ0_checkIndex_df160_9 rfl (Nat.le_refl 0) (Nat.le_refl 0)
  · refine s_cS0 (st := []) C M.rg (Nat.le_trans (by decide) hd) mwC3 mlJ0_1059 dJ0_checkIndex_df160_5 (wC3r (d := 1) h1 h2) rfl rfl (Nat.le_of_ble_eq_true rfl) ?_
    refine s_pop C dJ0_checkIndex_df160_8 rfl ?_
    exact s_vret C M dJ0_checkIndex_df160_9 rfl (Nat.le_refl 0) (Nat.le_refl 0)
theorem tc_all : ∀ t, t < 20 → ∀ k, k < txL.getD t 0 → ((tchr t k &&& 255).toUInt32 % 65536).toInt32 = tchr t k ∧ narrow .char (.int (tchr t k)) = .int (tchr t k) := by decide +kernel
theorem tl_all : ∀ t, t < 20 → (tlen t).toInt = (txL.getD t 0 : Int) := by decide +kernel
theorem wT_cL {E : Ev} {d t : Nat} (ht : t < 20) (hd : 3 ≤ d) {i : Int32} (hin : ¬ (i < 0 ∨ txL.getD t 0 ≤ i.toNatClampNeg)) {I : Mm} : SemM E d 0 0 mJ1_charAt_3b067 [.ref (adB E t), .int i] S0 I (some (.int (tchr t i.toNatClampNeg))) S0 I := by
  refine SemM.ofX (E := E) (y := mJ1_charAt_3b067) (args := fun E => [.ref (adB E t), .int i]) (r := fun E => (some (.int (tchr t i.toNatClampNeg)))) (fun E => [some (.ref (adB E t)), some (.int i)]) (by decide +kernel) (Nat.le_of_ble_eq_true rfl) rfl (fun X C M => ?_)
  have h1 : ¬ i < 0 := fun h => hin (Or.inl h)
  have h3 : i.toNatClampNeg < txL.getD t 0 := Nat.not_le.mp (fun h => hin (Or.inr h))
  have h2 : i < tlen t := by
    rw [Int32.lt_iff_toInt_lt, tl_all t ht]
    have h0 : ¬ i.toInt < 0 := fun h => h1 (Int32.lt_iff_toInt_lt.mpr (by simpa using h))
    have e : i.toNatClampNeg = i.toInt.toNat := rfl
    omega
  obtain ⟨c1, c2⟩ := tc_all t ht _ h3
  refine s_iload_n C dJ1_charAt_3b067_0 rfl rfl ?_
  refine s_aload_n C dJ1_charAt_3b067_1 rfl rfl ?_
  refine s_blen ht C dJ1_charAt_3b067_2 ?_
  refine s_cS0 (st := []) C M.rg (Nat.le_trans (by decide) hd) mwC0 mlJ1_9 dJ1_charAt_3b067_3 (wC0 (d := 2) (Nat.le_refl 2) h1 h2) rfl rfl (Nat.le_of_ble_eq_true rfl) ?_
  refine s_aload_n C dJ1_charAt_3b067_6 rfl rfl ?_
  refine s_iload_n C dJ1_charAt_3b067_7 rfl rfl ?_
  refine s_bld ht hin C dJ1_charAt_3b067_8 ?_
  refine s_sipush C dJ1_charAt_3b067_9 si_255 ?_
  refine s_iand C dJ1_charAt_3b067_12 ?_
  refine s_i2c C dJ1_charAt_3b067_13 ?_
  refine s_top_i c1.symm ?_
  exact s_iret C M dJ1_charAt_3b067_14 rfl c2 (Nat.le_refl 0) (Nat.le_refl 0)
theorem wT_ch {E : Ev} {d t : Nat} (ht : t < 20) (hd : 4 ≤ d) {i : Int32} (hin : ¬ (i < 0 ∨ txL.getD t 0 ≤ i.toNatClampNeg)) {I : Mm} : SemM E d 0 0 mJ0_charAt_5068e [.ref (adS E t), .int i] S0 I (some (.int (tchr t i.toNatClampNeg))) S0 I := by
  refine SemM.ofX (E := E) (y := mJ0_charAt_5068e) (args := fun E => [.ref (adS E t), .int i]) (r := fun E => (some (.int (tchr t i.toNatClampNeg)))) (fun E => [some (.ref (adS E t)), some (.int i)]) (by decide +kernel) (Nat.le_of_ble_eq_true rfl) rfl (fun X C M => ?_)
  obtain ⟨c1, c2⟩ := tc_all t ht _ (Nat.not_le.mp (fun h => hin (Or.inr h)))
  refine s_aload_n C dJ0_charAt_5068e_0 rfl rfl ?_
  refine s_cT (st := []) ht C M.rg (Nat.le_trans (by decide) hd) mt_lat mlJ0_492 dJ0_charAt_5068e_1 (wT_lat (d := 1) ht) rfl rfl (Nat.le_of_ble_eq_true rfl) ?_
  refine s_if_eq (tgt := 16) C dJ0_charAt_5068e_4 (by decide) (fun c => absurd c (by decide)) (fun _ => ?_)
  refine s_aload_n C dJ0_charAt_5068e_7 rfl rfl ?_
  refine s_strV ht C dJ0_charAt_5068e_8 fl_9 ?_
  refine s_iload_n C dJ0_charAt_5068e_11 rfl rfl ?_
  refine s_cS0 (st := []) C M.rg (Nat.le_trans (by decide) hd) mwCh mlJ0_495 dJ0_charAt_5068e_12 (wT_cL (d := 3) ht (Nat.le_refl 3) hin) rfl rfl (Nat.le_of_ble_eq_true rfl) ?_
  exact s_iret C M dJ0_charAt_5068e_15 rfl c2 (Nat.le_refl 0) (Nat.le_refl 0)
/-! the bits of a long -/
def usr (a : Int64) (b : Int32) : Int64 := (a.toUInt64 >>> (b.toInt64.toUInt64 &&& Int64.toUInt64 63)).toInt64
def bc1 (a : Int64) : Int64 := a - (usr a 1 &&& 6148914691236517205)
def bc2 (a : Int64) : Int64 := (a &&& 3689348814741910323) + (usr a 2 &&& 3689348814741910323)
def bc3 (a : Int64) : Int64 := (a + usr a 4) &&& 1085102592571150095
def bc4 (a : Int64) : Int64 := a + usr a 8
def bc5 (a : Int64) : Int64 := a + usr a 16
def bc6 (a : Int64) : Int64 := a + usr a 32
def bcF (a : Int64) : Int32 := (bc6 (bc5 (bc4 (bc3 (bc2 (bc1 a)))))).toInt32 &&& 127
theorem wBc {E : Ev} {d : Nat} {a : Int64} {I : Mm} : SemM E d 0 0 mJ13_bitCount_95d88 [.long a] S0 I (some (.int (bcF a))) S0 I := by
  refine semM_ofXF (E := E) (y := mJ13_bitCount_95d88) (args := fun E => [.long a]) (r := fun E => (some (.int (bcF a)))) (fun E => [some (.long a), none]) (by decide +kernel) (Nat.le_of_ble_eq_true rfl) rfl (fun X C M => ?_)
  refine s_lload_n C dJ13_bitCount_95d88_0 rfl rfl ?_
  refine s_lload_n C dJ13_bitCount_95d88_1 rfl rfl ?_
  refine s_iconst C dJ13_bitCount_95d88_2 ic_1 ?_
  refine s_lushr C dJ13_bitCount_95d88_3 ?_
  refine s_ldc2 C dJ13_bitCount_95d88_4 coJ13_314 ?_
  refine s_land C dJ13_bitCount_95d88_7 ?_
  refine s_lsub C dJ13_bitCount_95d88_8 ?_
  refine s_lstore_n (ls' := [some (.long (bc1 a)), none]) C dJ13_bitCount_95d88_9 rfl (by decide) (Nat.le_of_ble_eq_true rfl) rfl rfl ?_
  refine s_lload_n C dJ13_bitCount_95d88_10 rfl rfl ?_
  refine s_ldc2 C dJ13_bitCount_95d88_11 coJ13_316 ?_
  refine s_land C dJ13_bitCount_95d88_14 ?_
  refine s_lload_n C dJ13_bitCount_95d88_15 rfl rfl ?_
  refine s_iconst C dJ13_bitCount_95d88_16 ic_2 ?_
  refine s_lushr C dJ13_bitCount_95d88_17 ?_
  refine s_ldc2 C dJ13_bitCount_95d88_18 coJ13_316 ?_
  refine s_land C dJ13_bitCount_95d88_21 ?_
  refine s_ladd C dJ13_bitCount_95d88_22 ?_
  refine s_lstore_n (ls' := [some (.long (bc2 (bc1 a))), none]) C dJ13_bitCount_95d88_23 rfl (by decide) (Nat.le_of_ble_eq_true rfl) rfl rfl ?_
  refine s_lload_n C dJ13_bitCount_95d88_24 rfl rfl ?_
  refine s_lload_n C dJ13_bitCount_95d88_25 rfl rfl ?_
  refine s_iconst C dJ13_bitCount_95d88_26 ic_4 ?_
  refine s_lushr C dJ13_bitCount_95d88_27 ?_
  refine s_ladd C dJ13_bitCount_95d88_28 ?_
  refine s_ldc2 C dJ13_bitCount_95d88_29 coJ13_318 ?_
  refine s_land C dJ13_bitCount_95d88_32 ?_
  refine s_lstore_n (ls' := [some (.long (bc3 (bc2 (bc1 a)))), none]) C dJ13_bitCount_95d88_33 rfl (by decide) (Nat.le_of_ble_eq_true rfl) rfl rfl ?_
  refine s_lload_n C dJ13_bitCount_95d88_34 rfl rfl ?_
  refine s_lload_n C dJ13_bitCount_95d88_35 rfl rfl ?_
  refine s_bipush C dJ13_bitCount_95d88_36 bi_8 ?_
  refine s_lushr C dJ13_bitCount_95d88_38 ?_
  refine s_ladd C dJ13_bitCount_95d88_39 ?_
  refine s_lstore_n (ls' := [some (.long (bc4 (bc3 (bc2 (bc1 a))))), none]) C dJ13_bitCount_95d88_40 rfl (by decide) (Nat.le_of_ble_eq_true rfl) rfl rfl ?_
  refine s_lload_n C dJ13_bitCount_95d88_41 rfl rfl ?_
  refine s_lload_n C dJ13_bitCount_95d88_42 rfl rfl ?_
  refine s_bipush C dJ13_bitCount_95d88_43 bi_16 ?_
  refine s_lushr C dJ13_bitCount_95d88_45 ?_
  refine s_ladd C dJ13_bitCount_95d88_46 ?_
  refine s_lstore_n (ls' := [some (.long (bc5 (bc4 (bc3 (bc2 (bc1 a)))))), none]) C dJ13_bitCount_95d88_47 rfl (by decide) (Nat.le_of_ble_eq_true rfl) rfl rfl ?_
  refine s_lload_n C dJ13_bitCount_95d88_48 rfl rfl ?_
  refine s_lload_n C dJ13_bitCount_95d88_49 rfl rfl ?_
  refine s_bipush C dJ13_bitCount_95d88_50 bi_32 ?_
  refine s_lushr C dJ13_bitCount_95d88_52 ?_
  refine s_ladd C dJ13_bitCount_95d88_53 ?_
  refine s_lstore_n (ls' := [some (.long (bc6 (bc5 (bc4 (bc3 (bc2 (bc1 a))))))), none]) C dJ13_bitCount_95d88_54 rfl (by decide) (Nat.le_of_ble_eq_true rfl) rfl rfl ?_
  refine s_lload_n C dJ13_bitCount_95d88_55 rfl rfl ?_
  refine s_l2i C dJ13_bitCount_95d88_56 ?_
  refine s_bipush C dJ13_bitCount_95d88_57 bi_127 ?_
  refine s_iand C dJ13_bitCount_95d88_59 ?_
  exact s_iret C M dJ13_bitCount_95d88_60 rfl rfl (Nat.le_refl 0) (Nat.le_refl 0)
/-! a cell of the script -/
def celF (L : Nat) (xz : Nat → Int32) (i : Int32) : Int32 := if Int32.ofNat L = 0 then 577 * i else xz ((i &&& 65535) - (i &&& 65535) / Int32.ofNat L * Int32.ofNat L).toNatClampNeg
theorem and_65535 (x : Int32) : 0 ≤ (x &&& 65535).toInt ∧ (x &&& 65535).toInt < 65536 := by
  have e : (x &&& 65535).toBitVec.toNat = x.toBitVec.toNat % 65536 := by
    have h : (x &&& 65535).toBitVec = x.toBitVec &&& 65535#32 := rfl
    rw [h, BitVec.toNat_and]
    show x.toBitVec.toNat &&& (2 ^ 16 - 1) = _
    rw [Nat.and_two_pow_sub_one_eq_mod]
  have e2 : (x &&& 65535).toInt = ((x &&& 65535).toBitVec.toNat : Int) := by
    show (x &&& 65535).toBitVec.toInt = _
    rw [BitVec.toInt_eq_toNat_of_lt]
    rw [e]; omega
  rw [e2, e]; omega
theorem cel_in {L : Nat} (hL : L ≤ 260) (h0 : ¬ Int32.ofNat L = 0) (i : Int32) : ¬ (((i &&& 65535) - (i &&& 65535) / Int32.ofNat L * Int32.ofNat L) < 0 ∨ L ≤ ((i &&& 65535) - (i &&& 65535) / Int32.ofNat L * Int32.ofNat L).toNatClampNeg) := by
  have hp : 0 < L := by
    rcases Nat.eq_zero_or_pos L with h | h
    · subst h; exact absurd rfl h0
    · exact h
  obtain ⟨a1, a2⟩ := and_65535 i
  generalize i &&& 65535 = a at a1 a2 ⊢
  have hLt : (Int32.ofNat L).toInt = L := Int32.toInt_ofNat_of_lt (by omega)
  have hd : (a / Int32.ofNat L).toInt = a.toInt / (L : Int) := by
    have q1 : a.toInt / (L : Int) ≤ a.toInt := Int.ediv_le_self _ a1
    have q0 : 0 ≤ a.toInt / (L : Int) := Int.ediv_nonneg a1 (by omega)
    rw [Int32.toInt_div, hLt, Int.tdiv_eq_ediv_of_nonneg a1]
    exact Int.bmod_eq_of_le (by omega) (by omega)
  have m0 : a.toInt - a.toInt / (L : Int) * L = a.toInt % (L : Int) := by
    have := Int.emod_add_mul_ediv a.toInt L
    rw [Int.mul_comm] at this; omega
  have m1 := Int.emod_nonneg a.toInt (show (L : Int) ≠ 0 by omega)
  have m2 := Int.emod_lt_of_pos a.toInt (show (0 : Int) < L by omega)
  have q0 : 0 ≤ a.toInt / (L : Int) * L := Int.mul_nonneg (Int.ediv_nonneg a1 (by omega)) (by omega)
  have e1 : (a / Int32.ofNat L * Int32.ofNat L).toInt = a.toInt / (L : Int) * L := by
    rw [Int32.toInt_mul, hd, hLt]; exact Int.bmod_eq_of_le (by omega) (by omega)
  have e2 : (a - a / Int32.ofNat L * Int32.ofNat L).toInt = a.toInt % (L : Int) := by
    rw [Int32.toInt_sub, e1, m0]; exact Int.bmod_eq_of_le (by omega) (by omega)
  rintro (h | h)
  · rw [Int32.lt_iff_toInt_lt, e2] at h
    have : (0 : Int32).toInt = 0 := rfl
    omega
  · have h' : L ≤ (a - a / Int32.ofNat L * Int32.ofNat L).toInt.toNat := h
    rw [e2] at h'
    omega
theorem wCell {E : Ev} {d : Nat} {i : Int32} {I : Mm} : SemM E d 0 0 mL_cell [.ref (scB E), .int i] S0 I (some (.int (celF (scL E) (scX E) i))) S0 I := by
  refine SemM.ofX (E := E) (y := mL_cell) (args := fun E => [.ref (scB E), .int i]) (r := fun E => (some (.int (celF (scL E) (scX E) i)))) (fun E => [some (.ref (scB E)), some (.int i)]) (by decide +kernel) (Nat.le_of_ble_eq_true rfl) rfl (fun X C M => ?_)
  have hX : LX X (scB (xE X)) (scL (xE X)) (scX (xE X)) := ⟨rfl, rfl, rfl⟩
  have hL : scL (xE X) ≤ 260 := C.2.2.2.2.2.2.2.2.2.2.2.2.2.2.2.2.2.2.2.1
  refine s_aload_n C dL_cell_0 rfl rfl ?_
  refine s_slen C hX dL_cell_1 ?_
  refine s_if_ne (tgt := 13) C dL_cell_2 (by decide) (fun c => ?_) (fun c => ?_)
  · refine s_aload_n C dL_cell_13 rfl rfl ?_
    refine s_iload_n C dL_cell_14 rfl rfl ?_
    refine s_ldc C dL_cell_15 coL_9 ?_
    refine s_iand C dL_cell_17 ?_
    refine s_aload_n C dL_cell_18 rfl rfl ?_
    refine s_slen C hX dL_cell_19 ?_
    refine s_irem C dL_cell_20 c ?_
    refine s_sld C hX dL_cell_21 (cel_in hL c i) ?_
    refine s_top_i (show celF (scL (xE X)) (scX (xE X)) i = _ from if_neg c) ?_
    exact s_iret C M dL_cell_22 rfl rfl (Nat.le_refl 0) (Nat.le_refl 0)
  · refine s_sipush C dL_cell_5 si_577 ?_
    refine s_iload_n C dL_cell_8 rfl rfl ?_
    refine s_imul C dL_cell_9 ?_
    refine s_goto (tgt := 22) C dL_cell_10 (by decide) ?_
    refine s_top_i (show celF (scL (xE X)) (scX (xE X)) i = _ from if_pos c) ?_
    exact s_iret C M dL_cell_22 rfl rfl (Nat.le_refl 0) (Nat.le_refl 0)
section RL8
variable {X : Cx} {y : Yd} {pc : Nat} {ls : List (Option Value)} {st : List Value} {I : Mm} {k n : Nat}
theorem s_tlen {t ix d : Nat} (C : CtxOK X y) (hR : RG X d k n) (hd : 8 ≤ d) (ht : t < 20) (hl : Cond.methodLink y.1.cls ix yJ0_length_8abf5 ∈ lw_good) (dd : decode y.2.1 pc = .ok (.invokevirtual ix, 3)) (hcat : (st.map fun v => v.category).sum ≤ 8)
    (K : WM X y (pc + 3) ls (.int (tlen t) :: st) S0 I k n) : WM X y pc ls (.ref (adS (xE X) t) :: st) S0 I k n :=
  s_cT (st := st) ht C hR (Nat.le_trans (by decide) hd) mt_len hl dd (wT_len (d := 2) ht (Nat.le_refl 2)) rfl rfl hcat K
theorem s_tchr {t ix d : Nat} {i : Int32} (C : CtxOK X y) (hR : RG X d k n) (hd : 8 ≤ d) (ht : t < 20) (hin : ¬ (i < 0 ∨ txL.getD t 0 ≤ i.toNatClampNeg)) (hl : Cond.methodLink y.1.cls ix yJ0_charAt_5068e ∈ lw_good) (dd : decode y.2.1 pc = .ok (.invokevirtual ix, 3)) (hcat : (st.map fun v => v.category).sum ≤ 8)
    (K : WM X y (pc + 3) ls (.int (tchr t i.toNatClampNeg) :: st) S0 I k n) : WM X y pc ls (.int i :: .ref (adS (xE X) t) :: st) S0 I k n :=
  s_cT (st := st) ht C hR (Nat.le_trans (by decide) hd) mt_chr hl dd (wT_ch (d := 4) ht (Nat.le_refl 4) hin) rfl rfl hcat K
theorem s_bitc {ix d : Nat} {a : Int64} (C : CtxOK X y) (hR : RG X d k n) (hd : 2 ≤ d) (hl : Cond.methodLink y.1.cls ix yJ13_bitCount_95d88 ∈ lw_good) (dd : decode y.2.1 pc = .ok (.invokestatic ix, 3)) (hcat : (st.map fun v => v.category).sum ≤ 8)
    (K : WM X y (pc + 3) ls (.int (bcF a) :: st) S0 I k n) : WM X y pc ls (.long a :: st) S0 I k n :=
  s_cS0 (st := st) C hR (Nat.le_trans (by decide) hd) mwBc hl dd (wBc (d := 1)) rfl rfl hcat K
theorem s_cell {b L ix d : Nat} {xz : Nat → Int32} {i : Int32} (C : CtxOK X y) (hR : RG X d k n) (hd : 2 ≤ d) (hX : LX X b L xz) (hl : Cond.methodLink y.1.cls ix yL_cell ∈ lw_good) (dd : decode y.2.1 pc = .ok (.invokestatic ix, 3)) (hcat : (st.map fun v => v.category).sum ≤ 8)
    (K : WM X y (pc + 3) ls (.int (celF L xz i) :: st) S0 I k n) : WM X y pc ls (.int i :: .ref b :: st) S0 I k n := by
  obtain ⟨rfl, rfl, rfl⟩ := hX
  exact s_cS0 (st := st) C hR (Nat.le_trans (by decide) hd) mwCell hl dd (wCell (d := 1)) rfl rfl hcat K
theorem s_fbits {ix d : Nat} {b : UInt32} (C : CtxOK X y) (hR : RG X d k n) (hd : 6 ≤ d) (hl : Cond.methodLink y.1.cls ix yJxf58ca_floatToIntBits_5c35a ∈ lw_good) (dd : decode y.2.1 pc = .ok (.invokestatic ix, 3)) (hcat : (st.map fun v => v.category).sum ≤ 8)
    (K : WM X y (pc + 3) ls (.int (fbI b) :: st) S0 I k n) : WM X y pc ls (.float b :: st) S0 I k n :=
  s_cS0 (st := st) C hR (Nat.le_trans (by decide) hd) mwFb hl dd (wFb (d := 2) (Nat.le_refl 2)) rfl rfl hcat K
end RL8
