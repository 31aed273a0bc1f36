/-! ===== pour, on both sides ===== -/
section OPo2
variable {I : Mm} {f : Nat → Int32} {T : Nat → Tr} {mo : Nat → Nat} {ct : Nat → Int32}
theorem sum_2 {i j : Nat} (hi : i < 3) (hj : j < 3) (hij : i ≠ j) (b : Tr) : cnt (up (up T i .leaf) j b 0) + cnt (up (up T i .leaf) j b 1) + cnt (up (up T i .leaf) j b 2) + (cnt (T i) + cnt (T j)) = cnt (T 0) + cnt (T 1) + cnt (T 2) + cnt b := by
  have a := up_sum (T := T) hi .leaf
  have c := up_sum (T := up T i .leaf) hj b
  rw [show up T i .leaf j = T j from up_n _ _ (fun e => hij e.symm)] at c
  rw [show cnt .leaf = 0 from rfl] at a
  omega
/-- as OpYes, but the trees may be told behind the reference's run -/
def OpY (I : Mm) (f : Nat → Int32) (cF mF : Mm → Option (Int32 × Mm)) : Prop := ∃ (v : Int32) (J : Mm), 0 ≤ v ∧ cF I = some (v, J) ∧ (∀ a j, 15 ≤ a → J a j = I a j) ∧ (∀ j, J 0 j = I 0 j) ∧ ∀ K KC : Mm, K 164 = f → ChgOK K KC → ∃ (L : Mm) (T : Nat → Tr) (mo : Nat → Nat) (ct : Nat → Int32), mF K = some (v, L) ∧ OKY T mo ct ∧ CY J 1 T mo ct ∧ MY (L 164) T mo ct ∧ EQx KC L
theorem op_y {cF mF : Mm → Option (Int32 × Mm)} (h : OpYes I f cF mF) : OpY I f cF mF := by
  obtain ⟨v, T, mo, ct, h0, h1, ⟨J, h2, h3⟩, h4⟩ := h
  refine ⟨v, J, h0, h2, h3.2.1, fun j => ?_, fun K KC a b => ?_⟩
  · by_cases c : j = 9
    · rw [c, h3.2.2.2.1]; rfl
    · by_cases d : j = 10
      · rw [d, h3.2.2.2.2]; rfl
      · exact h3.2.2.1 j c d
  · obtain ⟨L, e1, e2, e3⟩ := h4 K KC a b
    exact ⟨L, T, mo, ct, e1, h1, h3.1, e2, e3⟩
theorem op_e {cF mF : Mm → Option (Int32 × Mm)} (h : OpNo I f cF mF T mo ct ∨ OpYes I f cF mF) : OpNo I f cF mF T mo ct ∨ OpY I f cF mF := h.imp id op_y
theorem op_pour (N : NwS I f T mo ct) (x y : Int32) : OpNo I f (fX4_pourNow x y) (fX5_pour x y) T mo ct ∨ OpY I f (fX4_pourNow x y) (fX5_pour x y) := by
  obtain ⟨O, C, M⟩ := N
  obtain ⟨z, rfl, h1, h2⟩ := iI_ex x
  obtain ⟨w, rfl, w1, w2⟩ := iI_ex y
  by_cases c : (0 ≤ z ∧ z < 3) ∧ (0 ≤ w ∧ w < 3)
  · obtain ⟨i, rfl⟩ : ∃ i : Nat, z = i := ⟨z.toNat, by omega⟩
    obtain ⟨j, rfl⟩ : ∃ j : Nat, w = j := ⟨w.toNat, by omega⟩
    have hi : i < 3 := by omega
    have hj : j < 3 := by omega
    have Gi := (O.1 i hi).1
    have Gj := (O.1 j hj).1
    have gi := Gi.1
    have gj := Gj.1
    have Ri := rc_1 (C := C) hi
    have Rj := rc_1 (C := C) hj
    have cp : fX4_pourNow (iI i) (iI j) I = if (i : Int) = j then some (iI (-14), wr (wr I 0 9 3) 0 10 (iI i)) else if 0 < cnt (T i) then (if cnt (T i) + cnt (T j) ≤ 30 then fX4_pourNow_p91 1000 (3 + 4 * i) (3 + 4 * j) (iI ((0 : Nat) : Int)) I else some (iI (-14), wr (wr I 0 9 1) 0 10 (iI ((cnt (T i) + cnt (T j) : Nat) : Int)))) else some (iI (-14), wr (wr I 0 9 5) 0 10 (iI i)) := by
      rw [fX4_pourNow, c_rick hi, bd_s, c_rick hj, bd_s, on_1, if_pos (kd_r (Or.inl rfl) hi), on_1, if_pos (kd_r (Or.inl rfl) hj), show 1 + 2 + 4 * i = 3 + 4 * i by omega, show 1 + 2 + 4 * j = 3 + 4 * j by omega, Ri.1, Rj.1, iI_add, c_refuse, bd_s, c_refuse, bd_s, c_refuse, bd_s]
      by_cases a : (i : Int) = j
      · rw [if_pos a, if_pos (by rw [a])]
      · rw [if_neg a, if_neg (by rw [iI_eq (by omega) (by omega) (by omega) (by omega)]; exact a)]
        by_cases b : 0 < cnt (T i)
        · rw [if_pos b, if_pos (by rw [l_0, iI_lt (by omega) (by omega) (by omega) (by omega)]; omega)]
          by_cases d : cnt (T i) + cnt (T j) ≤ 30
          · rw [if_pos d, if_pos (by rw [l_30, iI_le (by omega) (by omega) (by omega) (by omega)]; omega)]; rfl
          · rw [if_neg d, if_neg (by rw [l_30, iI_le (by omega) (by omega) (by omega) (by omega)]; omega)]; rfl
        · rw [if_neg b, if_neg (by rw [l_0, iI_lt (by omega) (by omega) (by omega) (by omega)]; omega)]
    have mp : ∀ K : Mm, K 164 = f → fX5_pour (iI i) (iI j) K = if (i : Int) = j then fX5_pour_p40 (iI i) (iI j) (iI ((cnt (T i) + cnt (T j) : Nat) : Int)) (iI 1) K else fX5_pour_p40 (iI i) (iI j) (iI ((cnt (T i) + cnt (T j) : Nat) : Int)) (iI 0) K := fun K hK => by
      rw [fX5_pour, m_isRick1 hi, bd_s, if_neg i10, m_isRick1 hj, bd_s, if_neg i10, m_count hi Gi (by rw [hK]; exact (M.1 i hi).1), bd_s, m_count hj Gj (by rw [hK]; exact (M.1 j hj).1), bd_s, iI_add, ltm_s]
      by_cases a : (i : Int) = j
      · rw [if_pos a, if_pos (by rw [a])]; rfl
      · rw [if_neg a, if_neg (by rw [iI_eq (by omega) (by omega) (by omega) (by omega)]; exact a)]; rfl
    by_cases a : (i : Int) = j
    · left
      refine no_ref C (a := 3) (b := iI i) (by decide) (by rw [cp, if_pos a]; rfl) (fun K hK => ⟨K, ?_, lf_rfl K⟩)
      rw [mp K hK, if_pos a, fX5_pour_p40, m_ref1, bd_s, if_neg i10]
    · have mp2 : ∀ K : Mm, K 164 = f → fX5_pour (iI i) (iI j) K = if cnt (T i) = 0 then fX5_pour_p62 (iI i) (iI j) (iI ((cnt (T i) + cnt (T j) : Nat) : Int)) (iI 1) K else fX5_pour_p62 (iI i) (iI j) (iI ((cnt (T i) + cnt (T j) : Nat) : Int)) (iI 0) K := fun K hK => by
        rw [mp K hK, if_neg a, fX5_pour_p40, m_ref0, bd_s, if_pos i00, m_count hi Gi (by rw [hK]; exact (M.1 i hi).1), bd_s]
        by_cases b : cnt (T i) = 0
        · rw [if_pos b, if_pos (by rw [b]; rfl)]; rfl
        · rw [if_neg b, if_neg (by rw [l_0, iI_eq (by omega) (by omega) (by omega) (by omega)]; omega)]; rfl
      by_cases b : cnt (T i) = 0
      · left
        refine no_ref C (a := 5) (b := iI i) (by decide) (by rw [cp, if_neg a, if_neg (by omega)]; rfl) (fun K hK => ⟨K, ?_, lf_rfl K⟩)
        rw [mp2 K hK, if_pos b, fX5_pour_p62, m_ref1, bd_s, if_neg i10]
      · have mp3 : ∀ K : Mm, K 164 = f → fX5_pour (iI i) (iI j) K = if cnt (T i) + cnt (T j) ≤ 30 then fX5_pour_p82 (iI i) (iI j) (iI ((cnt (T i) + cnt (T j) : Nat) : Int)) (iI 0) K else fX5_pour_p82 (iI i) (iI j) (iI ((cnt (T i) + cnt (T j) : Nat) : Int)) (iI 1) K := fun K hK => by
          rw [mp2 K hK, if_neg b, fX5_pour_p62, m_ref0, bd_s, if_pos i00]
          by_cases d : cnt (T i) + cnt (T j) ≤ 30
          · rw [if_pos d, if_pos (by rw [l_30, iI_le (by omega) (by omega) (by omega) (by omega)]; omega)]; rfl
          · rw [if_neg d, if_neg (by rw [l_30, iI_le (by omega) (by omega) (by omega) (by omega)]; omega)]; rfl
        by_cases d : cnt (T i) + cnt (T j) ≤ 30
        · have cc := c_common Gi Gj Ri Rj (cnt (T i)) 0 1000 (by omega) (by omega)
          have mc : ∀ K : Mm, K 164 = f → ∃ L, LF K L ∧ fX5_pour (iI i) (iI j) K = if cmP (T i) (T j) (cnt (T i)) 0 = -1 then fX5_pour_p112 (iI i) (iI j) (iI ((cnt (T i) + cnt (T j) : Nat) : Int)) (iI (cmP (T i) (T j) (cnt (T i)) 0)) (iI 0) L else fX5_pour_p112 (iI i) (iI j) (iI ((cnt (T i) + cnt (T j) : Nat) : Int)) (iI (cmP (T i) (T j) (cnt (T i)) 0)) (iI 1) L := fun K hK => by
            have mi : MR (K 164) i (T i) := by rw [hK]; exact (M.1 i hi).1
            have mj : MR (K 164) j (T j) := by rw [hK]; exact (M.1 j hj).1
            obtain ⟨L, e, l1, l2⟩ := m_listAll hi Gi mi
            have mm := m_common hi hj Gi Gj (mf_mr l1 mi) (mf_mr l1 mj) l2 (cnt (T i)) 0 1000 (by omega) (by omega)
            have rng : ∀ k q, q + k = cnt (T i) → cmP (T i) (T j) k q = -1 ∨ (0 ≤ cmP (T i) (T j) k q ∧ cmP (T i) (T j) k q < 1000) := by
              intro k
              induction k with
              | zero => intro q _; exact Or.inl rfl
              | succ k ih =>
                intro q hq
                rw [cmP]
                split
                · exact ih (q + 1) (by omega)
                · have := (Gi.2.1 q (by omega)).1
                  right; omega
            have r := rng (cnt (T i)) 0 (by omega)
            refine ⟨L, l1, ?_⟩
            rw [mp3 K hK, if_pos d, fX5_pour_p82, m_ref0, bd_s, if_pos i00, fX5_common, e, bd_s, show (0 : Int32) = iI ((0 : Nat) : Int) from rfl, mm, bd_s]
            by_cases q : cmP (T i) (T j) (cnt (T i)) 0 = -1
            · rw [if_pos q, if_pos (by rw [q]; decide)]; rfl
            · rw [if_neg q, if_neg (by rw [iI_lt (by omega) (by omega) (by omega) (by omega)]; omega)]; rfl
          by_cases cq : cmP (T i) (T j) (cnt (T i)) 0 = -1
          · right
            have hn := fun p hp => cm_no (t := T i) (u := T j) (cnt (T i)) 0 (by omega) cq p (by omega) hp
            have hne : i ≠ j := by omega
            -- the class
            obtain ⟨J, U1, m', e1, G1, n1, E1, R1, R1', O1⟩ := c_layAll (i := 3 + 4 * i) (j := 3 + 4 * j) (by omega) Gi Gj (by omega) hn (cnt (T i)) 0 1000 I (T j) (by omega) (by omega) Gj (by omega) (fun a b => ⟨fun h => Or.inl h, fun h => by rcases h with h | ⟨p, h, _⟩; exact h; omega⟩) Ri Rj
            generalize hJ2 : wr (wr J (3 + 4 * i) 3 0) (3 + 4 * i) 4 0 = J2
            have o2 : ∀ a y, (a ≠ 3 + 4 * i ∨ (y ≠ 3 ∧ y ≠ 4)) → J2 a y = J a y := fun a y h => by rw [← hJ2, wr_e, if_neg (by omega), wr_e, if_neg (by omega)]
            have cy1 : CY J2 1 (up T i .leaf) (up mo i 0) ct → CY J2 1 (up (up T i .leaf) j U1) (up (up mo i 0) j (mo j)) ct := fun h => by
              refine cy_up hj h (rt_of R1' (fun a y x1 x2 => o2 a y (by omega))) ?_ (fun _ _ _ _ _ => rfl) h.2
              rw [o2 _ _ (by omega), O1 _ _ (by omega)]
              have := (C.1 j hj).2
              rw [show 1 + 2 + 4 * j = 3 + 4 * j by omega] at this
              exact this
            have cyJ2 : CY J2 1 (up (up T i .leaf) j U1) (up (up mo i 0) j (mo j)) ct := by
              refine ⟨fun q hq => ?_, fun y hy => by rw [o2 1 _ (by omega), O1 1 _ (by omega)]; exact C.2 y hy⟩
              by_cases c1 : q = j
              · subst c1
                rw [up_s, up_s, show 1 + 2 + 4 * q = 3 + 4 * q by omega]
                refine ⟨rt_of R1' (fun a y x1 x2 => o2 a y (by omega)), ?_⟩
                rw [o2 _ _ (by omega), O1 _ _ (by omega)]
                have := (C.1 q hq).2
                rw [show 1 + 2 + 4 * q = 3 + 4 * q by omega] at this
                exact this
              · rw [up_n _ _ c1, up_n _ _ c1]
                by_cases c2 : q = i
                · subst c2
                  rw [up_s, up_s, show 1 + 2 + 4 * q = 3 + 4 * q by omega]
                  refine ⟨⟨by rw [← hJ2, wr_e, if_neg (by omega), wr_e, if_pos ⟨rfl, rfl⟩]; rfl, fun p hp => by simp [cnt] at hp⟩, by rw [← hJ2, wr_e, if_pos ⟨rfl, rfl⟩]; rfl⟩
                · rw [up_n _ _ c2, up_n _ _ c2]
                  have := C.1 q hq
                  exact ⟨rt_of this.1 (fun a y x1 x2 => by rw [o2 a y (by omega), O1 a y (by omega)]), by rw [o2 _ _ (by omega), O1 _ _ (by omega)]; exact this.2⟩
            have GU1 : GT (up (up T i .leaf) j U1 j) := by rw [up_s]; exact G1
            obtain ⟨J3, e3, c3, f3, z3⟩ := c_bw hj cyJ2 GU1
            simp only [up_s] at e3 c3
            rw [up_up, up_up] at c3
            have j37 : J3 1 7 = ct 6 := by rw [c3.2 6 (by omega), up_n _ _ (by omega), up_n _ _ (by omega)]
            have j3c : J3 (3 + 4 * j) 3 = iI ((cnt (T i) + cnt (T j) : Nat) : Int) := by
              have := (c3.1 j hj).1.1
              rw [up_s, show 1 + 2 + 4 * j = 3 + 4 * j by omega, (bw_pos U1).1] at this
              rw [this]; congr 1; omega
            have o4 : ∀ a y, (a ≠ 1 ∨ y ≠ 7) → (wr J3 1 7 (ct 6 + 1)) a y = J3 a y := fun a y h => by rw [wr_e, if_neg (by omega)]
            have cF : fX4_pourNow (iI i) (iI j) I = some (iI ((cnt (T i) + cnt (T j) : Nat) : Int), wr J3 1 7 (ct 6 + 1)) := by
              rw [cp, if_neg a, if_pos (by omega), if_pos d, cc, if_pos cq]
              rw [show fX4_pourNow_p136 1000 (3 + 4 * i) (3 + 4 * j) 0 I = _ from e1, fX4_pourNow_p136, R1.1, if_pos (by rw [iI_le (by omega) (by omega) (by omega) (by omega)]; omega), ltm_s, ltm_s, hJ2, e3, bd_s, ltm_s, j37, o4 _ _ (by omega), j3c]
            -- the reference
            refine ⟨iI ((cnt (T i) + cnt (T j) : Nat) : Int), wr J3 1 7 (ct 6 + 1), by rw [l_0, iI_le (by omega) (by omega) (by omega) (by omega)]; omega, cF, fun a y h => by rw [o4 a y (by omega), f3 a y h, o2 a y (by omega), O1 a y (by omega)], fun y => by rw [o4 0 y (by omega), z3, o2 0 y (by omega), O1 0 y (by omega)], fun K KC hK hC => ?_⟩
            obtain ⟨L0, l1, l2⟩ := mc K hK
            obtain ⟨K1, k1, k2, k3⟩ := hC L0 l1
            have k164 : K1 164 = f := by rw [k2, lf_164 l1, hK]
            obtain ⟨K2, U3, m'', b1, b2, b3, b4, b5, b6⟩ := m_layAll hi hj hne Gi Gj (M.1 i hi).1 (by omega) hn (v := iI ((cnt (T i) + cnt (T j) : Nat) : Int)) 30 0 1000 K1 (T j) (by omega) (by omega) Gj (fun a b => ⟨fun h => Or.inl h, fun h => by rcases h with h | ⟨p, _, h, _⟩; exact h; omega⟩) (by rw [k164]; exact (M.1 j hj).1) (fun _ _ _ _ _ => by rw [k164]) (fun _ h => by omega)
            have es := el_same G1 b2 (fun a b => by rw [E1, b3])
            have n3 : cnt U3 = cnt (T i) + cnt (T j) := by have := es.1; omega
            have cy4 : CY (wr J3 1 7 (ct 6 + 1)) 1 (up (up T i .leaf) j (bwT U3)) (up (up mo i 0) j (cnt U3)) (up (up (up ct 4 (ct 4 + 1)) 5 (ct 5 + iI (cnt U3))) 6 (ct 6 + 1)) := by
              refine ⟨fun q hq => ?_, fun y hy => ?_⟩
              · have cq := c3.1 q hq
                by_cases c1 : q = j
                · subst c1
                  rw [up_s, up_s] at cq ⊢
                  exact ⟨rt_of (rt_bw cq.1 es.1 es.2) (fun a y x1 x2 => o4 a y (by omega)), by rw [o4 _ _ (by omega), cq.2, es.1]⟩
                · rw [up_n _ _ c1, up_n _ _ c1] at cq ⊢
                  exact ⟨rt_of cq.1 (fun a y x1 x2 => o4 a y (by omega)), by rw [o4 _ _ (by omega)]; exact cq.2⟩
              · by_cases c1 : y = 6
                · subst c1; rw [wr_e, if_pos ⟨rfl, rfl⟩, up_s]
                · rw [o4 _ _ (by omega), up_n _ _ c1, ← es.1]; exact c3.2 y hy
            have G3 : GT (bwT U3) := bw_gt b2
            generalize hK3 : wr (wr K2 164 (7 + 122 * i) (iI 0)) 164 (7 + 122 * i + 1) (iI 0) = K3
            have o5 : ∀ a y, (a ≠ 164 ∨ (y ≠ 7 + 122 * i ∧ y ≠ 7 + 122 * i + 1)) → K3 a y = K2 a y := fun a y h => by rw [← hK3, wr_e, if_neg (by omega), wr_e, if_neg (by omega)]
            have o6 : ∀ y, (y < 7 + 122 * i ∨ 7 + 122 * i + 122 ≤ y) → (y < 7 + 122 * j ∨ 7 + 122 * j + 122 ≤ y ∨ y = 7 + 122 * j + 1) → K3 164 y = f y := fun y a b => by rw [o5 _ _ (by omega), b6 164 y (Or.inr ⟨by omega, b⟩), k164]
            have my3 : MY (K3 164) (up (up T i .leaf) j U3) (up (up mo i 0) j (mo j)) ct := by
              refine ⟨fun q hq => ?_, fun y hy => by rw [o6 y (by omega) (by omega)]; exact M.2 y hy⟩
              by_cases c1 : q = j
              · subst c1
                rw [up_s, up_s]
                exact ⟨mr_of b2 b4 (fun y a b => o5 _ _ (by omega)), by rw [o6 _ (by omega) (by omega)]; exact (M.1 q hq).2⟩
              · rw [up_n _ _ c1, up_n _ _ c1]
                by_cases c2 : q = i
                · subst c2
                  rw [up_s, up_s]
                  refine ⟨⟨by rw [← hK3, wr_e, if_neg (by omega), wr_e, if_pos ⟨rfl, rfl⟩]; rfl, trivial, fun s hs _ => ?_⟩, by rw [← hK3, wr_e, if_pos ⟨rfl, rfl⟩]; rfl⟩
                  have := @ad_in q s 0 hs (by omega)
                  rw [o5 _ _ (by omega)]; exact b5 s hs
                · rw [up_n _ _ c2, up_n _ _ c2]
                  exact ⟨mr_of (O.1 q hq).1 (M.1 q hq).1 (fun y a b => o6 y (by omega) (by omega)), by rw [o6 _ (by omega) (by omega)]; exact (M.1 q hq).2⟩
            have GA : ∀ q, q < 3 → GT (up (up T i .leaf) j U3 q) := fun q hq => by
              by_cases c1 : q = j
              · subst c1; rw [up_s]; exact b2
              · rw [up_n _ _ c1]
                by_cases c2 : q = i
                · subst c2; rw [up_s]
                  exact ⟨by rw [show cnt .leaf = 0 from rfl]; omega, fun p hp => by simp [cnt] at hp, fun p q _ hp => by simp [cnt] at hp, fun p q _ hp => by simp [cnt] at hp⟩
                · rw [up_n _ _ c2]; exact (O.1 q hq).1
            obtain ⟨L, q1, q2, q3, q4⟩ := m_bw (K := K3) hj GA my3
            rw [up_s, up_up, up_up] at q2
            have l6 : L 164 6 = ct 6 := by rw [q2.2 6 (by omega), up_n _ _ (by omega), up_n _ _ (by omega)]
            refine ⟨wr L 164 6 (ct 6 + 1), up (up T i .leaf) j (bwT U3), up (up mo i 0) j (cnt U3), up (up (up ct 4 (ct 4 + 1)) 5 (ct 5 + iI (cnt U3))) 6 (ct 6 + 1), ?_, ⟨fun q hq => ?_, ?_, ?_⟩, cy4, ⟨fun q hq => ?_, fun y hy => ?_⟩, fun a y a1 a2 a3 a4 => ?_⟩
            · rw [l2, if_pos cq, fX5_pour_p112, m_ref0, bd_s, if_pos i00, k1, bd_s, show (0 : Int32) = iI ((0 : Nat) : Int) from rfl, b1, fX5_pour_p131, if_pos (by rw [l_30, iI_le (by omega) (by omega) (by omega) (by omega)]; omega), l_m1, m_setTop hi, bd_s, m_setMost hi, bd_s, show (wr (wr K2 164 (7 + 122 * i) (iI (-1 + 1))) 164 (7 + 122 * i + 1) 0) = K3 from hK3, q1, bd_s, ltm_s, l6]
            · by_cases c1 : q = j
              · subst c1; rw [up_s, up_s]; exact ⟨G3, by omega⟩
              · rw [up_n _ _ c1, up_n _ _ c1]
                by_cases c2 : q = i
                · subst c2; rw [up_s, up_s]
                  refine ⟨⟨by rw [show cnt .leaf = 0 from rfl]; omega, fun p hp => by simp [cnt] at hp, fun p q _ hp => by simp [cnt] at hp, fun p q _ hp => by simp [cnt] at hp⟩, by omega⟩
                · rw [up_n _ _ c2, up_n _ _ c2]; exact O.1 q hq
            · rw [up_n _ _ (by omega), up_n _ _ (by omega), up_n _ _ (by omega)]; exact O.2.1
            · have s2 := sum_2 (T := T) hi hj hne (bwT U3)
              have s3 := (bw_pos U3).1
              rw [up_n _ _ (by omega), up_n _ _ (by omega), up_n _ _ (by omega), up_n _ _ (show (2 : Nat) ≠ 6 by omega), up_n _ _ (show (2 : Nat) ≠ 5 by omega), up_n _ _ (show (2 : Nat) ≠ 4 by omega), O.2.2]
              congr 1
              omega
            · have m1 := q2.1 q hq
              have GB : GT (up (up T i .leaf) j (bwT U3) q) := by
                by_cases c1 : q = j
                · subst c1; rw [up_s]; exact G3
                · have := GA q hq
                  rw [up_n _ _ c1] at this ⊢; exact this
              exact ⟨mr_of GB m1.1 (fun y a b => by rw [wr_e, if_neg (by omega)]), by rw [wr_e, if_neg (by omega)]; exact m1.2⟩
            · by_cases c1 : y = 6
              · subst c1; rw [wr_e, if_pos ⟨rfl, rfl⟩, up_s]
              · rw [wr_e, if_neg (by omega), up_n _ _ c1]; exact q2.2 y hy
            · rw [wr_e, if_neg (by omega), q4 a y a1 a2 a4, o5 a y (by omega), b6 a y (by omega)]; exact k3 a y a1 a2 a3 a4
          · left
            refine no_ref C (a := 2) (b := iI (cmP (T i) (T j) (cnt (T i)) 0)) (by decide) (by rw [cp, if_neg a, if_pos (by omega), if_pos d, cc, if_neg cq]; rfl) (fun K hK => ?_)
            obtain ⟨L, l1, l2⟩ := mc K hK
            refine ⟨L, ?_, l1⟩
            rw [l2, if_neg cq, fX5_pour_p112, m_ref1, bd_s, if_neg i10]
        · left
          refine no_ref C (a := 1) (b := iI ((cnt (T i) + cnt (T j) : Nat) : Int)) (by decide) (by rw [cp, if_neg a, if_pos (by omega), if_neg d]; rfl) (fun K hK => ⟨K, ?_, lf_rfl K⟩)
          rw [mp3 K hK, if_neg d, fX5_pour_p82, m_ref1, bd_s, if_neg i10]
  · left
    refine no_no C (v := -11) (by decide) ?_ (fun K hK => ?_)
    · rw [fX4_pourNow, c_rickAt h1 h2, bd_s, c_rickAt w1 w2, bd_s]
      by_cases a : 0 ≤ z ∧ z < 3
      · rw [if_pos a, if_neg (show ¬ (0 ≤ w ∧ w < 3) from fun q => c ⟨a, q⟩), on_1, if_pos (by have := @kd_r 1 z.toNat (Or.inl rfl) (by omega); exact this), on_0]
      · rw [if_neg a, on_0]
    · rw [fX5_pour]
      by_cases a : 0 ≤ z ∧ z < 3
      · rw [m_isRick h1 h2, bd_s, if_pos (show 0 ≤ z ∧ z ≤ 2 by omega), if_neg i10, m_isRick0 w1 w2 (fun q => c ⟨a, q⟩), bd_s, if_pos i00]
      · rw [m_isRick0 h1 h2 a, bd_s, if_pos i00]
end OPo2
