/-! ===== pour, as the class makes it ===== -/
section KPOUR
variable {I : Mm} {T : Nat → Tr} {mo : Nat → Nat} {ct : Nat → Int32}
theorem gtz_leaf : GT .leaf := ⟨by rw [show cnt .leaf = 0 from rfl]; omega, fun p hp => by simp [cnt] at hp, fun p q _ hp => by simp [cnt] at hp, fun p q _ hp => by simp [cnt] at hp⟩
theorem k_pour (OZ : OKZ T mo ct) (C : CY I 1 T mo ct) (x y : Int32) : KOp I (fX4_pourNow x y) T mo ct tr1 tru := by
  have O := OZ.1
  obtain ⟨z, rfl, h1, h2⟩ := iI_ex x
  obtain ⟨w, rfl, w1, w2⟩ := iI_ex y
  by_cases c : (0 ≤ z ∧ z < 3) ∧ (0 ≤ w ∧ w < 3)
  · obtain ⟨i, rfl⟩ : ∃ i : Nat, z = i := ⟨z.toNat, by omega⟩
    obtain ⟨j, rfl⟩ : ∃ j : Nat, w = j := ⟨w.toNat, by omega⟩
    have hi : i < 3 := by omega
    have hj : j < 3 := by omega
    have Gi := (O.1 i hi).1
    have Gj := (O.1 j hj).1
    have gi := Gi.1
    have gj := Gj.1
    have Ri := rc_1 (C := C) hi
    have Rj := rc_1 (C := C) hj
    have cp : fX4_pourNow (iI i) (iI j) I = if (i : Int) = j then some (iI (-14), wr (wr I 0 9 3) 0 10 (iI i)) else if 0 < cnt (T i) then (if cnt (T i) + cnt (T j) ≤ 30 then fX4_pourNow_p91 1000 (3 + 4 * i) (3 + 4 * j) (iI ((0 : Nat) : Int)) I else some (iI (-14), wr (wr I 0 9 1) 0 10 (iI ((cnt (T i) + cnt (T j) : Nat) : Int)))) else some (iI (-14), wr (wr I 0 9 5) 0 10 (iI i)) := by
      rw [fX4_pourNow, c_rick hi, bd_s, c_rick hj, bd_s, on_1, if_pos (kd_r (Or.inl rfl) hi), on_1, if_pos (kd_r (Or.inl rfl) hj), show 1 + 2 + 4 * i = 3 + 4 * i by omega, show 1 + 2 + 4 * j = 3 + 4 * j by omega, Ri.1, Rj.1, iI_add, c_refuse, bd_s, c_refuse, bd_s, c_refuse, bd_s]
      by_cases a : (i : Int) = j
      · rw [if_pos a, if_pos (by rw [a])]
      · rw [if_neg a, if_neg (by rw [iI_eq (by omega) (by omega) (by omega) (by omega)]; exact a)]
        by_cases b : 0 < cnt (T i)
        · rw [if_pos b, if_pos (by rw [l_0, iI_lt (by omega) (by omega) (by omega) (by omega)]; omega)]
          by_cases d : cnt (T i) + cnt (T j) ≤ 30
          · rw [if_pos d, if_pos (by rw [l_30, iI_le (by omega) (by omega) (by omega) (by omega)]; omega)]; rfl
          · rw [if_neg d, if_neg (by rw [l_30, iI_le (by omega) (by omega) (by omega) (by omega)]; omega)]; rfl
        · rw [if_neg b, if_neg (by rw [l_0, iI_lt (by omega) (by omega) (by omega) (by omega)]; omega)]
    by_cases a : (i : Int) = j
    · exact k_ref C trivial (a := 3) (b := iI i) (by rw [cp, if_pos a]; rfl)
    · by_cases b : cnt (T i) = 0
      · exact k_ref C trivial (a := 5) (b := iI i) (by rw [cp, if_neg a, if_neg (by omega)]; rfl)
      · by_cases d : cnt (T i) + cnt (T j) ≤ 30
        · have cc := c_common Gi Gj Ri Rj (cnt (T i)) 0 1000 (by omega) (by omega)
          by_cases cq : cmP (T i) (T j) (cnt (T i)) 0 = -1
          · right
            have hn := fun p hp => cm_no (t := T i) (u := T j) (cnt (T i)) 0 (by omega) cq p (by omega) hp
            have hne : i ≠ j := by omega
            -- the class
            obtain ⟨J, U1, m', e1, G1, n1, E1, R1, R1', O1⟩ := c_layAll (i := 3 + 4 * i) (j := 3 + 4 * j) (by omega) Gi Gj (by omega) hn (cnt (T i)) 0 1000 I (T j) (by omega) (by omega) Gj (by omega) (fun a b => ⟨fun h => Or.inl h, fun h => by rcases h with h | ⟨p, h, _⟩; exact h; omega⟩) Ri Rj
            generalize hJ2 : wr (wr J (3 + 4 * i) 3 0) (3 + 4 * i) 4 0 = J2
            have o2 : ∀ a y, (a ≠ 3 + 4 * i ∨ (y ≠ 3 ∧ y ≠ 4)) → J2 a y = J a y := fun a y h => by rw [← hJ2, wr_e, if_neg (by omega), wr_e, if_neg (by omega)]
            have cy1 : CY J2 1 (up T i .leaf) (up mo i 0) ct → CY J2 1 (up (up T i .leaf) j U1) (up (up mo i 0) j (mo j)) ct := fun h => by
              refine cy_up hj h (rt_of R1' (fun a y x1 x2 => o2 a y (by omega))) ?_ (fun _ _ _ _ _ => rfl) h.2
              rw [o2 _ _ (by omega), O1 _ _ (by omega)]
              have := (C.1 j hj).2
              rw [show 1 + 2 + 4 * j = 3 + 4 * j by omega] at this
              exact this
            have cyJ2 : CY J2 1 (up (up T i .leaf) j U1) (up (up mo i 0) j (mo j)) ct := by
              refine ⟨fun q hq => ?_, fun y hy => by rw [o2 1 _ (by omega), O1 1 _ (by omega)]; exact C.2 y hy⟩
              by_cases c1 : q = j
              · subst c1
                rw [up_s, up_s, show 1 + 2 + 4 * q = 3 + 4 * q by omega]
                refine ⟨rt_of R1' (fun a y x1 x2 => o2 a y (by omega)), ?_⟩
                rw [o2 _ _ (by omega), O1 _ _ (by omega)]
                have := (C.1 q hq).2
                rw [show 1 + 2 + 4 * q = 3 + 4 * q by omega] at this
                exact this
              · rw [up_n _ _ c1, up_n _ _ c1]
                by_cases c2 : q = i
                · subst c2
                  rw [up_s, up_s, show 1 + 2 + 4 * q = 3 + 4 * q by omega]
                  refine ⟨⟨by rw [← hJ2, wr_e, if_neg (by omega), wr_e, if_pos ⟨rfl, rfl⟩]; rfl, fun p hp => by simp [cnt] at hp⟩, by rw [← hJ2, wr_e, if_pos ⟨rfl, rfl⟩]; rfl⟩
                · rw [up_n _ _ c2, up_n _ _ c2]
                  have := C.1 q hq
                  exact ⟨rt_of this.1 (fun a y x1 x2 => by rw [o2 a y (by omega), O1 a y (by omega)]), by rw [o2 _ _ (by omega), O1 _ _ (by omega)]; exact this.2⟩
            have GU1 : GT (up (up T i .leaf) j U1 j) := by rw [up_s]; exact G1
            obtain ⟨J3, e3, c3, f3, z3⟩ := c_bw hj cyJ2 GU1
            simp only [up_s] at e3 c3
            rw [up_up, up_up] at c3
            have j37 : J3 1 7 = ct 6 := by rw [c3.2 6 (by omega), up_n _ _ (by omega), up_n _ _ (by omega)]
            have j3c : J3 (3 + 4 * j) 3 = iI ((cnt (T i) + cnt (T j) : Nat) : Int) := by
              have := (c3.1 j hj).1.1
              rw [up_s, show 1 + 2 + 4 * j = 3 + 4 * j by omega, (bw_pos U1).1] at this
              rw [this]; congr 1; omega
            have o4 : ∀ a y, (a ≠ 1 ∨ y ≠ 7) → (wr J3 1 7 (ct 6 + 1)) a y = J3 a y := fun a y h => by rw [wr_e, if_neg (by omega)]
            have cF : fX4_pourNow (iI i) (iI j) I = some (iI ((cnt (T i) + cnt (T j) : Nat) : Int), wr J3 1 7 (ct 6 + 1)) := by
              rw [cp, if_neg a, if_pos (by omega), if_pos d, cc, if_pos cq]
              rw [show fX4_pourNow_p136 1000 (3 + 4 * i) (3 + 4 * j) 0 I = _ from e1, fX4_pourNow_p136, R1.1, if_pos (by rw [iI_le (by omega) (by omega) (by omega) (by omega)]; omega), ltm_s, ltm_s, hJ2, e3, bd_s, ltm_s, j37, o4 _ _ (by omega), j3c]
            have bp := (bw_pos U1).1
            have fin : OKZ (up (up T i .leaf) j (bwT U1)) (up (up mo i 0) j (cnt U1)) (up (up (up ct 4 (ct 4 + 1)) 5 (ct 5 + iI (cnt U1))) 6 (ct 6 + 1)) := by
              refine ⟨⟨fun q hq => ?_, ?_, ?_⟩, fun q hq => ?_⟩
              · by_cases c1 : q = j
                · subst c1; rw [up_s, up_s]; exact ⟨bw_gt G1, by omega⟩
                · rw [up_n _ _ c1, up_n _ _ c1]
                  by_cases c2 : q = i
                  · subst c2; rw [up_s, up_s]; exact ⟨gtz_leaf, by omega⟩
                  · rw [up_n _ _ c2, up_n _ _ c2]; exact O.1 q hq
              · rw [up_n _ _ (by omega), up_n _ _ (by omega), up_n _ _ (by omega)]; exact O.2.1
              · have s2 := sum_2 (T := T) hi hj hne (bwT U1)
                rw [up_n _ _ (by omega), up_n _ _ (by omega), up_n _ _ (by omega), up_n _ _ (show (2 : Nat) ≠ 6 by omega), up_n _ _ (show (2 : Nat) ≠ 5 by omega), up_n _ _ (show (2 : Nat) ≠ 4 by omega), O.2.2]
                congr 1
                omega
              · by_cases c1 : q = j
                · subst c1; rw [up_s, up_s]; omega
                · rw [up_n _ _ c1, up_n _ _ c1]
                  by_cases c2 : q = i
                  · subst c2; rw [up_s, up_s, show cnt .leaf = 0 from rfl]; omega
                  · rw [up_n _ _ c2, up_n _ _ c2]; exact OZ.2 q hq
            refine ⟨iI ((cnt (T i) + cnt (T j) : Nat) : Int), _, _, _, wr J3 1 7 (ct 6 + 1), by rw [l_0, iI_le (by omega) (by omega) (by omega) (by omega)]; omega, fin, cF, ⟨⟨fun q hq => ⟨rt_of (c3.1 q hq).1 (fun a y x1 x2 => o4 a y (by omega)), by rw [o4 _ _ (by omega)]; exact (c3.1 q hq).2⟩, fun y hy => ?_⟩, fun a y h => by rw [o4 a y (by omega), f3 a y h, o2 a y (by omega), O1 a y (by omega)], fun y _ _ => by rw [o4 0 y (by omega), z3, o2 0 y (by omega), O1 0 y (by omega)], by rw [o4 0 _ (by omega), z3, o2 0 _ (by omega), O1 0 _ (by omega)]; rfl, by rw [o4 0 _ (by omega), z3, o2 0 _ (by omega), O1 0 _ (by omega)]; rfl⟩, trivial⟩
            by_cases c1 : y = 6
            · subst c1; rw [wr_e, if_pos ⟨rfl, rfl⟩, up_s]
            · rw [o4 _ _ (by omega), up_n _ _ c1]; exact c3.2 y hy
          · exact k_ref C trivial (a := 2) (b := iI (cmP (T i) (T j) (cnt (T i)) 0)) (by rw [cp, if_neg a, if_pos (by omega), if_pos d, cc, if_neg cq]; rfl)
        · exact k_ref C trivial (a := 1) (b := iI ((cnt (T i) + cnt (T j) : Nat) : Int)) (by rw [cp, if_neg a, if_pos (by omega), if_neg d]; rfl)
  · refine k_no C (v := -11) (by decide) trivial ?_
    rw [fX4_pourNow, c_rickAt h1 h2, bd_s, c_rickAt w1 w2, bd_s]
    by_cases a : 0 ≤ z ∧ z < 3
    · rw [if_pos a, if_neg (show ¬ (0 ≤ w ∧ w < 3) from fun q => c ⟨a, q⟩), on_1, if_pos (by have := @kd_r 1 z.toNat (Or.inl rfl) (by omega); exact this), on_0]
    · rw [if_neg a, on_0]
end KPOUR
