/-! ===== put ===== -/
theorem up_up {α : Type} (f : Nat → α) (i : Nat) (a b : α) : up (up f i a) i b = up f i b := funext fun x => by
  unfold up
  by_cases c : x = i
  · rw [if_pos c, if_pos c]
  · rw [if_neg c, if_neg c, if_neg c]
section OPut
variable {I : Mm} {f : Nat → Int32} {T : Nat → Tr} {mo : Nat → Nat} {ct : Nat → Int32}
theorem m_isWeight {z : Int} (h1 : -2147483648 ≤ z) (h2 : z < 2147483648) (K : Mm) : fX5_isWeight (iI z) K = some (iI (if 0 ≤ z ∧ z ≤ 999 then 1 else 0), K) := by
  unfold fX5_isWeight
  rw [l_0, l_999, m_isBetween h1 h2 (by omega) (by omega) (by omega) (by omega), bd_s]
  by_cases c : 0 ≤ z ∧ z ≤ 999
  · rw [if_pos c, if_pos (show iI 1 = iI 0 ∨ iI 1 = 1 from Or.inr rfl)]
  · rw [if_neg c, if_pos (show iI 0 = iI 0 ∨ iI 0 = 1 from Or.inl rfl)]
/-- the stall at a place, -1 for none -/
def saT (t : Tr) (a : Int) : Int := if a = -1 then -1 else gs t a.toNat
theorem p_174 {i : Nat} (hi : i < 3) {t : Tr} (G : GT t) {K : Mm} (M : MR (K 164) i t) {lim : Int} (hl : 55 ≤ lim ∧ lim ≤ 90) (hL : K 164 0 = iI lim) : ∀ (n m : Nat) (a : Int), -1 ≤ a → a < cnt t → (a ≠ -1 → gd t a.toNat + 1 < n) → 0 < n → n < m → fX5_put__p174 m (iI i) (iI (saT t a)) K = fX5_put__p201 (iI i) (iI (saT t (flP lim t n a))) K
  | 0, m, a, h1, h2, h3, h0, hm => by omega
  | n + 1, m, a, h1, h2, h3, h0, hm => by
    obtain ⟨m, rfl⟩ : ∃ x, m = x + 1 := ⟨m - 1, by omega⟩
    rw [fX5_put__p174, flP]
    by_cases c : a = -1
    · subst c
      rw [if_pos (show (-1 : Int) < 0 by omega), saT, if_pos rfl, if_pos (by decide)]
    · have h := h3 c
      have gp := G.2.1 a.toNat (by omega)
      have e : saT t a = gs t a.toNat := by rw [saT, if_neg c]
      rw [if_neg (show ¬ a < 0 by omega), e, if_neg (by rw [l_0, iI_lt (by omega) (by omega) (by omega) (by omega)]; omega), m_leans hi G M (by omega) hl hL, bd_s]
      by_cases d : lnB lim (sbP t a.toNat) = true
      · rw [if_pos d, if_pos d, if_neg i10, e]
      · rw [if_neg d, if_neg d, if_pos i00, m_above hi G M (by omega), bd_s]
        have pr := pa_rng t a.toNat (by omega)
        exact p_174 hi G M hl hL n m (paP t a.toNat) pr.1 pr.2 (fun x => by have := pa_d (t := t) (p := a.toNat) (by omega) x; omega) (by omega) (by omega)
theorem in_at {k w ld : Nat} {t : Tr} (G : GT t) (H : ∀ q, q < cnt t → gw t q ≠ w) : rkQ w t < cnt (insT k w ld t) ∧ gs (insT k w ld t) (rkQ w t) = k := by
  have r := rk_le (w : Int) t
  have a := in_pos k w ld t (rkQ w t) G H r
  exact ⟨by rw [in_cnt]; omega, (a.2.1 rfl).2.2.1⟩
theorem op_put (N : NwS I f T mo ct) (x w l : Int32) : OpNo I f (fX4_putNow x w l) (fX5_put_ x w l) T mo ct ∨ OpYes I f (fX4_putNow x w l) (fX5_put_ x w l) := by
  obtain ⟨O, C, M⟩ := N
  obtain ⟨z, rfl, h1, h2⟩ := iI_ex x
  obtain ⟨y, rfl, w1, w2⟩ := iI_ex w
  obtain ⟨d, rfl, d1, d2⟩ := iI_ex l
  by_cases c : 0 ≤ z ∧ z < 3
  · obtain ⟨i, rfl⟩ : ∃ i : Nat, z = i := ⟨z.toNat, by omega⟩
    have hi : i < 3 := by omega
    have G := (O.1 i hi).1
    have g := G.1
    have R := rc_1 (C := C) hi
    obtain ⟨lim, hl, hl2, hl3⟩ := O.2.1
    have hmo := (O.1 i hi).2
    by_cases q1 : 0 ≤ y ∧ y ≤ 999 ∧ 1 ≤ d ∧ d ≤ 99
    · have cp : ∀ X, (fX4_putNow (iI i) (iI y) (iI d) I = X) = ((bd (fX1_find (3 + 4 * i) (iI y) I) fun r2 I2 => (if r2 = (-1) then (if (I2 (3 + 4 * i) 3) < 30 then bd (fX1_lay (3 + 4 * i) (iI y) (iI d) I2) fun r3 I3 => ltm (wr I3 (3 + 4 * i) 4 (mxI (I3 (3 + 4 * i) 4) (I3 (3 + 4 * i) 3))) fun I4 => ltm (wr I4 1 2 ((I4 1 2) + 1)) fun I5 => bd (fX1_depthAt (3 + 4 * i) r3 I5) fun r4 I6 => bd (fX4_depthFor (I6 (3 + 4 * i) 3) (I6 1 1) I6) fun r5 I7 => (if r5 < r4 then bd (fX1_buildPartAbove (3 + 4 * i) r3 (I7 1 1) I7) fun r6 I8 => (if r6 ≤ 0 then some (r6, I8) else ltm (wr I8 1 4 ((I8 1 4) + 1)) fun I9 => ltm (wr I9 1 6 ((I9 1 6) + r6)) fun I10 => some (r6, I10)) else some (0, I7)) else bd (fX4_refuse 1 (I2 (3 + 4 * i) 3) I2) fun r3 I3 => some (r3, I3)) else bd (fX4_refuse 2 (iI y) I2) fun r3 I3 => some (r3, I3))) = X) := fun X => by
        rw [fX4_putNow, c_rick hi, bd_s, on_1, if_pos (kd_r (Or.inl rfl) hi), show 1 + 2 + 4 * i = 3 + 4 * i by omega, if_neg (by rw [l_0, iI_lt (by omega) (by omega) (by omega) (by omega)]; omega), if_neg (by rw [l_1000, iI_le (by omega) (by omega) (by omega) (by omega)]; omega), if_neg (by rw [l_1, iI_lt (by omega) (by omega) (by omega) (by omega)]; omega), if_pos (by rw [l_99, iI_le (by omega) (by omega) (by omega) (by omega)]; omega)]
      have mp : ∀ K : Mm, K 164 = f → fX5_put_ (iI i) (iI y) (iI d) K = if fdP (T i) y = -1 then fX5_put__p45 (iI i) (iI y) (iI d) (iI 0) K else fX5_put__p45 (iI i) (iI y) (iI d) (iI 1) K := fun K hK => by
        rw [fX5_put_, m_isRick1 hi, bd_s, if_neg i10, m_isWeight w1 w2, bd_s, if_pos (show 0 ≤ y ∧ y ≤ 999 by omega), if_neg i10, l_1, l_99, m_isBetween d1 d2 (by omega) (by omega) (by omega) (by omega), bd_s, if_pos (show 1 ≤ d ∧ d ≤ 99 by omega), if_neg i10, m_find hi G (by rw [hK]; exact (M.1 i hi).1) w1 w2, bd_s, fdS]
        by_cases q : fdP (T i) y = -1
        · rw [if_pos q, if_pos q, if_pos (by decide)]; rfl
        · obtain ⟨p, hp, f1, f2, f3⟩ := fd_yes q
          have gp := G.2.1 p hp
          rw [if_neg q, if_neg q, f1, tn_n, l_0, if_neg (by rw [iI_lt (by omega) (by omega) (by omega) (by omega)]; omega)]
      by_cases q2 : fdP (T i) y = -1
      · by_cases q3 : cnt (T i) < 30
        · right
          obtain ⟨w, rfl⟩ : ∃ w : Nat, y = w := ⟨y.toNat, by omega⟩
          obtain ⟨ld, rfl⟩ : ∃ ld : Nat, d = ld := ⟨d.toNat, by omega⟩
          have H : ∀ q, q < cnt (T i) → gw (T i) q ≠ w := fun q hq e => fd_no G q2 q hq (by rw [e])
          obtain ⟨k, k1, k2, k3⟩ := m_enter hi G (M.1 i hi).1 q3
          have H2 : ∀ q, q < cnt (T i) → gs (T i) q ≠ k := fun q hq e => k2 ⟨q, hq, e⟩
          have G' := in_gt (k := k) (ld := ld) G H H2 (by omega) (by omega) (by omega) k1 q3
          have n' := in_cnt k w ld (T i)
          have ia := in_at (k := k) (ld := ld) G H
          obtain ⟨J, e, j1, j2⟩ := tr_lay G R (ld := ld) k H (by omega) q3
          have dR := gd_lt _ _ ia.1
          have j4 : J (3 + 4 * i) 4 = iI (mo i) := by
            rw [j2 _ _ (by omega)]; have := (C.1 i hi).2; rw [show 1 + 2 + 4 * i = 3 + 4 * i by omega] at this; exact this
          have j12 : J 1 2 = ct 1 := by rw [j2 1 2 (by omega)]; exact C.2 1 (by omega)
          generalize hI5 : wr (wr J (3 + 4 * i) 4 (iI ((max (mo i) (cnt (T i) + 1) : Nat) : Int))) 1 2 (ct 1 + 1) = I5
          have o5 : ∀ a j, (a ≠ 3 + 4 * i ∨ j ≠ 4) → (a ≠ 1 ∨ j ≠ 2) → I5 a j = J a j := fun a j x1 x2 => by rw [← hI5, wr_e, if_neg (by omega), wr_e, if_neg (by omega)]
          have r5 : RT I5 (3 + 4 * i) (insT k w ld (T i)) := ⟨by rw [o5 _ _ (by omega) (by omega)]; exact j1.1, fun p hp => by rw [o5 _ _ (by omega) (by omega), o5 _ _ (by omega) (by omega), o5 _ _ (by omega) (by omega)]; exact j1.2 p hp⟩
          have cy5 : CY I5 1 (up T i (insT k w ld (T i))) (up mo i (max (mo i) (cnt (T i) + 1))) (up ct 1 (ct 1 + 1)) := cy_up hi C r5 (by rw [← hI5, wr_e, if_neg (by omega), wr_e, if_pos ⟨rfl, rfl⟩]) (fun a j a1 a2 a3 => by rw [o5 a j (by omega) (by omega)]; exact j2 a j (by omega)) (fun j hj => by
            by_cases c2 : j = 1
            · subst c2; rw [← hI5, wr_e, if_pos ⟨rfl, rfl⟩, up_s]
            · rw [o5 1 _ (by omega) (by omega), up_n _ _ c2, j2 1 _ (by omega)]; exact C.2 j hj)
          have ok5 : OKY (up T i (insT k w ld (T i))) (up mo i (max (mo i) (cnt (T i) + 1))) (up ct 1 (ct 1 + 1)) := ok_up O hi G' (by omega) (up_n _ _ (by omega)) (by
            rw [up_s, up_n _ _ (by omega), show (cnt (insT k w ld (T i)) : Int) - cnt (T i) = 1 by omega]
            exact i_add1 _ _)
          have b0 : ∀ j, I5 0 j = I 0 j := fun j => by rw [o5 0 j (by omega) (by omega)]; exact j2 0 j (by omega)
          have b15 : ∀ a j, 15 ≤ a → I5 a j = I a j := fun a j h => by rw [o5 a j (by omega) (by omega)]; exact j2 a j (by omega)
          have i11 : I5 1 1 = iI lim := by rw [cy5.2 0 (by omega), up_n _ _ (by omega)]; exact hl
          have cNow : fX4_putNow (iI i) (iI w) (iI ld) I = if mhZ lim 30 (((cnt (T i) + 1 : Nat) : Int) * lim / 100) < gd (insT k w ld (T i)) (rkQ w (T i)) then bd (fX1_buildPartAbove (3 + 4 * i) (iI (rkQ w (T i))) (iI lim) I5) fun r6 I8 => (if r6 ≤ 0 then some (r6, I8) else ltm (wr I8 1 4 ((I8 1 4) + 1)) fun I9 => ltm (wr I9 1 6 ((I9 1 6) + r6)) fun I10 => some (r6, I10)) else some (0, I5) := by
            have df := @t_depthFor I5 lim ⟨hl2, hl3⟩ (cnt (T i) + 1) (by omega)
            have mr := @mh_rng lim ⟨hl2, hl3⟩ 30 (((cnt (T i) + 1 : Nat) : Int) * lim / 100)
            rw [cp, t_find G R w1 w2, bd_s, q2, if_pos (show iI (-1) = -1 from rfl), R.1, if_pos (by rw [l_30, iI_lt (by omega) (by omega) (by omega) (by omega)]; omega), e, bd_s, ltm_s, j4, j1.1, iI_max (by omega) (by omega) (by omega) (by omega), ltm_s, show max (mo i : Int) (cnt (insT k w ld (T i)) : Int) = ((max (mo i) (cnt (T i) + 1) : Nat) : Int) by omega]
            rw [show (wr J (3 + 4 * i) 4 (iI ((max (mo i) (cnt (T i) + 1) : Nat) : Int))) 1 2 = ct 1 by rw [wr_e, if_neg (by omega)]; exact j12, hI5, t_depthAt G' r5 (by omega) (by omega), bd_s, r5.1, i11, n', df, bd_s]
            rw [dz_n ia.1]
            by_cases q : mhZ lim 30 (((cnt (T i) + 1 : Nat) : Int) * lim / 100) < gd (insT k w ld (T i)) (rkQ w (T i))
            · rw [if_pos q, if_pos (by rw [iI_lt (by omega) (by omega) (by omega) (by omega)]; exact q), i11]
            · rw [if_neg q, if_neg (by rw [iI_lt (by omega) (by omega) (by omega) (by omega)]; exact q)]
          have mNow : ∀ K KC : Mm, K 164 = f → ChgOK K KC → ∃ L, MY (L 164) (up T i (insT k w ld (T i))) (up mo i (max (mo i) (cnt (T i) + 1))) (up ct 1 (ct 1 + 1)) ∧ EQx KC L ∧ fX5_put_ (iI i) (iI w) (iI ld) K = if mhZ lim 30 (((cnt (T i) + 1 : Nat) : Int) * lim / 100) < gd (insT k w ld (T i)) (rkQ w (T i)) then fX5_put__p201 (iI i) (iI (saT (insT k w ld (T i)) (flP lim (insT k w ld (T i)) 31 (paP (insT k w ld (T i)) (rkQ w (T i)))))) L else some (0, L) := by
            intro K KC hK hC
            obtain ⟨K1, c1, c2, c3⟩ := hC K (lf_rfl K)
            have mr1 : MR (K1 164) i (T i) := by rw [c2, hK]; exact (M.1 i hi).1
            obtain ⟨K2, t1, t2, t3⟩ := m_lay hi G mr1 (ld := ld) k1 k2 (by omega) H
            have l1 : K2 164 1 = ct 1 := by rw [t3 164 1 (by omega), c2, hK]; exact M.2 1 (by omega)
            generalize hL : wr (wr K2 164 1 (ct 1 + 1)) 164 (7 + 122 * i + 1) (iI ((max (mo i) (cnt (T i) + 1) : Nat) : Int)) = L
            have oL : ∀ a j, (a ≠ 164 ∨ (j ≠ 1 ∧ j ≠ 7 + 122 * i + 1)) → L a j = K2 a j := fun a j h => by rw [← hL, wr_e, if_neg (by omega), wr_e, if_neg (by omega)]
            have mK2 : ∀ v, MR ((wr K2 164 1 v) 164) i (insT k w ld (T i)) := fun v => mr_of G' t2 (fun j a b => by rw [wr_e, if_neg (by omega)])
            have most2 : (wr K2 164 1 (ct 1 + 1)) 164 (7 + 122 * i + 1) = iI (mo i) := by rw [wr_e, if_neg (by omega), t3 164 _ (by omega), c2, hK]; exact (M.1 i hi).2
            have mL : MR (L 164) i (insT k w ld (T i)) := by
              refine ⟨by rw [oL _ _ (by omega)]; exact t2.1, tm_of _ t2.2.1 (fun p cc hp hc => by have := @ad_in i (gs (insT k w ld (T i)) p) cc (G'.2.1 p hp).2.2.2 hc; rw [oL _ _ (by omega)]), fun kk hk h => by rw [oL _ _ (Or.inr ⟨by unfold ad; omega, by unfold ad; omega⟩)]; exact t2.2.2 kk hk h⟩
            have myL : MY (L 164) (up T i (insT k w ld (T i))) (up mo i (max (mo i) (cnt (T i) + 1))) (up ct 1 (ct 1 + 1)) := my_up (f := f) hi (fun i hi => (O.1 i hi).1) M mL (by rw [← hL, wr_e, if_pos ⟨rfl, rfl⟩]) (fun j a b cc => by rw [oL 164 j (by omega), t3 164 j (by omega), c2, hK]) (fun j hj => by
              by_cases cc : j = 1
              · subst cc; rw [← hL, wr_e, if_neg (by omega), wr_e, if_pos ⟨rfl, rfl⟩, up_s]
              · rw [oL 164 j (by omega), up_n _ _ cc, t3 164 j (by omega), c2, hK]; exact M.2 j hj)
            have lL : L 164 0 = iI lim := by rw [myL.2 0 (by omega), up_n _ _ (by omega)]; exact hl
            refine ⟨L, myL, fun a j a1 a2 a3 a4 => by rw [oL a j (by omega), t3 a j (by omega)]; exact c3 a j a1 a2 a3 a4, ?_⟩
            have mr := @mh_rng lim ⟨hl2, hl3⟩ 30 (((cnt (T i) + 1 : Nat) : Int) * lim / 100)
            have md := m_depth hi G' mL ia.1
            have ma := m_above hi G' mL ia.1
            rw [ia.2] at md ma
            have mh := @m_mayHave L lim ⟨hl2, hl3⟩ lL (cnt (T i) + 1) (by omega)
            have pr := pa_rng _ _ ia.1
            have tail : fX5_put__p139 (iI i) (iI k) (iI i) (iI ((max (mo i) (cnt (T i) + 1) : Nat) : Int)) (wr K2 164 1 (ct 1 + 1)) = if mhZ lim 30 (((cnt (T i) + 1 : Nat) : Int) * lim / 100) < gd (insT k w ld (T i)) (rkQ w (T i)) then fX5_put__p201 (iI i) (iI (saT (insT k w ld (T i)) (flP lim (insT k w ld (T i)) 31 (paP (insT k w ld (T i)) (rkQ w (T i)))))) L else some (0, L) := by
              rw [fX5_put__p139, m_setMost hi, bd_s, hL, md, bd_s, m_count hi G' mL, bd_s, n', mh, bd_s]
              by_cases q : mhZ lim 30 (((cnt (T i) + 1 : Nat) : Int) * lim / 100) < gd (insT k w ld (T i)) (rkQ w (T i))
              · rw [if_pos q, if_neg (by rw [iI_le (by omega) (by omega) (by omega) (by omega)]; omega), ma, bd_s, fX5_put__p172]
                exact p_174 hi G' mL ⟨hl2, hl3⟩ lL 31 1000 (paP (insT k w ld (T i)) (rkQ w (T i))) pr.1 pr.2 (fun x => by have := pa_d (t := insT k w ld (T i)) (p := rkQ w (T i)) ia.1 x; omega) (by omega) (by omega)
              · rw [if_neg q, if_pos (by rw [iI_le (by omega) (by omega) (by omega) (by omega)]; omega), fX5_put__p172]
                rw [show fX5_put__p174 1000 (iI i) (-1) L = _ from p_174 hi G' mL ⟨hl2, hl3⟩ lL 31 1000 (-1) (by omega) (by omega) (fun x => absurd rfl x) (by omega) (by omega)]
                rw [flP, if_pos (by omega), saT, if_pos rfl, fX5_put__p201, if_neg (by decide)]
            rw [mp K hK, if_pos q2, fX5_put__p45, m_ref0, bd_s, if_pos i00, m_count hi G (by rw [hK]; exact (M.1 i hi).1), bd_s, if_neg (by rw [l_30, iI_eq (by omega) (by omega) (by omega) (by omega)]; omega), fX5_put__p69, show fX5_refuse 0 1 30 K = some (iI 0, K) from m_ref0 1 30 K, bd_s, if_pos i00, c1, bd_s, k3 K1 w ld (by rw [c2, hK]), bd_s, t1, bd_s, ltm_s, l1, m_count hi G' (mK2 _), bd_s, m_most hi, bd_s, most2, n']
            by_cases q : cnt (T i) + 1 ≤ mo i
            · rw [if_pos (by rw [iI_le (by omega) (by omega) (by omega) (by omega)]; omega), m_most hi, bd_s, most2, show iI (mo i : Int) = iI ((max (mo i) (cnt (T i) + 1) : Nat) : Int) by congr 1; omega]
              exact tail
            · rw [if_neg (by rw [iI_le (by omega) (by omega) (by omega) (by omega)]; omega), m_count hi G' (mK2 _), bd_s, n', show iI ((cnt (T i) + 1 : Nat) : Int) = iI ((max (mo i) (cnt (T i) + 1) : Nat) : Int) by congr 1; omega]
              exact tail
          by_cases q4 : mhZ lim 30 (((cnt (T i) + 1 : Nat) : Int) * lim / 100) < gd (insT k w ld (T i)) (rkQ w (T i))
          · obtain ⟨J8, e8, x1, x2⟩ := t_buildPartAbove G' r5 ia.1 (lim := lim) ⟨hl2, hl3⟩
            have pr := pa_rng _ _ ia.1
            have fr := fl_rng lim (insT k w ld (T i)) 31 (paP (insT k w ld (T i)) (rkQ w (T i))) pr.2
            generalize hA : flP lim (insT k w ld (T i)) 31 (paP (insT k w ld (T i)) (rkQ w (T i))) = A at *
            have cy8 : ∀ t u : Tr, RT J8 (3 + 4 * i) u → t = u → CY J8 1 (up T i t) (up mo i (max (mo i) (cnt (T i) + 1))) (up ct 1 (ct 1 + 1)) := fun t u hu e => by
              subst e
              exact cy_up hi C hu (by rw [x2 _ _ (by omega)]; have := (cy5.1 i hi).2; rw [up_s, show 1 + 2 + 4 * i = 3 + 4 * i by omega] at this; exact this) (fun a j a1 a2 a3 => by rw [x2 a j (by omega), o5 a j (by omega) (by omega)]; exact j2 a j (by omega)) (fun j hj => by rw [x2 1 _ (by omega)]; exact cy5.2 j hj)
            by_cases q5 : A < 0
            · rw [if_pos q5] at e8 x1
              refine ⟨0, _, _, _, by decide, ok5, ⟨J8, by rw [cNow, if_pos q4, e8, bd_s, if_pos (by decide)]; rfl, cy8 _ _ x1 rfl, fun a j h => by rw [x2 a j (by omega)]; exact b15 a j h, fun j _ _ => by rw [x2 0 j (by omega)]; exact b0 j, by rw [x2 0 _ (by omega)]; exact b0 9, by rw [x2 0 _ (by omega)]; exact b0 10⟩, fun K KC hK hC => ?_⟩
              obtain ⟨L, a1, a2, a3⟩ := mNow K KC hK hC
              refine ⟨L, ?_, a1, a2⟩
              rw [a3, if_pos q4, show A = -1 by omega, saT, if_pos rfl, fX5_put__p201, if_neg (by decide)]
            · rw [if_neg q5] at e8 x1
              obtain ⟨p, rfl⟩ : ∃ p : Nat, A = p := ⟨A.toNat, by omega⟩
              rw [tn_n] at e8 x1
              have hp : p < cnt (insT k w ld (T i)) := by omega
              have gp := gd_part _ p hp
              have gpp := G'.2.1 p hp
              have g'1 := G'.1
              obtain ⟨ll, rr, s1, s2, s3⟩ := sb_is _ p hp
              have sz : 0 < cnt (sbP (insT k w ld (T i)) p) := by rw [s1, cnt_i]; omega
              have j84 : J8 1 4 = ct 3 := by rw [x2 1 4 (by omega), cy5.2 3 (by omega), up_n _ _ (by omega)]
              have j86 : J8 1 6 = ct 5 := by rw [x2 1 6 (by omega), cy5.2 5 (by omega), up_n _ _ (by omega)]
              have GR := reb_gt G' hp
              have rp := reb_pos _ p hp
              have w9 : ∀ a j, (a ≠ 1 ∨ (j ≠ 4 ∧ j ≠ 6)) → (wr (wr J8 1 4 (ct 3 + 1)) 1 6 (ct 5 + iI (cnt (sbP (insT k w ld (T i)) p)))) a j = J8 a j := fun a j h => by rw [wr_e, if_neg (by omega), wr_e, if_neg (by omega)]
              refine ⟨iI (cnt (sbP (insT k w ld (T i)) p)), up T i (rebT (insT k w ld (T i)) p), up mo i (max (mo i) (cnt (T i) + 1)), up (up (up ct 1 (ct 1 + 1)) 3 (ct 3 + 1)) 5 (ct 5 + iI (cnt (sbP (insT k w ld (T i)) p))), by rw [l_0, iI_le (by omega) (by omega) (by omega) (by omega)]; omega, ok_up O hi GR (by omega) (by rw [up_n _ _ (by omega), up_n _ _ (by omega), up_n _ _ (by omega)]) ?_, ⟨wr (wr J8 1 4 (ct 3 + 1)) 1 6 (ct 5 + iI (cnt (sbP (insT k w ld (T i)) p))), ?_, ?_, fun a j h => by rw [w9 a j (by omega), x2 a j (by omega)]; exact b15 a j h, fun j _ _ => by rw [w9 0 j (by omega), x2 0 j (by omega)]; exact b0 j, by rw [w9 0 _ (by omega), x2 0 _ (by omega)]; exact b0 9, by rw [w9 0 _ (by omega), x2 0 _ (by omega)]; exact b0 10⟩, fun K KC hK hC => ?_⟩
              · rw [up_n _ _ (by omega), up_n _ _ (by omega), up_s, up_n _ _ (show (2 : Nat) ≠ 5 by omega), up_n _ _ (show (2 : Nat) ≠ 3 by omega), up_n _ _ (show (2 : Nat) ≠ 1 by omega), rp.1, show (cnt (insT k w ld (T i)) : Int) - cnt (T i) = 1 by omega]
                exact i_add1 _ _
              · rw [cNow, if_pos q4, e8, bd_s, if_neg (by rw [l_0, iI_le (by omega) (by omega) (by omega) (by omega)]; omega), ltm_s, ltm_s, j84, show (wr J8 1 4 (ct 3 + 1)) 1 6 = ct 5 by rw [wr_e, if_neg (by omega)]; exact j86]
              · have cq := cy8 _ _ x1 rfl
                refine ⟨fun q hq => ⟨rt_of (cq.1 q hq).1 (fun a j a1 a2 => w9 a j (by omega)), by rw [w9 _ _ (by omega)]; exact (cq.1 q hq).2⟩, fun j hj => ?_⟩
                by_cases c5 : j = 5
                · subst c5; rw [wr_e, if_pos ⟨rfl, rfl⟩, up_s]
                · by_cases c3 : j = 3
                  · subst c3; rw [wr_e, if_neg (by omega), wr_e, if_pos ⟨rfl, rfl⟩, up_n _ _ (by omega), up_s]
                  · rw [w9 1 _ (by omega), up_n _ _ c5, up_n _ _ c3]; exact cq.2 j hj
              · obtain ⟨L, a1, a2, a3⟩ := mNow K KC hK hC
                have mL := (a1.1 i hi).1
                rw [up_s] at mL
                obtain ⟨L2, b1, b2, b3, b4, b5⟩ := m_buildPart hi G' mL hp
                have l5 : L 164 5 = ct 5 := by rw [a1.2 5 (by omega), up_n _ _ (by omega)]
                have l3 : L2 164 3 = ct 3 := by rw [b5 3 (by omega) (by omega), a1.2 3 (by omega), up_n _ _ (by omega)]
                have my2 := my_up (f := L 164) (g := (wr L2 164 3 (ct 3 + 1)) 164) (t := rebT (insT k w ld (T i)) p) (m := max (mo i) (cnt (T i) + 1)) (c2 := up (up (up ct 1 (ct 1 + 1)) 3 (ct 3 + 1)) 5 (ct 5 + iI (cnt (sbP (insT k w ld (T i)) p)))) hi (fun i hi => (ok5.1 i hi).1) a1 (mr_of GR b2 (fun j x1 x2 => by rw [wr_e, if_neg (by omega)])) (by
                  rw [wr_e, if_neg (by omega), b5 _ (by omega) (by omega)]
                  have := (a1.1 i hi).2
                  rw [up_s] at this
                  exact this) (fun j y1 y2 y3 => by rw [wr_e, if_neg (by omega), b5 j (by omega) (by omega)]) (fun j hj => by
                  by_cases c5 : j = 5
                  · subst c5; rw [wr_e, if_neg (by omega), up_s, b3, l5]
                  · rw [up_n _ _ c5]
                    by_cases c3 : j = 3
                    · subst c3; rw [wr_e, if_pos ⟨rfl, rfl⟩, up_s]
                    · rw [wr_e, if_neg (by omega), up_n _ _ c3, b5 j c5 (by omega)]; exact a1.2 j hj)
                rw [up_up, up_up] at my2
                refine ⟨wr L2 164 3 (ct 3 + 1), ?_, my2, fun a j y1 y2 y3 y4 => by rw [wr_e, if_neg (by omega), b4 a j y1 y2 y4]; exact a2 a j y1 y2 y3 y4⟩
                rw [a3, if_pos q4, saT, if_neg (by omega), tn_n, fX5_put__p201, if_pos (by rw [l_0, iI_le (by omega) (by omega) (by omega) (by omega)]; omega), ← (tm_sb _ p mL.2.1 hp).2, m_size hi _ 40 (gt_p _ p G' hp) (tm_sb _ p mL.2.1 hp).1 (by omega), bd_s, (tm_sb _ p mL.2.1 hp).2, b1, bd_s, ltm_s, l3]
          · refine ⟨0, _, _, _, by decide, ok5, ⟨I5, by rw [cNow, if_neg q4], cy5, b15, fun j _ _ => b0 j, b0 9, b0 10⟩, fun K KC hK hC => ?_⟩
            obtain ⟨L, a1, a2, a3⟩ := mNow K KC hK hC
            exact ⟨L, by rw [a3, if_neg q4], a1, a2⟩
        · left
          refine no_ref C (a := 1) (b := iI 30) (by decide) ?_ (fun K hK => ⟨K, ?_, lf_rfl K⟩)
          · rw [cp, t_find G R w1 w2, bd_s, q2, if_pos (show iI (-1) = -1 from rfl), R.1, if_neg (by rw [l_30, iI_lt (by omega) (by omega) (by omega) (by omega)]; omega), c_refuse, bd_s, show (cnt (T i) : Int) = 30 by omega]; rfl
          · rw [mp K hK, if_pos q2, fX5_put__p45, m_ref0, bd_s, if_pos i00, m_count hi G (by rw [hK]; exact (M.1 i hi).1), bd_s, if_pos (by rw [l_30, iI_eq (by omega) (by omega) (by omega) (by omega)]; omega), fX5_put__p69, show (1 : Int32) = iI 1 from rfl, m_ref1, bd_s, if_neg (by decide)]; rfl
      · left
        refine no_ref C (a := 2) (b := iI y) (by decide) ?_ (fun K hK => ⟨K, ?_, lf_rfl K⟩)
        · obtain ⟨p, hp, f1, f2, f3⟩ := fd_yes q2
          rw [cp, t_find G R w1 w2, bd_s, f1, if_neg (by rw [l_m1, iI_eq (by omega) (by omega) (by omega) (by omega)]; omega), c_refuse, bd_s]; rfl
        · rw [mp K hK, if_neg q2, fX5_put__p45, m_ref1, bd_s, if_neg (by decide)]
    · left
      refine no_no C (v := -12) (by decide) ?_ (fun K hK => ?_)
      · rw [fX4_putNow, c_rick hi, bd_s, on_1, if_pos (kd_r (Or.inl rfl) hi), show 1 + 2 + 4 * i = 3 + 4 * i by omega, l_0, l_1000, l_1, l_99]
        by_cases a : y < 0
        · rw [if_pos (by rw [iI_lt (by omega) (by omega) (by omega) (by omega)]; exact a)]
        · rw [if_neg (by rw [iI_lt (by omega) (by omega) (by omega) (by omega)]; exact a)]
          by_cases b : 1000 ≤ y
          · rw [if_pos (by rw [iI_le (by omega) (by omega) (by omega) (by omega)]; exact b)]
          · rw [if_neg (by rw [iI_le (by omega) (by omega) (by omega) (by omega)]; exact b)]
            by_cases e : d < 1
            · rw [if_pos (by rw [iI_lt (by omega) (by omega) (by omega) (by omega)]; exact e)]
            · rw [if_neg (by rw [iI_lt (by omega) (by omega) (by omega) (by omega)]; exact e), if_neg (by rw [iI_le (by omega) (by omega) (by omega) (by omega)]; omega)]
      · rw [fX5_put_, m_isRick1 hi, bd_s, if_neg i10, m_isWeight w1 w2, bd_s]
        by_cases a : 0 ≤ y ∧ y ≤ 999
        · rw [if_pos a, if_neg i10, l_1, l_99, m_isBetween d1 d2 (by omega) (by omega) (by omega) (by omega), bd_s, if_neg (show ¬ (1 ≤ d ∧ d ≤ 99) by omega), if_pos i00]
        · rw [if_neg a, if_pos i00]
  · left
    refine no_no C (v := -11) (by decide) ?_ (fun K hK => ?_)
    · rw [fX4_putNow, c_rickAt h1 h2, if_neg c, bd_s, on_0]
    · rw [fX5_put_, m_isRick0 h1 h2 c, bd_s, if_pos i00]
end OPut
