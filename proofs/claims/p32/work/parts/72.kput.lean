/-! ===== put and pour, as the class makes them ===== -/
/-- what a put that succeeds leaves -/
def PutP (T : Nat → Tr) (ct : Nat → Int32) (i : Nat) (w ld : Int) : Int32 → (Nat → Tr) → (Nat → Nat) → (Nat → Int32) → Prop := fun v T' _ ct' => cnt (T' i) = cnt (T i) + 1 ∧ ct' 0 = ct 0 ∧ ct' 3 = ct 3 + (if v ≤ 0 then 0 else 1) ∧ ct' 5 = ct 5 + v ∧ v ≤ iI ((cnt (T i) + 1 : Nat) : Int) ∧ ∃ p, p < cnt (T' i) ∧ (gw (T' i) p : Int) = w ∧ (gl (T' i) p : Int) = ld ∧ (v ≤ 0 → ∀ lim : Int, ct 0 = iI lim → 55 ≤ lim → lim ≤ 90 → (gd (T' i) p : Int) ≤ mhZ lim 30 (((cnt (T i) + 1 : Nat) : Int) * lim / 100))
section KPUT
variable {I : Mm} {T : Nat → Tr} {mo : Nat → Nat} {ct : Nat → Int32}
theorem k_put_i (OZ : OKZ T mo ct) (C : CY I 1 T mo ct) {i : Nat} (hi : i < 3) {y d : Int} (w1 : -2147483648 ≤ y) (w2 : y < 2147483648) (d1 : -2147483648 ≤ d) (d2 : d < 2147483648) : KOp I (fX4_putNow (iI i) (iI y) (iI d)) T mo ct tr1 (PutP T ct i y d) := by
  have O := OZ.1
  have G := (O.1 i hi).1
  have g := G.1
  have R := rc_1 (C := C) hi
  obtain ⟨lim, hl, hl2, hl3⟩ := O.2.1
  have hmo := (O.1 i hi).2
  have hmc := OZ.2 i hi
  by_cases q1 : 0 ≤ y ∧ y ≤ 999 ∧ 1 ≤ d ∧ d ≤ 99
  · have cp : ∀ X, (fX4_putNow (iI i) (iI y) (iI d) I = X) = ((bd (fX1_find (3 + 4 * i) (iI y) I) fun r2 I2 => (if r2 = (-1) then (if (I2 (3 + 4 * i) 3) < 30 then bd (fX1_lay (3 + 4 * i) (iI y) (iI d) I2) fun r3 I3 => ltm (wr I3 (3 + 4 * i) 4 (mxI (I3 (3 + 4 * i) 4) (I3 (3 + 4 * i) 3))) fun I4 => ltm (wr I4 1 2 ((I4 1 2) + 1)) fun I5 => bd (fX1_depthAt (3 + 4 * i) r3 I5) fun r4 I6 => bd (fX4_depthFor (I6 (3 + 4 * i) 3) (I6 1 1) I6) fun r5 I7 => (if r5 < r4 then bd (fX1_buildPartAbove (3 + 4 * i) r3 (I7 1 1) I7) fun r6 I8 => (if r6 ≤ 0 then some (r6, I8) else ltm (wr I8 1 4 ((I8 1 4) + 1)) fun I9 => ltm (wr I9 1 6 ((I9 1 6) + r6)) fun I10 => some (r6, I10)) else some (0, I7)) else bd (fX4_refuse 1 (I2 (3 + 4 * i) 3) I2) fun r3 I3 => some (r3, I3)) else bd (fX4_refuse 2 (iI y) I2) fun r3 I3 => some (r3, I3))) = X) := fun X => by
      rw [fX4_putNow, c_rick hi, bd_s, on_1, if_pos (kd_r (Or.inl rfl) hi), show 1 + 2 + 4 * i = 3 + 4 * i by omega, if_neg (by rw [l_0, iI_lt (by omega) (by omega) (by omega) (by omega)]; omega), if_neg (by rw [l_1000, iI_le (by omega) (by omega) (by omega) (by omega)]; omega), if_neg (by rw [l_1, iI_lt (by omega) (by omega) (by omega) (by omega)]; omega), if_pos (by rw [l_99, iI_le (by omega) (by omega) (by omega) (by omega)]; omega)]
    by_cases q2 : fdP (T i) y = -1
    · by_cases q3 : cnt (T i) < 30
      · right
        obtain ⟨w, rfl⟩ : ∃ w : Nat, y = w := ⟨y.toNat, by omega⟩
        obtain ⟨ld, rfl⟩ : ∃ ld : Nat, d = ld := ⟨d.toNat, by omega⟩
        have H : ∀ q, q < cnt (T i) → gw (T i) q ≠ w := fun q hq e => fd_no G q2 q hq (by rw [e])
        obtain ⟨k, k1, k2⟩ := ex_free q3
        have H2 : ∀ q, q < cnt (T i) → gs (T i) q ≠ k := fun q hq e => k2 ⟨q, hq, e⟩
        have G' := in_gt (k := k) (ld := ld) G H H2 (by omega) (by omega) (by omega) k1 q3
        have n' := in_cnt k w ld (T i)
        have ia := in_at (k := k) (ld := ld) G H
        have ip := (in_pos k w ld (T i) (rkQ w (T i)) G H (rk_le _ _)).2.1 rfl
        obtain ⟨J, e, j1, j2⟩ := tr_lay G R (ld := ld) k H (by omega) q3
        have dR := gd_lt _ _ ia.1
        have j4 : J (3 + 4 * i) 4 = iI (mo i) := by
          rw [j2 _ _ (by omega)]; have := (C.1 i hi).2; rw [show 1 + 2 + 4 * i = 3 + 4 * i by omega] at this; exact this
        have j12 : J 1 2 = ct 1 := by rw [j2 1 2 (by omega)]; exact C.2 1 (by omega)
        generalize hI5 : wr (wr J (3 + 4 * i) 4 (iI ((max (mo i) (cnt (T i) + 1) : Nat) : Int))) 1 2 (ct 1 + 1) = I5
        have o5 : ∀ a j, (a ≠ 3 + 4 * i ∨ j ≠ 4) → (a ≠ 1 ∨ j ≠ 2) → I5 a j = J a j := fun a j x1 x2 => by rw [← hI5, wr_e, if_neg (by omega), wr_e, if_neg (by omega)]
        have r5 : RT I5 (3 + 4 * i) (insT k w ld (T i)) := ⟨by rw [o5 _ _ (by omega) (by omega)]; exact j1.1, fun p hp => by rw [o5 _ _ (by omega) (by omega), o5 _ _ (by omega) (by omega), o5 _ _ (by omega) (by omega)]; exact j1.2 p hp⟩
        have cy5 : CY I5 1 (up T i (insT k w ld (T i))) (up mo i (max (mo i) (cnt (T i) + 1))) (up ct 1 (ct 1 + 1)) := cy_up hi C r5 (by rw [← hI5, wr_e, if_neg (by omega), wr_e, if_pos ⟨rfl, rfl⟩]) (fun a j a1 a2 a3 => by rw [o5 a j (by omega) (by omega)]; exact j2 a j (by omega)) (fun j hj => by
          by_cases c2 : j = 1
          · subst c2; rw [← hI5, wr_e, if_pos ⟨rfl, rfl⟩, up_s]
          · rw [o5 1 _ (by omega) (by omega), up_n _ _ c2, j2 1 _ (by omega)]; exact C.2 j hj)
        have ok5 : OKZ (up T i (insT k w ld (T i))) (up mo i (max (mo i) (cnt (T i) + 1))) (up ct 1 (ct 1 + 1)) := okz_up OZ hi G' (by omega) (by omega) (up_n _ _ (by omega)) (by
          rw [up_s, up_n _ _ (by omega), show (cnt (insT k w ld (T i)) : Int) - cnt (T i) = 1 by omega]
          exact i_add1 _ _)
        have b0 : ∀ j, I5 0 j = I 0 j := fun j => by rw [o5 0 j (by omega) (by omega)]; exact j2 0 j (by omega)
        have b15 : ∀ a j, 15 ≤ a → I5 a j = I a j := fun a j h => by rw [o5 a j (by omega) (by omega)]; exact j2 a j (by omega)
        have i11 : I5 1 1 = iI lim := by rw [cy5.2 0 (by omega), up_n _ _ (by omega)]; exact hl
        have cNow : fX4_putNow (iI i) (iI w) (iI ld) I = if mhZ lim 30 (((cnt (T i) + 1 : Nat) : Int) * lim / 100) < gd (insT k w ld (T i)) (rkQ w (T i)) then bd (fX1_buildPartAbove (3 + 4 * i) (iI (rkQ w (T i))) (iI lim) I5) fun r6 I8 => (if r6 ≤ 0 then some (r6, I8) else ltm (wr I8 1 4 ((I8 1 4) + 1)) fun I9 => ltm (wr I9 1 6 ((I9 1 6) + r6)) fun I10 => some (r6, I10)) else some (0, I5) := by
          have df := @t_depthFor I5 lim ⟨hl2, hl3⟩ (cnt (T i) + 1) (by omega)
          have mr := @mh_rng lim ⟨hl2, hl3⟩ 30 (((cnt (T i) + 1 : Nat) : Int) * lim / 100)
          rw [cp, t_find G R w1 w2, bd_s, q2, if_pos (show iI (-1) = -1 from rfl), R.1, if_pos (by rw [l_30, iI_lt (by omega) (by omega) (by omega) (by omega)]; omega), e, bd_s, ltm_s, j4, j1.1, iI_max (by omega) (by omega) (by omega) (by omega), ltm_s, show max (mo i : Int) (cnt (insT k w ld (T i)) : Int) = ((max (mo i) (cnt (T i) + 1) : Nat) : Int) by omega]
          rw [show (wr J (3 + 4 * i) 4 (iI ((max (mo i) (cnt (T i) + 1) : Nat) : Int))) 1 2 = ct 1 by rw [wr_e, if_neg (by omega)]; exact j12, hI5, t_depthAt G' r5 (by omega) (by omega), bd_s, r5.1, i11, n', df, bd_s]
          rw [dz_n ia.1]
          by_cases q : mhZ lim 30 (((cnt (T i) + 1 : Nat) : Int) * lim / 100) < gd (insT k w ld (T i)) (rkQ w (T i))
          · rw [if_pos q, if_pos (by rw [iI_lt (by omega) (by omega) (by omega) (by omega)]; exact q), i11]
          · rw [if_neg q, if_neg (by rw [iI_lt (by omega) (by omega) (by omega) (by omega)]; exact q)]
        by_cases q4 : mhZ lim 30 (((cnt (T i) + 1 : Nat) : Int) * lim / 100) < gd (insT k w ld (T i)) (rkQ w (T i))
        · obtain ⟨J8, e8, x1, x2⟩ := t_buildPartAbove G' r5 ia.1 (lim := lim) ⟨hl2, hl3⟩
          have pr := pa_rng _ _ ia.1
          have fr := fl_rng lim (insT k w ld (T i)) 31 (paP (insT k w ld (T i)) (rkQ w (T i))) pr.2
          have sg0 := sg (t := insT k w ld (T i)) ⟨hl2, hl3⟩ G'.1 ia.1 (by rw [n']; exact q4)
          generalize hA : flP lim (insT k w ld (T i)) 31 (paP (insT k w ld (T i)) (rkQ w (T i))) = A at *
          have cy8 : ∀ t u : Tr, RT J8 (3 + 4 * i) u → t = u → CY J8 1 (up T i t) (up mo i (max (mo i) (cnt (T i) + 1))) (up ct 1 (ct 1 + 1)) := fun t u hu e => by
            subst e
            exact cy_up hi C hu (by rw [x2 _ _ (by omega)]; have := (cy5.1 i hi).2; rw [up_s, show 1 + 2 + 4 * i = 3 + 4 * i by omega] at this; exact this) (fun a j a1 a2 a3 => by rw [x2 a j (by omega), o5 a j (by omega) (by omega)]; exact j2 a j (by omega)) (fun j hj => by rw [x2 1 _ (by omega)]; exact cy5.2 j hj)
          have q5 : ¬ A < 0 := by omega
          rw [if_neg q5] at e8 x1
          obtain ⟨p, rfl⟩ : ∃ p : Nat, A = p := ⟨A.toNat, by omega⟩
          rw [tn_n] at e8 x1
          have hp : p < cnt (insT k w ld (T i)) := by omega
          have gp := gd_part _ p hp
          have gpp := G'.2.1 p hp
          have g'1 := G'.1
          obtain ⟨ll, rr, s1, s2, s3⟩ := sb_is _ p hp
          have sz : 0 < cnt (sbP (insT k w ld (T i)) p) := by rw [s1, cnt_i]; omega
          have sz2 : cnt (sbP (insT k w ld (T i)) p) ≤ cnt (T i) + 1 := by omega
          have j84 : J8 1 4 = ct 3 := by rw [x2 1 4 (by omega), cy5.2 3 (by omega), up_n _ _ (by omega)]
          have j86 : J8 1 6 = ct 5 := by rw [x2 1 6 (by omega), cy5.2 5 (by omega), up_n _ _ (by omega)]
          have GR := reb_gt G' hp
          have rp := reb_pos _ p hp
          have rq := rp.2 _ ia.1
          have w9 : ∀ a j, (a ≠ 1 ∨ (j ≠ 4 ∧ j ≠ 6)) → (wr (wr J8 1 4 (ct 3 + 1)) 1 6 (ct 5 + iI (cnt (sbP (insT k w ld (T i)) p)))) a j = J8 a j := fun a j h => by rw [wr_e, if_neg (by omega), wr_e, if_neg (by omega)]
          have v0 : ¬ iI (cnt (sbP (insT k w ld (T i)) p)) ≤ 0 := by rw [l_0, iI_le (by omega) (by omega) (by omega) (by omega)]; omega
          refine ⟨iI (cnt (sbP (insT k w ld (T i)) p)), up T i (rebT (insT k w ld (T i)) p), up mo i (max (mo i) (cnt (T i) + 1)), up (up (up ct 1 (ct 1 + 1)) 3 (ct 3 + 1)) 5 (ct 5 + iI (cnt (sbP (insT k w ld (T i)) p))), wr (wr J8 1 4 (ct 3 + 1)) 1 6 (ct 5 + iI (cnt (sbP (insT k w ld (T i)) p))), by rw [l_0, iI_le (by omega) (by omega) (by omega) (by omega)]; omega, okz_up OZ hi GR (by omega) (by rw [rp.1, n']; omega) (by rw [up_n _ _ (by omega), up_n _ _ (by omega), up_n _ _ (by omega)]) ?_, ?_, ⟨?_, fun a j h => by rw [w9 a j (by omega), x2 a j (by omega)]; exact b15 a j h, fun j _ _ => by rw [w9 0 j (by omega), x2 0 j (by omega)]; exact b0 j, by rw [w9 0 _ (by omega), x2 0 _ (by omega)]; exact b0 9, by rw [w9 0 _ (by omega), x2 0 _ (by omega)]; exact b0 10⟩, ?_⟩
          · rw [up_n _ _ (by omega), up_n _ _ (by omega), up_s, up_n _ _ (show (2 : Nat) ≠ 5 by omega), up_n _ _ (show (2 : Nat) ≠ 3 by omega), up_n _ _ (show (2 : Nat) ≠ 1 by omega), rp.1, show (cnt (insT k w ld (T i)) : Int) - cnt (T i) = 1 by omega]
            exact i_add1 _ _
          · rw [cNow, if_pos q4, e8, bd_s, if_neg v0, ltm_s, ltm_s, j84, show (wr J8 1 4 (ct 3 + 1)) 1 6 = ct 5 by rw [wr_e, if_neg (by omega)]; exact j86]
          · have cq := cy8 _ _ x1 rfl
            refine ⟨fun q hq => ⟨rt_of (cq.1 q hq).1 (fun a j a1 a2 => w9 a j (by omega)), by rw [w9 _ _ (by omega)]; exact (cq.1 q hq).2⟩, fun j hj => ?_⟩
            by_cases c5 : j = 5
            · subst c5; rw [wr_e, if_pos ⟨rfl, rfl⟩, up_s]
            · by_cases c3 : j = 3
              · subst c3; rw [wr_e, if_neg (by omega), wr_e, if_pos ⟨rfl, rfl⟩, up_n _ _ (by omega), up_s]
              · rw [w9 1 _ (by omega), up_n _ _ c5, up_n _ _ c3]; exact cq.2 j hj
          · refine ⟨by rw [up_s, rp.1, n'], by rw [up_n _ _ (by omega), up_n _ _ (by omega), up_n _ _ (by omega)], by rw [up_n _ _ (by omega), up_s, if_neg v0], by rw [up_s], ?_, rkQ w (T i), by rw [up_s, rp.1]; exact ia.1, by rw [up_s, rq.1, ip.1], by rw [up_s, rq.2.1, ip.2.1], fun h => absurd h v0⟩
            rw [iI_le (by omega) (by omega) (by omega) (by omega)]; omega
        · refine ⟨0, _, _, _, I5, by decide, ok5, by rw [cNow, if_neg q4], ⟨cy5, b15, fun j _ _ => b0 j, b0 9, b0 10⟩, by rw [up_s, n'], up_n _ _ (by omega), by rw [up_n _ _ (by omega), if_pos (by decide)]; exact (Int32.add_zero _).symm, by rw [up_n _ _ (by omega)]; exact (Int32.add_zero _).symm, ?_, rkQ w (T i), by rw [up_s]; exact ia.1, by rw [up_s, ip.1], by rw [up_s, ip.2.1], fun _ lim' e1 e2 e3 => ?_⟩
          · rw [l_0, iI_le (by omega) (by omega) (by omega) (by omega)]; omega
          · rw [hl] at e1
            rw [iI_eq (by omega) (by omega) (by omega) (by omega)] at e1
            subst e1
            rw [up_s]; omega
      · refine k_ref C trivial (a := 1) (b := iI 30) ?_
        rw [cp, t_find G R w1 w2, bd_s, q2, if_pos (show iI (-1) = -1 from rfl), R.1, if_neg (by rw [l_30, iI_lt (by omega) (by omega) (by omega) (by omega)]; omega), c_refuse, bd_s, show (cnt (T i) : Int) = 30 by omega]; rfl
    · refine k_ref C trivial (a := 2) (b := iI y) ?_
      obtain ⟨p, hp, f1, f2, f3⟩ := fd_yes q2
      rw [cp, t_find G R w1 w2, bd_s, f1, if_neg (by rw [l_m1, iI_eq (by omega) (by omega) (by omega) (by omega)]; omega), c_refuse, bd_s]; rfl
  · refine k_no C (v := -12) (by decide) trivial ?_
    rw [fX4_putNow, c_rick hi, bd_s, on_1, if_pos (kd_r (Or.inl rfl) hi), show 1 + 2 + 4 * i = 3 + 4 * i by omega, l_0, l_1000, l_1, l_99]
    by_cases a : y < 0
    · rw [if_pos (by rw [iI_lt (by omega) (by omega) (by omega) (by omega)]; exact a)]
    · rw [if_neg (by rw [iI_lt (by omega) (by omega) (by omega) (by omega)]; exact a)]
      by_cases b : 1000 ≤ y
      · rw [if_pos (by rw [iI_le (by omega) (by omega) (by omega) (by omega)]; exact b)]
      · rw [if_neg (by rw [iI_le (by omega) (by omega) (by omega) (by omega)]; exact b)]
        by_cases e : d < 1
        · rw [if_pos (by rw [iI_lt (by omega) (by omega) (by omega) (by omega)]; exact e)]
        · rw [if_neg (by rw [iI_lt (by omega) (by omega) (by omega) (by omega)]; exact e), if_neg (by rw [iI_le (by omega) (by omega) (by omega) (by omega)]; omega)]
theorem k_weak {cF : Mm → Option (Int32 × Mm)} {N : Int32 → Prop} {P : Int32 → (Nat → Tr) → (Nat → Nat) → (Nat → Int32) → Prop} (h : KOp I cF T mo ct N P) : KOp I cF T mo ct tr1 tru := by
  rcases h with h | ⟨v, T', mo', ct', J, a, b, c, d, _⟩
  · obtain ⟨v, rs, J, a, _, b⟩ := h
    exact Or.inl ⟨v, rs, J, a, trivial, b⟩
  · exact Or.inr ⟨v, T', mo', ct', J, a, b, c, d, trivial⟩
theorem k_put (OZ : OKZ T mo ct) (C : CY I 1 T mo ct) (x w l : Int32) : KOp I (fX4_putNow x w l) T mo ct tr1 tru := by
  obtain ⟨z, rfl, h1, h2⟩ := iI_ex x
  obtain ⟨y, rfl, w1, w2⟩ := iI_ex w
  obtain ⟨d, rfl, d1, d2⟩ := iI_ex l
  by_cases c : 0 ≤ z ∧ z < 3
  · obtain ⟨i, rfl⟩ : ∃ i : Nat, z = i := ⟨z.toNat, by omega⟩
    exact k_weak (k_put_i OZ C (by omega) w1 w2 d1 d2)
  · refine k_no C (v := -11) (by decide) trivial ?_
    rw [fX4_putNow, c_rickAt h1 h2, if_neg c, bd_s, on_0]
end KPUT
