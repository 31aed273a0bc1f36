/-! ===== run on both sides ===== -/
theorem pa_le (c : Nat → Int) (n : Nat) : ∀ f k, poF c n k ≤ n → (paS_ c n f k).2.1 ≤ n
  | 0, k, h => Nat.zero_le _
  | f + 1, k, h => by
    have o := ord_le (c := c) (n := n) h
    rw [paS_]
    split
    · exact o.2
    · split
      · next b =>
        split
        · exact pa_le c n f (k + 1) (by rw [poF]; omega)
        · exact o.2
      · exact Nat.le_refl _
theorem rr_txt {I L : Mm} (R : RR I) (h : ∀ a j, a ≠ 30 → a ≠ 31 → a ≠ 34 → a ≠ 35 → a ≠ 36 → (a = 163 → j < 13 ∨ 19 < j) → L a j = I a j) (h1 : L 30 1 = 0) (h2 : L 163 13 = 0) : RR L := by
  obtain ⟨nw, sv, ⟨nx, un, pa⟩, rs, h8, tx, ln⟩ := R
  exact ⟨yy_of nw (fun a j _ _ => h a j (by omega) (by omega) (by omega) (by omega) (by omega) (by omega)) (fun j _ => h _ _ (by omega) (by omega) (by omega) (by omega) (by omega) (by omega)), sv_of sv (fun a j _ _ => h a j (by omega) (by omega) (by omega) (by omega) (by omega) (by omega)) (h _ _ (by omega) (by omega) (by omega) (by omega) (by omega) (by omega)) (h _ _ (by omega) (by omega) (by omega) (by omega) (by omega) (by omega)) (fun j => h _ _ (by omega) (by omega) (by omega) (by omega) (by omega) (by omega)), ⟨nx, un, pa_of pa (fun a j _ _ => h a j (by omega) (by omega) (by omega) (by omega) (by omega) (by omega)) (h _ _ (by omega) (by omega) (by omega) (by omega) (by omega) (by omega)) (h _ _ (by omega) (by omega) (by omega) (by omega) (by omega) (by omega)) (h _ _ (by omega) (by omega) (by omega) (by omega) (by omega) (by omega)) (fun a j _ _ => h a j (by omega) (by omega) (by omega) (by omega) (by omega) (by omega))⟩, rs_of rs (h _ _ (by omega) (by omega) (by omega) (by omega) (by omega) (by omega)) (h _ _ (by omega) (by omega) (by omega) (by omega) (by omega) (by omega)) (h _ _ (by omega) (by omega) (by omega) (by omega) (by omega) (by omega)) (h _ _ (by omega) (by omega) (by omega) (by omega) (by omega) (by omega)), by rw [h _ _ (by omega) (by omega) (by omega) (by omega) (by omega) (by omega), h8], ⟨0, by omega, h1, h2, fun k hk => by omega⟩, ln_of ln (fun a j _ _ => h a j (by omega) (by omega) (by omega) (by omega) (by omega) (by omega)) (h _ _ (by omega) (by omega) (by omega) (by omega) (by omega) (by omega)) (fun j => h _ _ (by omega) (by omega) (by omega) (by omega) (by omega) (by omega))⟩
theorem ak_run : Ak fX4_run fX5_run := by
  intro I R
  obtain ⟨⟨T, mo, ct, O, C, M⟩, sv, ⟨nx, un, p1, p2, p3, p4, p5, p6⟩, rs, h8, ⟨n, t1, t2, t3, t4⟩, ln⟩ := id R
  obtain ⟨c, hc⟩ : ∃ c : Nat → Int, ∀ k, k < n → 32 ≤ c k ∧ c k ≤ 126 ∧ I 31 k = iI (c k) ∧ I 178 k = iI (c k) := ⟨fun k => (I 31 k).toInt, fun k hk => by
    obtain ⟨z, z1, z2, z3, z4⟩ := t4 k hk
    have e : (I 31 k).toInt = z := by rw [z3, iI_t (by omega) (by omega)]
    show 32 ≤ (I 31 k).toInt ∧ (I 31 k).toInt ≤ 126 ∧ I 31 k = iI (I 31 k).toInt ∧ I 178 k = iI (I 31 k).toInt
    rw [e]; exact ⟨z1, z2, z3, z4⟩⟩
  have g : GC c n := ⟨t1, fun k hk => ⟨(hc k hk).1, (hc k hk).2.1⟩⟩
  have tc : TC c n I := ⟨t2, fun k hk => (hc k hk).2.2.1⟩
  obtain ⟨J1, e1, f1, r1⟩ := c_read g tc
  generalize hJ2 : wr J1 30 1 0 = J2
  have j21 : ∀ a j, (a ≠ 30 ∨ j ≠ 1) → J2 a j = J1 a j := fun a j x => by rw [← hJ2, wr_e, if_neg (by omega)]
  have j2 : ∀ a j, (a < 34 ∨ 36 < a) → (a ≠ 30 ∨ j ≠ 1) → J2 a j = I a j := fun a j x y => by rw [j21 a j y, f1 a j x]
  have j30 : J2 30 1 = 0 := by rw [← hJ2, wr_e, if_pos ⟨rfl, rfl⟩]
  have cnt_o : ∀ J : Mm, (∀ a j, 163 ≤ a → J a j = I a j) → ∃ v J', fX5_countOrders J = some (v, J') ∧ FR J J' ∧ MS c n J' ((paS_ c n 21 0).1, (paS_ c n 21 0).2.1) ∧ ((paS_ c n 21 0).1 = false → v = iI (paS_ c n 21 0).2.2) := fun J hJ => m_count_o g (by rw [hJ _ _ (by omega), t3]) (fun k hk => by rw [hJ _ _ (by omega)]; exact (hc k hk).2.2.2)
  by_cases w : (paS_ c n 21 0).1 = true
  · rw [if_pos w] at e1
    have le := pa_le c n 21 0 (Nat.zero_le _)
    obtain ⟨v, L1, m1, m2, m3, -⟩ := cnt_o J2 (fun a j x => j2 a j (by omega) (by omega))
    rw [w] at m3
    refine ⟨iI (-1000 - (paS_ c n 21 0).2.1), J2, wr L1 163 13 0, ?_, ?_, rr_txt R (fun a j a1 a2 a3 a4 a5 a6 => ?_) ?_ ?_⟩
    · rw [fX4_run, e1, bd_s, fX2_clear, ltm_s, bd_s, hJ2, if_neg (by rw [l_0, iI_le (by omega) (by omega) (by omega) (by omega)]; omega)]
    · have s19 : L1 163 19 = 1 := m3.2.2.2
      have s14 : L1 163 14 = iI (paS_ c n 21 0).2.1 := m3.2.2.1
      rw [fX5_run, m1, bd_s, s19, if_neg (by decide), ltm_s, show (wr L1 163 13 0) 163 14 = iI (paS_ c n 21 0).2.1 by rw [wr_e, if_neg (by omega), s14], show (-1000 : Int32) = iI (-1000) from rfl, iI_sub]
    · rw [wr_e, if_neg (by omega), m2 a j (by omega), j2 a j (by omega) (by omega)]
    · rw [wr_e, if_neg (by omega), m2 _ _ (by omega), j30]
    · rw [wr_e, if_pos ⟨rfl, rfl⟩]
  · have w' := bf w
    rw [if_neg w] at e1
    obtain ⟨hN, okc⟩ := r1 w'
    obtain ⟨pg1, -, pg2⟩ := pa_good c n 21 0 w'
    generalize hNN : (paS_ c n 21 0).2.2 = N at *
    have C2 : CY J2 1 T mo ct := cy_of C (fun a j _ _ => j2 a j (by omega) (by omega))
    obtain ⟨J3, e3, cp, f3⟩ := c_hold p1 (by rw [j2 _ _ (by omega) (by omega), p3]) O C2
    have j3 : ∀ a j, (a < 34 ∨ 36 < a) → (a ≠ 30 ∨ j ≠ 1) → (a < 37 + 14 * nx ∨ 37 + 14 * nx + 13 < a) → J3 a j = I a j := fun a j x y z => by rw [f3 a j z, j2 a j x y]
    have ok3 : ∀ x, x < N → (orS c n (poF c n x)).1 = false ∧ OKc c n J3 x (poF c n x) := fun x hx => ⟨pg2 x (by omega) hx, by
      have := okc x hx
      exact ⟨by rw [f3 _ _ (by omega), j21 _ _ (by omega)]; exact this.1, fun u v hu hv => by rw [f3 _ _ (by omega), j21 _ _ (by omega)]; exact this.2 u v hu hv⟩⟩
    have crun : fX4_run I = fX4_run_p31 1000 (iI N) (iI ((0 : Nat) : Int)) J3 := by
      rw [fX4_run, e1, bd_s, fX2_clear, ltm_s, bd_s, hJ2, if_pos (by rw [l_0, iI_le (by omega) (by omega) (by omega) (by omega)]; omega), e3, bd_s]; rfl
    have prep : ∀ J : Mm, (∀ a j, 163 ≤ a → J a j = I a j) → ∃ K, fX5_run J = fX5_run_p51 1000 (iI N) 0 (iI ((0 : Nat) : Int)) K ∧ MS c n K (false, 0) ∧ K 163 8 = 1 ∧ (∀ j, j < 373 → K 166 j = I 164 j) ∧ (∀ a j, a ≠ 166 → (a = 163 → j ≠ 8 ∧ (j < 14 ∨ 19 < j)) → K a j = J a j) := fun J hJ => by
      obtain ⟨v, L1, m1, m2, m3, m4⟩ := cnt_o J hJ
      rw [w'] at m3
      have m4 := m4 w'
      have s19 : L1 163 19 = 0 := m3.2.2.2
      obtain ⟨L2, k1, k2, k3⟩ := @m_copyRow L1 164 166 (by unfold isW; omega) (by unfold isW; omega) (by omega)
      refine ⟨wr (wr L2 163 8 1) 163 14 0, ?_, ⟨?_, fun k hk => ?_, by rw [wr_e, if_pos ⟨rfl, rfl⟩]; rfl, ?_⟩, ?_, fun j hj => ?_, fun a j x y => ?_⟩
      · rw [fX5_run, m1, bd_s, s19, if_pos rfl, k1, bd_s, ltm_s, ltm_s, m4]; rfl
      · rw [wr_e, if_neg (by omega), wr_e, if_neg (by omega), k3 _ _ (by omega)]; exact m3.1
      · rw [wr_e, if_neg (by omega), wr_e, if_neg (by omega), k3 _ _ (by omega)]; exact m3.2.1 k hk
      · rw [wr_e, if_neg (by omega), wr_e, if_neg (by omega), k3 _ _ (by omega)]; exact s19
      · rw [wr_e, if_neg (by omega), wr_e, if_pos ⟨rfl, rfl⟩]
      · rw [wr_e, if_neg (by omega), wr_e, if_neg (by omega), k2 j hj, m2 _ _ (by omega), hJ _ _ (by omega)]
      · rw [wr_e, if_neg (by omega), wr_e, if_neg (by omega), k3 a j (by omega), m2 a j (by omega)]
    have loop : ∀ K : Mm, (∀ j, K 164 j = I 164 j) → MS c n K (false, 0) → K 163 8 = 1 → _ := fun K hK hms hk8 => run_loop g hN N 0 1000 1000 J3 K T mo ct 0 (by omega) (by omega) (by omega) ok3 O (cy_of C2 (fun a j _ _ => f3 a j (by omega))) (my_of O M (fun j _ => hK j)) (fun _ => hms) hk8 (by decide)
    have tailS : ∀ J : Mm, (∀ j, j ≠ 9 → j ≠ 10 → J 0 j = J3 0 j) → (bd (fX4_keep (iI N) J) fun r1 I1 => some (r1, I1)) = some (iI N, wr (wr J 0 4 (iI (((nx + 1) % 9 : Nat) : Int))) 0 5 (iI (min (un + 1) 8 : Nat))) := fun J h => by
      rw [@c_keep1 J (iI N) (by rw [l_0, iI_le (by omega) (by omega) (by omega) (by omega)]; omega) nx un p1 p2 (by rw [h _ (by omega) (by omega), j3 _ _ (by omega) (by omega) (by omega), p3]) (by rw [h _ (by omega) (by omega), j3 _ _ (by omega) (by omega) (by omega), p4]), bd_s]
    have tailF : ∀ (J : Mm) (q : Nat), (∀ a j, 15 ≤ a → J a j = J3 a j) → (∀ j, j ≠ 9 → j ≠ 10 → J 0 j = J3 0 j) → ∃ J5, (bd (fX4_giveBack J) fun r2 I2 => bd (fX4_refuse 6 (iI q) I2) fun r3 I3 => some (r3, I3)) = some (iI (-14), wr (wr J5 0 9 6) 0 10 (iI q)) ∧ CY J5 1 T mo ct ∧ ∀ a j, (a < 1 ∨ 14 < a) → J5 a j = J a j := fun J q h1 h2 => by
      obtain ⟨J5, x1, x2, x3⟩ := @c_give J nx p1 (by rw [h2 _ (by omega) (by omega), j3 _ _ (by omega) (by omega) (by omega), p3]) T mo ct O (cy_of cp (fun a j _ _ => h1 a j (by omega)))
      exact ⟨J5, by rw [x1, bd_s, c_refuse, bd_s], x2, x3⟩
    obtain ⟨vf, Jf, hf1, hf2⟩ : ∃ v Jf, fX4_run_p31 1000 (iI N) (iI ((0 : Nat) : Int)) J3 = some (v, Jf) ∧ ∀ a j, 163 ≤ a → Jf a j = I a j := by
      obtain ⟨K, k1, k2, k3, k4, k5⟩ := prep J3 (fun a j x => j3 a j (by omega) (by omega) (by omega))
      obtain ⟨J, L, l1, l2, l3, l4⟩ := loop K (fun j => by rw [k5 _ _ (by omega) (by omega), j3 _ _ (by omega) (by omega) (by omega)]) k2 k3
      rcases l4 with ⟨T2, mo2, ct2, u, u0, u1, u2, u3, u4, u5, u6, u7, u8, u9⟩ | ⟨q', u, u1, u2, u3, u4, u5⟩
      · refine ⟨_, _, by rw [u8, tailS J l2], fun a j x => ?_⟩
        rw [wr_e, if_neg (by omega), wr_e, if_neg (by omega), l1 a j (by omega), j3 a j (by omega) (by omega) (by omega)]
      · obtain ⟨J5, y1, y2, y3⟩ := tailF J q' l1 l2
        refine ⟨_, _, by rw [u4, y1], fun a j x => ?_⟩
        rw [wr_e, if_neg (by omega), wr_e, if_neg (by omega), y3 a j (by omega), l1 a j (by omega), j3 a j (by omega) (by omega) (by omega)]
    obtain ⟨K, k1, k2, k3, k4, k5⟩ := prep Jf hf2
    obtain ⟨J, L, l1, l2, l3, l4⟩ := loop K (fun j => by rw [k5 _ _ (by omega) (by omega), hf2 _ _ (by omega)]) k2 k3
    rcases l4 with ⟨T2, mo2, ct2, u, u0, u1, u2, u3, u4, u5, u6, u7, u8, u9⟩ | ⟨q', u, u1, u2, u3, u4, u5⟩
    · -- all are carried out
      have ef := hf1.symm.trans (u8.trans (tailS J l2))
      obtain ⟨ev, eJ⟩ := pr_e ef
      have w0 : ∀ a j, (a ≠ 0 ∨ (j ≠ 4 ∧ j ≠ 5)) → Jf a j = J a j := fun a j x => by rw [eJ, wr_e, if_neg (by omega), wr_e, if_neg (by omega)]
      have w4 : Jf 0 4 = iI (((nx + 1) % 9 : Nat) : Int) := by rw [eJ, wr_e, if_neg (by omega), wr_e, if_pos ⟨rfl, rfl⟩]
      have w5 : Jf 0 5 = iI (min (un + 1) 8 : Nat) := by rw [eJ, wr_e, if_pos ⟨rfl, rfl⟩]
      have lk : ∀ a j, a ≠ 164 → a ≠ 166 → a ≠ 176 → a ≠ 177 → (a = 163 → j = 4 ∨ j = 7 ∨ j = 21) → (wr (wr L 163 8 0) 163 13 0) a j = Jf a j := fun a j x1 x2 x3 x4 x5 => by
        rw [wr_e, if_neg (by omega), wr_e, if_neg (by omega), l3 a j x1 x3 x4 (by omega), k5 a j x2 (by omega)]
      obtain ⟨L2, z1, z2⟩ := m_remember (s := 166) (Or.inr rfl) (K := wr (wr L 163 8 0) 163 13 0) p2 (by rw [lk _ _ (by omega) (by omega) (by omega) (by omega) (by omega), hf2 _ _ (by omega), p5])
      have lo : ∀ a j, a ≠ 164 → a ≠ 166 → a ≠ 176 → a ≠ 177 → (a = 163 → j = 7 ∨ j = 21) → (a < 168 ∨ 176 ≤ a) → L2 a j = Jf a j := fun a j x1 x2 x3 x4 x5 x6 => by
        rw [z2]; unfold chg; rw [if_neg (by omega), if_neg (by omega), if_neg (by omega), lk a j x1 x2 x3 x4 (by omega)]
      have li : ∀ a j, 15 ≤ a → a ≠ 34 → a ≠ 35 → a ≠ 36 → a ≠ 30 → a ≠ 164 → a ≠ 166 → a ≠ 176 → a ≠ 177 → (a = 163 → j = 7 ∨ j = 21) → (a < 168 ∨ 176 ≤ a) → (a < 37 + 14 * nx ∨ 37 + 14 * nx + 13 < a) → L2 a j = I a j := fun a j y1 y2 y3 y4 y5 x1 x2 x3 x4 x5 x6 x7 => by
        rw [lo a j x1 x2 x3 x4 x5 x6, w0 a j (by omega), l1 a j y1, j3 a j (by omega) (by omega) x7]
      have l0 : ∀ j, j ≠ 4 → j ≠ 5 → j ≠ 9 → j ≠ 10 → L2 0 j = I 0 j := fun j a b d e => by
        rw [lo 0 j (by omega) (by omega) (by omega) (by omega) (by omega) (by omega), w0 0 j (by omega), l2 j d e, j3 0 j (by omega) (by omega) (by omega)]
      have r56 : ∀ j, j = 5 ∨ j = 6 → L2 163 j = I 163 j := fun j hj => by
        rw [z2]; unfold chg; rw [if_neg (by omega), if_neg (by omega), if_neg (by omega), wr_e, if_neg (by omega), wr_e, if_neg (by omega)]
        rcases hj with rfl | rfl
        · rw [u6, k5 _ _ (by omega) (by omega), hf2 _ _ (by omega)]
        · rw [u7, k5 _ _ (by omega) (by omega), hf2 _ _ (by omega)]
      have row : ∀ j, j < 373 → (wr (wr L 163 8 0) 163 13 0) 166 j = I 164 j := fun j hj => by
        rw [wr_e, if_neg (by omega), wr_e, if_neg (by omega), l3 _ _ (by omega) (by omega) (by omega) (by omega), k4 j hj]
      have o168 : ∀ a j, 168 ≤ a → a < 176 → (wr (wr L 163 8 0) 163 13 0) a j = I a j := fun a j x y => by
        rw [lk a j (by omega) (by omega) (by omega) (by omega) (by omega), hf2 _ _ (by omega)]
      refine ⟨iI N, Jf, L2, by rw [crun, hf1, ev], ?_, ⟨T2, mo2, ct2, u1, cy_of u2 (fun a j _ _ => by rw [lo a j (by omega) (by omega) (by omega) (by omega) (by omega) (by omega), w0 a j (by omega)]), my_of u1 u3 (fun j _ => by rw [z2]; unfold chg; rw [if_neg (by omega), if_neg (by omega), if_neg (by omega), wr_e, if_neg (by omega), wr_e, if_neg (by omega)])⟩, ?_, ⟨(nx + 1) % 9, min (un + 1) 8, by omega, by omega, ?_, ?_, ?_, fun k hk => ?_⟩, ?_, ?_, ⟨0, by omega, ?_, ?_, fun k hk => by omega⟩, ?_⟩
      · rw [k1, u9, fX5_run_p102, ltm_s, ltm_s, if_pos u0, z1, bd_s]
      · exact sv_of sv (fun a j _ _ => li a j (by omega) (by omega) (by omega) (by omega) (by omega) (by omega) (by omega) (by omega) (by omega) (by omega) (by omega) (by omega)) (l0 _ (by omega) (by omega) (by omega) (by omega)) (li _ _ (by omega) (by omega) (by omega) (by omega) (by omega) (by omega) (by omega) (by omega) (by omega) (by omega) (by omega) (by omega)) (fun j => li _ _ (by omega) (by omega) (by omega) (by omega) (by omega) (by omega) (by omega) (by omega) (by omega) (by omega) (by omega) (by omega))
      · rw [lo _ _ (by omega) (by omega) (by omega) (by omega) (by omega) (by omega), w4]
      · rw [lo _ _ (by omega) (by omega) (by omega) (by omega) (by omega) (by omega), w5]
      · rw [z2]; unfold chg; rw [if_pos ⟨rfl, rfl⟩]
      · have yn : YY L2 (37 + 14 * nx) (I 164) := ⟨T, mo, ct, O, cy_of cp (fun a j x y => by rw [lo a j (by omega) (by omega) (by omega) (by omega) (by omega) (by omega), w0 a j (by omega), l1 a j (by omega)]), M⟩
        have yo : ∀ q, q < un → YY L2 (37 + 14 * ((nx + 9 - un + q) % 9)) (I (168 + q)) := fun q hq => yy_of (p6 q hq) (fun a j x y => li a j (by omega) (by omega) (by omega) (by omega) (by omega) (by omega) (by omega) (by omega) (by omega) (by omega) (by omega) (by omega)) (fun j _ => rfl)
        by_cases d : un = 8
        · by_cases e : k = 7
          · subst e
            rw [show ((nx + 1) % 9 + 9 - min (un + 1) 8 + 7) % 9 = nx by omega]
            exact yy_of yn (fun _ _ _ _ => rfl) (fun j hj => by
              rw [z2]; unfold chg; rw [if_neg (by omega), if_neg (by omega), if_pos (by omega), row j hj])
          · rw [show ((nx + 1) % 9 + 9 - min (un + 1) 8 + k) % 9 = (nx + 9 - un + (k + 1)) % 9 by omega]
            exact yy_of (yo (k + 1) (by omega)) (fun _ _ _ _ => rfl) (fun j hj => by
              rw [z2]; unfold chg; rw [if_neg (by omega), if_pos (by omega), o168 _ _ (by omega) (by omega)]; rfl)
        · by_cases e : k = un
          · subst e
            rw [show ((nx + 1) % 9 + 9 - min (k + 1) 8 + k) % 9 = nx by omega]
            exact yy_of yn (fun _ _ _ _ => rfl) (fun j hj => by
              rw [z2]; unfold chg; rw [if_neg (by omega), if_neg (by omega), if_pos (by omega), row j hj])
          · rw [show ((nx + 1) % 9 + 9 - min (un + 1) 8 + k) % 9 = (nx + 9 - un + k) % 9 by omega]
            exact yy_of (yo k (by omega)) (fun _ _ _ _ => rfl) (fun j hj => by
              rw [z2]; unfold chg; rw [if_neg (by omega), if_neg (by omega), if_neg (by omega), o168 _ _ (by omega) (by omega)])
      · exact rs_of rs (r56 5 (Or.inl rfl)) (r56 6 (Or.inr rfl)) (by rw [lo _ _ (by omega) (by omega) (by omega) (by omega) (by omega) (by omega), w0 _ _ (by omega), u4, j3 _ _ (by omega) (by omega) (by omega)]) (by rw [lo _ _ (by omega) (by omega) (by omega) (by omega) (by omega) (by omega), w0 _ _ (by omega), u5, j3 _ _ (by omega) (by omega) (by omega)])
      · rw [z2]; unfold chg; rw [if_neg (by omega), if_neg (by omega), if_neg (by omega), wr_e, if_neg (by omega), wr_e, if_pos ⟨rfl, rfl⟩]
      · rw [lo _ _ (by omega) (by omega) (by omega) (by omega) (by omega) (by omega), w0 _ _ (by omega), l1 _ _ (by omega), f3 _ _ (by omega), j30]; rfl
      · rw [z2]; unfold chg; rw [if_neg (by omega), if_neg (by omega), if_neg (by omega), wr_e, if_pos ⟨rfl, rfl⟩]; rfl
      · exact ln_of ln (fun a j _ _ => li a j (by omega) (by omega) (by omega) (by omega) (by omega) (by omega) (by omega) (by omega) (by omega) (by omega) (by omega) (by omega)) (li _ _ (by omega) (by omega) (by omega) (by omega) (by omega) (by omega) (by omega) (by omega) (by omega) (by omega) (by omega) (by omega)) (fun j => li _ _ (by omega) (by omega) (by omega) (by omega) (by omega) (by omega) (by omega) (by omega) (by omega) (by omega) (by omega) (by omega))
    · -- an order cannot be carried out
      obtain ⟨J5, y1, y2, y3⟩ := tailF J q' l1 l2
      have ef := hf1.symm.trans (u4.trans y1)
      obtain ⟨ev, eJ⟩ := pr_e ef
      have nu : ¬ 0 ≤ u := by rw [Int32.le_iff_toInt_le]; rw [Int32.lt_iff_toInt_lt] at u1; omega
      have w0 : ∀ a j, (a ≠ 0 ∨ (j ≠ 9 ∧ j ≠ 10)) → Jf a j = J5 a j := fun a j x => by rw [eJ, wr_e, if_neg (by omega), wr_e, if_neg (by omega)]
      have lk : ∀ a j, a ≠ 164 → a ≠ 166 → a ≠ 176 → a ≠ 177 → (a = 163 → j = 4 ∨ j = 7 ∨ j = 21) → (wr (wr L 163 8 0) 163 13 0) a j = Jf a j := fun a j x1 x2 x3 x4 x5 => by
        rw [wr_e, if_neg (by omega), wr_e, if_neg (by omega), l3 a j x1 x3 x4 (by omega), k5 a j x2 (by omega)]
      obtain ⟨L2, z1, z2, z3⟩ := @m_copyRow (wr (wr L 163 8 0) 163 13 0) 166 164 (by unfold isW; omega) (by unfold isW; omega) (by omega)
      have lo : ∀ a j, a ≠ 164 → a ≠ 166 → a ≠ 176 → a ≠ 177 → (a = 163 → j = 4 ∨ j = 7 ∨ j = 21) → L2 a j = Jf a j := fun a j x1 x2 x3 x4 x5 => by rw [z3 a j (by omega), lk a j x1 x2 x3 x4 x5]
      have li : ∀ a j, 15 ≤ a → a ≠ 34 → a ≠ 35 → a ≠ 36 → a ≠ 30 → a ≠ 164 → a ≠ 166 → a ≠ 176 → a ≠ 177 → (a = 163 → j = 4 ∨ j = 7 ∨ j = 21) → (a < 37 + 14 * nx ∨ 37 + 14 * nx + 13 < a) → L2 a j = I a j := fun a j a1 a2 a3 a4 a5 x1 x2 x3 x4 x5 x7 => by
        rw [lo a j x1 x2 x3 x4 x5, w0 a j (by omega), y3 a j (by omega), l1 a j a1, j3 a j (by omega) (by omega) x7]
      have l0 : ∀ j, j ≠ 9 → j ≠ 10 → L2 0 j = I 0 j := fun j d e => by
        rw [lo 0 j (by omega) (by omega) (by omega) (by omega) (by omega), w0 0 j (by omega), y3 0 j (by omega), l2 j d e, j3 0 j (by omega) (by omega) (by omega)]
      have c9 : L2 0 9 = 6 := by rw [lo _ _ (by omega) (by omega) (by omega) (by omega) (by omega), eJ, wr_e, if_neg (by omega), wr_e, if_pos ⟨rfl, rfl⟩]
      have c10 : L2 0 10 = iI q' := by rw [lo _ _ (by omega) (by omega) (by omega) (by omega) (by omega), eJ, wr_e, if_pos ⟨rfl, rfl⟩]
      have m5 : L2 163 5 = 6 := by rw [z3 _ _ (by omega), wr_e, if_neg (by omega), wr_e, if_neg (by omega), u2]
      have m6 : L2 163 6 = iI q' := by rw [z3 _ _ (by omega), wr_e, if_neg (by omega), wr_e, if_neg (by omega), u3]
      refine ⟨iI (-14), Jf, L2, by rw [crun, hf1, ev], ?_, ⟨T, mo, ct, O, cy_of y2 (fun a j _ _ => by rw [lo a j (by omega) (by omega) (by omega) (by omega) (by omega), w0 a j (by omega)]), my_of O M (fun j hj => ?_)⟩, ?_, ⟨nx, un, p1, p2, ?_, ?_, ?_, fun k hk => ?_⟩, Or.inr ⟨by rw [m5]; decide, by rw [c9, m5], by rw [c10, m6]⟩, ?_, ⟨0, by omega, ?_, ?_, fun k hk => by omega⟩, ?_⟩
      · rw [k1, u5, fX5_run_p102, ltm_s, ltm_s, if_neg nu, z1, bd_s]; rfl
      · rw [z2 j hj, wr_e, if_neg (by omega), wr_e, if_neg (by omega), l3 _ _ (by omega) (by omega) (by omega) (by omega), k4 j hj]
      · exact sv_of sv (fun a j _ _ => li a j (by omega) (by omega) (by omega) (by omega) (by omega) (by omega) (by omega) (by omega) (by omega) (by omega) (by omega)) (l0 _ (by omega) (by omega)) (li _ _ (by omega) (by omega) (by omega) (by omega) (by omega) (by omega) (by omega) (by omega) (by omega) (by omega) (by omega)) (fun j => li _ _ (by omega) (by omega) (by omega) (by omega) (by omega) (by omega) (by omega) (by omega) (by omega) (by omega) (by omega))
      · rw [l0 _ (by omega) (by omega), p3]
      · rw [l0 _ (by omega) (by omega), p4]
      · rw [li _ _ (by omega) (by omega) (by omega) (by omega) (by omega) (by omega) (by omega) (by omega) (by omega) (by omega) (by omega), p5]
      · exact yy_of (p6 k hk) (fun a j x y => li a j (by omega) (by omega) (by omega) (by omega) (by omega) (by omega) (by omega) (by omega) (by omega) (by omega) (by omega)) (fun j _ => li _ _ (by omega) (by omega) (by omega) (by omega) (by omega) (by omega) (by omega) (by omega) (by omega) (by omega) (by omega))
      · rw [z3 _ _ (by omega), wr_e, if_neg (by omega), wr_e, if_pos ⟨rfl, rfl⟩]
      · rw [lo _ _ (by omega) (by omega) (by omega) (by omega) (by omega), w0 _ _ (by omega), y3 _ _ (by omega), l1 _ _ (by omega), f3 _ _ (by omega), j30]; rfl
      · rw [z3 _ _ (by omega), wr_e, if_pos ⟨rfl, rfl⟩]; rfl
      · exact ln_of ln (fun a j _ _ => li a j (by omega) (by omega) (by omega) (by omega) (by omega) (by omega) (by omega) (by omega) (by omega) (by omega) (by omega)) (li _ _ (by omega) (by omega) (by omega) (by omega) (by omega) (by omega) (by omega) (by omega) (by omega) (by omega) (by omega)) (fun j => li _ _ (by omega) (by omega) (by omega) (by omega) (by omega) (by omega) (by omega) (by omega) (by omega) (by omega) (by omega))
