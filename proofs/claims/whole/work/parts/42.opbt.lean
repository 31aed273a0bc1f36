/-! ===== build and take ===== -/
section OB
variable {I : Mm} {f : Nat → Int32} {T : Nat → Tr} {mo : Nat → Nat} {ct : Nat → Int32}
theorem b_p46 {i : Nat} (hi : i < 3) {t : Tr} (G : GT t) : ∀ (k q m : Nat) (K0 : Mm), q + k = cnt t → k < m → MR (K0 164) i t → LsT K0 t → (∀ p, p < q → K0 177 (gs t p) = iI (gd t p)) → ∃ K', fX5_build_p46 m (iI i) (iI q) K0 = (bd (fX5_buildWhole (iI i) K') fun _ I1 => fX5_build_p91 1000 (iI i) 0 0 I1) ∧ (∀ a j, a ≠ 177 → K' a j = K0 a j) ∧ ∀ p, p < cnt t → K' 177 (gs t p) = iI (gd t p) := by
  have g := G.1
  intro k
  induction k with
  | zero =>
    intro q m K0 hq hm M S D
    obtain ⟨m, rfl⟩ : ∃ x, m = x + 1 := ⟨m - 1, by omega⟩
    obtain rfl : q = cnt t := by omega
    refine ⟨K0, ?_, fun _ _ _ => rfl, D⟩
    rw [fX5_build_p46, S.1, if_pos (Int32.le_refl _)]
  | succ k ih =>
    intro q m K0 hq hm M S D
    obtain ⟨m, rfl⟩ : ∃ x, m = x + 1 := ⟨m - 1, by omega⟩
    have gp := G.2.1 q (by omega)
    have w : ∀ a j, (a = 177 → j ≠ gs t q) → (wr K0 177 (gs t q) (iI (gd t q))) a j = K0 a j := fun a j h => by rw [wr_e, if_neg (fun e => h e.1 e.2)]
    obtain ⟨K', e, h1, h2⟩ := ih (q + 1) m (wr K0 177 (gs t q) (iI (gd t q))) (by omega) (by omega) (by rw [show (wr K0 177 (gs t q) (iI (gd t q))) 164 = K0 164 from funext fun j => w 164 j (by omega)]; exact M) ⟨by rw [w 163 10 (by omega)]; exact S.1, fun p hp => by rw [w 176 p (by omega)]; exact S.2 p hp⟩ (fun p hp => by
      by_cases c : p = q
      · rw [c, wr_e, if_pos ⟨rfl, rfl⟩]
      · rw [w 177 _ (fun _ => G.2.2.2 p q (by omega) (by omega))]; exact D p (by omega))
    refine ⟨K', ?_, fun a j h => by rw [h1 a j h, w a j (fun e => absurd e h)], h2⟩
    rw [← e, fX5_build_p46, S.1, if_neg (by rw [iI_le (by omega) (by omega) (by omega) (by omega)]; omega)]
    have c1 : ¬ ((iI (q : Int) : Int32) < 0 ∨ 90 ≤ (iI (q : Int)).toNatClampNeg) := by
      rw [l_0, iI_lt (by omega) (by omega) (by omega) (by omega), iI_cl (by omega) (by omega), tn_n]; omega
    rw [if_neg c1, if_neg c1, iI_cl (by omega) (by omega), tn_n, S.2 q (by omega), m_depth hi G M (by omega), bd_s, iI_cl (by omega) (by omega), tn_n]
    have c2 : ¬ ((iI (gs t q : Int) : Int32) < 0 ∨ 30 ≤ gs t q) := by
      rw [l_0, iI_lt (by omega) (by omega) (by omega) (by omega)]; omega
    rw [if_neg c2, ltm_s, ltm_s, l_1, iI_add]
    rfl
theorem b_p91 {i : Nat} (hi : i < 3) {t u : Tr} (G : GT t) (GU : GT u) (hc : cnt u = cnt t) (hs : ∀ p, p < cnt t → gs u p = gs t p) {L : Mm} (M : MR (L 164) i u) (S : LsT L t) (D : ∀ p, p < cnt t → L 177 (gs t p) = iI (gd t p)) : ∀ (k q m : Nat), q + k = cnt t → k < m → fX5_build_p91 m (iI i) (iI (sm (fun j => if (gd t j : Int) = gd u j then 0 else 1) q)) (iI q) L = some (iI (mvT t u), L) := by
  have g := G.1
  intro k
  induction k with
  | zero =>
    intro q m hq hm
    obtain ⟨m, rfl⟩ : ∃ x, m = x + 1 := ⟨m - 1, by omega⟩
    obtain rfl : q = cnt t := by omega
    rw [fX5_build_p91, S.1, if_pos (Int32.le_refl _)]
    rfl
  | succ k ih =>
    intro q m hq hm
    obtain ⟨m, rfl⟩ : ∃ x, m = x + 1 := ⟨m - 1, by omega⟩
    have gp := G.2.1 q (by omega)
    have ih' := ih (q + 1) m (by omega) (by omega)
    have d1 := gd_lt t q (by omega)
    have d2 := gd_lt u q (by omega)
    have md := m_depth hi GU M (p := q) (by omega)
    rw [hs q (by omega)] at md
    rw [sm] at ih'
    rw [fX5_build_p91, S.1]
    simp (disch := omega) only [iI_le, l_0, l_1, iI_lt, iI_cl, tn_n, if_neg, S.2, md, bd_s, D, iI_eq, ltm_s, iI_add]
    by_cases c : (gd t q : Int) = gd u q
    · rw [if_pos c] at ih' ⊢
      exact ih'
    · rw [if_neg c] at ih' ⊢
      exact ih'
theorem lf_164 {K L : Mm} (h : LF K L) : L 164 = K 164 := funext fun j => h 164 j (by omega) (by omega)
theorem rc_1 {C : CY I 1 T mo ct} {i : Nat} (hi : i < 3) : RT I (3 + 4 * i) (T i) := by
  have R := (C.1 i hi).1
  rw [show 1 + 2 + 4 * i = 3 + 4 * i by omega] at R
  exact R
theorem op_build (N : NwS I f T mo ct) (x : Int32) : OpNo I f (fX4_buildNow x) (fX5_build x) T mo ct ∨ OpYes I f (fX4_buildNow x) (fX5_build x) := by
  obtain ⟨O, C, M⟩ := N
  obtain ⟨z, rfl, h1, h2⟩ := iI_ex x
  by_cases c : 0 ≤ z ∧ z < 3
  · obtain ⟨i, rfl⟩ : ∃ i : Nat, z = i := ⟨z.toNat, by omega⟩
    have hi : i < 3 := by omega
    have G := (O.1 i hi).1
    have g := G.1
    have R := rc_1 (C := C) hi
    have c1 : ∀ w, fX4_buildNow (iI i) I = w ↔ (if 0 < I (3 + 4 * i) 3 then bd (fX4_buildWhole (3 + 4 * i) I) fun r2 I2 => some (r2, I2) else bd (fX4_refuse 5 (iI i) I) fun r2 I2 => some (r2, I2)) = w := fun w => by
      rw [fX4_buildNow, c_rick hi, bd_s, on_1, if_pos (kd_r (Or.inl rfl) hi), show 1 + 2 + 4 * i = 3 + 4 * i by omega]
    have m1 : ∀ K : Mm, K 164 = f → fX5_build (iI i) K = if cnt (T i) = 0 then fX5_build_p24 (iI i) (iI 1) K else fX5_build_p24 (iI i) (iI 0) K := fun K hK => by
      rw [fX5_build, m_isRick1 hi, bd_s, if_neg i10, m_count hi G (by rw [hK]; exact (M.1 i hi).1), bd_s]
      by_cases d : cnt (T i) = 0
      · rw [if_pos d, if_pos (by rw [d]; rfl)]; rfl
      · rw [if_neg d, l_0, if_neg (by rw [iI_eq (by omega) (by omega) (by omega) (by omega)]; omega)]
    by_cases d : cnt (T i) = 0
    · left
      refine no_ref C (a := 5) (b := iI i) (by decide) ?_ (fun K hK => ⟨K, ?_, lf_rfl K⟩)
      · rw [c1, R.1, l_0, if_neg (by rw [iI_lt (by omega) (by omega) (by omega) (by omega)]; omega), c_refuse, bd_s]; rfl
      · rw [m1 K hK, if_pos d, fX5_build_p24, m_ref1, bd_s, if_neg (by decide)]
    · right
      obtain ⟨J, e, j1, j2, j3⟩ := c_bw hi C G
      have mv := mv_rng (T i) (bwT (T i))
      refine ⟨iI (mvT (T i) (bwT (T i))), up T i (bwT (T i)), up mo i (cnt (T i)), _, ?_, ok_up O hi (bw_gt G) g ?_ ?_, ⟨J, ?_, j1, j2, fun j _ _ => j3 j, j3 9, j3 10⟩, fun K KC hK hC => ?_⟩
      · rw [l_0, iI_le (by omega) (by omega) (by omega) (by omega)]; omega
      · rw [up_n _ _ (by omega), up_n _ _ (by omega)]
      · rw [up_n _ _ (by omega), up_n _ _ (by omega), up_n _ _ (by omega), up_n _ _ (by omega), (bw_pos (T i)).1, Int.sub_self]
        exact (Int32.add_zero _).symm
      · rw [c1, R.1, l_0, if_pos (by rw [iI_lt (by omega) (by omega) (by omega) (by omega)]; omega), e, bd_s]
      · obtain ⟨K1, k1, k2, k3⟩ := hC K (lf_rfl K)
        have mr1 : MR (K1 164) i (T i) := by rw [k2, hK]; exact (M.1 i hi).1
        obtain ⟨K2, l1, l2, l3⟩ := m_listAll hi G mr1
        obtain ⟨K3, p1, p2, p3⟩ := b_p46 hi G (cnt (T i)) 0 1000 K2 (by omega) (by omega) (mf_mr l2 mr1) l3 (fun p hp => by omega)
        have k3164 : K3 164 = f := by rw [show K3 164 = K2 164 from funext fun j => p2 164 j (by omega), lf_164 l2, k2, hK]
        obtain ⟨L, q1, q2, q3, q4⟩ := m_bw (K := K3) hi (fun i hi => (O.1 i hi).1) (by rw [k3164]; exact M)
        have bp := bw_pos (T i)
        have fin := b_p91 hi G (bw_gt G) bp.1 (fun p hp => (bp.2 p hp).2.2) (L := L) (by have := (q2.1 i hi).1; rw [up_s] at this; exact this) q3 (fun p hp => by rw [q4 177 _ (by omega) (by omega) (by omega)]; exact p3 p hp) (cnt (T i)) 0 1000 (by omega) (by omega)
        refine ⟨L, ?_, q2, fun a j a1 a2 a3 a4 => by rw [q4 a j a1 a2 a4, p2 a j a3, l2 a j a2 a4]; exact k3 a j a1 a2 a3 a4⟩
        rw [m1 K hK, if_neg d, fX5_build_p24, m_ref0, bd_s, if_pos (show iI 0 = 0 from rfl), k1, bd_s, l1, bd_s, show (0 : Int32) = iI ((0 : Nat) : Int) from rfl, p1, q1, bd_s]
        exact fin
  · left
    refine no_no C (v := -11) (by decide) ?_ (fun K hK => ?_)
    · rw [fX4_buildNow, c_rickAt h1 h2, if_neg c, bd_s, on_0]
    · rw [fX5_build, m_isRick0 h1 h2 c, bd_s, if_pos i00]
theorem op_take (N : NwS I f T mo ct) (x w : Int32) : OpNo I f (fX4_takeNow x w) (fX5_take x w) T mo ct ∨ OpYes I f (fX4_takeNow x w) (fX5_take x w) := by
  obtain ⟨O, C, M⟩ := N
  obtain ⟨z, rfl, h1, h2⟩ := iI_ex x
  obtain ⟨y, rfl, w1, w2⟩ := iI_ex w
  by_cases c : 0 ≤ z ∧ z < 3
  · obtain ⟨i, rfl⟩ : ∃ i : Nat, z = i := ⟨z.toNat, by omega⟩
    have hi : i < 3 := by omega
    have G := (O.1 i hi).1
    have g := G.1
    have R := rc_1 (C := C) hi
    obtain ⟨lim, hl, hl2, hl3⟩ := O.2.1
    have hmo := (O.1 i hi).2
    by_cases d : fdP (T i) y = -1
    · left
      refine no_no C (v := -11) (by decide) ?_ (fun K hK => ?_)
      · rw [fX4_takeNow, c_rick hi, bd_s, on_1, if_pos (kd_r (Or.inl rfl) hi), show 1 + 2 + 4 * i = 3 + 4 * i by omega, t_find G R w1 w2, bd_s, d, if_pos (show iI (-1) = -1 from rfl)]
      · rw [fX5_take, m_isRick1 hi, bd_s, if_neg i10, m_find hi G (by rw [hK]; exact (M.1 i hi).1) w1 w2, bd_s, fdS, if_pos d, if_neg (by decide)]
    · right
      obtain ⟨p, hp, f1, f2, f3⟩ := fd_yes d
      have gp := G.2.1 p hp
      have GD := del_gt G hp
      have dp := del_pos (T i) p hp
      obtain ⟨J, e, j1, j2⟩ := t_lift G R hp
      -- the state behind the taking
      have cy1 : CY (wr J 1 3 (ct 2 + 1)) 1 (up T i (delT (T i) p)) (up mo i (mo i)) (up ct 2 (ct 2 + 1)) := cy_up hi C (rt_of j1 (fun a j a1 a2 => by rw [wr_e, if_neg (by omega)])) (by rw [wr_e, if_neg (by omega), j2 _ _ (by omega)]; have := (C.1 i hi).2; rw [show 1 + 2 + 4 * i = 3 + 4 * i by omega] at this; exact this) (fun a j a1 a2 a3 => by rw [wr_e, if_neg (by omega)]; exact j2 a j (by omega)) (fun j hj => by
        by_cases c2 : j = 2
        · subst c2; rw [wr_e, if_pos ⟨rfl, rfl⟩, up_s]
        · rw [wr_e, if_neg (by omega), up_n _ _ c2, j2 1 _ (by omega)]; exact C.2 j hj)
      have ok1 : OKY (up T i (delT (T i) p)) (up mo i (mo i)) (up ct 2 (ct 2 + 1)) := ok_up O hi GD hmo (up_n _ _ (by omega)) (by
        rw [up_n _ _ (by omega), up_s, show (cnt (delT (T i) p) : Int) - cnt (T i) = -1 by omega]
        exact i_sub1 _ _)
      have b0 : ∀ j, (wr J 1 3 (ct 2 + 1)) 0 j = I 0 j := fun j => by rw [wr_e, if_neg (by omega), j2 0 j (by omega)]
      have b15 : ∀ a j, 15 ≤ a → (wr J 1 3 (ct 2 + 1)) a j = I a j := fun a j h => by rw [wr_e, if_neg (by omega), j2 a j (by omega)]
      have cl : fX1_loadAt (3 + 4 * i) (iI p) I = some (iI (gl (T i) p), I) := by
        rw [t_loadAt G R (by omega) (by omega)]
        simp (disch := omega) only [LZ, if_pos, tn_n]
      have j13 : J 1 3 = ct 2 := by rw [j2 1 3 (by omega)]; exact C.2 2 (by omega)
      have s1 : (wr J 1 3 (ct 2 + 1)) 1 1 = iI lim := by rw [wr_e, if_neg (by omega), j2 1 1 (by omega), ← hl]; exact C.2 0 (by omega)
      have s2 : (wr J 1 3 (ct 2 + 1)) (3 + 4 * i) 4 = iI (mo i) := by have := (cy1.1 i hi).2; rw [up_s, show 1 + 2 + 4 * i = 3 + 4 * i by omega] at this; exact this
      have s3 : (wr J 1 3 (ct 2 + 1)) (3 + 4 * i) 3 = iI (cnt (delT (T i) p)) := by have := (cy1.1 i hi).1.1; rw [up_s, show 1 + 2 + 4 * i = 3 + 4 * i by omega] at this; exact this
      have m0 : 0 ≤ lim * (mo i : Int) := Int.mul_nonneg (by omega) (by omega)
      have m1 : lim * (mo i : Int) ≤ 90 * (mo i : Int) := Int.mul_le_mul_of_nonneg_right hl3 (by omega)
      have cNow : fX4_takeNow (iI i) (iI y) I = if lim * (mo i : Int) ≤ 100 * (cnt (delT (T i) p) : Int) then some (iI (gl (T i) p), wr J 1 3 (ct 2 + 1)) else bd (fX4_buildWhole (3 + 4 * i) (wr J 1 3 (ct 2 + 1))) fun _ I6 => some (iI (gl (T i) p), I6) := by
        rw [fX4_takeNow, c_rick hi, bd_s, on_1, if_pos (kd_r (Or.inl rfl) hi), show 1 + 2 + 4 * i = 3 + 4 * i by omega, t_find G R w1 w2, bd_s, f1, if_neg (by rw [l_m1, iI_eq (by omega) (by omega) (by omega) (by omega)]; omega), cl, bd_s, e, bd_s, ltm_s, j13, s1, s2, s3, iI_mul, l_100, iI_mul]
        by_cases q : lim * (mo i : Int) ≤ 100 * (cnt (delT (T i) p) : Int)
        · rw [if_pos q, if_pos (by rw [iI_le (by omega) (by omega) (by omega) (by omega)]; exact q)]
        · rw [if_neg q, if_neg (by rw [iI_le (by omega) (by omega) (by omega) (by omega)]; exact q)]
      -- the reference
      have mNow : ∀ K KC : Mm, K 164 = f → ChgOK K KC → ∃ L, MY (L 164) (up T i (delT (T i) p)) (up mo i (mo i)) (up ct 2 (ct 2 + 1)) ∧ EQx KC L ∧ fX5_take (iI i) (iI y) K = if lim * (mo i : Int) ≤ 100 * (cnt (delT (T i) p) : Int) then some (iI (gl (T i) p), L) else bd (fX5_buildWhole (iI i) L) fun _ I6 => some (iI (gl (T i) p), I6) := by
        intro K KC hK hC
        obtain ⟨K1, k1, k2, k3⟩ := hC K (lf_rfl K)
        have mr0 : MR (K 164) i (T i) := by rw [hK]; exact (M.1 i hi).1
        have mr1 : MR (K1 164) i (T i) := by rw [k2]; exact mr0
        obtain ⟨L1, L2, t1, t2, t3, t4⟩ := m_takeAll hi G mr1 hp
        have l2 : L2 164 2 = ct 2 := by rw [t4 164 2 (by omega), k2, hK]; exact M.2 2 (by omega)
        have my1 : MY ((wr L2 164 2 (ct 2 + 1)) 164) (up T i (delT (T i) p)) (up mo i (mo i)) (up ct 2 (ct 2 + 1)) := my_up (f := f) hi (fun i hi => (O.1 i hi).1) M (mr_of GD t3 (fun j a b => by rw [wr_e, if_neg (by omega)])) (by rw [wr_e, if_neg (by omega), t4 164 _ (by omega), k2, hK]; exact (M.1 i hi).2) (fun j a b c => by rw [wr_e, if_neg (by omega), t4 164 j (by omega), k2, hK]) (fun j hj => by
          by_cases c2 : j = 2
          · subst c2; rw [wr_e, if_pos ⟨rfl, rfl⟩, up_s]
          · rw [wr_e, if_neg (by omega), up_n _ _ c2, t4 164 j (by omega), k2, hK]; exact M.2 j hj)
        have fs : fdS (T i) y = gs (T i) p := by rw [fdS, if_neg d, f1, tn_n]
        have mr2 := (my1.1 i hi).1
        rw [up_s] at mr2
        have n1 : (wr L2 164 2 (ct 2 + 1)) 164 0 = iI lim := by rw [my1.2 0 (by omega), up_n _ _ (by omega)]; exact hl
        have n2 : (wr L2 164 2 (ct 2 + 1)) 164 (7 + 122 * i + 1) = iI (mo i) := by have := (my1.1 i hi).2; rw [up_s] at this; exact this
        refine ⟨wr L2 164 2 (ct 2 + 1), my1, fun a j a1 a2 a3 a4 => by rw [wr_e, if_neg (by omega), t4 a j (by omega)]; exact k3 a j a1 a2 a3 a4, ?_⟩
        rw [fX5_take, m_isRick1 hi, bd_s, if_neg i10, m_find hi G mr0 w1 w2, bd_s, fs, if_pos (by rw [l_0, iI_le (by omega) (by omega) (by omega) (by omega)]; omega), k1, bd_s, m_find hi G mr1 w1 w2, bd_s, fs, l_1, m_l hi G mr1 hp, bd_s, t1, bd_s, t2, bd_s, ltm_s, l2]
        rw [show (ct 2 + iI 1) = ct 2 + 1 from rfl, m_count hi GD mr2, bd_s, m_most hi, bd_s, n1, n2, iI_mul, l_100, iI_mul]
        by_cases q : lim * (mo i : Int) ≤ 100 * (cnt (delT (T i) p) : Int)
        · rw [if_pos q, if_pos (by rw [iI_le (by omega) (by omega) (by omega) (by omega)]; exact q)]
        · rw [if_neg q, if_neg (by rw [iI_le (by omega) (by omega) (by omega) (by omega)]; exact q)]
      by_cases q : lim * (mo i : Int) ≤ 100 * (cnt (delT (T i) p) : Int)
      · refine ⟨iI (gl (T i) p), _, _, _, by rw [l_0, iI_le (by omega) (by omega) (by omega) (by omega)]; omega, ok1, ⟨_, by rw [cNow, if_pos q], cy1, b15, fun j _ _ => b0 j, b0 9, b0 10⟩, fun K KC hK hC => ?_⟩
        obtain ⟨L, a1, a2, a3⟩ := mNow K KC hK hC
        exact ⟨L, by rw [a3, if_pos q], a1, a2⟩
      · have GU : GT (up T i (delT (T i) p) i) := by rw [up_s]; exact GD
        obtain ⟨J', e', q1, q2, q3⟩ := c_bw hi cy1 GU
        refine ⟨iI (gl (T i) p), _, _, _, by rw [l_0, iI_le (by omega) (by omega) (by omega) (by omega)]; omega, ok_up ok1 hi (bw_gt GU) GU.1 (by rw [up_n _ _ (by omega), up_n _ _ (by omega)]) ?_, ⟨J', by rw [cNow, if_neg q, e', bd_s], q1, fun a j h => by rw [q2 a j h, b15 a j h], fun j _ _ => by rw [q3, b0], by rw [q3, b0]; rfl, by rw [q3, b0]; rfl⟩, fun K KC hK hC => ?_⟩
        · rw [up_n _ _ (by omega), up_n _ _ (by omega), up_n (up (up ct 2 (ct 2 + 1)) 4 _) _ (show (2 : Nat) ≠ 5 by omega), up_n (up ct 2 (ct 2 + 1)) _ (show (2 : Nat) ≠ 4 by omega), (bw_pos _).1, Int.sub_self]
          exact (Int32.add_zero _).symm
        · obtain ⟨L, a1, a2, a3⟩ := mNow K KC hK hC
          obtain ⟨L', x1, x2, x3, x4⟩ := m_bw (K := L) hi (fun i hi => (ok1.1 i hi).1) a1
          exact ⟨L', by rw [a3, if_neg q, x1, bd_s], x2, fun a j b1 b2 b3 b4 => by rw [x4 a j b1 b2 b4]; exact a2 a j b1 b2 b3 b4⟩
  · left
    refine no_no C (v := -11) (by decide) ?_ (fun K hK => ?_)
    · rw [fX4_takeNow, c_rickAt h1 h2, if_neg c, bd_s, on_0]
    · rw [fX5_take, m_isRick0 h1 h2 c, bd_s, if_pos i00]
end OB
