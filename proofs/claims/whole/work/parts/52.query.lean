/-! ===== queries of a rick ===== -/
def DT (I : Mm) (i : Nat) (t : Tr) (m : Nat) (lim : Int) : Prop := i < 3 ∧ GT t ∧ RT I (3 + 4 * i) t ∧ MR (I 164) i t ∧ I (3 + 4 * i) 4 = iI m ∧ I 164 (7 + 122 * i + 1) = iI m ∧ (55 ≤ lim ∧ lim ≤ 90) ∧ I 1 1 = iI lim ∧ I 164 0 = iI lim ∧ m ≤ 30
theorem rk_c {I : Mm} (R : RR I) (x : Int32) : (fX3_rickAt 1 x I = some (none, I) ∧ fX5_isRick x I = some (iI 0, I)) ∨ ∃ i t m lim, x = iI (i : Nat) ∧ fX3_rickAt 1 x I = some (some (3 + 4 * i), I) ∧ kd0 (3 + 4 * i) = 1 ∧ fX5_isRick x I = some (iI 1, I) ∧ DT I i t m lim := by
  obtain ⟨⟨T, mo, ct, O, C, M⟩, _⟩ := R
  obtain ⟨z, rfl, h1, h2⟩ := iI_ex x
  by_cases c : 0 ≤ z ∧ z < 3
  · right
    obtain ⟨i, rfl⟩ : ∃ i : Nat, z = i := ⟨z.toNat, by omega⟩
    have hi : i < 3 := by omega
    obtain ⟨lim, hl, hl2, hl3⟩ := O.2.1
    have e := (C.1 i hi).2
    have k := kd_r (y := 1) (Or.inl rfl) hi
    rw [show 1 + 2 + 4 * i = 3 + 4 * i by omega] at e k
    refine ⟨i, T i, mo i, lim, rfl, ?_, k, m_isRick1 hi I, hi, (O.1 i hi).1, rc_1 (C := C) hi, (M.1 i hi).1, e, (M.1 i hi).2, ⟨hl2, hl3⟩, by rw [← hl]; exact C.2 0 (by omega), by rw [← hl]; exact M.2 0 (by omega), (O.1 i hi).2⟩
    rw [c_rick hi, show 1 + 2 + 4 * i = 3 + 4 * i by omega]
  · left
    exact ⟨by rw [c_rickAt h1 h2, if_neg c], m_isRick0 h1 h2 c I⟩
theorem bd_id {α : Type} (o : Option (α × Mm)) : (bd o fun r J => some (r, J)) = o := by
  cases o <;> rfl
theorem ak_rank (x y : Int32) : Ak (fX4_rank x y) (fX5_rank x y) := ak_q fun I R => by
  obtain ⟨w, rfl, w1, w2⟩ := iI_ex y
  rcases rk_c R x with ⟨c, m⟩ | ⟨i, t, mm, lim, rfl, c, k, m, hi, G, Rt, M, D⟩
  · exact ⟨iI (-11), I, by rw [fX4_rank, c, bd_s, on_0]; rfl, by rw [fX5_rank, m, bd_s, if_pos i00]; rfl, lf_rfl I⟩
  · obtain ⟨J, e, l, _⟩ := m_rk hi G M w1 w2
    exact ⟨iI (rkQ w t), J, by rw [fX4_rank, c, bd_s, on_1, if_pos k, t_lighterByParts G Rt w1 w2, bd_s], by rw [fX5_rank, m, bd_s, if_neg i10]; exact e, l⟩
theorem ak_rankAgain (x y : Int32) : Ak (fX4_rankAgain x y) (fX5_rankAgain x y) := ak_q fun I R => by
  obtain ⟨w, rfl, w1, w2⟩ := iI_ex y
  have bi : fX5_rankAgain x (iI w) I = fX5_rank x (iI w) I := bd_id _
  rw [bi]
  rcases rk_c R x with ⟨c, m⟩ | ⟨i, t, mm, lim, rfl, c, k, m, hi, G, Rt, M, D⟩
  · exact ⟨iI (-11), I, by rw [fX4_rankAgain, c, bd_s, on_0]; rfl, by rw [fX5_rank, m, bd_s, if_pos i00]; rfl, lf_rfl I⟩
  · obtain ⟨J, e, l, _⟩ := m_rk hi G M w1 w2
    exact ⟨iI (rkQ w t), J, by rw [fX4_rankAgain, c, bd_s, on_1, if_pos k, t_lighterOneByOne G Rt w1 w2, bd_s], by rw [fX5_rank, m, bd_s, if_neg i10]; exact e, l⟩
theorem ak_between (x y z : Int32) : Ak (fX4_between x y z) (fX5_between x y z) := ak_q fun I R => by
  obtain ⟨w, rfl, w1, w2⟩ := iI_ex y
  obtain ⟨v, rfl, v1, v2⟩ := iI_ex z
  rcases rk_c R x with ⟨c, m⟩ | ⟨i, t, mm, lim, rfl, c, k, m, hi, G, Rt, M, D⟩
  · exact ⟨iI (-11), I, by rw [fX4_between, c, bd_s, on_0]; rfl, by rw [fX5_between, m, bd_s, if_pos i00]; rfl, lf_rfl I⟩
  · obtain ⟨J, e, l⟩ := m_bt hi G M w1 w2 v1 v2
    exact ⟨iI (btZ t w v), J, by rw [fX4_between, c, bd_s, on_1, if_pos k, t_loadsByParts G Rt w1 w2 v1 v2, bd_s], by rw [fX5_between, m, bd_s, if_neg i10]; exact e, l⟩
theorem ak_betweenAgain (x y z : Int32) : Ak (fX4_betweenAgain x y z) (fX5_betweenAgain x y z) := ak_q fun I R => by
  obtain ⟨w, rfl, w1, w2⟩ := iI_ex y
  obtain ⟨v, rfl, v1, v2⟩ := iI_ex z
  have bi : fX5_betweenAgain x (iI w) (iI v) I = fX5_between x (iI w) (iI v) I := bd_id _
  rw [bi]
  rcases rk_c R x with ⟨c, m⟩ | ⟨i, t, mm, lim, rfl, c, k, m, hi, G, Rt, M, D⟩
  · exact ⟨iI (-11), I, by rw [fX4_betweenAgain, c, bd_s, on_0]; rfl, by rw [fX5_between, m, bd_s, if_pos i00]; rfl, lf_rfl I⟩
  · obtain ⟨J, e, l⟩ := m_bt hi G M w1 w2 v1 v2
    exact ⟨iI (btZ t w v), J, by rw [fX4_betweenAgain, c, bd_s, on_1, if_pos k, t_loadsOneByOne G Rt w1 w2 v1 v2, bd_s], by rw [fX5_between, m, bd_s, if_neg i10]; exact e, l⟩
theorem ak_at (x y : Int32) : Ak (fX4_at x y) (fX5_at x y) := ak_q fun I R => by
  obtain ⟨w, rfl, w1, w2⟩ := iI_ex y
  rcases rk_c R x with ⟨c, m⟩ | ⟨i, t, mm, lim, rfl, c, k, m, hi, G, Rt, M, D⟩
  · exact ⟨iI (-11), I, by rw [fX4_at, c, bd_s, on_0]; rfl, by rw [fX5_at, m, bd_s, if_pos i00]; rfl, lf_rfl I⟩
  · have g := G.1
    obtain ⟨J, e, l, s1, s2⟩ := m_listAll hi G M
    have ib := m_isBetween (I := J) (x := w) (a := 0) (b := (cnt t : Int) - 1) w1 w2 (by omega) (by omega) (by omega) (by omega)
    have md : fX5_at (iI i) (iI w) I = (bd (fX5_isBetween (iI w) 0 (J 163 10 - 1) J) fun r3 I3 => (if r3 = 0 then some ((-11), I3) else (if (iI w) < 0 ∨ 90 ≤ (iI w).toNatClampNeg then none else bd (fX5_of (iI i) (I3 176 (iI w).toNatClampNeg) 0 I3) fun r4 I4 => some (r4, I4)))) := by
      rw [fX5_at, m, bd_s, if_neg i10, e, bd_s]
    rw [s1, l_0, l_1, iI_sub, ib, bd_s] at md
    by_cases d : 0 ≤ w ∧ w < cnt t
    · obtain ⟨p, rfl⟩ : ∃ p : Nat, w = p := ⟨w.toNat, by omega⟩
      have hp : p < cnt t := by omega
      have wz : WZ t p = gw t p := by rw [WZ, if_pos d]; rfl
      refine ⟨iI (gw t p), J, ?_, ?_, l⟩
      · rw [fX4_at, c, bd_s, on_1, if_pos k, t_isPlace G Rt w1 w2, bd_s, if_pos d, if_neg i10, t_weightAt G Rt w1 w2, bd_s, wz]
      · rw [md, if_pos (show 0 ≤ (p : Int) ∧ (p : Int) ≤ (cnt t : Int) - 1 by omega), if_neg (show ¬ iI 1 = iI 0 from i10), iI_cl w1 w2, tn_n, if_neg (by rw [iI_lt (by omega) (by omega) (by omega) (by omega)]; omega), s2 p hp, m_w hi G (mf_mr l M) hp, bd_s]
    · refine ⟨iI (-11), J, ?_, ?_, l⟩
      · rw [fX4_at, c, bd_s, on_1, if_pos k, t_isPlace G Rt w1 w2, bd_s, if_neg d, if_pos i00]; rfl
      · rw [md, if_neg (show ¬ (0 ≤ w ∧ w ≤ (cnt t : Int) - 1) by omega), if_pos (show iI 0 = iI 0 from rfl)]; rfl
theorem c_isBears {b : Int} (h1 : -2147483648 ≤ b) (h2 : b < 2147483648) (I : Mm) : fX4_isBears (iI b) I = some (iI (if 99 ≤ b ∧ b ≤ 999 then 1 else 0), I) := by
  rw [fX4_isBears, l_99, l_999]
  simp (disch := omega) only [iI_lt]
  by_cases c : b < 99
  · rw [if_pos c, if_neg (by omega)]; rfl
  · rw [if_neg c]
    by_cases d : 999 < b
    · rw [if_pos d, if_neg (by omega)]; rfl
    · rw [if_neg d, if_pos (by omega)]; rfl
theorem m_isBearing {b : Int} (h1 : -2147483648 ≤ b) (h2 : b < 2147483648) (I : Mm) : fX5_isBearing (iI b) I = some (iI (if 99 ≤ b ∧ b ≤ 999 then 1 else 0), I) := by
  rw [fX5_isBearing, l_99, l_999, m_isBetween h1 h2 (by omega) (by omega) (by omega) (by omega), bd_s]
  by_cases c : 99 ≤ b ∧ b ≤ 999
  · rw [if_pos c, if_pos (show iI 1 = 0 ∨ iI 1 = 1 from Or.inr rfl)]
  · rw [if_neg c, if_pos (show iI 0 = 0 ∨ iI 0 = 1 from Or.inl rfl)]
theorem ak_carts (x y : Int32) : Ak (fX4_carts x y) (fX5_carts x y) := ak_q fun I R => by
  obtain ⟨b, rfl, w1, w2⟩ := iI_ex y
  rcases rk_c R x with ⟨c, m⟩ | ⟨i, t, mm, lim, rfl, c, k, m, hi, G, Rt, M, D⟩
  · exact ⟨iI (-11), I, by rw [fX4_carts, c, bd_s, on_0]; rfl, by rw [fX5_carts, m, bd_s, if_pos i00]; rfl, lf_rfl I⟩
  · have g := G.1
    by_cases d : 99 ≤ b ∧ b ≤ 999
    · obtain ⟨J, e, l, s⟩ := m_listAll hi G M
      have cc := t_carts G Rt (z := (cnt t : Int) - 1) d (by omega) (by omega)
      have md : fX5_carts (iI i) (iI b) I = (if (J 163 10) = 0 then some (0, J) else bd (fX5_load (iI i) ((J 163 10) - 1) (iI b) J) fun r4 I4 => some ((r4 + 1), I4)) := by
        rw [fX5_carts, m, bd_s, if_neg i10, m_isBearing w1 w2, bd_s, if_pos d, if_neg i10, e, bd_s]
      rw [s.1] at md
      have cd : ∀ v, fX1_cartsUpTo (3 + 4 * i) (iI ((cnt t : Int) - 1)) (iI b) I = some (v, I) → fX4_carts (iI i) (iI b) I = some (v, I) := fun v h => by
        rw [fX4_carts, c, bd_s, on_1, if_pos k, c_isBears w1 w2, bd_s, if_pos d, if_neg i10, Rt.1, l_1, iI_sub, h, bd_s]
      by_cases q : cnt t = 0
      · rw [if_pos (by omega)] at cc
        exact ⟨iI 0, J, cd _ cc, by rw [md, q, if_pos (by decide)]; rfl, l⟩
      · rw [if_neg (by omega), show ((cnt t : Int) - 1 + 1).toNat = cnt t by omega] at cc
        have ml := m_load hi G (mf_mr l M) s (p := cnt t - 1) (by omega) d
        rw [show cnt t - 1 + 1 = cnt t by omega] at ml
        refine ⟨_, J, cd _ cc, ?_, l⟩
        rw [md, if_neg (by rw [l_0, iI_eq (by omega) (by omega) (by omega) (by omega)]; omega), l_1, iI_sub, show (cnt t : Int) - 1 = ((cnt t - 1 : Nat) : Int) by omega, ml, bd_s, iI_add]
    · exact ⟨iI (-12), I, by rw [fX4_carts, c, bd_s, on_1, if_pos k, c_isBears w1 w2, bd_s, if_neg d, if_pos i00]; rfl, by rw [fX5_carts, m, bd_s, if_neg i10, m_isBearing w1 w2, bd_s, if_neg d, if_pos i00]; rfl, lf_rfl I⟩
theorem ak_cartOf (x y z : Int32) : Ak (fX4_cartOf x y z) (fX5_cartOf x y z) := ak_q fun I R => by
  obtain ⟨w, rfl, w1, w2⟩ := iI_ex y
  obtain ⟨b, rfl, b1, b2⟩ := iI_ex z
  rcases rk_c R x with ⟨c, m⟩ | ⟨i, t, mm, lim, rfl, c, k, m, hi, G, Rt, M, D⟩
  · exact ⟨iI (-11), I, by rw [fX4_cartOf, c, bd_s, on_0]; rfl, by rw [fX5_cartOf, m, bd_s, if_pos i00]; rfl, lf_rfl I⟩
  · have g := G.1
    by_cases f : fdP t w = -1
    · refine ⟨iI (-11), I, ?_, ?_, lf_rfl I⟩
      · rw [fX4_cartOf, c, bd_s, on_1, if_pos k, t_find G Rt w1 w2, bd_s, f, if_pos (show iI (-1) = -1 from rfl)]; rfl
      · rw [fX5_cartOf, m, bd_s, if_neg i10, m_find hi G M w1 w2, bd_s, fdS, if_pos f, if_neg (by decide)]; rfl
    · obtain ⟨p, hp, f1, f2, f3⟩ := fd_yes f
      have gp := G.2.1 p hp
      have cn : ¬ (iI (p : Int) = -1) := by rw [l_m1, iI_eq (by omega) (by omega) (by omega) (by omega)]; omega
      have ms : (0 : Int32) ≤ iI (gs t p : Int) := by rw [l_0, iI_le (by omega) (by omega) (by omega) (by omega)]; omega
      by_cases d : 99 ≤ b ∧ b ≤ 999
      · obtain ⟨J, e, l, s⟩ := m_rk hi G M w1 w2
        have cc := t_carts G Rt (z := (p : Int)) d (by omega) (by omega)
        rw [if_neg (by omega), show ((p : Int) + 1).toNat = p + 1 by omega] at cc
        have ml := m_load hi G (mf_mr l M) s hp d
        have er : fX5_rank (iI i) (iI w) I = some (iI (rkQ w t), J) := by rw [fX5_rank, m, bd_s, if_neg i10]; exact e
        refine ⟨iI (crT t b (p + 1)).1, J, ?_, ?_, l⟩
        · rw [fX4_cartOf, c, bd_s, on_1, if_pos k, t_find G Rt w1 w2, bd_s, f1, if_neg cn, c_isBears b1 b2, bd_s, if_pos d, if_neg i10, cc, bd_s, l_1, iI_sub, Int.add_sub_cancel]
        · rw [fX5_cartOf, m, bd_s, if_neg i10, m_find hi G M w1 w2, bd_s, fdS, if_neg f, f1, tn_n, if_pos ms, m_isBearing b1 b2, bd_s, if_pos d, if_neg i10, er, bd_s, ← f3, ml, bd_s]
      · refine ⟨iI (-12), I, ?_, ?_, lf_rfl I⟩
        · rw [fX4_cartOf, c, bd_s, on_1, if_pos k, t_find G Rt w1 w2, bd_s, f1, if_neg cn, c_isBears b1 b2, bd_s, if_neg d, if_pos i00]; rfl
        · rw [fX5_cartOf, m, bd_s, if_neg i10, m_find hi G M w1 w2, bd_s, fdS, if_neg f, f1, tn_n, if_pos ms, m_isBearing b1 b2, bd_s, if_neg d, if_pos i00]; rfl
theorem ak_shape (x : Int32) : Ak (fX4_shape x) (fX5_shape x) := ak_q fun I R => by
  rcases rk_c R x with ⟨c, m⟩ | ⟨i, t, mm, lim, rfl, c, k, m, hi, G, Rt, M, D⟩
  · exact ⟨-11, I, by rw [fX4_shape, c, bd_s, on_0], by rw [fX5_shape, m, bd_s, if_pos i00], lf_rfl I⟩
  · have g := G.1
    have e := t_shapeOf G Rt t 0 0 40 0 (bl_0 t) (by omega) (by omega)
    have e2 := m_bits hi t 40 0 G M.2.1 (by omega)
    refine ⟨shT t 0, I, ?_, ?_, lf_rfl I⟩
    · rw [fX4_shape, c, bd_s, on_1, if_pos k, Rt.1, l_1, iI_sub]
      rw [show (((0 : Nat) : Int) + cnt t - 1) = (cnt t : Int) - 1 by omega] at e
      exact (congrArg (fun o => bd o fun r2 I2 => some (r2, I2)) e).trans rfl
    · rw [fX5_shape, m, bd_s, if_neg i10, m_top hi M.1, bd_s, e2, bd_s]
/-- the weight on top of a part -/
def tpW : Tr → Int
  | .leaf => -15
  | .inner _ w _ _ _ => w
theorem c_tpW {I : Mm} {r : Nat} {t : Tr} (G : GT t) (Rt : RT I r t) {s : Tr} {lo d : Nat} (B : BL t lo d s) {hi : Int} (hh : hi = (lo : Int) + cnt s - 1) : ∃ z : Int, -2147483648 ≤ z ∧ z < 2147483648 ∧ fX1_topOf r (iI lo) (iI hi) I = some (iI z, I) ∧ WZ t z = tpW s := by
  have g := G.1
  have b := B.1
  cases s with
  | leaf =>
    refine ⟨-1, by omega, by omega, t_topNone G Rt (by omega) (by omega) (by rw [hh]; simp [cnt]; omega) (by omega), ?_⟩
    rw [WZ, if_neg (by omega)]; rfl
  | inner k w ld l s =>
    have m := bl_m B
    refine ⟨((lo + cnt l : Nat) : Int), by omega, by omega, t_topB G Rt B (by rw [hh, cnt_i]; omega), ?_⟩
    rw [WZ, if_pos (by omega), tn_n, m.2.1]; rfl
theorem m_wOr {I : Mm} {i : Nat} (hi : i < 3) {s : Tr} (G : GT s) (M : TM (I 164) i s) : fX5_weightOr (iI i) (iI (rtT s)) I = some (iI (tpW s), I) := by
  cases s with
  | leaf => rw [fX5_weightOr, rtT, if_neg (by decide)]; rfl
  | inner k w ld l s =>
    have gm := gt_m G
    rw [fX5_weightOr, rtT, l_0, if_pos (by rw [iI_le (by omega) (by omega) (by omega) (by omega)]; omega), m_of0 hi gm.2.2.2.1, bd_s, M.1, sub1]
    rfl
theorem ak_rickOf (x y : Int32) : Ak (fX4_rickOf x y) (fX5_rickOf x y) := ak_q fun I R => by
  rcases rk_c R x with ⟨c, m⟩ | ⟨i, t, mm, lim, rfl, c, k, m, hi, G, Rt, M, D1, D2, hl, D3, D4, D5⟩
  · exact ⟨iI (-11), I, by rw [fX4_rickOf, c, bd_s, on_0]; rfl, by rw [fX5_rickOf, m, bd_s, if_pos i00]; rfl, lf_rfl I⟩
  · have g := G.1
    rw [fX4_rickOf, c, bd_s, on_1, if_pos k, fX5_rickOf, m, bd_s, if_neg i10]
    by_cases c0 : y = 0
    · rw [if_pos c0, if_pos c0]
      exact ⟨iI (cnt t), I, by rw [Rt.1], by rw [m_count hi G M, bd_s], lf_rfl I⟩
    rw [if_neg c0, if_neg c0]
    by_cases c1 : y = 1
    · rw [if_pos c1, if_pos c1]
      have e := t_loadsFrom G Rt (lo := 0) (hi := (cnt t : Int) - 1) (by omega) (by omega) (by omega)
      rw [show ((cnt t : Int) - 1 + 1).toNat = cnt t by omega, show Int.toNat 0 = 0 from rfl, show sL t 0 = 0 from rfl, Int.sub_zero, ← ld_is] at e
      exact ⟨iI (ldS t), I, by rw [Rt.1, l_0, l_1, iI_sub, e, bd_s], by rw [m_top hi M.1, bd_s, m_loads hi t 40 G M.2.1 (by omega), bd_s], lf_rfl I⟩
    rw [if_neg c1, if_neg c1]
    by_cases c2 : y = 2
    · rw [if_pos c2, if_pos c2]
      obtain ⟨z, z1, z2, z3, z4⟩ := c_tpW G Rt (bl_0 t) (hi := (cnt t : Int) - 1) (by omega)
      exact ⟨iI (tpW t), I, by rw [Rt.1, l_0, l_1, iI_sub]; rw [show fX1_topOf (3 + 4 * i) (iI 0) (iI ((cnt t : Int) - 1)) I = some (iI z, I) from z3, bd_s, t_weightAt G Rt z1 z2, bd_s, z4], by rw [m_top hi M.1, bd_s, m_wOr hi G M.2.1, bd_s], lf_rfl I⟩
    rw [if_neg c2, if_neg c2]
    by_cases c3 : y = 3
    · rw [if_pos c3, if_pos c3]
      obtain ⟨J, e, l⟩ := m_greatestDepth hi G M
      exact ⟨_, J, by rw [t_greatestDepth G Rt, bd_s], by rw [e, bd_s], l⟩
    rw [if_neg c3, if_neg c3]
    by_cases c4 : y = 4
    · rw [if_pos c4, if_pos c4]
      exact ⟨_, I, by rw [Rt.1, D3, t_depthFor hl g, bd_s], by rw [m_count hi G M, bd_s, m_mayHave hl D4 g, bd_s], lf_rfl I⟩
    rw [if_neg c4, if_neg c4]
    by_cases c5 : y = 5
    · rw [if_pos c5, if_pos c5]
      exact ⟨iI mm, I, by rw [D1], by rw [m_most hi, bd_s, D2], lf_rfl I⟩
    rw [if_neg c5, if_neg c5]
    by_cases c6 : y = 6
    · rw [if_pos c6, if_pos c6]
      obtain ⟨J, e, l⟩ := m_leaning hi G M hl D4
      exact ⟨_, J, by rw [D3, t_leaning G Rt hl, bd_s], by rw [e, bd_s], l⟩
    rw [if_neg c6, if_neg c6]
    by_cases c7 : y = 7
    · rw [if_pos c7, if_pos c7]
      obtain ⟨J, e, l⟩ := m_allDepths hi G M
      exact ⟨_, J, by rw [t_depths G Rt, bd_s], by rw [e, bd_s], l⟩
    rw [if_neg c7, if_neg c7]
    by_cases c8 : y = 8
    · rw [if_pos c8, if_pos c8]
      obtain ⟨J, e, l⟩ := m_lowest hi G M
      exact ⟨_, J, by rw [t_lowest G Rt, bd_s], by rw [e, bd_s], l⟩
    rw [if_neg c8, if_neg c8]
    exact ⟨-12, I, rfl, rfl, lf_rfl I⟩
theorem ld_part {t : Tr} {p : Nat} (hp : p < cnt t) : ldS (sbP t p) = sL t (loP t p + 1) - sL t (foP t p) := by
  have B := bl_p t t 0 0 p (bl_0 t) hp
  rw [Nat.zero_add, Nat.zero_add] at B
  obtain ⟨l, r, e1, e2, e3⟩ := sb_is t p hp
  have n : cnt (sbP t p) = cnt l + 1 + cnt r := by rw [e1, cnt_i]
  rw [ld_is, show loP t p + 1 = foP t p + cnt (sbP t p) by omega]
  unfold sL
  rw [sm_add, sm_congr (f := fun j => ((gl t (foP t p + j) : Nat) : Int)) (g := fun j => ((gl (sbP t p) j : Nat) : Int)) (cnt (sbP t p)) (fun j hj => by rw [(B.2 j hj).2.1])]
  omega
theorem ak_sheafOf (x y z : Int32) : Ak (fX4_sheafOf x y z) (fX5_sheafOf x y z) := ak_q fun I R => by
  obtain ⟨w, rfl, w1, w2⟩ := iI_ex y
  rcases rk_c R x with ⟨c, m⟩ | ⟨i, t, mm, lim, rfl, c, k, m, hi, G, Rt, M, D1, D2, hl, D3, D4, D5⟩
  · exact ⟨iI (-11), I, by rw [fX4_sheafOf, c, bd_s, on_0]; rfl, by rw [fX5_sheafOf, m, bd_s, if_pos i00]; rfl, lf_rfl I⟩
  · have g := G.1
    by_cases f : fdP t w = -1
    · refine ⟨iI (-11), I, ?_, ?_, lf_rfl I⟩
      · rw [fX4_sheafOf, c, bd_s, on_1, if_pos k, t_find G Rt w1 w2, bd_s, f, if_pos (show iI (-1) = -1 from rfl)]; rfl
      · rw [fX5_sheafOf, m, bd_s, if_neg i10, m_find hi G M w1 w2, bd_s, fdS, if_pos f, if_neg (by decide)]; rfl
    · obtain ⟨p, hp, f1, f2, f3⟩ := fd_yes f
      have gp := G.2.1 p hp
      have cn : ¬ (iI (p : Int) = -1) := by rw [l_m1, iI_eq (by omega) (by omega) (by omega) (by omega)]; omega
      have ms : (0 : Int32) ≤ iI (gs t p : Int) := by rw [l_0, iI_le (by omega) (by omega) (by omega) (by omega)]; omega
      obtain ⟨q1, q2, l, r, q3, q4, q5, q6, q7, q8, q9⟩ := tm_p _ i t p M.2.1 hp
      have B := bl_p t t 0 0 p (bl_0 t) hp
      rw [Nat.zero_add, Nat.zero_add] at B
      have Gs := gt_p t p G hp
      have ts := tm_sb t p M.2.1 hp
      have fo := fo_le t p hp
      have ncs : cnt (sbP t p) = cnt l + 1 + cnt r := by rw [q3, cnt_i]
      rw [q3] at B
      have Bl := bl_l B
      have Br := bl_r B
      have Gl : GT l := gt_l (by rw [q3] at Gs; exact Gs)
      have Gr : GT r := gt_r (by rw [q3] at Gs; exact Gs)
      rw [fX4_sheafOf, c, bd_s, on_1, if_pos k, t_find G Rt w1 w2, bd_s, f1, if_neg cn, t_firstOf G Rt hp, bd_s, t_lastOf G Rt hp, bd_s, fX5_sheafOf, m, bd_s, if_neg i10, m_find hi G M w1 w2, bd_s, fdS, if_neg f, f1, tn_n, if_pos ms, m_find hi G M w1 w2, bd_s, fdS, if_neg f, f1, tn_n]
      by_cases c0 : z = 0
      · rw [if_pos c0, if_pos c0]
        refine ⟨iI (gl t p), I, ?_, by rw [l_1, m_l hi G M hp, bd_s], lf_rfl I⟩
        rw [t_loadAt G Rt (by omega) (by omega), bd_s, LZ, if_pos (by omega), tn_n]
      rw [if_neg c0, if_neg c0]
      by_cases c1 : z = 1
      · rw [if_pos c1, if_pos c1]
        refine ⟨iI (gd t p), I, ?_, by rw [m_depth hi G M hp, bd_s], lf_rfl I⟩
        rw [t_depthAt G Rt (by omega) (by omega), bd_s, dz_n hp]
      rw [if_neg c1, if_neg c1]
      by_cases c2 : z = 2
      · rw [if_pos c2, if_pos c2]
        refine ⟨iI (cnt (sbP t p)), I, ?_, ?_, lf_rfl I⟩
        · rw [iI_sub, l_1, iI_add]; congr 3; omega
        · rw [← ts.2, m_size hi (sbP t p) 40 Gs ts.1 (by omega), bd_s]
      rw [if_neg c2, if_neg c2]
      by_cases c3 : z = 3
      · rw [if_pos c3, if_pos c3]
        refine ⟨iI (ldS (sbP t p)), I, ?_, ?_, lf_rfl I⟩
        · rw [t_loadsFrom G Rt (by omega) (by omega) (by omega), bd_s, ld_part hp]
          rfl
        · rw [← ts.2, m_loads hi (sbP t p) 40 Gs ts.1 (by omega), bd_s]
      rw [if_neg c3, if_neg c3]
      by_cases c4 : z = 4
      · rw [if_pos c4, if_pos c4]
        by_cases d : lnB lim (sbP t p) = true
        · exact ⟨1, I, by rw [D3, t_leans G Rt hp hl, bd_s, if_pos d, if_neg i10], by rw [m_leans hi G M hp hl D4, bd_s, if_pos d, if_neg i10], lf_rfl I⟩
        · exact ⟨0, I, by rw [D3, t_leans G Rt hp hl, bd_s, if_neg d, if_pos i00], by rw [m_leans hi G M hp hl D4, bd_s, if_neg d, if_pos i00], lf_rfl I⟩
      rw [if_neg c4, if_neg c4]
      by_cases c5 : z = 5
      · rw [if_pos c5, if_pos c5]
        have pr := pa_rng t p hp
        refine ⟨iI (WZ t (paP t p)), I, ?_, ?_, lf_rfl I⟩
        · rw [t_above G Rt hp, bd_s, t_weightAt G Rt (by omega) (by omega), bd_s]
        · rw [m_above hi G M hp, bd_s, fX5_weightOr, paS]
          by_cases d : paP t p = -1
          · rw [if_pos d, if_neg (by decide), bd_s, d, WZ, if_neg (by omega)]; rfl
          · have ga := G.2.1 (paP t p).toNat (by omega)
            rw [if_neg d, l_0, if_pos (by rw [iI_le (by omega) (by omega) (by omega) (by omega)]; omega)]
            rw [m_w hi G M (by omega), bd_s, bd_s, WZ, if_pos (by omega)]
      rw [if_neg c5, if_neg c5]
      by_cases c6 : z = 6
      · rw [if_pos c6, if_pos c6]
        obtain ⟨v, z1, z2, z3, z4⟩ := c_tpW G Rt Bl (hi := (p : Int) - 1) (by omega)
        refine ⟨iI (tpW l), I, ?_, ?_, lf_rfl I⟩
        · rw [l_1, iI_sub, z3, bd_s, t_weightAt G Rt z1 z2, bd_s, z4]
        · rw [c6, show (6 : Int32) - 4 = iI 2 from rfl, m_of2 hi gp.2.2.2, bd_s, q6, sub1, m_wOr hi Gl q8, bd_s]
      rw [if_neg c6, if_neg c6]
      by_cases c7 : z = 7
      · rw [if_pos c7, if_pos c7]
        obtain ⟨v, z1, z2, z3, z4⟩ := c_tpW G Rt Br (hi := (loP t p : Int)) (by omega)
        refine ⟨iI (tpW r), I, ?_, ?_, lf_rfl I⟩
        · rw [l_1, iI_add, show (p : Int) + 1 = ((foP t p + cnt l + 1 : Nat) : Int) by omega, z3, bd_s, t_weightAt G Rt z1 z2, bd_s, z4]
        · rw [c7, show (7 : Int32) - 4 = iI 3 from rfl, m_of3 hi gp.2.2.2, bd_s, q7, sub1, m_wOr hi Gr q9, bd_s]
      rw [if_neg c7, if_neg c7]
      exact ⟨-12, I, rfl, rfl, lf_rfl I⟩
