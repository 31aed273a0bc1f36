/-! ===== what the queries answer ===== -/
def RQ (I : Mm) (i : Nat) (t : Tr) (m : Nat) (lim : Int) : Prop := i < 3 ∧ GT t ∧ RT I (3 + 4 * i) t ∧ I (3 + 4 * i) 4 = iI m ∧ (55 ≤ lim ∧ lim ≤ 90) ∧ I 1 1 = iI lim ∧ cnt t ≤ m ∧ m ≤ 30
section QRY
variable {I : Mm} {i m : Nat} {t : Tr} {lim : Int} {T : Nat → Tr} {mo : Nat → Nat} {ct : Nat → Int32}
theorem rq_of (O : OKZ T mo ct) (C : CY I 1 T mo ct) (hi : i < 3) (hl : ct 0 = iI lim) (h2 : 55 ≤ lim) (h3 : lim ≤ 90) : RQ I i (T i) (mo i) lim := by
  have e := (C.1 i hi).2
  rw [show 1 + 2 + 4 * i = 3 + 4 * i by omega] at e
  exact ⟨hi, (O.1.1 i hi).1, rc_1 (C := C) hi, e, ⟨h2, h3⟩, by rw [← hl]; exact C.2 0 (by omega), O.2 i hi, (O.1.1 i hi).2⟩
theorem rq_rick (Q : RQ I i t m lim) : fX3_rickAt 1 (iI i) I = some (some (3 + 4 * i), I) := by
  rw [c_rick Q.1, show 1 + 2 + 4 * i = 3 + 4 * i by omega]
theorem rq_kd (Q : RQ I i t m lim) : kd0 (3 + 4 * i) = 1 := by
  have k := kd_r (y := 1) (Or.inl rfl) Q.1
  rw [show 1 + 2 + 4 * i = 3 + 4 * i by omega] at k
  exact k
theorem q_at (Q : RQ I i t m lim) {z : Int} (h1 : -2147483648 ≤ z) (h2 : z < 2147483648) : fX4_at (iI i) (iI z) I = some (iI (if 0 ≤ z ∧ z < cnt t then (gw t z.toNat : Int) else -11), I) := by
  obtain ⟨hi, G, Rt, D⟩ := id Q
  rw [fX4_at, rq_rick Q, bd_s, on_1, if_pos (rq_kd Q), t_isPlace G Rt h1 h2, bd_s]
  by_cases d : 0 ≤ z ∧ z < cnt t
  · rw [if_pos d, if_pos d, if_neg i10, t_weightAt G Rt h1 h2, bd_s, WZ, if_pos d]
  · rw [if_neg d, if_neg d, if_pos i00]; rfl
theorem q_atp (Q : RQ I i t m lim) {p : Nat} (hp : p < cnt t) : fX4_at (iI i) (iI p) I = some (iI (gw t p), I) := by
  have g := Q.2.1.1
  rw [q_at Q (by omega) (by omega), if_pos (by omega)]; rfl
theorem q_r0 (Q : RQ I i t m lim) : fX4_rickOf (iI i) 0 I = some (iI (cnt t), I) := by
  rw [fX4_rickOf, rq_rick Q, bd_s, on_1, if_pos (rq_kd Q), if_pos rfl, Q.2.2.1.1]
theorem q_r1 (Q : RQ I i t m lim) : fX4_rickOf (iI i) 1 I = some (iI (ldS t), I) := by
  obtain ⟨hi, G, Rt, D⟩ := id Q
  have g := G.1
  have e := t_loadsFrom G Rt (lo := 0) (hi := (cnt t : Int) - 1) (by omega) (by omega) (by omega)
  rw [show ((cnt t : Int) - 1 + 1).toNat = cnt t by omega, show Int.toNat 0 = 0 from rfl, show sL t 0 = 0 from rfl, Int.sub_zero, ← ld_is] at e
  rw [fX4_rickOf, rq_rick Q, bd_s, on_1, if_pos (rq_kd Q), if_neg (by decide), if_pos rfl, Rt.1, l_0, l_1, iI_sub, e, bd_s]
theorem q_r2 (Q : RQ I i t m lim) : fX4_rickOf (iI i) 2 I = some (iI (tpW t), I) := by
  obtain ⟨hi, G, Rt, D⟩ := id Q
  have g := G.1
  obtain ⟨z, z1, z2, z3, z4⟩ := c_tpW G Rt (bl_0 t) (hi := (cnt t : Int) - 1) (by omega)
  rw [fX4_rickOf, rq_rick Q, bd_s, on_1, if_pos (rq_kd Q), if_neg (by decide), if_neg (by decide), if_pos rfl, Rt.1, l_0, l_1, iI_sub]
  rw [show fX1_topOf (3 + 4 * i) (iI 0) (iI ((cnt t : Int) - 1)) I = some (iI z, I) from z3, bd_s, t_weightAt G Rt z1 z2, bd_s, z4]
theorem q_r3 (Q : RQ I i t m lim) : fX4_rickOf (iI i) 3 I = some (iI (mxF (fun i => gd t i) (cnt t)), I) := by
  rw [fX4_rickOf, rq_rick Q, bd_s, on_1, if_pos (rq_kd Q), if_neg (by decide), if_neg (by decide), if_neg (by decide), if_pos rfl, t_greatestDepth Q.2.1 Q.2.2.1, bd_s]
theorem q_r4 (Q : RQ I i t m lim) : fX4_rickOf (iI i) 4 I = some (iI (mhZ lim 30 ((cnt t : Int) * lim / 100)), I) := by
  rw [fX4_rickOf, rq_rick Q, bd_s, on_1, if_pos (rq_kd Q), if_neg (by decide), if_neg (by decide), if_neg (by decide), if_neg (by decide), if_pos rfl, Q.2.2.1.1, Q.2.2.2.2.2.1, t_depthFor Q.2.2.2.2.1 Q.2.1.1, bd_s]
theorem q_r5 (Q : RQ I i t m lim) : fX4_rickOf (iI i) 5 I = some (iI m, I) := by
  rw [fX4_rickOf, rq_rick Q, bd_s, on_1, if_pos (rq_kd Q), if_neg (by decide), if_neg (by decide), if_neg (by decide), if_neg (by decide), if_neg (by decide), if_pos rfl, Q.2.2.2.1]
theorem q_r6 (Q : RQ I i t m lim) : fX4_rickOf (iI i) 6 I = some (iI (sm (fun p => if lnB lim (sbP t p) = true then 1 else 0) (cnt t)), I) := by
  rw [fX4_rickOf, rq_rick Q, bd_s, on_1, if_pos (rq_kd Q), if_neg (by decide), if_neg (by decide), if_neg (by decide), if_neg (by decide), if_neg (by decide), if_neg (by decide), if_pos rfl, Q.2.2.2.2.2.1, t_leaning Q.2.1 Q.2.2.1 Q.2.2.2.2.1, bd_s]
theorem q_r7 (Q : RQ I i t m lim) : fX4_rickOf (iI i) 7 I = some (iI (sm (fun p => gd t p) (cnt t)), I) := by
  rw [fX4_rickOf, rq_rick Q, bd_s, on_1, if_pos (rq_kd Q), if_neg (by decide), if_neg (by decide), if_neg (by decide), if_neg (by decide), if_neg (by decide), if_neg (by decide), if_neg (by decide), if_pos rfl, t_depths Q.2.1 Q.2.2.1, bd_s]
theorem q_r8 (Q : RQ I i t m lim) : fX4_rickOf (iI i) 8 I = some (iI (sm (fun p => if cnt (sbP t p) = 1 then 1 else 0) (cnt t)), I) := by
  rw [fX4_rickOf, rq_rick Q, bd_s, on_1, if_pos (rq_kd Q), if_neg (by decide), if_neg (by decide), if_neg (by decide), if_neg (by decide), if_neg (by decide), if_neg (by decide), if_neg (by decide), if_neg (by decide), if_pos rfl, t_lowest Q.2.1 Q.2.2.1, bd_s]
theorem q_shp (Q : RQ I i t m lim) {p : Nat} (hp : p < cnt t) : fX3_rickAt 1 (iI i) I = some (some (3 + 4 * i), I) ∧ kd0 (3 + 4 * i) = 1 ∧ fX1_find (3 + 4 * i) (iI (gw t p)) I = some (iI p, I) ∧ ¬ (iI (p : Int) = -1) ∧ fX1_firstOf (3 + 4 * i) (iI p) I = some (iI (foP t p), I) ∧ fX1_lastOf (3 + 4 * i) (iI p) I = some (iI (loP t p), I) := by
  obtain ⟨hi, G, Rt, D⟩ := id Q
  have g := G.1
  have gp := G.2.1 p hp
  refine ⟨rq_rick Q, rq_kd Q, ?_, ?_, t_firstOf G Rt hp, t_lastOf G Rt hp⟩
  · rw [t_find G Rt (by omega) (by omega), fd_at G hp]
  · rw [l_m1, iI_eq (by omega) (by omega) (by omega) (by omega)]; omega
theorem q_s0 (Q : RQ I i t m lim) {p : Nat} (hp : p < cnt t) : fX4_sheafOf (iI i) (iI (gw t p)) 0 I = some (iI (gl t p), I) := by
  obtain ⟨a1, a2, a3, a4, a5, a6⟩ := q_shp Q hp
  have g := Q.2.1.1
  rw [fX4_sheafOf, a1, bd_s, on_1, if_pos a2, a3, bd_s, if_neg a4, a5, bd_s, a6, bd_s, if_pos rfl, t_loadAt Q.2.1 Q.2.2.1 (by omega) (by omega), bd_s, LZ, if_pos (by omega), tn_n]
theorem q_s1 (Q : RQ I i t m lim) {p : Nat} (hp : p < cnt t) : fX4_sheafOf (iI i) (iI (gw t p)) 1 I = some (iI (gd t p), I) := by
  obtain ⟨a1, a2, a3, a4, a5, a6⟩ := q_shp Q hp
  have g := Q.2.1.1
  rw [fX4_sheafOf, a1, bd_s, on_1, if_pos a2, a3, bd_s, if_neg a4, a5, bd_s, a6, bd_s, if_neg (by decide), if_pos rfl, t_depthAt Q.2.1 Q.2.2.1 (by omega) (by omega), bd_s, dz_n hp]
theorem q_s2 (Q : RQ I i t m lim) {p : Nat} (hp : p < cnt t) : fX4_sheafOf (iI i) (iI (gw t p)) 2 I = some (iI (cnt (sbP t p)), I) := by
  obtain ⟨a1, a2, a3, a4, a5, a6⟩ := q_shp Q hp
  obtain ⟨l, r, q3, q4, q5⟩ := sb_is t p hp
  have ncs : cnt (sbP t p) = cnt l + 1 + cnt r := by rw [q3, cnt_i]
  rw [fX4_sheafOf, a1, bd_s, on_1, if_pos a2, a3, bd_s, if_neg a4, a5, bd_s, a6, bd_s, if_neg (by decide), if_neg (by decide), if_pos rfl, iI_sub, l_1, iI_add]
  congr 3; omega
theorem q_s3 (Q : RQ I i t m lim) {p : Nat} (hp : p < cnt t) : fX4_sheafOf (iI i) (iI (gw t p)) 3 I = some (iI (ldS (sbP t p)), I) := by
  obtain ⟨a1, a2, a3, a4, a5, a6⟩ := q_shp Q hp
  have fo := fo_le t p hp
  rw [fX4_sheafOf, a1, bd_s, on_1, if_pos a2, a3, bd_s, if_neg a4, a5, bd_s, a6, bd_s, if_neg (by decide), if_neg (by decide), if_neg (by decide), if_pos rfl, t_loadsFrom Q.2.1 Q.2.2.1 (by omega) (by omega) (by omega), bd_s, ld_part hp]
  rfl
theorem q_s4 (Q : RQ I i t m lim) {p : Nat} (hp : p < cnt t) : fX4_sheafOf (iI i) (iI (gw t p)) 4 I = some (iI (if lnB lim (sbP t p) = true then 1 else 0), I) := by
  obtain ⟨a1, a2, a3, a4, a5, a6⟩ := q_shp Q hp
  rw [fX4_sheafOf, a1, bd_s, on_1, if_pos a2, a3, bd_s, if_neg a4, a5, bd_s, a6, bd_s, if_neg (by decide), if_neg (by decide), if_neg (by decide), if_neg (by decide), if_pos rfl, Q.2.2.2.2.2.1, t_leans Q.2.1 Q.2.2.1 hp Q.2.2.2.2.1, bd_s]
  by_cases d : lnB lim (sbP t p) = true
  · rw [if_pos d, if_neg i10]; rfl
  · rw [if_neg d, if_pos i00]; rfl
theorem q_s5 (Q : RQ I i t m lim) {p : Nat} (hp : p < cnt t) : fX4_sheafOf (iI i) (iI (gw t p)) 5 I = some (iI (WZ t (paP t p)), I) := by
  obtain ⟨a1, a2, a3, a4, a5, a6⟩ := q_shp Q hp
  have pr := pa_rng t p hp
  have g := Q.2.1.1
  rw [fX4_sheafOf, a1, bd_s, on_1, if_pos a2, a3, bd_s, if_neg a4, a5, bd_s, a6, bd_s, if_neg (by decide), if_neg (by decide), if_neg (by decide), if_neg (by decide), if_neg (by decide), if_pos rfl, t_above Q.2.1 Q.2.2.1 hp, bd_s, t_weightAt Q.2.1 Q.2.2.1 (by omega) (by omega), bd_s]
theorem q_s6 (Q : RQ I i t m lim) {p : Nat} (hp : p < cnt t) {k w ld : Nat} {l r : Tr} (e : sbP t p = .inner k w ld l r) : fX4_sheafOf (iI i) (iI (gw t p)) 6 I = some (iI (tpW l), I) := by
  obtain ⟨a1, a2, a3, a4, a5, a6⟩ := q_shp Q hp
  have B := bl_p t t 0 0 p (bl_0 t) hp
  rw [Nat.zero_add, Nat.zero_add, e] at B
  obtain ⟨l', r', q3, q4, q5⟩ := sb_is t p hp
  rw [e] at q3
  injection q3 with _ _ _ el er
  subst el
  obtain ⟨v, z1, z2, z3, z4⟩ := c_tpW Q.2.1 Q.2.2.1 (bl_l B) (hi := (p : Int) - 1) (by omega)
  rw [fX4_sheafOf, a1, bd_s, on_1, if_pos a2, a3, bd_s, if_neg a4, a5, bd_s, a6, bd_s, if_neg (by decide), if_neg (by decide), if_neg (by decide), if_neg (by decide), if_neg (by decide), if_neg (by decide), if_pos rfl, l_1, iI_sub, z3, bd_s, t_weightAt Q.2.1 Q.2.2.1 z1 z2, bd_s, z4]
theorem q_s7 (Q : RQ I i t m lim) {p : Nat} (hp : p < cnt t) {k w ld : Nat} {l r : Tr} (e : sbP t p = .inner k w ld l r) : fX4_sheafOf (iI i) (iI (gw t p)) 7 I = some (iI (tpW r), I) := by
  obtain ⟨a1, a2, a3, a4, a5, a6⟩ := q_shp Q hp
  have B := bl_p t t 0 0 p (bl_0 t) hp
  rw [Nat.zero_add, Nat.zero_add, e] at B
  obtain ⟨l', r', q3, q4, q5⟩ := sb_is t p hp
  rw [e] at q3
  injection q3 with _ _ _ el er
  subst el
  subst er
  obtain ⟨v, z1, z2, z3, z4⟩ := c_tpW Q.2.1 Q.2.2.1 (bl_r B) (hi := (loP t p : Int)) (by omega)
  rw [fX4_sheafOf, a1, bd_s, on_1, if_pos a2, a3, bd_s, if_neg a4, a5, bd_s, a6, bd_s, if_neg (by decide), if_neg (by decide), if_neg (by decide), if_neg (by decide), if_neg (by decide), if_neg (by decide), if_neg (by decide), if_pos rfl, l_1, iI_add, show (p : Int) + 1 = ((foP t p + cnt l + 1 : Nat) : Int) by omega, z3, bd_s, t_weightAt Q.2.1 Q.2.2.1 z1 z2, bd_s, z4]
theorem q_rank (Q : RQ I i t m lim) {w : Int} (h1 : -2147483648 ≤ w) (h2 : w < 2147483648) : fX4_rank (iI i) (iI w) I = some (iI (rkQ w t), I) := by
  rw [fX4_rank, rq_rick Q, bd_s, on_1, if_pos (rq_kd Q), t_lighterByParts Q.2.1 Q.2.2.1 h1 h2, bd_s]
theorem q_rankA (Q : RQ I i t m lim) {w : Int} (h1 : -2147483648 ≤ w) (h2 : w < 2147483648) : fX4_rankAgain (iI i) (iI w) I = some (iI (rkQ w t), I) := by
  rw [fX4_rankAgain, rq_rick Q, bd_s, on_1, if_pos (rq_kd Q), t_lighterOneByOne Q.2.1 Q.2.2.1 h1 h2, bd_s]
theorem q_bt (Q : RQ I i t m lim) {w v : Int} (h1 : -2147483648 ≤ w) (h2 : w < 2147483648) (h3 : -2147483648 ≤ v) (h4 : v < 2147483648) : fX4_between (iI i) (iI w) (iI v) I = some (iI (btZ t w v), I) := by
  rw [fX4_between, rq_rick Q, bd_s, on_1, if_pos (rq_kd Q), t_loadsByParts Q.2.1 Q.2.2.1 h1 h2 h3 h4, bd_s]
theorem q_btA (Q : RQ I i t m lim) {w v : Int} (h1 : -2147483648 ≤ w) (h2 : w < 2147483648) (h3 : -2147483648 ≤ v) (h4 : v < 2147483648) : fX4_betweenAgain (iI i) (iI w) (iI v) I = some (iI (btZ t w v), I) := by
  rw [fX4_betweenAgain, rq_rick Q, bd_s, on_1, if_pos (rq_kd Q), t_loadsOneByOne Q.2.1 Q.2.2.1 h1 h2 h3 h4, bd_s]
theorem q_carts (Q : RQ I i t m lim) {b : Int} (hb : 99 ≤ b ∧ b ≤ 999) : fX4_carts (iI i) (iI b) I = some (iI (if cnt t = 0 then 0 else (crT t b (cnt t)).1 + 1), I) := by
  have g := Q.2.1.1
  have cc := t_carts Q.2.1 Q.2.2.1 (z := (cnt t : Int) - 1) hb (by omega) (by omega)
  rw [fX4_carts, rq_rick Q, bd_s, on_1, if_pos (rq_kd Q), c_isBears (by omega) (by omega), bd_s, if_pos hb, if_neg i10, Q.2.2.1.1, l_1, iI_sub, cc, bd_s]
  by_cases q : cnt t = 0
  · rw [if_pos (by omega), if_pos q]
  · rw [if_neg (by omega), if_neg q, show ((cnt t : Int) - 1 + 1).toNat = cnt t by omega]
theorem q_cartOf (Q : RQ I i t m lim) {b : Int} (hb : 99 ≤ b ∧ b ≤ 999) {p : Nat} (hp : p < cnt t) : fX4_cartOf (iI i) (iI (gw t p)) (iI b) I = some (iI (crT t b (p + 1)).1, I) := by
  have g := Q.2.1.1
  obtain ⟨a1, a2, a3, a4, a5, a6⟩ := q_shp Q hp
  have cc := t_carts Q.2.1 Q.2.2.1 (z := (p : Int)) hb (by omega) (by omega)
  rw [if_neg (by omega), show ((p : Int) + 1).toNat = p + 1 by omega] at cc
  rw [fX4_cartOf, a1, bd_s, on_1, if_pos a2, a3, bd_s, if_neg a4, c_isBears (by omega) (by omega), bd_s, if_pos hb, if_neg i10, cc, bd_s, l_1, iI_sub, Int.add_sub_cancel]
theorem q_shape (Q : RQ I i t m lim) : fX4_shape (iI i) I = some (shT t 0, I) := by
  have g := Q.2.1.1
  have e := t_shapeOf Q.2.1 Q.2.2.1 t 0 0 40 0 (bl_0 t) (by omega) (by omega)
  rw [fX4_shape, rq_rick Q, bd_s, on_1, if_pos (rq_kd Q), Q.2.2.1.1, l_1, iI_sub]
  rw [show (((0 : Nat) : Int) + cnt t - 1) = (cnt t : Int) - 1 by omega] at e
  exact (congrArg (fun o => bd o fun r2 I2 => some (r2, I2)) e).trans rfl
theorem q_weights (Q : RQ I i t m lim) {f : Int} (f0 : 0 ≤ f) (f1 : f ≤ 936) : fX4_weights (iI i) (iI f) I = some (bF t f 64, I) := by
  have g := Q.2.1.1
  rw [fX4_weights, rq_rick Q, bd_s, on_1, if_pos (rq_kd Q), if_neg (by rw [l_0, iI_lt (by omega) (by omega) (by omega) (by omega)]; omega), if_pos (by rw [l_936, iI_le (by omega) (by omega) (by omega) (by omega)]; exact f1)]
  exact c_bits Q.2.1 Q.2.2.1 f0 f1 (cnt t) 0 0 1000 (by omega) (by omega) (by omega) (fun q hq => by omega) (fun q _ hq => by omega)
theorem q_tell (Q : RQ I i t m lim) : ∃ (n : Nat) (J : Mm), fX4_tell (iI i) I = some (iI n, J) ∧ n ≤ 60 ∧ ∀ a j, a ≠ 32 → a ≠ 33 → J a j = I a j := by
  obtain ⟨hi, G, Rt, D1, hl, D3, D4, D5⟩ := id Q
  have g := G.1
  have Ri : RT (wr I 32 1 0) (3 + 4 * i) t := rt_of Rt (fun a j x y => by rw [wr_e, if_neg (by omega)])
  obtain ⟨J, e, p, f⟩ := c_write (r := 3 + 4 * i) (by omega) G hl t 0 0 40 (wr I 32 1 0) (0, fun _ => 0) (bl_0 t) (by omega) (by omega) Ri ⟨by rw [wr_e, if_pos ⟨rfl, rfl⟩]; rfl, by show 0 ≤ 60; omega, fun k hk => absurd hk (Nat.not_lt_zero k)⟩
  refine ⟨(wsL lim t (0, fun _ => 0)).1, J, ?_, p.2.1, fun a j x y => by rw [f a j x y, wr_e, if_neg (by omega)]⟩
  rw [fX4_tell, rq_rick Q, bd_s, on_1, if_pos (rq_kd Q), fX2_clear, ltm_s, bd_s]
  rw [show (wr I 32 1 0) (3 + 4 * i) 3 = iI (cnt t) from Ri.1, show (wr I 32 1 0) 1 1 = iI lim by rw [wr_e, if_neg (by omega), D3], l_1, iI_sub]
  rw [show (((0 : Nat) : Int) + cnt t - 1) = (cnt t : Int) - 1 by omega] at e
  refine (congrArg (fun o => bd o fun r3 I3 => some ((I3 32 1), I3)) e).trans ?_
  rw [bd_s, p.1]
theorem q_share0 (Q : RQ I i t m lim) (h : cnt t = 0) : fX4_leaningShare (iI i) I = some (-15, I) ∧ fX4_meanDepth (iI i) I = some (-15, I) := by
  constructor
  · rw [fX4_leaningShare, rq_rick Q, bd_s, on_1, if_pos (rq_kd Q), Q.2.2.1.1, h, if_neg (by decide)]
  · rw [fX4_meanDepth, rq_rick Q, bd_s, on_1, if_pos (rq_kd Q), Q.2.2.1.1, h, if_neg (by decide)]
theorem q_share (Q : RQ I i t m lim) (h : 0 < cnt t) {a : Nat} (ha : sm (fun p => if lnB lim (sbP t p) = true then 1 else 0) (cnt t) = a) : fX4_leaningShare (iI i) I = some (fbI (fq a (cnt t)), I) ∧ (fq a (cnt t)) &&& 0x7fffffff ≤ (0x7f800000 : UInt32) := by
  obtain ⟨hi, G, Rt, D1, hl, D3, D4, D5⟩ := id Q
  have g := G.1
  have rg := sm_le1 (f := fun p => if lnB lim (sbP t p) = true then 1 else 0) (cnt t) (fun p _ => by split <;> omega)
  have ce := t_leaning G Rt hl
  rw [ha] at ce rg
  obtain ⟨s1, s2⟩ := sh_is (cnt t) a (by omega) g (by omega) I
  refine ⟨?_, s1⟩
  rw [fX4_leaningShare, rq_rick Q, bd_s, on_1, if_pos (rq_kd Q), Rt.1, if_pos (by rw [l_0, iI_lt (by omega) (by omega) (by omega) (by omega)]; omega), D3, ce, bd_s, Rt.1, if_pos s1, ltm_s, s2, bd_s]
theorem q_mean (Q : RQ I i t m lim) (h : 0 < cnt t) {a : Nat} (ha : sm (fun p => (gd t p : Int)) (cnt t) = a) : ∃ v, fX4_meanDepth (iI i) I = some (v, I) ∧ fJxe99ae_doubleToLongBits_ccdee (dq a (cnt t)) I = some (v, I) ∧ (dq a (cnt t)) &&& 0x7fffffffffffffff ≤ (0x7ff0000000000000 : UInt64) := by
  obtain ⟨hi, G, Rt, D1, hl, D3, D4, D5⟩ := id Q
  have g := G.1
  have rg := d_sum t
  have ce := t_depths G Rt
  rw [ha] at ce rg
  have h2 : 2 * a ≤ cnt t * (cnt t - 1) := by
    have := rg.2
    rw [show (cnt t : Int) - 1 = ((cnt t - 1 : Nat) : Int) by omega, ← Int.natCast_mul] at this
    omega
  obtain ⟨s1, v, s2, s3⟩ := me_is (cnt t) a (by omega) g h2 I
  refine ⟨v, ?_, s3, s1⟩
  rw [fX4_meanDepth, rq_rick Q, bd_s, on_1, if_pos (rq_kd Q), Rt.1, if_pos (by rw [l_0, iI_lt (by omega) (by omega) (by omega) (by omega)]; omega), ce, bd_s, Rt.1, if_pos s1, ltm_s, s2, bd_s]
/-! of the yard -/
theorem q_a0 (C : CY I 1 T mo ct) : fX4_account 0 I = some (iI ((cnt (T 0) + cnt (T 1) + cnt (T 2) : Nat) : Int), I) := by
  rw [fX4_account, if_pos rfl, c_sheaves (Or.inl rfl) C, bd_s]
theorem q_a1 (O : OKZ T mo ct) (C : CY I 1 T mo ct) : fX4_account 1 I = some (iI (ldS (T 0) + ldS (T 1) + ldS (T 2)), I) := by
  rw [fX4_account, if_neg (by decide), if_pos rfl, c_loads (Or.inl rfl) O.1 C, bd_s]
theorem q_ak (C : CY I 1 T mo ct) : fX4_account 2 I = some (ct 1, I) ∧ fX4_account 3 I = some (ct 2, I) ∧ fX4_account 4 I = some (ct 3, I) ∧ fX4_account 5 I = some (ct 4, I) ∧ fX4_account 6 I = some (ct 5, I) ∧ fX4_account 7 I = some (ct 6, I) ∧ fX4_account 8 I = some (ct 0, I) := by
  have c0 : I 1 1 = ct 0 := C.2 0 (by omega)
  have c1 : I 1 2 = ct 1 := C.2 1 (by omega)
  have c2 : I 1 3 = ct 2 := C.2 2 (by omega)
  have c3 : I 1 4 = ct 3 := C.2 3 (by omega)
  have c4 : I 1 5 = ct 4 := C.2 4 (by omega)
  have c5 : I 1 6 = ct 5 := C.2 5 (by omega)
  have c6 : I 1 7 = ct 6 := C.2 6 (by omega)
  unfold fX4_account
  rw [c0, c1, c2, c3, c4, c5, c6]
  exact ⟨rfl, rfl, rfl, rfl, rfl, rfl, rfl⟩
theorem q_bal (O : OKZ T mo ct) (C : CY I 1 T mo ct) : fX4_isBalanced I = some (1, I) := by
  have cy : ∀ j, j < 7 → I 1 (j + 1) = ct j := C.2
  have st : ∀ (i n : Nat), i < 3 → fX4_isBalanced_p29 (n + 1) (iI i) I = fX4_isBalanced_p29 n (iI ((i + 1 : Nat) : Int)) I := fun i n hi => by
    have Rt := rc_1 (C := C) hi
    have k := kd_r (y := 1) (Or.inl rfl) hi
    rw [show 1 + 2 + 4 * i = 3 + 4 * i by omega] at k
    rw [fX4_isBalanced_p29, if_neg (by rw [l_3, iI_le (by omega) (by omega) (by omega) (by omega)]; omega), c_rick hi, show 1 + 2 + 4 * i = 3 + 4 * i by omega, bd_s, on_1, if_pos k, t_isSound (O.1.1 i hi).1 Rt, bd_s, if_neg i10, ltm_s, l_1, iI_add]
    rfl
  rw [fX4_isBalanced, c_sheaves (Or.inl rfl) C, bd_s, cy 1 (by omega), cy 2 (by omega), O.1.2.2, if_pos rfl]
  have s0 := st 0 999 (by omega)
  have s1 := st 1 998 (by omega)
  have s2 := st 2 997 (by omega)
  refine (s0.trans (s1.trans s2)).trans ?_
  rw [fX4_isBalanced_p29, if_pos (by decide)]
theorem q_hvN (C : CY I 1 T mo ct) {z : Int} (h1 : -2147483648 ≤ z) (h2 : z < 2147483648) (g : cnt (T 0) + cnt (T 1) + cnt (T 2) ≤ 90) (h : z < 0 ∨ ((cnt (T 0) + cnt (T 1) + cnt (T 2) : Nat) : Int) ≤ z) : fX4_heaviest (iI z) I = some (iI (-11), I) := by
  by_cases a : z < 0
  · rw [fX4_heaviest, if_pos (by rw [l_0, iI_lt h1 h2 (by omega) (by omega)]; exact a)]; rfl
  · rw [fX4_heaviest, if_neg (by rw [l_0, iI_lt h1 h2 (by omega) (by omega)]; exact a), c_sheaves (Or.inl rfl) C, bd_s, if_neg (by rw [iI_lt h1 h2 (by omega) (by omega)]; omega)]; rfl
theorem q_hv (O : OKZ T mo ct) (C : CY I 1 T mo ct) {z : Int} (h0 : 0 ≤ z) (h : z < ((cnt (T 0) + cnt (T 1) + cnt (T 2) : Nat) : Int)) : ∃ i p, i < 3 ∧ p < cnt (T i) ∧ cB T (kz (T i) i p) = z ∧ fX4_heaviest (iI z) I = some (iI ((i * 1000 + gw (T i) p : Nat) : Int), I) := by
  have g0 := (O.1.1 0 (by omega)).1.1
  have g1 := (O.1.1 1 (by omega)).1.1
  have g2 := (O.1.1 2 (by omega)).1.1
  obtain ⟨i, p, hi, hp, hz, e⟩ := c_heavy_p O.1 C (z := z) h0 h (z + 1).toNat 0 1000 (-1) (by omega) (by omega) (by omega) (by omega) (by
    unfold cB cR
    rw [sm_zero _ (fun p hp => if_neg (by have := kz_rng (O.1.1 0 (by omega)).1 (i := 0) (by omega) hp; omega)), sm_zero _ (fun p hp => if_neg (by have := kz_rng (O.1.1 1 (by omega)).1 (i := 1) (by omega) hp; omega)), sm_zero _ (fun p hp => if_neg (by have := kz_rng (O.1.1 2 (by omega)).1 (i := 2) (by omega) hp; omega))]
    rfl) (fun h => by omega)
  refine ⟨i, p, hi, hp, hz, ?_⟩
  rw [fX4_heaviest, if_neg (by rw [l_0, iI_lt (by omega) (by omega) (by omega) (by omega)]; omega), c_sheaves (Or.inl rfl) C, bd_s, if_pos (by rw [iI_lt (by omega) (by omega) (by omega) (by omega)]; exact h)]
  exact e
end QRY
