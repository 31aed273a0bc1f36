/-! ===== what the class's rick does, by trees ===== -/
/-- the first part from a place on upwards that leans, -1 if none -/
def flP (lim : Int) (t : Tr) : Nat → Int → Int
  | 0, _ => -1
  | n + 1, a => if a < 0 then -1 else if lnB lim (sbP t a.toNat) = true then a else flP lim t n (paP t a.toNat)
theorem fl_rng (lim : Int) (t : Tr) : ∀ (n : Nat) (a : Int), a < cnt t → -1 ≤ flP lim t n a ∧ flP lim t n a < cnt t
  | 0, a, h => by rw [flP]; omega
  | n + 1, a, h => by
    rw [flP]
    by_cases c : a < 0
    · rw [if_pos c]; omega
    · rw [if_neg c]
      by_cases d : lnB lim (sbP t a.toNat) = true
      · rw [if_pos d]; omega
      · rw [if_neg d]
        exact fl_rng lim t n _ (pa_rng t a.toNat (by omega)).2
theorem pa_d {t : Tr} {p : Nat} (h : p < cnt t) (h2 : paP t p ≠ -1) : gd t (paP t p).toNat + 1 = gd t p := by
  rcases pa_is t p h with ⟨a1, a2, a3, a4⟩ | ⟨a1, a2, a3, a4⟩ | ⟨a1, a2, a3, a4⟩
  · exact absurd a1 h2
  · rw [a1, tn_s]; exact a3
  · rw [a1, tn_a]; exact a3
/-- a rick is told by its cells -/
theorem rt_of {I J : Mm} {r : Nat} {t : Tr} (R : RT I r t) (h : ∀ a j, r ≤ a → a ≤ r + 3 → J a j = I a j) : RT J r t := by
  refine ⟨by rw [h r 3 (by omega) (by omega)]; exact R.1, fun p hp => ?_⟩
  rw [h (r + 1) p (by omega) (by omega), h (r + 2) p (by omega) (by omega), h (r + 3) p (by omega) (by omega)]
  exact R.2 p hp
section CM2
variable {I : Mm} {r : Nat} {t : Tr}
theorem lay_e2 (G : GT t) (R : RT I r t) {w ld : Nat} (h1 : w < 1000) (h5 : cnt t < 30) (m : Nat) : (if iI (cnt t) < 0 then some (-1, I) else if iI (cnt t) < 30 then bd (fX1_lighterOneByOne r (iI w) I) fun r1 I1 => bd (fX1_depthAt r (r1 - 1) I1) fun r2 I2 => bd (fX1_depthAt r r1 I2) fun r3 I3 => ltm ((mxI r2 r3) + 1) fun v1 => ltm (I3 r 3) fun v2 => fX1_lay_p49 m r (iI w) (iI ld) r1 v1 v2 I3 else some (-1, I)) = fX1_lay_p49 m r (iI w) (iI ld) (iI (rkQ w t)) (iI (nbD t (rkQ w t))) (iI (cnt t)) I := by
  have rl := rk_le (w : Int) t
  have d1 := dz_rng G ((rkQ w t : Int) - 1)
  have d2 := dz_rng G (rkQ w t)
  simp (disch := omega) only [l_0, l_30, l_1, iI_lt, if_neg, if_pos, t_lighterOneByOne G R, bd_s, iI_sub, t_depthAt G R, ltm_s, iI_max, iI_add]
  rw [R.1, nbD]
theorem lay_eq (G : GT t) (R : RT I r t) {w ld : Nat} (h1 : w < 1000) (h5 : cnt t < 30) : fX1_lay r (iI w) (iI ld) I = fX1_lay_p49 1000 r (iI w) (iI ld) (iI (rkQ w t)) (iI (nbD t (rkQ w t))) (iI (cnt t)) I := by
  rw [← lay_e2 G R h1 h5, fX1_lay, R.1]
theorem tr_lay (G : GT t) (R : RT I r t) {w ld : Nat} (k : Nat) (H : ∀ q, q < cnt t → gw t q ≠ w) (h1 : w < 1000) (h5 : cnt t < 30) : ∃ J, fX1_lay r (iI w) (iI ld) I = some (iI (rkQ w t), J) ∧ RT J r (insT k w ld t) ∧ Off r I J := by
  have g := G.1
  have rl := rk_le (w : Int) t
  have d1 := dz_rng G ((rkQ w t : Int) - 1)
  have d2 := dz_rng G (rkQ w t)
  obtain ⟨J', e, h⟩ := @c_lay_p r (cnt t) (rkQ w t) (iI w) (iI ld) (iI (nbD t (rkQ w t))) h5 (cnt t - rkQ w t) (cnt t) 1000 I (by omega) (by omega) R.1 (by omega)
  refine ⟨J', ?_, ?_, ?_⟩
  · rw [lay_eq G R h1 h5]
    exact e
  · refine ⟨by rw [h, if_pos ⟨rfl, rfl⟩, in_cnt], fun p hp => ?_⟩
    rw [in_cnt] at hp
    have ip := in_pos k w ld t p G H (by omega)
    by_cases c1 : p < rkQ w t
    · have a := ip.1 c1
      rw [a.1, a.2.1, a.2.2.2]
      simp (disch := omega) only [h, true_or, or_true, if_true, if_pos, if_neg]
      exact R.2 p (by omega)
    · by_cases c2 : p = rkQ w t
      · have a := ip.2.1 c2
        rw [a.1, a.2.1, a.2.2.2]
        simp (disch := omega) only [h, true_or, or_true, if_true, if_pos, if_neg]
        simp
      · have a := ip.2.2 (by omega)
        rw [a.1, a.2.1, a.2.2.2]
        simp (disch := omega) only [h, true_or, or_true, if_true, if_pos, if_neg]
        exact R.2 (p - 1) (by omega)
  · intro a j hh
    rw [h, if_neg (by omega), if_neg (by omega)]
theorem t_raise {J : Mm} {n : Nat} (hn : n ≤ 30) (h3 : J r 3 = iI n) {lo hi : Nat} (h1 : lo ≤ hi + 1) (h2 : hi < n) : ∃ J', fX1_raise r (iI lo) (iI hi) J = some ((), J') ∧ ∀ x j, J' x j = if x = r + 3 ∧ lo ≤ j ∧ j ≤ hi then J x j - 1 else J x j := by
  exact c_raise_p hn h2 (hi + 1 - lo) lo 1000 J (by omega) h3 (by omega)
theorem t_lift (G : GT t) (R : RT I r t) {p : Nat} (hp : p < cnt t) : ∃ J, fX1_lift r (iI p) I = some ((), J) ∧ RT J r (delT t p) ∧ Off r I J := by
  have g := G.1
  have f := fo_le t p hp
  have dp := del_pos t p hp
  have fin : ∀ K : Mm, (∀ x j, x ≠ r + 3 → K x j = I x j) → (∀ j, j < cnt t → j ≠ p → K (r + 3) j = iI (delD t p j)) → ∃ J, fX1_lift_p70 r (iI p) K = some ((), J) ∧ RT J r (delT t p) ∧ Off r I J := by
    intro K k1 k2
    obtain ⟨J, e, h⟩ := @c_lift_p r (cnt t) g (cnt t - 1 - p) p 1000 K (by omega) (by rw [k1 r 3 (by omega)]; exact R.1) (by omega)
    refine ⟨J, e, ⟨by rw [h, if_pos ⟨rfl, rfl⟩, show cnt t - 1 = cnt (delT t p) by omega], fun q hq => ?_⟩, fun a j hh => ?_⟩
    · have i := dp.2 q (by omega)
      have hx : ∀ x, (x = r + 1 ∨ x = r + 2 ∨ x = r + 3) → J x q = if q < p then K x q else K x (q + 1) := fun x hx => by
        rw [h, if_neg (by omega), if_pos hx]
        by_cases c : q < p
        · rw [if_pos c, if_pos c]
        · rw [if_neg c, if_neg c, if_pos (by omega)]
      rw [hx _ (by omega), hx _ (by omega), hx _ (by omega), i.1, i.2.1, i.2.2.2]
      by_cases c : q < p
      · simp only [if_pos c]
        have a := R.2 q (by omega)
        rw [k1 _ _ (by omega), k1 _ _ (by omega), k2 q (by omega) (by omega)]
        exact ⟨a.1, a.2.1, rfl⟩
      · simp only [if_neg c]
        have a := R.2 (q + 1) (by omega)
        rw [k1 _ _ (by omega), k1 _ _ (by omega), k2 (q + 1) (by omega) (by omega)]
        exact ⟨a.1, a.2.1, rfl⟩
    · rw [h, if_neg (by omega), if_neg (by omega)]
      exact k1 a j (by omega)
  rw [fX1_lift]
  simp (disch := omega) only [t_isPlace G R, bd_s, if_pos, l_0, iI_eq, if_neg, t_firstOf G R, t_lastOf G R, iI_le]
  have one : ∀ z : Nat, 1 ≤ z → iI (z : Int) - 1 = iI ((z - 1 : Nat) : Int) := fun z hz => by
    rw [l_1, iI_sub, show (z : Int) - 1 = ((z - 1 : Nat) : Int) by omega]
  by_cases x : foP t p < p ∧ p < loP t p
  · have f2 := fo_le t (p + 1) (by omega)
    rw [if_neg (by omega), if_neg (by omega), ltm_s, l_1, iI_add, show (p : Int) + 1 = ((p + 1 : Nat) : Int) by omega, t_lastOf G R (by omega), bd_s, iI_add, show ((p + 1 : Nat) : Int) + 1 = ((p + 2 : Nat) : Int) by omega]
    obtain ⟨K, e, k⟩ := @t_raise r I (cnt t) g R.1 (p + 2) (loP t (p + 1)) (by omega) (by omega)
    have k3 : K r 3 = iI (cnt t) := by rw [k, if_neg (by omega)]; exact R.1
    rw [e, bd_s, u_depthAt k3 g hp, bd_s, u_setDepth (by omega), bd_s]
    refine fin _ (fun a j h => ?_) (fun j h1 h2 => ?_)
    · rw [wr_e, if_neg (by omega), k, if_neg (by omega)]
    · rw [wr_e, k, k]
      unfold delD
      rw [if_pos x]
      by_cases y : j = p + 1
      · rw [if_pos ⟨rfl, y⟩, if_pos y, if_neg (by omega)]
        exact (R.2 p hp).2.2
      · rw [if_neg (by omega), if_neg y]
        by_cases z : p + 2 ≤ j ∧ j ≤ loP t (p + 1)
        · have := part_deep t (p + 1) j (by omega) (by omega) (by omega) (by omega)
          rw [if_pos ⟨rfl, z⟩, if_pos z, (R.2 j h1).2.2, one _ (by omega)]
        · rw [if_neg (by omega), if_neg z]
          exact (R.2 j h1).2.2
  · have hz : fX1_lift_p64 r (iI p) (iI (foP t p)) (iI (loP t p)) I = fX1_lift_p64 r (iI p) (iI (foP t p)) (iI (loP t p)) I := rfl
    have all : ∃ J, fX1_lift_p64 r (iI p) (iI (foP t p)) (iI (loP t p)) I = some ((), J) ∧ RT J r (delT t p) ∧ Off r I J := by
      obtain ⟨K, e, k⟩ := @t_raise r I (cnt t) g R.1 (foP t p) (loP t p) (by omega) (by omega)
      rw [fX1_lift_p64, e, bd_s]
      refine fin K (fun a j h => ?_) (fun j h1 h2 => ?_)
      · rw [k, if_neg (by omega)]
      · rw [k]
        unfold delD
        rw [if_neg x]
        by_cases z : foP t p ≤ j ∧ j ≤ loP t p
        · have := part_deep t p j (by omega) (by omega) (by omega) (by omega)
          rw [if_pos ⟨rfl, z⟩, if_pos z, (R.2 j h1).2.2, one _ (by omega)]
        · rw [if_neg (by omega), if_neg z]
          exact (R.2 j h1).2.2
    by_cases y : p ≤ foP t p
    · rw [if_pos (by omega)]; exact all
    · rw [if_neg (by omega), if_pos (by omega)]; exact all
/-- how many have another depth -/
def mvT (t u : Tr) : Int := sm (fun j => if (gd t j : Int) = gd u j then 0 else 1) (cnt t)
theorem t_spreadP (G : GT t) (R : RT I r t) {p : Nat} (hp : p < cnt t) : ∃ J v, fX1_spread 40 r (iI (foP t p)) (iI (loP t p)) (iI (gd t p)) I = some (v, J) ∧ RT J r (rebT t p) ∧ Off r I J := by
  have g := G.1
  have f := fo_le t p hp
  obtain ⟨l, s, e1, e2, e3⟩ := sb_is t p hp
  have gp := gd_part t p hp
  have B := bl_p t t 0 0 p (bl_0 t) hp
  rw [Nat.zero_add, Nat.zero_add] at B
  have rp := reb_pos t p hp
  have hc : cnt (sbP t p) = loP t p + 1 - foP t p := by rw [e1, cnt_i]; omega
  obtain ⟨J, e, h⟩ := @c_spread r (cnt t) g (fun j => (gd t j : Int)) (fun j => ((gd t p + gd (bwT (sbP t p)) (j - foP t p) : Nat) : Int)) (gs (sbP t p)) (gw (sbP t p)) (gl (sbP t p)) (fun j hj => by have := gd_lt t j hj; omega) (cnt (sbP t p)) (foP t p) (cnt (sbP t p)) (gd t p) 40 I (Nat.le_refl _) (by omega) (by omega) R.1 (fun j h1 h2 => ⟨(R.2 j (by omega)).2.2, by
      have q : ∀ x, gd (balT (gs (sbP t p)) (gw (sbP t p)) (gl (sbP t p)) (cnt (sbP t p)) x (cnt (sbP t p))) (j - foP t p) = gd (balT (gs (sbP t p)) (gw (sbP t p)) (gl (sbP t p)) (cnt (sbP t p)) 0 (cnt (sbP t p))) (j - foP t p) := by
        have all : ∀ (fs fw fl : Nat → Nat) (n x y c q : Nat), gd (balT fs fw fl n x c) q = gd (balT fs fw fl n y c) q ∧ cnt (balT fs fw fl n x c) = cnt (balT fs fw fl n y c) := by
          intro fs fw fl n
          induction n with
          | zero => intro x y c q; exact ⟨rfl, rfl⟩
          | succ n ih =>
            intro x y c q
            rw [balT, balT]
            by_cases c0 : c = 0
            · rw [if_pos c0, if_pos c0]; exact ⟨rfl, rfl⟩
            · rw [if_neg c0, if_neg c0]
              have i1 := ih x y ((c - 1) / 2) q
              have i2 := fun z => ih (x + (c - 1) / 2 + 1) (y + (c - 1) / 2 + 1) (c - 1 - (c - 1) / 2) z
              rw [cnt_i, cnt_i, i1.2, (i2 0).2]
              refine ⟨?_, rfl⟩
              rw [gd, gd, i1.2, i1.1, (i2 _).1]
        exact fun x => (all _ _ _ _ _ _ _ _).1
      rw [q]; rfl⟩) (by omega)
  rw [show (foP t p : Int) + (cnt (sbP t p) : Nat) - 1 = loP t p by omega] at e
  refine ⟨J, _, e, ⟨by rw [h, if_neg (by omega), rp.1]; exact R.1, fun q hq => ?_⟩, fun a j hh => ?_⟩
  · rw [rp.1] at hq
    have i := rp.2 q hq
    have a := R.2 q hq
    rw [h, h, h, if_neg (by omega), if_neg (by omega), i.1, i.2.1, i.2.2.2]
    refine ⟨a.1, a.2.1, ?_⟩
    by_cases z : foP t p ≤ q ∧ q ≤ loP t p
    · rw [if_pos (by omega), if_pos z]
    · rw [if_neg (by omega), if_neg z]; exact a.2.2
  · rw [h, if_neg (by omega)]
theorem t_buildPartAbove (G : GT t) (R : RT I r t) {p : Nat} (hp : p < cnt t) {lim : Int} (hl : 55 ≤ lim ∧ lim ≤ 90) : ∃ J, fX1_buildPartAbove r (iI p) (iI lim) I = some (iI (if flP lim t 31 (paP t p) < 0 then 0 else cnt (sbP t (flP lim t 31 (paP t p)).toNat)), J) ∧ RT J r (if flP lim t 31 (paP t p) < 0 then t else rebT t (flP lim t 31 (paP t p)).toNat) ∧ Off r I J := by
  have g := G.1
  have dp := gd_lt t p hp
  have key : ∀ (k i m : Nat) (a : Int), i + k = 31 → (a ≠ -1 → 0 ≤ a ∧ a < cnt t ∧ gd t a.toNat + 1 < k) → k < m → ∃ J, fX1_buildPartAbove_p9 m r (iI lim) (iI a) (iI i) I = some (iI (if flP lim t k a < 0 then 0 else cnt (sbP t (flP lim t k a).toNat)), J) ∧ RT J r (if flP lim t k a < 0 then t else rebT t (flP lim t k a).toNat) ∧ Off r I J := by
    intro k
    induction k with
    | zero =>
      intro i m a hi ha hm
      obtain ⟨m, rfl⟩ : ∃ x, m = x + 1 := ⟨m - 1, by omega⟩
      obtain rfl : a = -1 := by
        by_cases c : a = -1
        · exact c
        · have := ha c; omega
      rw [fX1_buildPartAbove_p9]
      simp (disch := omega) only [l_30, iI_le, if_pos, flP]
      exact ⟨I, rfl, R, off_rfl r I⟩
    | succ k ih =>
      intro i m a hi ha hm
      obtain ⟨m, rfl⟩ : ∃ x, m = x + 1 := ⟨m - 1, by omega⟩
      rw [fX1_buildPartAbove_p9, flP]
      by_cases c : a = -1
      · subst c
        have z : (iI (if (0 : Int) ≤ -1 ∧ (-1 : Int) < cnt t then 1 else 0) : Int32) = 0 := by rw [if_neg (by omega)]; rfl
        rw [t_isPlace G R (by omega) (by omega), z, bd_s, if_pos rfl]
        simp (disch := omega) only [if_pos]
        refine ⟨I, ?_, R, off_rfl r I⟩
        by_cases q : (30 : Int32) ≤ iI i
        · rw [if_pos q]; rfl
        · rw [if_neg q]; rfl
      · have h := ha c
        simp (disch := omega) only [l_30, l_0, iI_le, if_neg, t_isPlace G R, bd_s, if_pos, iI_eq]
        obtain ⟨x, rfl⟩ : ∃ x : Nat, a = x := ⟨a.toNat, by omega⟩
        rw [tn_n] at h
        simp only [tn_n]
        rw [t_leans G R (by omega) hl]
        by_cases d : lnB lim (sbP t x) = true
        · rw [if_pos d, if_pos d, if_neg (show ¬ ((x : Int) < 0) by omega), if_neg (show ¬ ((x : Int) < 0) by omega), bd_s]
          simp (disch := omega) only [iI_eq, if_neg, t_firstOf G R, t_lastOf G R, bd_s, t_depthAt G R, DZ, if_pos, tn_n]
          obtain ⟨J, v, e, h1, h2⟩ := t_spreadP G R (p := x) (by omega)
          obtain ⟨l, s, e1, e2, e3⟩ := sb_is t x (by omega)
          rw [e, bd_s]
          refine ⟨J, ?_, h1, h2⟩
          rw [iI_sub, l_1, iI_add, e1, cnt_i, show (loP t x : Int) - foP t x + 1 = ((cnt l + 1 + cnt s : Nat) : Int) by omega]
        · rw [if_neg d, if_neg d, bd_s]
          simp (disch := omega) only [iI_eq, if_pos, t_above G R, bd_s, l_1, iI_add, ltm_s]
          have pr := pa_rng t x (by omega)
          exact ih (i + 1) m (paP t x) (by omega) (fun y => by have := pa_d (t := t) (p := x) (by omega) y; omega) (by omega)
  rw [fX1_buildPartAbove, t_above G R hp, bd_s]
  have pr := pa_rng t p hp
  exact key 31 0 1000 (paP t p) (by omega) (fun y => by have := pa_d hp y; omega) (by omega)
theorem t_buildWhole (G : GT t) (R : RT I r t) : ∃ J, fX1_buildWhole r I = some (iI (mvT t (bwT t)), J) ∧ RT J r (bwT t) ∧ J r 4 = iI (cnt t) ∧ ∀ a j, (a < r ∨ r + 3 < a ∨ (a = r ∧ j ≠ 3 ∧ j ≠ 4)) → J a j = I a j := by
  have g := G.1
  have bp := bw_pos t
  have e0 : (wr I r 4 (I r 3)) r 3 = iI (cnt t) := by rw [wr_e, if_neg (by omega)]; exact R.1
  obtain ⟨J, e, h⟩ := @c_spread r (cnt t) g (fun j => (gd t j : Int)) (fun j => (gd (bwT t) j : Int)) (gs t) (gw t) (gl t) (fun j hj => by have := gd_lt t j hj; omega) (cnt t) 0 (cnt t) 0 40 (wr I r 4 (I r 3)) (Nat.le_refl _) (by omega) (by omega) e0 (fun j h1 h2 => ⟨by rw [wr_e, if_neg (by omega)]; exact (R.2 j (by omega)).2.2, by rw [Nat.sub_zero, Nat.zero_add]; rfl⟩) (by omega)
  rw [fX1_buildWhole, ltm_s, e0, l_1, iI_sub]
  refine ⟨J, ?_, ⟨by rw [h, if_neg (by omega), bp.1]; exact e0, fun q hq => ?_⟩, ?_, fun a j hh => ?_⟩
  · rw [show (cnt t : Int) - 1 = ((0 : Nat) : Int) + cnt t - 1 by omega]
    rw [show fX1_spread 40 r 0 (iI (((0 : Nat) : Int) + cnt t - 1)) 0 (wr I r 4 (I r 3)) = _ from e, bd_s]
    rw [Nat.zero_add, show mvF (fun j => (gd t j : Int)) (fun j => (gd (bwT t) j : Int)) 0 = 0 from rfl, Int.sub_zero]
    rfl
  · rw [bp.1] at hq
    have i := bp.2 q hq
    have a := R.2 q hq
    rw [h, h, h, if_neg (by omega), if_neg (by omega), if_pos (by omega), i.1, i.2.1, wr_e, wr_e, if_neg (by omega), if_neg (by omega)]
    exact ⟨a.1, a.2.1, rfl⟩
  · rw [h, if_neg (by omega), wr_e, if_pos ⟨rfl, rfl⟩]; exact R.1
  · rw [h, if_neg (by omega), wr_e, if_neg (by omega)]
end CM2
