/-! ===== the heaviest, the whole, digests, one put ===== -/
section FIT
variable {I : Mm} {T : Nat → Tr} {mo : Nat → Nat} {ct : Nat → Int32}
theorem rq_ex (O : OKZ T mo ct) (C : CY I 1 T mo ct) {i : Nat} (hi : i < 3) : ∃ lim, ct 0 = iI lim ∧ RQ I i (T i) (mo i) lim := by
  obtain ⟨lim, a, b, c⟩ := O.1.2.1
  exact ⟨lim, a, rq_of O C hi a b c⟩
theorem hv_p34 (O : OKZ T mo ct) (C : CY I 1 T mo ct) {N : Nat} (hN : N = cnt (T 0) + cnt (T 1) + cnt (T 2)) : ∀ (k j n : Nat), 1 ≤ j → N ≤ j + k → k < n → j ≤ 200 → fL_areHeaviest_p34 n (iI N) 1 (iI j) I = some (1, I)
  | 0, j, n, h1, hk, hn, h2 => by
    obtain ⟨n, rfl⟩ : ∃ y, n = y + 1 := ⟨n - 1, by omega⟩
    rw [fL_areHeaviest_p34, if_neg (by decide), if_pos (by rw [iI_le (by omega) (by omega) (by omega) (by omega)]; omega), if_pos (Or.inr rfl)]
  | k + 1, j, n, h1, hk, hn, h2 => by
    have g0 := (O.1.1 0 (by omega)).1.1
    have g1 := (O.1.1 1 (by omega)).1.1
    have g2 := (O.1.1 2 (by omega)).1.1
    obtain ⟨n, rfl⟩ : ∃ y, n = y + 1 := ⟨n - 1, by omega⟩
    by_cases c : N ≤ j
    · rw [fL_areHeaviest_p34, if_neg (by decide), if_pos (by rw [iI_le (by omega) (by omega) (by omega) (by omega)]; omega), if_pos (Or.inr rfl)]
    · have ih := hv_p34 O C hN k (j + 1) n (by omega) (by omega) (by omega) (by omega)
      obtain ⟨a, p, ha, hp, za, ea⟩ := q_hv O C (z := ((j - 1 : Nat) : Int)) (by omega) (by omega)
      obtain ⟨b, q, hb, hq, zb, eb⟩ := q_hv O C (z := (j : Int)) (by omega) (by omega)
      obtain ⟨lim, _, QA⟩ := rq_ex O C ha
      obtain ⟨lim', _, QB⟩ := rq_ex O C hb
      have ga := (O.1.1 a ha).1.2.1 p hp
      have gb := (O.1.1 b hb).1.2.1 q hq
      have lt : kz (T a) a p < kz (T b) b q := by
        by_cases d : kz (T a) a p < kz (T b) b q
        · exact d
        · have := cB_mono T (x := kz (T b) b q) (y := kz (T a) a p) (by omega)
          omega
      unfold kz at lt
      have da : iI ((a * 1000 + gw (T a) p : Nat) : Int) / 1000 = iI a := by rw [l_1000, iI_div (by omega) (by omega) (by omega) (by omega)]; congr 1; omega
      have db : iI ((b * 1000 + gw (T b) q : Nat) : Int) / 1000 = iI b := by rw [l_1000, iI_div (by omega) (by omega) (by omega) (by omega)]; congr 1; omega
      have ra : iI ((a * 1000 + gw (T a) p : Nat) : Int) - iI a * 1000 = iI (gw (T a) p) := by rw [l_1000, iI_mul, iI_sub]; congr 1; omega
      have rb : iI ((b * 1000 + gw (T b) q : Nat) : Int) - iI b * 1000 = iI (gw (T b) q) := by rw [l_1000, iI_mul, iI_sub]; congr 1; omega
      have e1 : iI (j : Int) + 1 = iI ((j + 1 : Nat) : Int) := by rw [l_1, iI_add]; rfl
      rw [fL_areHeaviest_p34, if_neg (by decide), if_neg (by rw [iI_le (by omega) (by omega) (by omega) (by omega)]; omega), show iI (j : Int) - 1 = iI ((j - 1 : Nat) : Int) by rw [l_1, iI_sub]; congr 1; omega, ea, bd_s, eb, bd_s, da, db, ra, rb, q_s0 QA hp, bd_s, q_s0 QB hq, bd_s, iI_sub, ltm_s, iI_sub, ltm_s, e1]
      by_cases c1 : gl (T b) q < gl (T a) p
      · rw [if_pos (by rw [l_0, iI_lt (by omega) (by omega) (by omega) (by omega)]; omega), ltm_s]; exact ih
      · have ee : gl (T a) p = gl (T b) q := by omega
        rw [if_neg (by rw [l_0, iI_lt (by omega) (by omega) (by omega) (by omega)]; omega), if_pos (by rw [l_0, iI_eq (by omega) (by omega) (by omega) (by omega)]; omega)]
        by_cases c2 : gw (T a) p < gw (T b) q
        · rw [if_pos (by rw [l_0, iI_lt (by omega) (by omega) (by omega) (by omega)]; omega), ltm_s]; exact ih
        · rw [if_neg (by rw [l_0, iI_lt (by omega) (by omega) (by omega) (by omega)]; omega), if_pos (by rw [l_0, iI_eq (by omega) (by omega) (by omega) (by omega)]; omega), if_neg (by rw [iI_le (by omega) (by omega) (by omega) (by omega)]; omega), ltm_s]; exact ih
theorem ck_heavy (O : OKZ T mo ct) (C : CY I 1 T mo ct) : fL_areHeaviest I = some (1, I) := by
  have g0 := (O.1.1 0 (by omega)).1.1
  have g1 := (O.1.1 1 (by omega)).1.1
  have g2 := (O.1.1 2 (by omega)).1.1
  have n1 := q_hvN C (z := ((cnt (T 0) + cnt (T 1) + cnt (T 2) : Nat) : Int)) (by omega) (by omega) (by omega) (Or.inr (Int.le_refl _))
  have n2 : fX4_heaviest (-1) I = some (iI (-11), I) := by
    rw [l_m1]
    exact q_hvN C (z := -1) (by omega) (by omega) (by omega) (Or.inl (by omega))
  rw [fL_areHeaviest, q_a0 C, bd_s, n1, bd_s, if_pos (show iI (-11) = -11 from rfl), n2, bd_s, if_pos (show iI (-11) = -11 from rfl), fL_areHeaviest_p31]
  exact hv_p34 O C rfl 200 1 1000 (by omega) (by omega) (by omega) (by omega)
theorem cy_fr {J : Mm} (C : CY I 1 T mo ct) (f : ∀ a j, a ≠ 32 → a ≠ 33 → J a j = I a j) : CY J 1 T mo ct := cy_of C (fun a j _ _ => f a j (by omega) (by omega))
theorem ft_step (O : OKZ T mo ct) (C : CY I 1 T mo ct) {i : Nat} (hi : i < 3) (n : Nat) (a b : Int) : ∃ J, fL_isFit_p28 (n + 1) 1 (iI a) (iI b) (iI i) I = fL_isFit_p28 n 1 (iI (a + cnt (T i))) (iI (b + ldS (T i))) (iI ((i + 1 : Nat) : Int)) J ∧ ∀ a j, a ≠ 32 → a ≠ 33 → J a j = I a j := by
  obtain ⟨lim, _, Q⟩ := rq_ex O C hi
  obtain ⟨J, e, f⟩ := ck_rick Q
  have QJ := rq_fr Q f
  have c1 : fL_areCarts (iI i) 99 J = some (1, J) := ck_carts QJ (b := 99) (by omega)
  have c2 : fL_areCarts (iI i) 300 J = some (1, J) := ck_carts QJ (b := 300) (by omega)
  refine ⟨J, ?_, f⟩
  rw [fL_isFit_p28, if_neg (by decide), if_neg (by rw [l_3, iI_le (by omega) (by omega) (by omega) (by omega)]; omega), q_r0 Q, bd_s, iI_add, ltm_s, q_r1 Q, bd_s, iI_add, ltm_s, e, bd_s, if_neg (by decide), c1, bd_s, if_neg (by decide), c2, bd_s, if_neg (by decide), show iI (i : Int) + 1 = iI ((i + 1 : Nat) : Int) by rw [l_1, iI_add]; rfl, ltm_s]
theorem ck_fit (O : OKZ T mo ct) (C : CY I 1 T mo ct) : ∃ J, fL_isFit I = some (1, J) ∧ ∀ a j, a ≠ 32 → a ≠ 33 → J a j = I a j := by
  obtain ⟨J1, e1, f1⟩ := ft_step O C (i := 0) (by omega) 999 0 0
  have C1 := cy_fr C f1
  obtain ⟨J2, e2, f2⟩ := ft_step O C1 (i := 1) (by omega) 998 (0 + cnt (T 0)) (0 + ldS (T 0))
  have C2 := cy_fr C1 f2
  obtain ⟨J3, e3, f3⟩ := ft_step O C2 (i := 2) (by omega) 997 (0 + cnt (T 0) + cnt (T 1)) (0 + ldS (T 0) + ldS (T 1))
  have C3 := cy_fr C2 f3
  obtain ⟨k2, k3, -⟩ := q_ak C3
  refine ⟨J3, ?_, fun a j x y => by rw [f3 a j x y, f2 a j x y, f1 a j x y]⟩
  rw [fL_isFit, q_bal O C, bd_s, if_pos rfl, ck_heavy O C, bd_s, if_neg (by decide), fL_isFit_p20]
  refine (show fL_isFit_p28 1000 1 0 0 0 I = _ from e1).trans ((show fL_isFit_p28 999 1 _ _ _ J1 = _ from e2).trans ((show fL_isFit_p28 998 1 _ _ _ J2 = _ from e3).trans ?_))
  rw [fL_isFit_p28, if_neg (by decide), if_pos (by decide), fL_isFit_p102, if_neg (by decide), q_a0 C3, bd_s, if_pos (by congr 1; omega), q_a1 O C3, bd_s, if_pos (by congr 1; omega), k2, bd_s, k3, bd_s, O.1.2.2, if_pos (by congr 1; omega)]
/-! a digest is told by what the object holds -/
theorem dg_p65 (O : OKZ T mo ct) {i : Nat} (hi : i < 3) : ∀ (k p n : Nat) (x : Int64), p + k = cnt (T i) → k < n → ∃ y : Int64, ∀ I, CY I 1 T mo ct → fL_digest_p65 n x (iI i) (iI p) I = some (y, I)
  | 0, p, n, x, hp, hn => by
    have g := (O.1.1 i hi).1.1
    obtain ⟨n, rfl⟩ : ∃ y, n = y + 1 := ⟨n - 1, by omega⟩
    refine ⟨x, fun I C => ?_⟩
    obtain ⟨lim, _, Q⟩ := rq_ex O C hi
    rw [fL_digest_p65, q_r0 Q, bd_s, if_pos (by rw [iI_le (by omega) (by omega) (by omega) (by omega)]; omega)]
  | k + 1, p, n, x, hp, hn => by
    have g := (O.1.1 i hi).1.1
    obtain ⟨n, rfl⟩ : ∃ y, n = y + 1 := ⟨n - 1, by omega⟩
    obtain ⟨y, h⟩ := dg_p65 O hi k (p + 1) n (31 * (31 * x + (iI (gw (T i) p)).toInt64) + (iI (gl (T i) p)).toInt64) (by omega) (by omega)
    refine ⟨y, fun I C => ?_⟩
    obtain ⟨lim, _, Q⟩ := rq_ex O C hi
    rw [fL_digest_p65, q_r0 Q, bd_s, if_neg (by rw [iI_le (by omega) (by omega) (by omega) (by omega)]; omega), q_atp Q (by omega), bd_s, q_s0 Q (by omega), bd_s, ltm_s, show iI (p : Int) + 1 = iI ((p + 1 : Nat) : Int) by rw [l_1, iI_add]; rfl, ltm_s]
    exact h I C
theorem dg_p33 (O : OKZ T mo ct) : ∀ (k i n : Nat) (x : Int64), i + k = 3 → k < n → ∃ y : Int64, ∀ I, CY I 1 T mo ct → fL_digest_p33 n x (iI i) I = some (y, I)
  | 0, i, n, x, hi, hn => by
    obtain ⟨n, rfl⟩ : ∃ y, n = y + 1 := ⟨n - 1, by omega⟩
    refine ⟨x, fun I C => ?_⟩
    rw [fL_digest_p33, if_pos (by rw [l_3, iI_le (by omega) (by omega) (by omega) (by omega)]; omega)]
  | k + 1, i, n, x, hi, hn => by
    have hi3 : i < 3 := by omega
    have g := (O.1.1 i hi3).1.1
    obtain ⟨n, rfl⟩ : ∃ y, n = y + 1 := ⟨n - 1, by omega⟩
    obtain ⟨y, h⟩ := dg_p65 O hi3 (cnt (T i)) 0 1000 (31 * (31 * x + shT (T i) 0) + (iI (mo i)).toInt64) (by omega) (by omega)
    obtain ⟨z, h2⟩ := dg_p33 O k (i + 1) n y (by omega) (by omega)
    refine ⟨z, fun I C => ?_⟩
    obtain ⟨lim, _, Q⟩ := rq_ex O C hi3
    rw [fL_digest_p33, if_neg (by rw [l_3, iI_le (by omega) (by omega) (by omega) (by omega)]; omega), q_shape Q, bd_s, q_r5 Q, bd_s, ltm_s, show fL_digest_p65 1000 _ (iI i) 0 I = _ from h I C, bd_s, show iI (i : Int) + 1 = iI ((i + 1 : Nat) : Int) by rw [l_1, iI_add]; rfl, ltm_s]
    exact h2 I C
theorem acc_u (O : OKZ T mo ct) {k : Nat} (hk : k < 9) : ∃ v : Int32, ∀ I, CY I 1 T mo ct → fX4_account (iI k) I = some (v, I) := by
  match k, hk with
  | 0, _ => exact ⟨_, fun I C => q_a0 C⟩
  | 1, _ => exact ⟨_, fun I C => q_a1 O C⟩
  | 2, _ => exact ⟨_, fun I C => (q_ak C).1⟩
  | 3, _ => exact ⟨_, fun I C => (q_ak C).2.1⟩
  | 4, _ => exact ⟨_, fun I C => (q_ak C).2.2.1⟩
  | 5, _ => exact ⟨_, fun I C => (q_ak C).2.2.2.1⟩
  | 6, _ => exact ⟨_, fun I C => (q_ak C).2.2.2.2.1⟩
  | 7, _ => exact ⟨_, fun I C => (q_ak C).2.2.2.2.2.1⟩
  | 8, _ => exact ⟨_, fun I C => (q_ak C).2.2.2.2.2.2⟩
theorem dg_p6 (O : OKZ T mo ct) : ∀ (k j n : Nat) (x : Int64), j + k = 9 → k < n → ∃ y : Int64, ∀ I, CY I 1 T mo ct → fL_digest_p6 n x (iI j) I = some (y, I)
  | 0, j, n, x, hj, hn => by
    obtain ⟨n, rfl⟩ : ∃ y, n = y + 1 := ⟨n - 1, by omega⟩
    obtain ⟨y, h⟩ := dg_p33 O 3 0 1000 x (by omega) (by omega)
    refine ⟨y, fun I C => ?_⟩
    rw [fL_digest_p6, if_pos (by rw [l_9, iI_le (by omega) (by omega) (by omega) (by omega)]; omega)]
    exact h I C
  | k + 1, j, n, x, hj, hn => by
    obtain ⟨n, rfl⟩ : ∃ y, n = y + 1 := ⟨n - 1, by omega⟩
    obtain ⟨v, hv⟩ := acc_u O (k := j) (by omega)
    obtain ⟨y, h⟩ := dg_p6 O k (j + 1) n (31 * x + v.toInt64) (by omega) (by omega)
    refine ⟨y, fun I C => ?_⟩
    rw [fL_digest_p6, if_neg (by rw [l_9, iI_le (by omega) (by omega) (by omega) (by omega)]; omega), hv I C, bd_s, ltm_s, show iI (j : Int) + 1 = iI ((j + 1 : Nat) : Int) by rw [l_1, iI_add]; rfl, ltm_s]
    exact h I C
theorem dg_all (O : OKZ T mo ct) : ∃ y : Int64, ∀ I, CY I 1 T mo ct → fL_digest I = some (y, I) := dg_p6 O 9 0 1000 7 (by omega) (by omega)
end FIT
section PUT1
variable {I : Mm} {Y : Yst} {ps : List Yst} {sv : Option Yst}
theorem g_fit (V : INV I Y ps sv) : ∃ J, fL_isFit I = some (1, J) ∧ INV J Y ps sv := by
  obtain ⟨J, e, f⟩ := ck_fit V.1 V.2.1
  exact ⟨J, e, inv_of V (fun j hj => f _ _ (by omega) (by omega)) (fun a j _ _ => f _ _ (by omega) (by omega)) (fun a j _ _ => f _ _ (by omega) (by omega)) (f _ _ (by omega) (by omega))⟩
/-- a put is taken back -/
theorem g_isPut (V : INV I Y ps sv) {i : Nat} (hi : i < 3) {w : Int} (w1 : -2147483648 ≤ w) (w2 : w < 2147483648) : ∃ J ps', fL_isPut (iI i) (iI w) I = some (1, J) ∧ INV J Y ps' sv := by
  obtain ⟨D, hD⟩ := dg_all V.1
  obtain ⟨lim, hl, Q⟩ := rq_ex V.1 V.2.1 hi
  obtain ⟨-, -, a4, -, a6, -, -⟩ := q_ak V.2.1
  have g := (V.1.1.1 i hi).1.1
  obtain ⟨v, J, Y', ps', e, V', h⟩ := call_op (cF := fX4_putNow (iI i) (iI w) (iI 7)) (N := tr1) (PP := fun T ct => PutP T ct i w 7) (fun I T mo ct O C => k_put_i O C hi w1 w2 (by omega) (by omega)) V
  have ep : fX4_put (iI i) (iI w) 7 I = some (v, J) := e
  rw [fL_isPut, hD I V.2.1, bd_s, q_r0 Q, bd_s, a4, bd_s, a6, bd_s, ep, bd_s]
  rcases h with ⟨hv, _, rfl, rfl⟩ | ⟨hv, rfl, hP⟩
  · have nv : ¬ 0 ≤ v := by rw [Int32.le_iff_toInt_le]; rw [Int32.lt_iff_toInt_lt] at hv; omega
    refine ⟨J, ps', ?_, V'⟩
    rw [if_neg nv, hD J V'.2.1, bd_s, if_pos (lg_self D)]
  · obtain ⟨p1, p0, p3, p5, p6, p, hp, pw, pl, pd⟩ := hP
    obtain ⟨lim', hl', Q'⟩ := rq_ex V'.1 V'.2.1 hi
    obtain ⟨-, -, b4, -, b6, -, -⟩ := q_ak V'.2.1
    have hll : lim' = lim := by
      rw [p0, hl] at hl'
      have x1 := Q.2.2.2.2.1
      have x2 := Q'.2.2.2.2.1
      rw [iI_eq (by omega) (by omega) (by omega) (by omega)] at hl'
      exact hl'.symm
    subst hll
    have s0 := q_s0 Q' hp
    have s1 := q_s1 Q' hp
    rw [pw] at s0 s1
    rw [pl] at s0
    have r0 := q_r0 Q'
    rw [p1] at r0
    have r4 := q_r4 Q'
    rw [p1] at r4
    have gd0 := gd_lt _ _ hp
    have g' := (V'.1.1.1 i hi).1.1
    have mr := @mh_rng lim' Q.2.2.2.2.1 30 (((cnt (Y.1 i) + 1 : Nat) : Int) * lim' / 100)
    -- the undo
    have tk : (Y :: ps).take 8 = Y :: ps.take 7 := rfl
    rw [tk] at V'
    obtain ⟨J2, u1, u2⟩ := g_undo1 V'
    have ln : (ps.take 7).length ≤ 7 := by rw [List.length_take]; omega
    have fin : ∀ I', I' = J → fL_isPut_p158 D I' = some (1, J2) := fun I' hI => by
      subst hI
      rw [fL_isPut_p158, fL_isPut_p163, if_neg (by decide), u1, bd_s, if_neg (by rw [l_0, iI_lt (by omega) (by omega) (by omega) (by omega)]; omega), hD J2 u2.2.1, bd_s, if_pos (lg_self D)]
    have p100 : ∀ s2 : Int32, s2 = (if v ≤ 0 then 0 else 1) → fL_isPut_p100 (iI i) (iI w) D (iI (cnt (Y.1 i))) (Y.2.2 5) v (Y'.2.2 3) (Y.2.2 3) s2 J = some (1, J2) := fun s2 hs => by
      have nlt : ¬ (iI (cnt (Y.1 i)) + 1 < v) := by
        rw [l_1, iI_add, show (cnt (Y.1 i) : Int) + 1 = ((cnt (Y.1 i) + 1 : Nat) : Int) by omega]
        rw [Int32.lt_iff_toInt_lt]; rw [Int32.le_iff_toInt_le] at p6; omega
      rw [fL_isPut_p100, if_pos (by rw [hs]; exact p3), b6, bd_s, if_pos p5, if_neg nlt]
      by_cases c : v ≤ 0
      · have nc : ¬ 0 < v := by rw [Int32.lt_iff_toInt_lt]; rw [Int32.le_iff_toInt_le] at c; omega
        have dd := pd c lim' hl (by have := Q.2.2.2.2.1; omega) (by have := Q.2.2.2.2.1; omega)
        rw [if_neg nc, s1, bd_s, r4, bd_s, if_pos (by rw [iI_le (by omega) (by omega) (by omega) (by omega)]; exact dd)]
        exact fin J rfl
      · have nc : 0 < v := by rw [Int32.lt_iff_toInt_lt]; rw [Int32.le_iff_toInt_le] at c; omega
        rw [if_pos nc]
        exact fin J rfl
    refine ⟨J2, ps.take 7, ?_, u2⟩
    rw [if_pos hv, r0, bd_s, if_pos (by rw [l_1, iI_add]; rfl), s0, bd_s, if_pos (show iI 7 = 7 from rfl), b4, bd_s]
    by_cases c : v ≤ 0
    · rw [if_pos c]; exact p100 0 (by rw [if_pos c])
    · rw [if_neg c]; exact p100 1 (by rw [if_neg c])
end PUT1
