/-! ===== texts that are written and run ===== -/
theorem tx_len : ∀ t, t < 20 → txL.getD t 0 ≤ 16 := by decide +kernel
theorem tx_rng : ∀ t, t < 20 → ∀ k, k < txL.getD t 0 → 32 ≤ (tchr t k).toInt ∧ (tchr t k).toInt ≤ 126 := by decide +kernel
abbrev txC (t : Nat) : Nat → Int := fun k => (tchr t k).toInt
theorem tx_read : ∀ t, t < 20 → (paS_ (txC t) (txL.getD t 0) 21 0).1 = false := by decide +kernel
theorem tx_none : paS_ (fun _ => 0) 0 21 0 = (true, 0, 0) := by decide +kernel
/-- the first characters are written -/
def WrT (t k : Nat) (I J : Mm) : Prop := J 30 1 = iI k ∧ (∀ j, j < k → J 31 j = tchr t j) ∧ ∀ a j, (a ≠ 30 ∨ j ≠ 1) → a ≠ 31 → J a j = I a j
theorem w_p2 {t : Nat} (ht : t < 20) {I : Mm} : ∀ (r k n : Nat) (J : Mm), k + r = txL.getD t 0 → r < n → WrT t k I J → ∃ J', fL_write_p2 n t (iI k) J = some ((), J') ∧ WrT t (txL.getD t 0) I J'
  | 0, k, n, J, hk, hn, W => by
    have l := tx_len t ht
    obtain ⟨n, rfl⟩ : ∃ y, n = y + 1 := ⟨n - 1, by omega⟩
    obtain rfl : k = txL.getD t 0 := by omega
    refine ⟨J, ?_, W⟩
    rw [fL_write_p2, show tlen t = iI (txL.getD t 0 : Nat) from rfl, if_pos (Int32.le_refl _)]
  | r + 1, k, n, J, hk, hn, W => by
    have l := tx_len t ht
    have rg := tx_rng t ht k (by omega)
    obtain ⟨n, rfl⟩ : ∃ y, n = y + 1 := ⟨n - 1, by omega⟩
    obtain ⟨a, b, c⟩ := W
    have ap : fX4_append (tchr t k) J = some (iI ((k + 1 : Nat) : Int), wr (wr J 31 k (tchr t k)) 30 1 (iI ((k + 1 : Nat) : Int))) := by
      have e := iI_of (tchr t k)
      generalize (tchr t k).toInt = z at e rg
      rw [e]
      unfold fX4_append
      rw [show (32 : Int32) = iI 32 from rfl, show (126 : Int32) = iI 126 from rfl, c_add a (by omega), if_neg (by rw [iI_lt (by omega) (by omega) (by omega) (by omega)]; omega), if_pos (by rw [iI_le (by omega) (by omega) (by omega) (by omega)]; omega), if_pos (by omega), bd_s, if_neg (by decide), wr_e, if_pos ⟨rfl, rfl⟩]
    obtain ⟨J', e1, e2⟩ := w_p2 (I := I) ht r (k + 1) n (wr (wr J 31 k (tchr t k)) 30 1 (iI ((k + 1 : Nat) : Int))) (by omega) (by omega) ⟨by rw [wr_e, if_pos ⟨rfl, rfl⟩], fun j hj => by
      rw [wr_e, if_neg (by omega), wr_e]
      by_cases q : j = k
      · rw [if_pos ⟨rfl, q⟩, q]
      · rw [if_neg (by omega)]; exact b j (by omega), fun x j h1 h2 => by rw [wr_e, if_neg (by omega), wr_e, if_neg (by omega)]; exact c x j h1 h2⟩
    refine ⟨J', ?_, e2⟩
    rw [fL_write_p2, show tlen t = iI (txL.getD t 0 : Nat) from rfl, if_neg (by rw [iI_le (by omega) (by omega) (by omega) (by omega)]; omega), iI_cl (by omega) (by omega), tn_n, if_neg (by rw [l_0, iI_lt (by omega) (by omega) (by omega) (by omega)]; omega), ap, bd_s, show iI (k : Int) + 1 = iI ((k + 1 : Nat) : Int) by rw [l_1, iI_add]; rfl, ltm_s]
    exact e1
theorem w_all {t : Nat} (ht : t < 20) {I : Mm} (h : I 30 1 = iI 0) : ∃ J, fL_write t I = some ((), J) ∧ WrT t (txL.getD t 0) I J := by
  have l := tx_len t ht
  exact w_p2 ht (txL.getD t 0) 0 1000 I (by omega) (by omega) ⟨h, fun j hj => by omega, fun _ _ _ _ => rfl⟩
section RUNC
variable {T : Nat → Tr} {mo : Nat → Nat} {ct : Nat → Int32} {A : Mm}
theorem k_congr {cF cG : Mm → Option (Int32 × Mm)} {N : Int32 → Prop} {P : Int32 → (Nat → Tr) → (Nat → Nat) → (Nat → Int32) → Prop} (h : cF A = cG A) (K : KOp A cG T mo ct N P) : KOp A cF T mo ct N P := by
  unfold KOp at K ⊢
  rw [h]; exact K
theorem k_carry (O : OKZ T mo ct) (C : CY A 1 T mo ct) {q : Nat} (hq : q < 20) : KOp A (fX4_carryOut (iI q)) T mo ct tr1 tru := by
  have n0 : fX0_numberOf (iI q) 0 A = some (A 36 (3 * q + 0), A) := c_nOf (A := A) hq (w := 0) (by omega)
  have n1 : fX0_numberOf (iI q) 1 A = some (A 36 (3 * q + 1), A) := c_nOf (A := A) hq (w := 1) (by omega)
  have n2 : fX0_numberOf (iI q) 2 A = some (A 36 (3 * q + 2), A) := c_nOf (A := A) hq (w := 2) (by omega)
  have cc : fX4_carryOut (iI q) A = (if A 35 q = 43 then bd (fX4_putNow (A 36 (3 * q + 0)) (A 36 (3 * q + 1)) (A 36 (3 * q + 2)) A) fun r5 I5 => some (r5, I5) else (if A 35 q = 45 then bd (fX4_takeNow (A 36 (3 * q + 0)) (A 36 (3 * q + 1)) A) fun r4 I4 => some (r4, I4) else (if A 35 q = 61 then bd (fX4_buildNow (A 36 (3 * q + 0)) A) fun r4 I4 => some (r4, I4) else (if A 35 q = 62 then bd (fX4_pourNow (A 36 (3 * q + 0)) (A 36 (3 * q + 1)) A) fun r4 I4 => some (r4, I4) else bd (fX4_limitNow (A 36 (3 * q + 0)) A) fun r4 I4 => some (r4, I4))))) := by
    rw [fX4_carryOut, n0, bd_s, n1, bd_s, c_sOf hq, bd_s, n2, bd_s]
  by_cases a : A 35 q = 43
  · rw [if_pos a, bd_id] at cc; exact k_congr cc (k_put O C _ _ _)
  rw [if_neg a] at cc
  by_cases b : A 35 q = 45
  · rw [if_pos b, bd_id] at cc; exact k_congr cc (k_take O C _ _)
  rw [if_neg b] at cc
  by_cases d : A 35 q = 61
  · rw [if_pos d, bd_id] at cc
    rcases k_build O C (A 36 (3 * q + 0)) with ⟨v, rs, J, h1, _, h2⟩ | h
    · exact k_congr cc (Or.inl ⟨v, rs, J, h1, trivial, h2⟩)
    · exact k_congr cc (Or.inr h)
  rw [if_neg d] at cc
  by_cases e : A 35 q = 62
  · rw [if_pos e, bd_id] at cc; exact k_congr cc (k_pour O C _ _)
  rw [if_neg e, bd_id] at cc
  exact k_congr cc (k_limit O C _)
end RUNC
theorem r_loop {N : Nat} (hN : N ≤ 20) : ∀ (k q m : Nat) (A : Mm) (T : Nat → Tr) (mo : Nat → Nat) (ct : Nat → Int32), q + k = N → k < m → OKZ T mo ct → CY A 1 T mo ct → ∃ J, (∀ a j, 15 ≤ a → J a j = A a j) ∧ (∀ j, j ≠ 9 → j ≠ 10 → J 0 j = A 0 j) ∧ ((∃ T' mo' ct', OKZ T' mo' ct' ∧ CY J 1 T' mo' ct' ∧ fX4_run_p31 m (iI N) (iI q) A = (bd (fX4_keep (iI N) J) fun r1 I1 => some (r1, I1))) ∨ (∃ q' : Nat, q' ≤ 20 ∧ fX4_run_p31 m (iI N) (iI q) A = (bd (fX4_giveBack J) fun r2 I2 => bd (fX4_refuse 6 (iI q') I2) fun r3 I3 => some (r3, I3))))
  | 0, q, m, A, T, mo, ct, hq, hm, O, C => by
    obtain ⟨m, rfl⟩ : ∃ y, m = y + 1 := ⟨m - 1, by omega⟩
    obtain rfl : q = N := by omega
    exact ⟨A, fun _ _ _ => rfl, fun _ _ _ => rfl, Or.inl ⟨T, mo, ct, O, C, by rw [fX4_run_p31, if_pos (Int32.le_refl _)]⟩⟩
  | k + 1, q, m, A, T, mo, ct, hq, hm, O, C => by
    obtain ⟨m, rfl⟩ : ∃ y, m = y + 1 := ⟨m - 1, by omega⟩
    have cr : fX4_run_p31 (m + 1) (iI N) (iI q) A = bd (fX4_carryOut (iI q) A) fun r1 I1 => (if 0 ≤ r1 then ltm (iI q + 1) fun v1 => fX4_run_p31 m (iI N) v1 I1 else bd (fX4_giveBack I1) fun r2 I2 => bd (fX4_refuse 6 (iI q) I2) fun r3 I3 => some (r3, I3)) := by
      rw [fX4_run_p31, if_neg (by rw [iI_le (by omega) (by omega) (by omega) (by omega)]; omega), if_neg (by rw [l_20, iI_le (by omega) (by omega) (by omega) (by omega)]; omega)]
    have q1 : iI (q : Int) + 1 = iI ((q + 1 : Nat) : Int) := by rw [l_1, iI_add]; rfl
    rcases k_carry O C (q := q) (by omega) with ⟨v, rs, J, hv, _, e, y1, y2, y3, y4, y5⟩ | ⟨v, T', mo', ct', J, hv, O', e, ⟨y1, y2, y3, y4, y5⟩, _⟩
    · have nv : ¬ 0 ≤ v := by rw [Int32.le_iff_toInt_le]; rw [Int32.lt_iff_toInt_lt] at hv; omega
      exact ⟨J, y2, y3, Or.inr ⟨q, by omega, by rw [cr, e, bd_s, if_neg nv]⟩⟩
    · obtain ⟨J', f1, f2, f3⟩ := r_loop hN k (q + 1) m J T' mo' ct' (by omega) (by omega) O' y1
      have hc : fX4_run_p31 (m + 1) (iI N) (iI q) A = fX4_run_p31 m (iI N) (iI ((q + 1 : Nat) : Int)) J := by
        rw [cr, e, bd_s, if_pos hv, ltm_s, q1]
      refine ⟨J', fun a j x => by rw [f1 a j x, y2 a j x], fun j x y => by rw [f2 j x y, y3 j x y], ?_⟩
      rw [hc]; exact f3
section RUND
variable {I : Mm} {Y : Yst} {ps : List Yst} {sv : Option Yst}
/-- a text of the law's, written and run -/
theorem g_text (V : INV I Y ps sv) {t : Nat} (ht : t < 20) : ∃ (I1 : Mm) (v : Int32) (J : Mm) (Y' : Yst) (ps' : List Yst), fL_write t I = some ((), I1) ∧ fX4_run I1 = some (v, J) ∧ INV J Y' ps' sv ∧ ((v < 0 ∧ Y' = Y ∧ ps' = ps ∧ J 0 9 = 6 ∧ ∃ q : Nat, q ≤ 20 ∧ J 0 10 = iI q) ∨ (0 ≤ v ∧ ps' = (Y :: ps).take 8)) := by
  obtain ⟨O, C, ⟨nx, p1, p2, p3, p4, p5⟩, S, t0⟩ := id V
  obtain ⟨I1, ew, w1, w2, w3⟩ := w_all ht t0
  have l := tx_len t ht
  have g : GC (txC t) (txL.getD t 0) := ⟨by omega, fun k hk => tx_rng t ht k hk⟩
  have tc : TC (txC t) (txL.getD t 0) I1 := ⟨w1, fun k hk => by rw [w2 k hk]; exact iI_of _⟩
  obtain ⟨J1, e1, f1, r1⟩ := c_read g tc
  have rd := tx_read t ht
  obtain ⟨hN, -⟩ := r1 rd
  rw [if_neg (by rw [rd]; decide)] at e1
  generalize (paS_ (txC t) (txL.getD t 0) 21 0).2.2 = N at e1 hN
  generalize hJ2 : wr J1 30 1 0 = J2
  have j21 : ∀ a j, (a ≠ 30 ∨ j ≠ 1) → J2 a j = J1 a j := fun a j x => by rw [← hJ2, wr_e, if_neg (by omega)]
  have j2 : ∀ a j, (a < 34 ∨ 36 < a) → (a ≠ 30 ∨ j ≠ 1) → a ≠ 31 → J2 a j = I a j := fun a j x y z => by rw [j21 a j y, f1 a j x, w3 a j y z]
  have j30 : J2 30 1 = iI 0 := by rw [← hJ2, wr_e, if_pos ⟨rfl, rfl⟩]; rfl
  have C2 : CY J2 1 Y.1 Y.2.1 Y.2.2 := cy_of C (fun a j _ _ => j2 a j (by omega) (by omega) (by omega))
  obtain ⟨J3, e3, cp, f3⟩ := c_hold p1 (by rw [j2 _ _ (by omega) (by omega) (by omega), p3]) O.1 C2
  have C3 : CY J3 1 Y.1 Y.2.1 Y.2.2 := cy_of C2 (fun a j _ _ => f3 a j (by omega))
  have j3 : ∀ a j, (a < 34 ∨ 36 < a) → (a ≠ 30 ∨ j ≠ 1) → a ≠ 31 → (a < 37 + 14 * nx ∨ 37 + 14 * nx + 13 < a) → J3 a j = I a j := fun a j x y z w => by rw [f3 a j w, j2 a j x y z]
  have j330 : J3 30 1 = iI 0 := by rw [f3 _ _ (by omega), j30]
  have crun : fX4_run I1 = fX4_run_p31 1000 (iI N) (iI ((0 : Nat) : Int)) J3 := by
    rw [fX4_run, e1, bd_s, fX2_clear, ltm_s, bd_s, hJ2, if_pos (by rw [l_0, iI_le (by omega) (by omega) (by omega) (by omega)]; omega), e3, bd_s]; rfl
  obtain ⟨J4, h1, h2, h3⟩ := r_loop hN N 0 1000 J3 Y.1 Y.2.1 Y.2.2 (by omega) (by omega) O C3
  rcases h3 with ⟨T', mo', ct', O', C', e4⟩ | ⟨q, hq, e4⟩
  · have ek := @c_keep1 J4 (iI N) (by rw [l_0, iI_le (by omega) (by omega) (by omega) (by omega)]; omega) nx ps.length p1 p2 (by rw [h2 _ (by omega) (by omega), j3 _ _ (by omega) (by omega) (by omega) (by omega), p3]) (by rw [h2 _ (by omega) (by omega), j3 _ _ (by omega) (by omega) (by omega) (by omega), p4])
    generalize hJ5 : wr (wr J4 0 4 (iI (((nx + 1) % 9 : Nat) : Int))) 0 5 (iI (min (ps.length + 1) 8 : Nat)) = J5 at ek
    have w0 : ∀ a j, (a ≠ 0 ∨ (j ≠ 4 ∧ j ≠ 5)) → J5 a j = J4 a j := fun a j x => by rw [← hJ5, wr_e, if_neg (by omega), wr_e, if_neg (by omega)]
    have w4 : J5 0 4 = iI (((nx + 1) % 9 : Nat) : Int) := by rw [← hJ5, wr_e, if_neg (by omega), wr_e, if_pos ⟨rfl, rfl⟩]
    have w5 : J5 0 5 = iI (min (ps.length + 1) 8 : Nat) := by rw [← hJ5, wr_e, if_pos ⟨rfl, rfl⟩]
    have ln : ((Y :: ps).take 8).length = min (ps.length + 1) 8 := by rw [List.length_take, List.length_cons]; omega
    refine ⟨I1, iI N, J5, (T', mo', ct'), (Y :: ps).take 8, ew, by rw [crun, e4, ek, bd_s], ⟨O', cy_of C' (fun a j x1 x2 => w0 a j (by omega)), ⟨(nx + 1) % 9, by omega, by omega, w4, by rw [w5, ln], fun k Z hk => ?_⟩, svc_of S ?_ (fun a j x1 x2 => ?_), ?_⟩, Or.inr ⟨by rw [l_0, iI_le (by omega) (by omega) (by omega) (by omega)]; omega, rfl⟩⟩
    · have hkl : k < ((Y :: ps).take 8).length := (List.getElem?_eq_some_iff.mp hk).1
      rw [List.getElem?_take, if_pos (by omega)] at hk
      cases k with
      | zero =>
        rw [List.getElem?_cons_zero] at hk
        cases hk
        rw [show ((nx + 1) % 9 + 8 - 0) % 9 = nx by omega]
        exact ⟨O, cy_of cp (fun a j x1 x2 => by rw [w0 a j (by omega), h1 a j (by omega)])⟩
      | succ k =>
        rw [List.getElem?_cons_succ] at hk
        have hq : k < ps.length := (List.getElem?_eq_some_iff.mp hk).1
        rw [show ((nx + 1) % 9 + 8 - (k + 1)) % 9 = (nx + 8 - k) % 9 by omega]
        exact ⟨(p5 k Z hk).1, cy_of (p5 k Z hk).2 (fun a j x1 x2 => by rw [w0 a j (by omega), h1 a j (by omega), j3 a j (by omega) (by omega) (by omega) (by omega)])⟩
    · rw [w0 _ _ (by omega), h2 _ (by omega) (by omega), j3 _ _ (by omega) (by omega) (by omega) (by omega)]
    · rw [w0 a j (by omega), h1 a j (by omega), j3 a j (by omega) (by omega) (by omega) (by omega)]
    · rw [w0 _ _ (by omega), h1 30 1 (by omega), j330]
  · obtain ⟨J5, x1, x2, x3⟩ := @c_give J4 nx p1 (by rw [h2 _ (by omega) (by omega), j3 _ _ (by omega) (by omega) (by omega) (by omega), p3]) Y.1 Y.2.1 Y.2.2 O.1 (cy_of cp (fun a j _ _ => h1 a j (by omega)))
    generalize hJ6 : wr (wr J5 0 9 6) 0 10 (iI q) = J6
    have w0 : ∀ a j, (a ≠ 0 ∨ (j ≠ 9 ∧ j ≠ 10)) → J6 a j = J5 a j := fun a j x => by rw [← hJ6, wr_e, if_neg (by omega), wr_e, if_neg (by omega)]
    have k0 : ∀ j, j ≠ 9 → j ≠ 10 → J6 0 j = I 0 j := fun j a b => by rw [w0 _ _ (by omega), x3 _ _ (by omega), h2 j a b, j3 _ _ (by omega) (by omega) (by omega) (by omega)]
    refine ⟨I1, iI (-14), J6, Y, ps, ew, by rw [crun, e4, x1, bd_s, c_refuse, bd_s, hJ6], ⟨O, cy_of x2 (fun a j y1 y2 => w0 a j (by omega)), ⟨nx, p1, p2, by rw [k0 _ (by omega) (by omega), p3], by rw [k0 _ (by omega) (by omega), p4], fun k Z hk => ⟨(p5 k Z hk).1, cy_of (p5 k Z hk).2 (fun a j y1 y2 => ?_)⟩⟩, svc_of S (k0 _ (by omega) (by omega)) (fun a j y1 y2 => ?_), ?_⟩, Or.inl ⟨by decide, rfl, rfl, ?_, q, hq, ?_⟩⟩
    · have hkl : k < ps.length := (List.getElem?_eq_some_iff.mp hk).1
      rw [w0 a j (by omega), x3 a j (by omega), h1 a j (by omega), j3 a j (by omega) (by omega) (by omega) (by omega)]
    · rw [w0 a j (by omega), x3 a j (by omega), h1 a j (by omega), j3 a j (by omega) (by omega) (by omega) (by omega)]
    · rw [w0 _ _ (by omega), x3 _ _ (by omega), h1 30 1 (by omega), j330]
    · rw [← hJ6, wr_e, if_neg (by omega), wr_e, if_pos ⟨rfl, rfl⟩]
    · rw [← hJ6, wr_e, if_pos ⟨rfl, rfl⟩]
/-- run without a text -/
theorem g_run0 (V : INV I Y ps sv) : ∃ (v : Int32) (J : Mm), fX4_run I = some (v, J) ∧ INV J Y ps sv := by
  have t0 := V.2.2.2.2
  have g : GC (fun _ => 0) 0 := ⟨by omega, fun k hk => by omega⟩
  have tc : TC (fun _ => 0) 0 I := ⟨t0, fun k hk => by omega⟩
  obtain ⟨J1, e1, f1, -⟩ := c_read g tc
  rw [tx_none, if_pos rfl] at e1
  have j2 : ∀ a j, (a < 34 ∨ 36 < a) → (wr J1 30 1 0) a j = I a j := fun a j x => by
    rw [wr_e]
    by_cases c : a = 30 ∧ j = 1
    · rw [if_pos c, c.1, c.2, t0]; rfl
    · rw [if_neg c, f1 a j x]
  refine ⟨_, wr J1 30 1 0, by rw [fX4_run, e1, bd_s, fX2_clear, ltm_s, bd_s, if_neg (by decide)], inv_of V (fun j hj => j2 _ _ (by omega)) (fun a j x1 x2 => j2 _ _ (by omega)) (fun a j x1 x2 => j2 _ _ (by omega)) (j2 _ _ (by omega))⟩
end RUND
