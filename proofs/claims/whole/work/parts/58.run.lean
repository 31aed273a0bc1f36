/-! ===== orders carried out ===== -/
section RUN
variable {c : Nat → Int} {n : Nat}
theorem or_sg (g : GC c n) {p : Nat} (e : (orS c n p).1 = false) : p < n ∧ (c p = 37 ∨ c p = 43 ∨ c p = 45 ∨ c p = 61 ∨ c p = 62) := by
  by_cases h : p < n
  · refine ⟨h, ?_⟩
    by_cases d : c p = 37 ∨ c p = 43 ∨ c p = 45 ∨ c p = 61 ∨ c p = 62
    · exact d
    · rw [or_no g h (by omega) (by omega) (by omega) (by omega) (by omega)] at e
      exact absurd (show true = false from e) (by decide)
  · rw [ord_end h] at e
    exact absurd (show true = false from e) (by decide)
theorem c_nOf {A : Mm} {q w : Nat} (hq : q < 20) (hw : w < 3) : fX0_numberOf (iI q) (iI w) A = some (A 36 (3 * q + w), A) := by
  rw [fX0_numberOf, l_3, l_20, iI_mul, iI_add, ltm_s, if_neg (by rw [l_0, iI_lt (by omega) (by omega) (by omega) (by omega)]; omega), if_neg (by rw [iI_le (by omega) (by omega) (by omega) (by omega)]; omega), if_neg (by rw [l_0, iI_lt (by omega) (by omega) (by omega) (by omega)]; omega), if_neg (by rw [iI_le (by omega) (by omega) (by omega) (by omega)]; omega), iI_cl (by omega) (by omega), if_neg (by rw [l_0, iI_lt (by omega) (by omega) (by omega) (by omega)]; omega), show ((q : Int) * 3 + w).toNat = 3 * q + w by omega]
theorem c_sOf {A : Mm} {q : Nat} (hq : q < 20) : fX0_signOf (iI q) A = some (A 35 q, A) := by
  rw [fX0_signOf, l_20, if_neg (by rw [l_0, iI_lt (by omega) (by omega) (by omega) (by omega)]; omega), if_neg (by rw [iI_le (by omega) (by omega) (by omega) (by omega)]; omega), iI_cl (by omega) (by omega), if_neg (by rw [l_0, iI_lt (by omega) (by omega) (by omega) (by omega)]; omega), tn_n]
theorem vl_43 (p : Nat) : ∃ a b d, vlS c n (lsO 43) p 0 = some a ∧ vlS c n (lsO 43) p 1 = some b ∧ vlS c n (lsO 43) p 2 = some d := by
  rw [show lsO 43 = [(0, 43), (1, 1), (0, 58), (2, 3), (0, 42), (3, 2)] by decide]
  simp [vlS]
theorem vl_45 (p : Nat) : ∃ a b, vlS c n (lsO 45) p 0 = some a ∧ vlS c n (lsO 45) p 1 = some b := by
  rw [show lsO 45 = [(0, 45), (1, 1), (0, 58), (2, 3)] by decide]
  simp [vlS]
theorem vl_61 (p : Nat) : ∃ a, vlS c n (lsO 61) p 0 = some a := by
  rw [show lsO 61 = [(0, 61), (1, 1)] by decide]
  simp [vlS]
theorem vl_62 (p : Nat) : ∃ a b, vlS c n (lsO 62) p 0 = some a ∧ vlS c n (lsO 62) p 1 = some b := by
  rw [show lsO 62 = [(0, 62), (1, 1), (2, 1)] by decide]
  simp [vlS]
theorem vl_37 (p : Nat) : ∃ a, vlS c n (lsO 37) p 0 = some a := by
  rw [show lsO 37 = [(0, 37), (1, 2)] by decide]
  simp [vlS]
/-- one order on both sides -/
theorem carry (g : GC c n) {A K : Mm} {q p : Nat} (hq : q < 20) (e : (orS c n p).1 = false) (ok : OKc c n A q p) (k15 : K 163 15 = iI (c p)) (kv : ∀ w v, w < 3 → vlS c n (lsO (c p)) p w = some v → K 163 (16 + w) = iI v) {T : Nat → Tr} {mo : Nat → Nat} {ct : Nat → Int32} (N : NwS A (K 164) T mo ct) : ∃ cF mF, fX4_carryOut (iI q) A = cF A ∧ fX5_carryOut K = mF K ∧ (OpNo A (K 164) cF mF T mo ct ∨ OpY A (K 164) cF mF) := by
  obtain ⟨hp, sg⟩ := or_sg g e
  have n0 := c_nOf (A := A) hq (w := 0) (by omega)
  have n1 := c_nOf (A := A) hq (w := 1) (by omega)
  have n2 := c_nOf (A := A) hq (w := 2) (by omega)
  have cc : fX4_carryOut (iI q) A = (if A 35 q = 43 then bd (fX0_numberOf (iI q) 2 A) fun r4 I4 => bd (fX4_putNow (A 36 (3 * q + 0)) (A 36 (3 * q + 1)) r4 I4) fun r5 I5 => some (r5, I5) else (if A 35 q = 45 then bd (fX4_takeNow (A 36 (3 * q + 0)) (A 36 (3 * q + 1)) A) fun r4 I4 => some (r4, I4) else (if A 35 q = 61 then bd (fX4_buildNow (A 36 (3 * q + 0)) A) fun r4 I4 => some (r4, I4) else (if A 35 q = 62 then bd (fX4_pourNow (A 36 (3 * q + 0)) (A 36 (3 * q + 1)) A) fun r4 I4 => some (r4, I4) else bd (fX4_limitNow (A 36 (3 * q + 0)) A) fun r4 I4 => some (r4, I4))))) := by
    rw [fX4_carryOut]
    rw [show fX0_numberOf (iI q) 0 A = _ from n0, bd_s, show fX0_numberOf (iI q) 1 A = _ from n1, bd_s, c_sOf hq, bd_s]
  rw [cc, fX5_carryOut, ok.1, k15]
  rcases sg with s | s | s | s | s
  · obtain ⟨a, va⟩ := vl_37 (c := c) (n := n) p
    unfold OKc at ok
    rw [s] at ok kv
    have a1 := ok.2 0 a (by omega) va
    have a2 := kv 0 a (by omega) va
    rw [s, if_neg (by decide), if_neg (by decide), if_neg (by decide), if_neg (by decide), if_neg (by decide), if_neg (by decide), if_neg (by decide), if_neg (by decide), a1, show K 163 16 = iI a from a2, bd_id, bd_id]
    exact ⟨_, _, rfl, rfl, op_e (op_limit N (iI a))⟩
  · obtain ⟨a, b, d, va, vb, vd⟩ := vl_43 (c := c) (n := n) p
    unfold OKc at ok
    rw [s] at ok kv
    have a1 := ok.2 0 a (by omega) va
    have a2 := kv 0 a (by omega) va
    have b1 := ok.2 1 b (by omega) vb
    have b2 := kv 1 b (by omega) vb
    have d1 := ok.2 2 d (by omega) vd
    have d2 := kv 2 d (by omega) vd
    rw [s, if_pos (by decide), if_pos (by decide), show fX0_numberOf (iI q) 2 A = _ from n2, bd_s, a1, b1, d1, show K 163 16 = iI a from a2, show K 163 17 = iI b from b2, show K 163 18 = iI d from d2, bd_id, bd_id]
    exact ⟨_, _, rfl, rfl, op_e (op_put N (iI a) (iI b) (iI d))⟩
  · obtain ⟨a, b, va, vb⟩ := vl_45 (c := c) (n := n) p
    unfold OKc at ok
    rw [s] at ok kv
    have a1 := ok.2 0 a (by omega) va
    have a2 := kv 0 a (by omega) va
    have b1 := ok.2 1 b (by omega) vb
    have b2 := kv 1 b (by omega) vb
    rw [s, if_neg (by decide), if_pos (by decide), if_neg (by decide), if_pos (by decide), a1, b1, show K 163 16 = iI a from a2, show K 163 17 = iI b from b2, bd_id, bd_id]
    exact ⟨_, _, rfl, rfl, op_e (op_take N (iI a) (iI b))⟩
  · obtain ⟨a, va⟩ := vl_61 (c := c) (n := n) p
    unfold OKc at ok
    rw [s] at ok kv
    have a1 := ok.2 0 a (by omega) va
    have a2 := kv 0 a (by omega) va
    rw [s, if_neg (by decide), if_neg (by decide), if_pos (by decide), if_neg (by decide), if_neg (by decide), if_pos (by decide), a1, show K 163 16 = iI a from a2, bd_id, bd_id]
    exact ⟨_, _, rfl, rfl, op_e (op_build N (iI a))⟩
  · obtain ⟨a, b, va, vb⟩ := vl_62 (c := c) (n := n) p
    unfold OKc at ok
    rw [s] at ok kv
    have a1 := ok.2 0 a (by omega) va
    have a2 := kv 0 a (by omega) va
    have b1 := ok.2 1 b (by omega) vb
    have b2 := kv 1 b (by omega) vb
    rw [s, if_neg (by decide), if_neg (by decide), if_neg (by decide), if_pos (by decide), if_neg (by decide), if_neg (by decide), if_neg (by decide), if_pos (by decide), a1, b1, show K 163 16 = iI a from a2, show K 163 17 = iI b from b2, bd_id, bd_id]
    exact ⟨_, _, rfl, rfl, op_pour N (iI a) (iI b)⟩
def Fk (K L : Mm) : Prop := ∀ a j, a ≠ 164 → a ≠ 176 → a ≠ 177 → (a = 163 → j ≠ 5 ∧ j ≠ 6 ∧ j ≠ 10 ∧ (j < 14 ∨ 19 < j)) → L a j = K a j
theorem fk_tr {A B C : Mm} (h : Fk A B) (h2 : Fk B C) : Fk A C := fun a j x y z w => (h2 a j x y z w).trans (h a j x y z w)
theorem run_loop (g : GC c n) {N : Nat} (hN : N ≤ 20) : ∀ (k q m m2 : Nat) (A K : Mm) (T : Nat → Tr) (mo : Nat → Nat) (ct : Nat → Int32) (ans : Int32), q + k = N → k + 1 < m → k + 1 < m2 → (∀ x, x < N → (orS c n (poF c n x)).1 = false ∧ OKc c n A x (poF c n x)) → OKY T mo ct → CY A 1 T mo ct → MY (K 164) T mo ct → (q < N → MS c n K (false, poF c n q)) → K 163 8 = 1 → 0 ≤ ans →
    ∃ J L, (∀ a j, 15 ≤ a → J a j = A a j) ∧ (∀ j, j ≠ 9 → j ≠ 10 → J 0 j = A 0 j) ∧ Fk K L ∧
      ((∃ T' mo' ct' v, 0 ≤ v ∧ OKY T' mo' ct' ∧ CY J 1 T' mo' ct' ∧ MY (L 164) T' mo' ct' ∧ J 0 9 = A 0 9 ∧ J 0 10 = A 0 10 ∧ L 163 5 = K 163 5 ∧ L 163 6 = K 163 6 ∧ fX4_run_p31 m (iI N) (iI q) A = (bd (fX4_keep (iI N) J) fun r1 I1 => some (r1, I1)) ∧ fX5_run_p51 m2 (iI N) ans (iI q) K = fX5_run_p102 (iI N) v L) ∨
       (∃ (q' : Nat) (v : Int32), v < 0 ∧ L 163 5 = 6 ∧ L 163 6 = iI q' ∧ fX4_run_p31 m (iI N) (iI q) A = (bd (fX4_giveBack J) fun r2 I2 => bd (fX4_refuse 6 (iI q') I2) fun r3 I3 => some (r3, I3)) ∧ fX5_run_p51 m2 (iI N) ans (iI q) K = fX5_run_p102 (iI N) v L))
  | 0, q, m, m2, A, K, T, mo, ct, ans, hq, hm, hm2, ok, O, C, M, ms, k8, h0 => by
    obtain ⟨m, rfl⟩ : ∃ y, m = y + 1 := ⟨m - 1, by omega⟩
    obtain ⟨m2, rfl⟩ : ∃ y, m2 = y + 1 := ⟨m2 - 1, by omega⟩
    obtain rfl : q = N := by omega
    refine ⟨A, K, fun _ _ _ => rfl, fun _ _ _ => rfl, fun _ _ _ _ _ _ => rfl, Or.inl ⟨T, mo, ct, ans, h0, O, C, M, rfl, rfl, rfl, rfl, ?_, ?_⟩⟩
    · rw [fX4_run_p31, if_pos (by rw [iI_le (by omega) (by omega) (by omega) (by omega)]; omega)]
    · rw [fX5_run_p51, if_pos (by rw [iI_le (by omega) (by omega) (by omega) (by omega)]; omega)]
  | k + 1, q, m, m2, A, K, T, mo, ct, ans, hq, hm, hm2, ok, O, C, M, ms, k8, h0 => by
    obtain ⟨m, rfl⟩ : ∃ y, m = y + 1 := ⟨m - 1, by omega⟩
    obtain ⟨m2, rfl⟩ : ∃ y, m2 = y + 1 := ⟨m2 - 1, by omega⟩
    have g1 := g.1
    obtain ⟨ok1, ok2⟩ := ok q (by omega)
    have sg := or_sg g ok1
    obtain ⟨K1, r1, r2, r3, r4⟩ := m_order g (ms (by omega)) (show poF c n q ≤ n by omega)
    have r4 := r4 ok1
    have r2' : MS c n K1 (false, (orS c n (poF c n q)).2) := by
      have : orS c n (poF c n q) = (false, (orS c n (poF c n q)).2) := Prod.ext ok1 rfl
      rw [this] at r2; exact r2
    have k1i : K1 163 14 = iI ((orS c n (poF c n q)).2 : Nat) := r2'.2.2.1
    generalize hK2 : wr K1 163 14 (iI ((poF c n (q + 1) : Nat) : Int)) = K2
    have w2 : ∀ a j, (a ≠ 163 ∨ j ≠ 14) → K2 a j = K1 a j := fun a j x => by rw [← hK2, wr_e, if_neg (by omega)]
    have w214 : K2 163 14 = iI ((poF c n (q + 1) : Nat) : Int) := by rw [← hK2, wr_e, if_pos ⟨rfl, rfl⟩]
    have fk2 : Fk K K2 := fun a j x y z w => by rw [w2 a j (by omega), r3 a j (by omega)]
    have k164 : K2 164 = K 164 := funext fun j => by rw [w2 _ _ (by omega), r3 _ _ (by omega)]
    have nl : ¬ ans < 0 := by rw [Int32.lt_iff_toInt_lt]; rw [Int32.le_iff_toInt_le] at h0; omega
    have cr : fX4_run_p31 (m + 1) (iI N) (iI q) A = bd (fX4_carryOut (iI q) A) fun r1 I1 => (if 0 ≤ r1 then ltm (iI q + 1) fun v1 => fX4_run_p31 m (iI N) v1 I1 else bd (fX4_giveBack I1) fun r2 I2 => bd (fX4_refuse 6 (iI q) I2) fun r3 I3 => some (r3, I3)) := by
      rw [fX4_run_p31, if_neg (by rw [iI_le (by omega) (by omega) (by omega) (by omega)]; omega), if_neg (by rw [l_20, iI_le (by omega) (by omega) (by omega) (by omega)]; omega)]
    have mr : fX5_run_p51 (m2 + 1) (iI N) ans (iI q) K = bd (fX5_carryOut K2) fun r2 I3 => (if 0 ≤ r2 then bd (fX5_refuse 0 6 (iI q) I3) fun r3 I4 => ltm (iI q + 1) fun v1 => fX5_run_p51 m2 (iI N) r2 v1 I4 else bd (fX5_refuse 1 6 (iI q) I3) fun r3 I4 => ltm (iI q + 1) fun v1 => fX5_run_p51 m2 (iI N) r2 v1 I4) := by
      rw [fX5_run_p51, if_neg (by rw [iI_le (by omega) (by omega) (by omega) (by omega)]; omega), if_neg nl, r1, bd_s, k1i, ltm_s, l_1, iI_add]
      rw [show ((((orS c n (poF c n q)).2 : Nat) : Int) + 1) = ((poF c n (q + 1) : Nat) : Int) by rw [poF]; rfl, hK2]
    have q1 : iI (q : Int) + 1 = iI ((q + 1 : Nat) : Int) := by rw [l_1, iI_add]; rfl
    obtain ⟨cF, mF, e1, e2, e3⟩ := carry g (A := A) (K := K2) (by omega) ok1 ok2 (by rw [w2 _ _ (by omega)]; exact r4.1) (fun w v hw hv => by rw [w2 _ _ (by omega)]; exact r4.2 w v hw hv) (T := T) (mo := mo) (ct := ct) ⟨O, C, by rw [k164]; exact M⟩
    have k28 : K2 163 8 = 1 := by rw [fk2 _ _ (by omega) (by omega) (by omega) (by omega), k8]
    rcases e3 with ⟨v, rs, hv, hrs, ⟨J, x1, y1, y2, y3, y4, y5⟩, hm⟩ | ⟨v, J, hv, x1, y2, y3, hm⟩
    · have nv : ¬ 0 ≤ v := by rw [Int32.le_iff_toInt_le]; rw [Int32.lt_iff_toInt_lt] at hv; omega
      obtain ⟨L, z1, z2, z3, z4⟩ := hm K2 rfl
      obtain ⟨m2, rfl⟩ : ∃ y, m2 = y + 1 := ⟨m2 - 1, by omega⟩
      have tail : fX5_run_p51 (m2 + 1) (iI N) v (iI ((q + 1 : Nat) : Int)) (wr (wr L 163 5 6) 163 6 (iI q)) = fX5_run_p102 (iI N) v (wr (wr L 163 5 6) 163 6 (iI q)) := by
        rw [fX5_run_p51, if_pos hv]
        by_cases x : N ≤ q + 1
        · rw [if_pos (by rw [iI_le (by omega) (by omega) (by omega) (by omega)]; omega)]
        · rw [if_neg (by rw [iI_le (by omega) (by omega) (by omega) (by omega)]; omega)]
      refine ⟨J, wr (wr L 163 5 6) 163 6 (iI q), y2, y3, fk_tr fk2 (fun a j x y z w => by rw [wr_e, if_neg (by omega), wr_e, if_neg (by omega), z2 a j y (by omega)]), Or.inr ⟨q, v, hv, by rw [wr_e, if_neg (by omega), wr_e, if_pos ⟨rfl, rfl⟩], by rw [wr_e, if_pos ⟨rfl, rfl⟩], ?_, ?_⟩⟩
      · rw [cr, e1, x1, bd_s, if_neg nv]
      · rw [mr, e2, z1, bd_s, if_neg nv, show fX5_refuse 1 6 (iI q) L = some (iI 1, wr (wr L 163 5 6) 163 6 (iI q)) from m_ref1 6 (iI q) L, bd_s, ltm_s, q1, tail]
    · obtain ⟨L, T', mo', ct', z1, O', C', M', eq⟩ := hm K2 K2 rfl (chg_in k28)
      have fkL : Fk K2 L := fun a j x y z w => eq a j x y z (by omega)
      obtain ⟨J', L', f1, f2, f3, f4⟩ := run_loop g hN k (q + 1) m m2 J L T' mo' ct' v (by omega) (by omega) (by omega) (fun x hx => ⟨(ok x hx).1, by rw [y2 _ _ (by omega)]; exact (ok x hx).2.1, fun w u hw hu => by rw [y2 _ _ (by omega)]; exact (ok x hx).2.2 w u hw hu⟩) O' C' M' (fun _ => ⟨by rw [eq _ _ (by omega) (by omega) (by omega) (by omega), w2 _ _ (by omega)]; exact r2'.1, fun i hi => by rw [eq _ _ (by omega) (by omega) (by omega) (by omega), w2 _ _ (by omega)]; exact r2'.2.1 i hi, by rw [eq _ _ (by omega) (by omega) (by omega) (by omega)]; exact w214, by rw [eq _ _ (by omega) (by omega) (by omega) (by omega), w2 _ _ (by omega)]; exact r2'.2.2.2⟩) (by rw [eq _ _ (by omega) (by omega) (by omega) (by omega), k28]) hv
      have hc : fX4_run_p31 (m + 1) (iI N) (iI q) A = fX4_run_p31 m (iI N) (iI ((q + 1 : Nat) : Int)) J := by
        rw [cr, e1, x1, bd_s, if_pos hv, ltm_s, q1]
      have hr : fX5_run_p51 (m2 + 1) (iI N) ans (iI q) K = fX5_run_p51 m2 (iI N) v (iI ((q + 1 : Nat) : Int)) L := by
        rw [mr, e2, z1, bd_s, if_pos hv, show fX5_refuse 0 6 (iI q) L = some (iI 0, L) from m_ref0 6 (iI q) L, bd_s, ltm_s, q1]
      have l5 : ∀ j, j = 5 ∨ j = 6 → L 163 j = K 163 j := fun j hj => by rw [eq _ _ (by omega) (by omega) (by omega) (by omega), w2 _ _ (by omega), r3 _ _ (by omega)]
      refine ⟨J', L', fun a j x => by rw [f1 a j x, y2 a j x], fun j x y => by rw [f2 j x y, y3], fk_tr fk2 (fk_tr fkL f3), ?_⟩
      rw [hc, hr]
      rcases f4 with ⟨T2, mo2, ct2, u, u0, u1, u2, u3, u4, u5, u6, u7, u8, u9⟩ | ⟨q', u, u1, u2, u3, u4, u5⟩
      · exact Or.inl ⟨T2, mo2, ct2, u, u0, u1, u2, u3, by rw [u4, y3], by rw [u5, y3], by rw [u6, l5 5 (Or.inl rfl)], by rw [u7, l5 6 (Or.inr rfl)], u8, u9⟩
      · exact Or.inr ⟨q', u, u1, u2, u3, u4, u5⟩
end RUN
