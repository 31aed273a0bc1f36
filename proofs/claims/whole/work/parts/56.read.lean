/-! ===== both readers read alike ===== -/
section RD
variable {c : Nat → Int} {n : Nat}
theorem or_no (g : GC c n) {p : Nat} (h : p < n) (h1 : c p ≠ 37) (h2 : c p ≠ 43) (h3 : c p ≠ 45) (h4 : c p ≠ 61) (h5 : c p ≠ 62) : orS c n p = (true, p) := by
  have gp := g.2 p h
  unfold orS lsO
  rw [if_neg h1, if_neg h2, if_neg h3, if_neg h4, if_neg h5, runS]
  rw [show stS c n (0, 1) (false, p) = (true, p) by unfold stS; rw [if_neg (show ¬ false = true by decide), if_pos rfl, if_neg (by rintro ⟨_, x⟩; have x' : c p = ((1 : Nat) : Int) := x; omega)]]
  exact run_t c n _ p
theorem stC_0 (d : Nat) (I : Mm) : stC (0, d) I = fX0_isCode 30 (iI d) I := if_pos rfl
theorem stC_1 (d : Nat) (I : Mm) : stC (1, d) I = fX0_isNumber 30 0 (iI d) I := if_neg (show ¬ (1 = 0) by decide)
theorem stC_2 (d : Nat) (I : Mm) : stC (2, d) I = fX0_isNumber 30 1 (iI d) I := if_neg (show ¬ (2 = 0) by decide)
theorem stC_3 (d : Nat) (I : Mm) : stC (3, d) I = fX0_isNumber 30 2 (iI d) I := if_neg (show ¬ (3 = 0) by decide)
theorem run_c (s : Sp) (ss : List Sp) (I : Mm) : runC (s :: ss) I = bd (stC s I) fun r I1 => if r = 0 then some (0, I1) else runC ss I1 := rfl
theorem run_0 (I : Mm) : runC [] I = some (1, I) := rfl
theorem c_p35 {z : Int} (h1 : -2147483648 ≤ z) (h2 : z < 2147483648) (J : Mm) : fX0_isOrder_p35 30 (iI z) J = if z = 37 ∨ z = 43 ∨ z = 45 ∨ z = 61 ∨ z = 62 then runC (lsO z) J else some (0, J) := by
  rw [fX0_isOrder_p35, show (37 : Int32) = iI 37 from rfl, show (43 : Int32) = iI 43 from rfl, show (45 : Int32) = iI 45 from rfl, show (61 : Int32) = iI 61 from rfl, show (62 : Int32) = iI 62 from rfl]
  by_cases a : z = 37
  · subst a
    rw [if_pos rfl, if_pos (Or.inl rfl), show lsO 37 = [(0, 37), (1, 2)] by decide]
    simp only [run_c, run_0, stC_0, stC_1, stC_2, stC_3]
    rfl
  rw [if_neg (by rw [iI_eq h1 h2 (by omega) (by omega)]; exact a)]
  by_cases b : z = 43
  · subst b
    rw [if_pos rfl, if_pos (Or.inr (Or.inl rfl)), show lsO 43 = [(0, 43), (1, 1), (0, 58), (2, 3), (0, 42), (3, 2)] by decide]
    simp only [run_c, run_0, stC_0, stC_1, stC_2, stC_3]
    rfl
  rw [if_neg (by rw [iI_eq h1 h2 (by omega) (by omega)]; exact b)]
  by_cases d : z = 45
  · subst d
    rw [if_pos rfl, if_pos (Or.inr (Or.inr (Or.inl rfl))), show lsO 45 = [(0, 45), (1, 1), (0, 58), (2, 3)] by decide]
    simp only [run_c, run_0, stC_0, stC_1, stC_2, stC_3]
    rfl
  rw [if_neg (by rw [iI_eq h1 h2 (by omega) (by omega)]; exact d)]
  by_cases e : z = 61
  · subst e
    rw [if_pos rfl, if_pos (Or.inr (Or.inr (Or.inr (Or.inl rfl)))), show lsO 61 = [(0, 61), (1, 1)] by decide]
    simp only [run_c, run_0, stC_0, stC_1, stC_2, stC_3]
    rfl
  rw [if_neg (by rw [iI_eq h1 h2 (by omega) (by omega)]; exact e)]
  by_cases f : z = 62
  · subst f
    rw [if_pos rfl, if_pos (Or.inr (Or.inr (Or.inr (Or.inr rfl)))), show lsO 62 = [(0, 62), (1, 1), (2, 1)] by decide]
    simp only [run_c, run_0, stC_0, stC_1, stC_2, stC_3]
    rfl
  rw [if_neg (by rw [iI_eq h1 h2 (by omega) (by omega)]; exact f), if_neg (by omega)]
def OKc (c : Nat → Int) (n : Nat) (J : Mm) (k p : Nat) : Prop := J 35 k = iI (c p) ∧ ∀ q v, q < 3 → vlS c n (lsO (c p)) p q = some v → J 36 (3 * k + q) = iI v
theorem c_order (g : GC c n) {J : Mm} {k p : Nat} (hk : k ≤ 20) (hp : p ≤ n) (h20 : k = 20 → p = n) (h : TC c n J) (e2 : J 34 2 = iI k) (e3 : J 34 3 = iI p) : ∃ J', fX0_isOrder 30 J = some (if (orS c n p).1 = true then 0 else 1, J') ∧ TC c n J' ∧ J' 34 2 = iI k ∧ J' 34 3 = iI (orS c n p).2 ∧ (∀ a j, (a = 34 → j ≠ 3) → (a = 35 → j ≠ k) → (a = 36 → j < 3 * k ∨ 3 * k + 3 ≤ j) → J' a j = J a j) ∧ ((orS c n p).1 = false → k < 20 ∧ OKc c n J' k p) := by
  have g1 := g.1
  rw [fX0_isOrder, e3, c_cod g h hp, bd_s, e2]
  by_cases a : k = 20
  · have o := ord_end (c := c) (n := n) (p := p) (by have := h20 a; omega)
    rw [if_pos (by rw [l_20, iI_le (by omega) (by omega) (by omega) (by omega)]; omega), if_neg (show ¬ p < n by have := h20 a; omega), c_p35 (by omega) (by omega), if_neg (by omega), o]
    exact ⟨J, rfl, h, e2, e3, fun _ _ _ _ _ => rfl, fun f => absurd (show true = false from f) (by decide)⟩
  · rw [if_neg (by rw [l_20, iI_le (by omega) (by omega) (by omega) (by omega)]; omega), if_neg (by rw [l_0, iI_lt (by omega) (by omega) (by omega) (by omega)]; omega)]
    simp (disch := omega) only [l_0, iI_lt, iI_cl, if_neg, tn_n]
    rw [ltm_s]
    generalize hJ1 : wr J 35 k (iI (if p < n then c p else -11)) = J1
    have w1 : ∀ a j, (a = 35 → j ≠ k) → J1 a j = J a j := fun a j x => by rw [← hJ1, wr_e, if_neg (by omega)]
    have t1 : TC c n J1 := tc_of h (fun a j _ _ => w1 a j (by omega))
    have bad : ∀ z : Int, -2147483648 ≤ z → z < 2147483648 → ¬ (z = 37 ∨ z = 43 ∨ z = 45 ∨ z = 61 ∨ z = 62) → orS c n p = (true, p) → ∃ J', fX0_isOrder_p35 30 (iI z) J1 = some (if (orS c n p).1 = true then 0 else 1, J') ∧ TC c n J' ∧ J' 34 2 = iI k ∧ J' 34 3 = iI (orS c n p).2 ∧ (∀ a j, (a = 34 → j ≠ 3) → (a = 35 → j ≠ k) → (a = 36 → j < 3 * k ∨ 3 * k + 3 ≤ j) → J' a j = J a j) ∧ ((orS c n p).1 = false → k < 20 ∧ OKc c n J' k p) := fun z z1 z2 z3 z4 => by
      rw [c_p35 z1 z2, if_neg z3, z4]
      exact ⟨J1, rfl, t1, by rw [w1 _ _ (by omega), e2], by rw [w1 _ _ (by omega), e3], fun a j x y z => w1 a j y, fun f => absurd (show true = false from f) (by decide)⟩
    by_cases b : p < n
    · have gp := g.2 p b
      rw [if_pos b] at hJ1 ⊢
      by_cases d : c p = 37 ∨ c p = 43 ∨ c p = 45 ∨ c p = 61 ∨ c p = 62
      · obtain ⟨J', x1, x2, x3⟩ := c_run g (k := k) (by omega) (lsO (c p)) p J1 (ls_ok (c p)) hp ⟨t1, by rw [w1 _ _ (by omega), e2], by rw [w1 _ _ (by omega), e3], fun _ _ _ _ => rfl⟩
        rw [c_p35 (by omega) (by omega), if_pos d]
        refine ⟨J', x1, x2.1, x2.2.1, x2.2.2.1, fun a j u v w => by rw [x2.2.2.2 a j u w, w1 a j v], fun f => ⟨by omega, ?_, fun q v hq hv => ((x3 f q hq).1 v hv)⟩⟩
        rw [x2.2.2.2 _ _ (by omega) (by omega), ← hJ1, wr_e, if_pos ⟨rfl, rfl⟩]
      · exact bad _ (by omega) (by omega) d (or_no g b (by omega) (by omega) (by omega) (by omega) (by omega))
    · rw [if_neg b]
      exact bad _ (by omega) (by omega) (by omega) (ord_end b)
theorem c_read_p (g : GC c n) : ∀ (f k m : Nat) (J : Mm), f + k = 21 → f + 1 < m → k ≤ 20 → poF c n k ≤ n → 3 * k ≤ poF c n k → TC c n J → J 34 2 = iI k → J 34 3 = iI (poF c n k) → (∀ q, q < k → OKc c n J q (poF c n q)) → ∃ J', fX0_read_p14 m 30 1 (iI k) J = some (if (paS_ c n f k).1 = true then iI (-1000 - (paS_ c n f k).2.1) else iI (paS_ c n f k).2.2, J') ∧ (∀ a j, (a < 34 ∨ 36 < a) → J' a j = J a j) ∧ ((paS_ c n f k).1 = false → (paS_ c n f k).2.2 ≤ 20 ∧ ∀ q, q < (paS_ c n f k).2.2 → OKc c n J' q (poF c n q))
  | 0, k, m, J, hf, hm, hk, hp, h3, h, e2, e3, ok => by omega
  | f + 1, k, m, J, hf, hm, hk, hp, h3, h, e2, e3, ok => by
    have g1 := g.1
    obtain ⟨m, rfl⟩ : ∃ y, m = y + 1 := ⟨m - 1, by omega⟩
    obtain ⟨J1, i1, i2, i3, i4, i5, i6⟩ := c_order g hk hp (by omega) h e2 e3
    have ol := ord_le (c := c) (n := n) hp
    have om := @ord_mv c n (poF c n k) hp
    rw [fX0_read_p14, if_neg (by rw [l_20, iI_lt (by omega) (by omega) (by omega) (by omega)]; omega), if_neg (by decide), i1, bd_s, paS_]
    have fr : ∀ a j, (a < 34 ∨ 36 < a) → J1 a j = J a j := fun a j x => i5 a j (by omega) (by omega) (by omega)
    by_cases a : (orS c n (poF c n k)).1 = true
    · rw [if_pos a, if_pos rfl, if_pos a, if_pos rfl, i4]
      refine ⟨J1, by rw [show (-1000 : Int32) = iI (-1000) from rfl, iI_sub], fr, fun f => absurd (show true = false from f) (by decide)⟩
    · have a' := bf a
      have i7 := i6 a'
      have om := om a'
      rw [if_neg a, if_neg (by decide), if_neg a, ltm_s, i3, l_1, iI_add]
      generalize hJ2 : wr J1 34 2 (iI ((k : Int) + 1)) = J2
      have w2 : ∀ a j, (a ≠ 34 ∨ j ≠ 2) → J2 a j = J1 a j := fun a j x => by rw [← hJ2, wr_e, if_neg (by omega)]
      have w22 : J2 34 2 = iI ((k + 1 : Nat) : Int) := by rw [← hJ2, wr_e, if_pos ⟨rfl, rfl⟩]; rfl
      have t2 : TC c n J2 := tc_of i2 (fun a j _ _ => w2 a j (by omega))
      have ok2 : ∀ q, q < k + 1 → OKc c n J2 q (poF c n q) := fun q hq => by
        by_cases x : q = k
        · subst x
          exact ⟨by rw [w2 _ _ (by omega)]; exact i7.2.1, fun w v hw hv => by rw [w2 _ _ (by omega)]; exact i7.2.2 w v hw hv⟩
        · have := ok q (by omega)
          exact ⟨by rw [w2 _ _ (by omega), i5 _ _ (by omega) (by omega) (by omega)]; exact this.1, fun w v hw hv => by rw [w2 _ _ (by omega), i5 _ _ (by omega) (by omega) (by omega)]; exact this.2 w v hw hv⟩
      rw [t2.1, w2 34 3 (by omega), i4]
      by_cases b : (orS c n (poF c n k)).2 < n
      · rw [if_neg (by rw [iI_le (by omega) (by omega) (by omega) (by omega)]; omega), if_neg (by decide), if_pos b]
        have ic := c_isC g t2 (p := (orS c n (poF c n k)).2) ol.2 (by rw [w2 34 3 (by omega), i4]) (ch := 59) (by omega)
        rw [show (59 : Int32) = iI ((59 : Nat) : Int) from rfl, ic]
        by_cases d : c (orS c n (poF c n k)).2 = 59
        · rw [if_pos ⟨b, d⟩, if_pos d, bd_s, if_neg (by decide), ltm_s]
          have ih := c_read_p g f (k + 1) m (wr J2 34 3 (iI (((orS c n (poF c n k)).2 + 1 : Nat) : Int))) (by omega) (by omega) (by omega) (by rw [poF]; omega) (by rw [poF]; omega) (tc_of t2 (fun a j _ _ => by rw [wr_e, if_neg (by omega)])) (by rw [wr_e, if_neg (by omega), w22]) (by rw [wr_e, if_pos ⟨rfl, rfl⟩]; rfl) (fun q hq => by
            have := ok2 q hq
            exact ⟨by rw [wr_e, if_neg (by omega)]; exact this.1, fun w v hw hv => by rw [wr_e, if_neg (by omega)]; exact this.2 w v hw hv⟩)
          obtain ⟨J', x1, x2, x3⟩ := ih
          refine ⟨J', ?_, fun a j x => by rw [x2 a j x, wr_e, if_neg (by omega), w2 a j (by omega), fr a j x], x3⟩
          exact x1
        · rw [if_neg (fun x => d x.2), if_neg d, bd_s, if_pos rfl, if_pos rfl, w2 34 3 (by omega), i4]
          refine ⟨J2, by rw [show (-1000 : Int32) = iI (-1000) from rfl, iI_sub], fun a j x => by rw [w2 a j (by omega), fr a j x], fun f => absurd (show true = false from f) (by decide)⟩
      · rw [if_pos (by rw [iI_le (by omega) (by omega) (by omega) (by omega)]; omega), if_pos rfl, if_neg b, ltm_s]
        obtain ⟨m, rfl⟩ : ∃ y, m = y + 1 := ⟨m - 1, by omega⟩
        rw [fX0_read_p14, if_neg (by rw [l_20, iI_lt (by omega) (by omega) (by omega) (by omega)]; omega), if_pos rfl, w22]
        exact ⟨J2, rfl, fun a j x => by rw [w2 a j (by omega), fr a j x], fun _ => ⟨by show k + 1 ≤ 20; omega, ok2⟩⟩
theorem c_read (g : GC c n) {J : Mm} (h : TC c n J) : ∃ J', fX0_read 30 J = some (if (paS_ c n 21 0).1 = true then iI (-1000 - (paS_ c n 21 0).2.1) else iI (paS_ c n 21 0).2.2, J') ∧ (∀ a j, (a < 34 ∨ 36 < a) → J' a j = J a j) ∧ ((paS_ c n 21 0).1 = false → (paS_ c n 21 0).2.2 ≤ 20 ∧ ∀ q, q < (paS_ c n 21 0).2.2 → OKc c n J' q (poF c n q)) := by
  obtain ⟨J', a, b, d⟩ := c_read_p g 21 0 1000 (wr (wr J 34 2 0) 34 3 0) (by omega) (by omega) (by omega) (Nat.zero_le _) (Nat.zero_le _) (tc_of h (fun a j _ _ => by rw [wr_e, if_neg (by omega), wr_e, if_neg (by omega)])) (by rw [wr_e, if_neg (by omega), wr_e, if_pos ⟨rfl, rfl⟩]; rfl) (by rw [wr_e, if_pos ⟨rfl, rfl⟩]; rfl) (fun q hq => by omega)
  refine ⟨J', ?_, fun a j x => by rw [b a j x, wr_e, if_neg (by omega), wr_e, if_neg (by omega)], d⟩
  rw [fX0_read, ltm_s, ltm_s]; exact a
/-! the reference reads -/
def MS (c : Nat → Int) (n : Nat) (J : Mm) (x : Bool × Nat) : Prop := J 163 13 = iI n ∧ (∀ k, k < n → J 178 k = iI (c k)) ∧ J 163 14 = iI x.2 ∧ J 163 19 = if x.1 = true then 1 else 0
def FR (I J : Mm) : Prop := ∀ a j, (a ≠ 163 ∨ j < 14 ∨ 19 < j) → J a j = I a j
def F2 (I J : Mm) : Prop := ∀ a j, (a = 163 → j ≠ 14 ∧ j ≠ 19) → J a j = I a j
theorem fr_tr {I J K : Mm} (h : FR I J) (h2 : FR J K) : FR I K := fun a j x => (h2 a j x).trans (h a j x)
theorem ms_of {J K : Mm} {x y : Bool × Nat} (h : MS c n J x) (f : F2 J K) (h1 : K 163 14 = iI y.2) (h2 : K 163 19 = if y.1 = true then 1 else 0) : MS c n K y := ⟨by rw [f _ _ (by omega)]; exact h.1, fun k hk => by rw [f _ _ (by omega)]; exact h.2.1 k hk, h1, h2⟩
theorem m_sees (g : GC c n) {J : Mm} {x : Bool × Nat} (h : MS c n J x) (hp : x.2 ≤ n) {lo hi : Int} (h1 : -2147483648 ≤ lo) (h2 : lo < 2147483648) (h3 : -2147483648 ≤ hi) (h4 : hi < 2147483648) : fX5_sees (iI lo) (iI hi) J = some (iI (if x.1 = false ∧ x.2 < n ∧ lo ≤ c x.2 ∧ c x.2 ≤ hi then 1 else 0), J) := by
  have g1 := g.1
  obtain ⟨w, p⟩ := x
  obtain ⟨a1, a2, a3, a4⟩ := h
  dsimp only at a3 a4 hp ⊢
  rw [fX5_sees, a4, a3, a1]
  cases w with
  | true => rw [if_pos rfl, if_neg (by decide), if_neg (by simp)]; rfl
  | false =>
    rw [if_neg (show ¬ false = true by decide), if_pos rfl]
    by_cases b : p < n
    · have gp := g.2 p b
      rw [if_neg (by rw [iI_le (by omega) (by omega) (by omega) (by omega)]; omega)]
      rw [iI_cl (by omega) (by omega), tn_n, if_neg (by rw [l_0, iI_lt (by omega) (by omega) (by omega) (by omega)]; omega), a2 p b, m_isBetween (by omega) (by omega) h1 h2 h3 h4, bd_s]
      by_cases d : lo ≤ c p ∧ c p ≤ hi
      · rw [if_pos d, if_neg i10, if_pos ⟨rfl, b, d⟩]; rfl
      · rw [if_neg d, if_pos i00, if_neg (fun x => d x.2.2)]; rfl
    · rw [if_pos (by rw [iI_le (by omega) (by omega) (by omega) (by omega)]; omega), if_neg (fun x => b x.2.1)]; rfl
theorem m_must (g : GC c n) {J : Mm} {x : Bool × Nat} (h : MS c n J x) (hp : x.2 ≤ n) {ch : Nat} (hc : ch ≤ 126) : ∃ J', fX5_must (iI ch) J = some ((), J') ∧ MS c n J' (stS c n (0, ch) x) ∧ F2 J J' := by
  have g1 := g.1
  obtain ⟨w, p⟩ := x
  have hp : p ≤ n := hp
  have s : fX5_sees (iI ch) (iI ch) J = some (iI (if w = false ∧ p < n ∧ (ch : Int) ≤ c p ∧ c p ≤ (ch : Int) then 1 else 0), J) := m_sees g h hp (by omega) (by omega) (by omega) (by omega)
  have a3 : J 163 14 = iI p := h.2.2.1
  have a4 : J 163 19 = if w = true then 1 else 0 := h.2.2.2
  rw [fX5_must, s, bd_s, a4]
  have fin : ∀ (v : Int32) (q : Nat), F2 J (wr (wr J 163 19 v) 163 14 (iI q)) := fun v q a j x => by rw [wr_e, if_neg (by omega), wr_e, if_neg (by omega)]
  have f14 : ∀ (v : Int32), (wr J 163 19 v) 163 14 = iI p := fun v => by rw [wr_e, if_neg (by omega), a3]
  have f19 : ∀ (v : Int32), (wr J 163 19 v) 163 19 = v := fun v => by rw [wr_e, if_pos ⟨rfl, rfl⟩]
  have z0 : iI (p : Int) + 0 = iI p := Int32.add_zero _
  have z1 : iI (p : Int) + 1 = iI ((p + 1 : Nat) : Int) := by rw [l_1, iI_add]; rfl
  cases w with
  | true =>
    rw [if_neg (show ¬ (true = false ∧ p < n ∧ (ch : Int) ≤ c p ∧ c p ≤ (ch : Int)) from fun x => Bool.noConfusion x.1), if_pos i00, if_pos (show true = true from rfl), if_pos (by decide), ltm_s, f19, if_neg (by decide), f14, ltm_s, z0, show stS c n (0, ch) (true, p) = (true, p) from if_pos rfl]
    exact ⟨_, rfl, ms_of h (fin _ p) (by rw [wr_e, if_pos ⟨rfl, rfl⟩]) (by rw [wr_e, if_neg (by omega), f19]; rfl), fin _ p⟩
  | false =>
    rw [if_neg (show ¬ false = true by decide)]
    by_cases d : p < n ∧ c p = ch
    · have e : stS c n (0, ch) (false, p) = (false, p + 1) := by unfold stS; rw [if_neg (show ¬ false = true by decide), if_pos rfl, if_pos d]
      rw [if_pos (show false = false ∧ p < n ∧ (ch : Int) ≤ c p ∧ c p ≤ (ch : Int) from ⟨rfl, d.1, by omega, by omega⟩), if_neg i10, if_pos (by decide), ltm_s, f19, if_pos (by decide), f14, ltm_s, z1, e]
      exact ⟨_, rfl, ms_of h (fin _ (p + 1)) (by rw [wr_e, if_pos ⟨rfl, rfl⟩]) (by rw [wr_e, if_neg (by omega), f19]; rfl), fin _ (p + 1)⟩
    · have e : stS c n (0, ch) (false, p) = (true, p) := by unfold stS; rw [if_neg (show ¬ false = true by decide), if_pos rfl, if_neg d]
      rw [if_neg (show ¬ (false = false ∧ p < n ∧ (ch : Int) ≤ c p ∧ c p ≤ (ch : Int)) from fun x => d ⟨x.2.1, by omega⟩), if_pos i00, if_pos (by decide), ltm_s, f19, if_neg (by decide), f14, ltm_s, z0, e]
      exact ⟨_, rfl, ms_of h (fin _ p) (by rw [wr_e, if_pos ⟨rfl, rfl⟩]) (by rw [wr_e, if_neg (by omega), f19]; rfl), fin _ p⟩
theorem m_num_p (g : GC c n) {d : Nat} (hd : d ≤ 3) : ∀ (rest q rd m : Nat) (a : Int) (J : Mm), rd + rest = d → rest < m → q ≤ n → MS c n J (false, q) → fX5_readNumber_p29 m (iI d) (iI a) (iI rd) J = some (iI (nV c n rest q a), wr J 163 14 (iI (nE c n rest q)))
  | 0, q, rd, m, a, J, hr, hm, hq, h => by
    obtain ⟨m, rfl⟩ : ∃ y, m = y + 1 := ⟨m - 1, by omega⟩
    rw [fX5_readNumber_p29, if_pos (by rw [iI_le (by omega) (by omega) (by omega) (by omega)]; omega), nE, nV, wr_self h.2.2.1]
  | rest + 1, q, rd, m, a, J, hr, hm, hq, h => by
    have g1 := g.1
    obtain ⟨m, rfl⟩ : ∃ y, m = y + 1 := ⟨m - 1, by omega⟩
    have s : fX5_sees (iI 48) (iI 57) J = some (iI (if false = false ∧ q < n ∧ 48 ≤ c q ∧ c q ≤ 57 then 1 else 0), J) := m_sees g h hq (by omega) (by omega) (by omega) (by omega)
    have a3 : J 163 14 = iI q := h.2.2.1
    rw [fX5_readNumber_p29, if_neg (by rw [iI_le (by omega) (by omega) (by omega) (by omega)]; omega), l_48, l_57, s, bd_s, nE, nV]
    by_cases x : q < n ∧ 48 ≤ c q ∧ c q ≤ 57
    · have ih := m_num_p g hd rest (q + 1) (rd + 1) m (a * 10 + c q - 48) (wr J 163 14 (iI ((q + 1 : Nat) : Int))) (by omega) (by omega) (by omega) (ms_of (y := (false, q + 1)) h (fun a j x => by rw [wr_e, if_neg (by omega)]) (by rw [wr_e, if_pos ⟨rfl, rfl⟩]) (by rw [wr_e, if_neg (by omega)]; exact h.2.2.2))
      rw [wr_wr] at ih
      rw [if_pos (show false = false ∧ q < n ∧ 48 ≤ c q ∧ c q ≤ 57 from ⟨rfl, x⟩), if_pos x, if_pos x, if_neg i10, a3]
      rw [iI_cl (by omega) (by omega), tn_n, if_neg (by rw [l_0, iI_lt (by omega) (by omega) (by omega) (by omega)]; omega), h.2.1 q x.1, ltm_s, ltm_s, ltm_s, l_10, l_1, iI_mul, iI_add, iI_sub, iI_add, iI_add, show 10 * a + c q - 48 = a * 10 + c q - 48 by omega]
      exact ih
    · rw [if_neg (show ¬ (false = false ∧ q < n ∧ 48 ≤ c q ∧ c q ≤ 57) from fun y => x y.2), if_neg x, if_neg x, if_pos i00, wr_self a3]
theorem m_num_w (g : GC c n) {J : Mm} {p : Nat} (h : MS c n J (true, p)) (hp : p ≤ n) {d : Nat} (hd : 1 ≤ d ∧ d ≤ 3) (m : Nat) : fX5_readNumber_p29 (m + 1) (iI d) 0 0 J = some (0, J) := by
  have s : fX5_sees (iI 48) (iI 57) J = some (iI (if true = false ∧ p < n ∧ 48 ≤ c p ∧ c p ≤ 57 then 1 else 0), J) := m_sees g h hp (by omega) (by omega) (by omega) (by omega)
  rw [fX5_readNumber_p29, if_neg (by rw [l_0, iI_le (by omega) (by omega) (by omega) (by omega)]; omega), l_48, l_57, s, bd_s, if_neg (show ¬ (true = false ∧ p < n ∧ 48 ≤ c p ∧ c p ≤ 57) from fun x => Bool.noConfusion x.1), if_pos i00]
theorem m_num (g : GC c n) {J : Mm} {x : Bool × Nat} (h : MS c n J x) (hp : x.2 ≤ n) {w d : Nat} (hw : w ≠ 0) (hd : 1 ≤ d ∧ d ≤ 3) : ∃ v J', fX5_readNumber (iI d) J = some (v, J') ∧ MS c n J' (stS c n (w, d) x) ∧ F2 J J' ∧ ((stS c n (w, d) x).1 = false → v = iI (nV c n d x.2 0)) := by
  have g1 := g.1
  obtain ⟨w', p⟩ := x
  have hp : p ≤ n := hp
  have s : fX5_sees (iI 48) (iI 57) J = some (iI (if w' = false ∧ p < n ∧ 48 ≤ c p ∧ c p ≤ 57 then 1 else 0), J) := m_sees g h hp (by omega) (by omega) (by omega) (by omega)
  have a3 : J 163 14 = iI p := h.2.2.1
  have a4 : J 163 19 = if w' = true then 1 else 0 := h.2.2.2
  rw [fX5_readNumber, l_48, l_57, s, bd_s, a4]
  have wrong : MS c n (wr J 163 19 1) (true, p) := ms_of (y := (true, p)) h (fun a j x => by rw [wr_e, if_neg (by omega)]) (by rw [wr_e, if_neg (by omega)]; exact a3) (by rw [wr_e, if_pos ⟨rfl, rfl⟩]; rfl)
  have f2 : F2 J (wr J 163 19 1) := fun a j x => by rw [wr_e, if_neg (by omega)]
  obtain ⟨d, rfl⟩ : ∃ y, d = y + 1 := ⟨d - 1, by omega⟩
  cases w' with
  | true =>
    rw [if_neg (show ¬ (true = false ∧ p < n ∧ 48 ≤ c p ∧ c p ≤ 57) from fun x => Bool.noConfusion x.1), if_pos i00, if_pos (show true = true from rfl), show stS c n (w, d + 1) (true, p) = (true, p) from if_pos rfl, fX5_readNumber_p21, if_pos (by decide), ltm_s, show (1 ||| 1 : Int32) = 1 from rfl, m_num_w g wrong hp hd]
    exact ⟨_, _, rfl, wrong, f2, fun f => absurd (show true = false from f) (by decide)⟩
  | false =>
    rw [if_neg (show ¬ false = true by decide)]
    have ne := ne_eq c n d p hp
    by_cases y : p < n ∧ 48 ≤ c p ∧ c p ≤ 57
    · have e : stS c n (w, d + 1) (false, p) = (false, nE c n (d + 1) p) := by unfold stS; rw [if_neg (show ¬ false = true by decide), if_neg hw, if_neg (fun z => ne.mp z y)]
      have ok0 : MS c n (wr J 163 19 0) (false, p) := ms_of (y := (false, p)) h (fun a j x => by rw [wr_e, if_neg (by omega)]) (by rw [wr_e, if_neg (by omega)]; exact a3) (by rw [wr_e, if_pos ⟨rfl, rfl⟩]; rfl)
      have k := m_num_p g hd.2 (d + 1) p 0 1000 0 (wr J 163 19 0) (by omega) (by omega) hp ok0
      rw [if_pos (show false = false ∧ p < n ∧ 48 ≤ c p ∧ c p ≤ 57 from ⟨rfl, y⟩), if_neg i10, fX5_readNumber_p21, if_pos (by decide), ltm_s, show (0 ||| 0 : Int32) = 0 from rfl, e]
      exact ⟨_, _, k, ms_of (y := (false, nE c n (d + 1) p)) ok0 (fun a j x => by rw [wr_e, if_neg (by omega)]) (by rw [wr_e, if_pos ⟨rfl, rfl⟩]) (by rw [wr_e, if_neg (by omega)]; exact ok0.2.2.2), fun a j x => by rw [wr_e, if_neg (by omega), wr_e, if_neg (by omega)], fun _ => rfl⟩
    · have e : stS c n (w, d + 1) (false, p) = (true, p) := by unfold stS; rw [if_neg (show ¬ false = true by decide), if_neg hw, if_pos (ne.mpr y)]
      rw [if_neg (show ¬ (false = false ∧ p < n ∧ 48 ≤ c p ∧ c p ≤ 57) from fun z => y z.2), if_pos i00, fX5_readNumber_p21, if_pos (by decide), ltm_s, show (0 ||| 1 : Int32) = 1 from rfl, m_num_w g wrong hp hd, e]
      exact ⟨_, _, rfl, wrong, f2, fun f => absurd (show true = false from f) (by decide)⟩
def stM (s : Sp) (I : Mm) : Option (Unit × Mm) := if s.1 = 0 then fX5_must (iI s.2) I else bd (fX5_readNumber (iI s.2) I) fun r I1 => some ((), wr I1 163 (15 + s.1) r)
def runM : List Sp → Mm → Option (Unit × Mm)
  | [], I => some ((), I)
  | s :: ss, I => bd (stM s I) fun _ I1 => runM ss I1
def okSm (s : Sp) : Prop := (s.1 = 0 ∧ s.2 ≤ 126) ∨ (1 ≤ s.1 ∧ s.1 ≤ 3 ∧ 1 ≤ s.2 ∧ s.2 ≤ 3)
theorem m_run (g : GC c n) : ∀ (ss : List Sp) (x : Bool × Nat) (J : Mm), (∀ s, s ∈ ss → okSm s) → x.2 ≤ n → MS c n J x → ∃ J', runM ss J = some ((), J') ∧ MS c n J' (runS c n ss x) ∧ FR J J' ∧ J' 163 15 = J 163 15 ∧ ((runS c n ss x).1 = false → ∀ q, q < 3 → (∀ v, vlS c n ss x.2 q = some v → J' 163 (16 + q) = iI v) ∧ (vlS c n ss x.2 q = none → J' 163 (16 + q) = J 163 (16 + q)))
  | [], x, J, ho, hp, h => ⟨J, rfl, h, fun _ _ _ => rfl, rfl, fun _ q _ => ⟨fun v hv => (by cases hv), fun _ => rfl⟩⟩
  | s :: ss, x, J, ho, hp, h => by
    have os := ho s (List.mem_cons_self)
    have sl := st_le c n s x hp
    rw [runM, stM, runS]
    by_cases a : s.1 = 0
    · have s2 : s.2 ≤ 126 := by unfold okSm at os; omega
      obtain ⟨J1, e1, e2, e3⟩ := m_must g h hp (ch := s.2) s2
      rw [show ((0 : Nat), s.2) = s from Prod.ext a.symm rfl] at e2
      rw [if_pos a, e1, bd_s]
      obtain ⟨J', f1, f2, f3, f4, f5⟩ := m_run g ss (stS c n s x) J1 (fun s hs => ho s (List.mem_cons_of_mem _ hs)) sl.2 e2
      refine ⟨J', f1, f2, fr_tr (fun a j y => e3 a j (by omega)) f3, by rw [f4, e3 _ _ (by omega)], fun f q hq => ?_⟩
      have t := f5 f q hq
      have mv := st_mv c n s x hp (run_mv c n ss _ sl.2 f).1
      have e : (stS c n s x).2 = x.2 + 1 := by
        have m1 := mv.1
        have k := (run_mv c n ss _ sl.2 f).1
        unfold stS at k ⊢
        rw [if_neg (by rw [m1]; decide), if_pos a] at k ⊢
        by_cases y : x.2 < n ∧ c x.2 = s.2
        · rw [if_pos y]
        · rw [if_neg y] at k; exact absurd (show true = false from k) (by decide)
      rw [e, e3 _ _ (by omega)] at t
      rw [vlS, if_pos a]; exact t
    · have s2 : s.1 ≤ 3 ∧ 1 ≤ s.2 ∧ s.2 ≤ 3 := by unfold okSm at os; omega
      obtain ⟨v, J1, e1, e2, e3, e4⟩ := m_num g h hp (w := s.1) (d := s.2) a s2.2
      rw [show (s.1, s.2) = s from rfl] at e2 e4
      rw [if_neg a, e1, bd_s, bd_s]
      obtain ⟨J', f1, f2, f3, f4, f5⟩ := m_run g ss (stS c n s x) (wr J1 163 (15 + s.1) v) (fun s hs => ho s (List.mem_cons_of_mem _ hs)) sl.2 (ms_of (y := stS c n s x) (x := stS c n s x) ⟨by rw [wr_e, if_neg (by omega)]; exact e2.1, fun k hk => by rw [wr_e, if_neg (by omega)]; exact e2.2.1 k hk, by rw [wr_e, if_neg (by omega)]; exact e2.2.2.1, by rw [wr_e, if_neg (by omega)]; exact e2.2.2.2⟩ (fun _ _ _ => rfl) (by rw [wr_e, if_neg (by omega)]; exact e2.2.2.1) (by rw [wr_e, if_neg (by omega)]; exact e2.2.2.2))
      refine ⟨J', f1, f2, fr_tr (fun a j y => by rw [wr_e, if_neg (by omega), e3 a j (by omega)]) f3, by rw [f4, wr_e, if_neg (by omega), e3 _ _ (by omega)], fun f q hq => ?_⟩
      have t := f5 f q hq
      have k := (run_mv c n ss _ sl.2 f).1
      have mv := st_mv c n s x hp k
      have e : (stS c n s x).2 = nE c n s.2 x.2 := by
        have m1 := mv.1
        unfold stS at k ⊢
        rw [if_neg (by rw [m1]; decide), if_neg a] at k ⊢
        by_cases y : nE c n s.2 x.2 = x.2
        · rw [if_pos y] at k; exact absurd (show true = false from k) (by decide)
        · rw [if_neg y]
      have e4 := e4 k
      rw [e] at t
      rw [vlS, if_neg a]
      cases hv : vlS c n ss (nE c n s.2 x.2) q with
      | some u =>
        refine ⟨fun v' hv' => ?_, fun hv' => by simp at hv'⟩
        simp at hv'
        rw [← hv']; exact t.1 u hv
      | none =>
        have t2 := t.2 hv
        rw [wr_e] at t2
        by_cases y : q + 1 = s.1
        · rw [if_pos ⟨rfl, by omega⟩] at t2
          refine ⟨fun v' hv' => ?_, fun hv' => by simp [y] at hv'⟩
          simp [y] at hv'
          rw [← hv', ← e4]; exact t2
        · rw [if_neg (by omega), e3 _ _ (by omega)] at t2
          exact ⟨fun v' hv' => by simp [y] at hv', fun _ => t2⟩
end RD
