/-! ===== both readers read alike ===== -/
section RD
variable {c : Nat → Int} {n : Nat}
theorem or_no (g : GC c n) {p : Nat} (h : p < n) (h1 : c p ≠ 37) (h2 : c p ≠ 43) (h3 : c p ≠ 45) (h4 : c p ≠ 61) (h5 : c p ≠ 62) : orS c n p = (true, p) := by
  have gp := g.2 p h
  unfold orS lsO
  rw [if_neg h1, if_neg h2, if_neg h3, if_neg h4, if_neg h5, runS]
  rw [show stS c n (0, 1) (false, p) = (true, p) by unfold stS; rw [if_neg (show ¬ false = true by decide), if_pos rfl, if_neg (by rintro ⟨_, x⟩; have x' : c p = ((1 : Nat) : Int) := x; omega)]]
  exact run_t c n _ p
theorem stC_0 (d : Nat) (I : Mm) : stC (0, d) I = fX0_isCode 30 (iI d) I := if_pos rfl
theorem stC_1 (d : Nat) (I : Mm) : stC (1, d) I = fX0_isNumber 30 0 (iI d) I := if_neg (show ¬ (1 = 0) by decide)
theorem stC_2 (d : Nat) (I : Mm) : stC (2, d) I = fX0_isNumber 30 1 (iI d) I := if_neg (show ¬ (2 = 0) by decide)
theorem stC_3 (d : Nat) (I : Mm) : stC (3, d) I = fX0_isNumber 30 2 (iI d) I := if_neg (show ¬ (3 = 0) by decide)
theorem run_c (s : Sp) (ss : List Sp) (I : Mm) : runC (s :: ss) I = bd (stC s I) fun r I1 => if r = 0 then some (0, I1) else runC ss I1 := rfl
theorem run_0 (I : Mm) : runC [] I = some (1, I) := rfl
theorem c_p35 {z : Int} (h1 : -2147483648 ≤ z) (h2 : z < 2147483648) (J : Mm) : fX0_isOrder_p35 30 (iI z) J = if z = 37 ∨ z = 43 ∨ z = 45 ∨ z = 61 ∨ z = 62 then runC (lsO z) J else some (0, J) := by
  rw [fX0_isOrder_p35, show (37 : Int32) = iI 37 from rfl, show (43 : Int32) = iI 43 from rfl, show (45 : Int32) = iI 45 from rfl, show (61 : Int32) = iI 61 from rfl, show (62 : Int32) = iI 62 from rfl]
  by_cases a : z = 37
  · subst a
    rw [if_pos rfl, if_pos (Or.inl rfl), show lsO 37 = [(0, 37), (1, 2)] by decide]
    simp only [run_c, run_0, stC_0, stC_1, stC_2, stC_3]
    rfl
  rw [if_neg (by rw [iI_eq h1 h2 (by omega) (by omega)]; exact a)]
  by_cases b : z = 43
  · subst b
    rw [if_pos rfl, if_pos (Or.inr (Or.inl rfl)), show lsO 43 = [(0, 43), (1, 1), (0, 58), (2, 3), (0, 42), (3, 2)] by decide]
    simp only [run_c, run_0, stC_0, stC_1, stC_2, stC_3]
    rfl
  rw [if_neg (by rw [iI_eq h1 h2 (by omega) (by omega)]; exact b)]
  by_cases d : z = 45
  · subst d
    rw [if_pos rfl, if_pos (Or.inr (Or.inr (Or.inl rfl))), show lsO 45 = [(0, 45), (1, 1), (0, 58), (2, 3)] by decide]
    simp only [run_c, run_0, stC_0, stC_1, stC_2, stC_3]
    rfl
  rw [if_neg (by rw [iI_eq h1 h2 (by omega) (by omega)]; exact d)]
  by_cases e : z = 61
  · subst e
    rw [if_pos rfl, if_pos (Or.inr (Or.inr (Or.inr (Or.inl rfl)))), show lsO 61 = [(0, 61), (1, 1)] by decide]
    simp only [run_c, run_0, stC_0, stC_1, stC_2, stC_3]
    rfl
  rw [if_neg (by rw [iI_eq h1 h2 (by omega) (by omega)]; exact e)]
  by_cases f : z = 62
  · subst f
    rw [if_pos rfl, if_pos (Or.inr (Or.inr (Or.inr (Or.inr rfl)))), show lsO 62 = [(0, 62), (1, 1), (2, 1)] by decide]
    simp only [run_c, run_0, stC_0, stC_1, stC_2, stC_3]
    rfl
  rw [if_neg (by rw [iI_eq h1 h2 (by omega) (by omega)]; exact f), if_neg (by omega)]
def OKc (c : Nat → Int) (n : Nat) (J : Mm) (k p : Nat) : Prop := J 35 k = iI (c p) ∧ ∀ q v, q < 3 → vlS c n (lsO (c p)) p q = some v → J 36 (3 * k + q) = iI v
theorem c_order (g : GC c n) {J : Mm} {k p : Nat} (hk : k ≤ 20) (hp : p ≤ n) (h20 : k = 20 → p = n) (h : TC c n J) (e2 : J 34 2 = iI k) (e3 : J 34 3 = iI p) : ∃ J', fX0_isOrder 30 J = some (if (orS c n p).1 = true then 0 else 1, J') ∧ TC c n J' ∧ J' 34 2 = iI k ∧ J' 34 3 = iI (orS c n p).2 ∧ (∀ a j, (a = 34 → j ≠ 3) → (a = 35 → j ≠ k) → (a = 36 → j < 3 * k ∨ 3 * k + 3 ≤ j) → J' a j = J a j) ∧ ((orS c n p).1 = false → k < 20 ∧ OKc c n J' k p) := by
  have g1 := g.1
  rw [fX0_isOrder, e3, c_cod g h hp, bd_s, e2]
  by_cases a : k = 20
  · have o := ord_end (c := c) (n := n) (p := p) (by have := h20 a; omega)
    rw [if_pos (by rw [l_20, iI_le (by omega) (by omega) (by omega) (by omega)]; omega), if_neg (show ¬ p < n by have := h20 a; omega), c_p35 (by omega) (by omega), if_neg (by omega), o]
    exact ⟨J, rfl, h, e2, e3, fun _ _ _ _ _ => rfl, fun f => absurd (show true = false from f) (by decide)⟩
  · rw [if_neg (by rw [l_20, iI_le (by omega) (by omega) (by omega) (by omega)]; omega), if_neg (by rw [l_0, iI_lt (by omega) (by omega) (by omega) (by omega)]; omega)]
    simp (disch := omega) only [l_0, iI_lt, iI_cl, if_neg, tn_n]
    rw [ltm_s]
    generalize hJ1 : wr J 35 k (iI (if p < n then c p else -11)) = J1
    have w1 : ∀ a j, (a = 35 → j ≠ k) → J1 a j = J a j := fun a j x => by rw [← hJ1, wr_e, if_neg (by omega)]
    have t1 : TC c n J1 := tc_of h (fun a j _ _ => w1 a j (by omega))
    have bad : ∀ z : Int, -2147483648 ≤ z → z < 2147483648 → ¬ (z = 37 ∨ z = 43 ∨ z = 45 ∨ z = 61 ∨ z = 62) → orS c n p = (true, p) → ∃ J', fX0_isOrder_p35 30 (iI z) J1 = some (if (orS c n p).1 = true then 0 else 1, J') ∧ TC c n J' ∧ J' 34 2 = iI k ∧ J' 34 3 = iI (orS c n p).2 ∧ (∀ a j, (a = 34 → j ≠ 3) → (a = 35 → j ≠ k) → (a = 36 → j < 3 * k ∨ 3 * k + 3 ≤ j) → J' a j = J a j) ∧ ((orS c n p).1 = false → k < 20 ∧ OKc c n J' k p) := fun z z1 z2 z3 z4 => by
      rw [c_p35 z1 z2, if_neg z3, z4]
      exact ⟨J1, rfl, t1, by rw [w1 _ _ (by omega), e2], by rw [w1 _ _ (by omega), e3], fun a j x y z => w1 a j y, fun f => absurd (show true = false from f) (by decide)⟩
    by_cases b : p < n
    · have gp := g.2 p b
      rw [if_pos b] at hJ1 ⊢
      by_cases d : c p = 37 ∨ c p = 43 ∨ c p = 45 ∨ c p = 61 ∨ c p = 62
      · obtain ⟨J', x1, x2, x3⟩ := c_run g (k := k) (by omega) (lsO (c p)) p J1 (ls_ok (c p)) hp ⟨t1, by rw [w1 _ _ (by omega), e2], by rw [w1 _ _ (by omega), e3], fun _ _ _ _ => rfl⟩
        rw [c_p35 (by omega) (by omega), if_pos d]
        refine ⟨J', x1, x2.1, x2.2.1, x2.2.2.1, fun a j u v w => by rw [x2.2.2.2 a j u w, w1 a j v], fun f => ⟨by omega, ?_, fun q v hq hv => ((x3 f q hq).1 v hv)⟩⟩
        rw [x2.2.2.2 _ _ (by omega) (by omega), ← hJ1, wr_e, if_pos ⟨rfl, rfl⟩]
      · exact bad _ (by omega) (by omega) d (or_no g b (by omega) (by omega) (by omega) (by omega) (by omega))
    · rw [if_neg b]
      exact bad _ (by omega) (by omega) (by omega) (ord_end b)
theorem c_read_p (g : GC c n) : ∀ (f k m : Nat) (J : Mm), f + k = 21 → f + 1 < m → k ≤ 20 → poF c n k ≤ n → 3 * k ≤ poF c n k → TC c n J → J 34 2 = iI k → J 34 3 = iI (poF c n k) → (∀ q, q < k → OKc c n J q (poF c n q)) → ∃ J', fX0_read_p14 m 30 1 (iI k) J = some (if (paS_ c n f k).1 = true then iI (-1000 - (paS_ c n f k).2.1) else iI (paS_ c n f k).2.2, J') ∧ (∀ a j, (a < 34 ∨ 36 < a) → J' a j = J a j) ∧ ((paS_ c n f k).1 = false → (paS_ c n f k).2.2 ≤ 20 ∧ ∀ q, q < (paS_ c n f k).2.2 → OKc c n J' q (poF c n q))
  | 0, k, m, J, hf, hm, hk, hp, h3, h, e2, e3, ok => by omega
  | f + 1, k, m, J, hf, hm, hk, hp, h3, h, e2, e3, ok => by
    have g1 := g.1
    obtain ⟨m, rfl⟩ : ∃ y, m = y + 1 := ⟨m - 1, by omega⟩
    obtain ⟨J1, i1, i2, i3, i4, i5, i6⟩ := c_order g hk hp (by omega) h e2 e3
    have ol := ord_le (c := c) (n := n) hp
    have om := @ord_mv c n (poF c n k) hp
    rw [fX0_read_p14, if_neg (by rw [l_20, iI_lt (by omega) (by omega) (by omega) (by omega)]; omega), if_neg (by decide), i1, bd_s, paS_]
    have fr : ∀ a j, (a < 34 ∨ 36 < a) → J1 a j = J a j := fun a j x => i5 a j (by omega) (by omega) (by omega)
    by_cases a : (orS c n (poF c n k)).1 = true
    · rw [if_pos a, if_pos rfl, if_pos a, if_pos rfl, i4]
      refine ⟨J1, by rw [show (-1000 : Int32) = iI (-1000) from rfl, iI_sub], fr, fun f => absurd (show true = false from f) (by decide)⟩
    · have a' := bf a
      have i7 := i6 a'
      have om := om a'
      rw [if_neg a, if_neg (by decide), if_neg a, ltm_s, i3, l_1, iI_add]
      generalize hJ2 : wr J1 34 2 (iI ((k : Int) + 1)) = J2
      have w2 : ∀ a j, (a ≠ 34 ∨ j ≠ 2) → J2 a j = J1 a j := fun a j x => by rw [← hJ2, wr_e, if_neg (by omega)]
      have w22 : J2 34 2 = iI ((k + 1 : Nat) : Int) := by rw [← hJ2, wr_e, if_pos ⟨rfl, rfl⟩]; rfl
      have t2 : TC c n J2 := tc_of i2 (fun a j _ _ => w2 a j (by omega))
      have ok2 : ∀ q, q < k + 1 → OKc c n J2 q (poF c n q) := fun q hq => by
        by_cases x : q = k
        · subst x
          exact ⟨by rw [w2 _ _ (by omega)]; exact i7.2.1, fun w v hw hv => by rw [w2 _ _ (by omega)]; exact i7.2.2 w v hw hv⟩
        · have := ok q (by omega)
          exact ⟨by rw [w2 _ _ (by omega), i5 _ _ (by omega) (by omega) (by omega)]; exact this.1, fun w v hw hv => by rw [w2 _ _ (by omega), i5 _ _ (by omega) (by omega) (by omega)]; exact this.2 w v hw hv⟩
      rw [t2.1, w2 34 3 (by omega), i4]
      by_cases b : (orS c n (poF c n k)).2 < n
      · rw [if_neg (by rw [iI_le (by omega) (by omega) (by omega) (by omega)]; omega), if_neg (by decide), if_pos b]
        have ic := c_isC g t2 (p := (orS c n (poF c n k)).2) ol.2 (by rw [w2 34 3 (by omega), i4]) (ch := 59) (by omega)
        rw [show (59 : Int32) = iI ((59 : Nat) : Int) from rfl, ic]
        by_cases d : c (orS c n (poF c n k)).2 = 59
        · rw [if_pos ⟨b, d⟩, if_pos d, bd_s, if_neg (by decide), ltm_s]
          have ih := c_read_p g f (k + 1) m (wr J2 34 3 (iI (((orS c n (poF c n k)).2 + 1 : Nat) : Int))) (by omega) (by omega) (by omega) (by rw [poF]; omega) (by rw [poF]; omega) (tc_of t2 (fun a j _ _ => by rw [wr_e, if_neg (by omega)])) (by rw [wr_e, if_neg (by omega), w22]) (by rw [wr_e, if_pos ⟨rfl, rfl⟩]; rfl) (fun q hq => by
            have := ok2 q hq
            exact ⟨by rw [wr_e, if_neg (by omega)]; exact this.1, fun w v hw hv => by rw [wr_e, if_neg (by omega)]; exact this.2 w v hw hv⟩)
          obtain ⟨J', x1, x2, x3⟩ := ih
          refine ⟨J', ?_, fun a j x => by rw [x2 a j x, wr_e, if_neg (by omega), w2 a j (by omega), fr a j x], x3⟩
          exact x1
        · rw [if_neg (fun x => d x.2), if_neg d, bd_s, if_pos rfl, if_pos rfl, w2 34 3 (by omega), i4]
          refine ⟨J2, by rw [show (-1000 : Int32) = iI (-1000) from rfl, iI_sub], fun a j x => by rw [w2 a j (by omega), fr a j x], fun f => absurd (show true = false from f) (by decide)⟩
      · rw [if_pos (by rw [iI_le (by omega) (by omega) (by omega) (by omega)]; omega), if_pos rfl, if_neg b, ltm_s]
        obtain ⟨m, rfl⟩ : ∃ y, m = y + 1 := ⟨m - 1, by omega⟩
        rw [fX0_read_p14, if_neg (by rw [l_20, iI_lt (by omega) (by omega) (by omega) (by omega)]; omega), if_pos rfl, w22]
        exact ⟨J2, rfl, fun a j x => by rw [w2 a j (by omega), fr a j x], fun _ => ⟨by show k + 1 ≤ 20; omega, ok2⟩⟩
theorem c_read (g : GC c n) {J : Mm} (h : TC c n J) : ∃ J', fX0_read 30 J = some (if (paS_ c n 21 0).1 = true then iI (-1000 - (paS_ c n 21 0).2.1) else iI (paS_ c n 21 0).2.2, J') ∧ (∀ a j, (a < 34 ∨ 36 < a) → J' a j = J a j) ∧ ((paS_ c n 21 0).1 = false → (paS_ c n 21 0).2.2 ≤ 20 ∧ ∀ q, q < (paS_ c n 21 0).2.2 → OKc c n J' q (poF c n q)) := by
  obtain ⟨J', a, b, d⟩ := c_read_p g 21 0 1000 (wr (wr J 34 2 0) 34 3 0) (by omega) (by omega) (by omega) (Nat.zero_le _) (Nat.zero_le _) (tc_of h (fun a j _ _ => by rw [wr_e, if_neg (by omega), wr_e, if_neg (by omega)])) (by rw [wr_e, if_neg (by omega), wr_e, if_pos ⟨rfl, rfl⟩]; rfl) (by rw [wr_e, if_pos ⟨rfl, rfl⟩]; rfl) (fun q hq => by omega)
  refine ⟨J', ?_, fun a j x => by rw [b a j x, wr_e, if_neg (by omega), wr_e, if_neg (by omega)], d⟩
  rw [fX0_read, ltm_s, ltm_s]; exact a
/-! the reference reads -/
def okSm (s : Sp) : Prop := (s.1 = 0 ∧ s.2 ≤ 126) ∨ (1 ≤ s.1 ∧ s.1 ≤ 3 ∧ 1 ≤ s.2 ∧ s.2 ≤ 3)
end RD
