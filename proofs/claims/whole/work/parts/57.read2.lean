/-! ===== the reference's orders ===== -/
theorem bd_as {α β γ : Type} (o : Option (α × Mm)) (f : α → Mm → Option (β × Mm)) (g : β → Mm → Option γ) : bd (bd o f) g = bd o fun a I => bd (f a I) g := by
  cases o <;> rfl
theorem ix_is : ∀ k : Nat, k < 127 → ((0 : Int32) ≤ idx5 (((iI (k : Int)).toUInt32 % 65536).toInt32) ↔ (k = 37 ∨ k = 43 ∨ k = 45 ∨ k = 61 ∨ k = 62)) := by decide +kernel
theorem stM_0 (d : Nat) (I : Mm) : stM (0, d) I = fX5_must (iI d) I := if_pos rfl
theorem stM_1 (d : Nat) (I : Mm) : stM (1, d) I = bd (fX5_readNumber (iI d) I) fun r I1 => some ((), wr I1 163 16 r) := if_neg (show ¬ (1 = 0) by decide)
theorem stM_2 (d : Nat) (I : Mm) : stM (2, d) I = bd (fX5_readNumber (iI d) I) fun r I1 => some ((), wr I1 163 17 r) := if_neg (show ¬ (2 = 0) by decide)
theorem stM_3 (d : Nat) (I : Mm) : stM (3, d) I = bd (fX5_readNumber (iI d) I) fun r I1 => some ((), wr I1 163 18 r) := if_neg (show ¬ (3 = 0) by decide)
theorem runM_c (s : Sp) (ss : List Sp) (I : Mm) : runM (s :: ss) I = bd (stM s I) fun _ I1 => runM ss I1 := rfl
theorem runM_0 (I : Mm) : runM [] I = some ((), I) := rfl
theorem bs_s {α β : Type} (a : α) (I : Mm) (k : α → Mm → Option β) : bd (some (a, I)) k = k a I := rfl
theorem b_43 (I : Mm) : (bd (fX5_readSheaf I) fun r1 I2 => bd (fX5_must 42 I2) fun r2 I3 => bd (fX5_readNumber 2 I3) fun r3 I4 => ltm (wr I4 163 18 r3) fun I5 => some ((), I5)) = runM [(1, 1), (0, 58), (2, 3), (0, 42), (3, 2)] I := by
  simp only [fX5_readSheaf, runM_c, runM_0, stM_0, stM_1, stM_2, stM_3, bd_as, ltm_s, bs_s]
  rfl
theorem b_45 (I : Mm) : (bd (fX5_readSheaf I) fun r1 I2 => some ((), I2)) = runM [(1, 1), (0, 58), (2, 3)] I := by
  simp only [fX5_readSheaf, runM_c, runM_0, stM_0, stM_1, stM_2, stM_3, bd_as, ltm_s, bs_s]
  rfl
theorem b_61 (I : Mm) : (bd (fX5_readNumber 1 I) fun r1 I2 => ltm (wr I2 163 16 r1) fun I3 => some ((), I3)) = runM [(1, 1)] I := by
  simp only [runM_c, runM_0, stM_1, bd_as, ltm_s, bs_s]
  rfl
theorem b_62 (I : Mm) : (bd (fX5_readNumber 1 I) fun r1 I2 => ltm (wr I2 163 16 r1) fun I3 => bd (fX5_readNumber 1 I3) fun r2 I4 => ltm (wr I4 163 17 r2) fun I5 => some ((), I5)) = runM [(1, 1), (2, 1)] I := by
  simp only [runM_c, runM_0, stM_1, stM_2, bd_as, ltm_s, bs_s]
  rfl
theorem b_37 (I : Mm) : (bd (fX5_readNumber 2 I) fun r1 I2 => ltm (wr I2 163 16 r1) fun I3 => some ((), I3)) = runM [(1, 2)] I := by
  simp only [runM_c, runM_0, stM_1, bd_as, ltm_s, bs_s]
  rfl
section RM
variable {c : Nat → Int} {n : Nat}
theorem m_bad (g : GC c n) {J : Mm} {x : Bool × Nat} (h : MS c n J x) (hp : x.2 ≤ n) {z : Nat} (hz : z < 127) (hs : ¬ (z = 37 ∨ z = 43 ∨ z = 45 ∨ z = 61 ∨ z = 62)) : ∃ J', fX5_readOrder_p33 (iI z) J = some ((), J') ∧ MS c n J' (true, x.2) ∧ FR J J' := by
  have w15 : (wr J 163 15 (iI z)) 163 15 = iI z := by rw [wr_e, if_pos ⟨rfl, rfl⟩]
  have w19 : (wr J 163 15 (iI z)) 163 19 = J 163 19 := by rw [wr_e, if_neg (by omega)]
  have o1 : (J 163 19 ||| 1 : Int32) = 1 := by
    rw [h.2.2.2]
    cases x.1 <;> rfl
  generalize hJ3 : wr (wr (wr J 163 15 (iI z)) 163 19 1) 163 14 (iI x.2 + 0) = J3
  have ms3 : MS c n J3 (true, x.2) := by
    refine ⟨?_, fun k hk => ?_, ?_, ?_⟩
    · rw [← hJ3, wr_e, if_neg (by omega), wr_e, if_neg (by omega), wr_e, if_neg (by omega)]; exact h.1
    · rw [← hJ3, wr_e, if_neg (by omega), wr_e, if_neg (by omega), wr_e, if_neg (by omega)]; exact h.2.1 k hk
    · rw [← hJ3, wr_e, if_pos ⟨rfl, rfl⟩]; exact Int32.add_zero _
    · rw [← hJ3, wr_e, if_neg (by omega), wr_e, if_pos ⟨rfl, rfl⟩]; rfl
  have w3 : J3 163 15 = iI z := by rw [← hJ3, wr_e, if_neg (by omega), wr_e, if_neg (by omega), w15]
  obtain ⟨v, J4, e1, e2, e3, e4⟩ := m_num g ms3 hp (w := 1) (d := 2) (by omega) (by omega)
  have e2' : MS c n J4 (true, x.2) := e2
  refine ⟨wr J4 163 16 v, ?_, ⟨by rw [wr_e, if_neg (by omega)]; exact e2'.1, fun k hk => by rw [wr_e, if_neg (by omega)]; exact e2'.2.1 k hk, by rw [wr_e, if_neg (by omega)]; exact e2'.2.2.1, by rw [wr_e, if_neg (by omega)]; exact e2'.2.2.2⟩, fun a j y => by rw [wr_e, if_neg (by omega), e3 a j (by omega), ← hJ3, wr_e, if_neg (by omega), wr_e, if_neg (by omega), wr_e, if_neg (by omega)]⟩
  rw [fX5_readOrder_p33, ltm_s, w15, if_neg (fun y => hs ((ix_is z hz).mp y)), w19, fX5_readOrder_p59, o1, if_pos (by decide), ltm_s]
  rw [show (wr (wr J 163 15 (iI z)) 163 19 1) 163 19 = 1 by rw [wr_e, if_pos ⟨rfl, rfl⟩], if_neg (by decide), show (wr (wr J 163 15 (iI z)) 163 19 1) 163 14 = iI x.2 by rw [wr_e, if_neg (by omega), wr_e, if_neg (by omega)]; exact h.2.2.1]
  rw [fX5_readOrder_p80, hJ3, ltm_s, w3]
  rw [if_neg (by rw [show (43 : Int32) = iI 43 from rfl, iI_eq (by omega) (by omega) (by omega) (by omega)]; omega), if_neg (by rw [show (45 : Int32) = iI 45 from rfl, iI_eq (by omega) (by omega) (by omega) (by omega)]; omega), if_neg (by rw [show (61 : Int32) = iI 61 from rfl, iI_eq (by omega) (by omega) (by omega) (by omega)]; omega), if_neg (by rw [show (62 : Int32) = iI 62 from rfl, iI_eq (by omega) (by omega) (by omega) (by omega)]; omega)]
  rw [show fX5_readNumber 2 J3 = some (v, J4) from e1, bd_s, ltm_s]
theorem m_good (g : GC c n) {J : Mm} {p : Nat} (h : MS c n J (false, p)) (hp : p < n) {z : Nat} (hz : c p = z) (hs : z = 37 ∨ z = 43 ∨ z = 45 ∨ z = 61 ∨ z = 62) : ∃ J', fX5_readOrder_p33 (iI z) J = some ((), J') ∧ MS c n J' (orS c n p) ∧ FR J J' ∧ ((orS c n p).1 = false → J' 163 15 = iI (c p) ∧ ∀ q v, q < 3 → vlS c n (lsO (c p)) p q = some v → J' 163 (16 + q) = iI v) := by
  have a3 : J 163 14 = iI p := h.2.2.1
  have a4 : J 163 19 = 0 := h.2.2.2
  have w15 : (wr J 163 15 (iI z)) 163 15 = iI z := by rw [wr_e, if_pos ⟨rfl, rfl⟩]
  have w19 : (wr J 163 15 (iI z)) 163 19 = 0 := by rw [wr_e, if_neg (by omega), a4]
  generalize hJ3 : wr (wr (wr J 163 15 (iI z)) 163 19 0) 163 14 (iI p + 1) = J3
  have ms3 : MS c n J3 (false, p + 1) := by
    refine ⟨?_, fun k hk => ?_, ?_, ?_⟩
    · rw [← hJ3, wr_e, if_neg (by omega), wr_e, if_neg (by omega), wr_e, if_neg (by omega)]; exact h.1
    · rw [← hJ3, wr_e, if_neg (by omega), wr_e, if_neg (by omega), wr_e, if_neg (by omega)]; exact h.2.1 k hk
    · rw [← hJ3, wr_e, if_pos ⟨rfl, rfl⟩, l_1, iI_add]; rfl
    · rw [← hJ3, wr_e, if_neg (by omega), wr_e, if_pos ⟨rfl, rfl⟩]; rfl
  have w3 : J3 163 15 = iI z := by rw [← hJ3, wr_e, if_neg (by omega), wr_e, if_neg (by omega), w15]
  have fr3 : FR J J3 := fun a j y => by rw [← hJ3, wr_e, if_neg (by omega), wr_e, if_neg (by omega), wr_e, if_neg (by omega)]
  have key : ∀ (tl : List Sp), (∀ s, s ∈ tl → okSm s) → lsO (c p) = (0, z) :: tl → fX5_readOrder_p33 (iI z) J = runM tl J3 → ∃ J', fX5_readOrder_p33 (iI z) J = some ((), J') ∧ MS c n J' (orS c n p) ∧ FR J J' ∧ ((orS c n p).1 = false → J' 163 15 = iI (c p) ∧ ∀ q v, q < 3 → vlS c n (lsO (c p)) p q = some v → J' 163 (16 + q) = iI v) := fun tl h1 h2 h3 => by
    have e : orS c n p = runS c n tl (false, p + 1) := by
      unfold orS
      rw [h2, runS, show stS c n (0, z) (false, p) = (false, p + 1) by unfold stS; rw [if_neg (show ¬ false = true by decide), if_pos rfl, if_pos ⟨hp, hz⟩]]
    obtain ⟨J', f1, f2, f3, f4, f5⟩ := m_run g tl (false, p + 1) J3 h1 (show p + 1 ≤ n by omega) ms3
    rw [e]
    refine ⟨J', by rw [h3, f1], f2, fr_tr fr3 f3, fun f => ⟨by rw [f4, w3, hz], fun q v hq hv => ?_⟩⟩
    rw [h2, vlS, if_pos rfl] at hv
    exact (f5 f q hq).1 v hv
  have hd : fX5_readOrder_p33 (iI z) J = fX5_readOrder_p80 (iI p) 1 (wr (wr J 163 15 (iI z)) 163 19 0) := by
    rw [fX5_readOrder_p33, ltm_s, w15, if_pos ((ix_is z (by omega)).mpr hs), w19, fX5_readOrder_p59, if_pos (by decide), ltm_s, show (0 ||| 0 : Int32) = 0 from rfl]
    rw [show (wr (wr J 163 15 (iI z)) 163 19 0) 163 19 = 0 by rw [wr_e, if_pos ⟨rfl, rfl⟩], if_pos rfl, show (wr (wr J 163 15 (iI z)) 163 19 0) 163 14 = iI p by rw [wr_e, if_neg (by omega), wr_e, if_neg (by omega)]; exact a3]
  rw [fX5_readOrder_p80, hJ3, ltm_s, w3] at hd
  rcases hs with rfl | rfl | rfl | rfl | rfl
  · refine key [(1, 2)] (by intro s hs; unfold okSm; simp only [List.mem_cons, List.not_mem_nil, or_false] at hs; rcases hs with rfl | rfl | rfl | rfl | rfl | rfl <;> simp) (by rw [hz]; decide) ?_
    rw [hd, if_neg (by decide), if_neg (by decide), if_neg (by decide), if_neg (by decide), b_37]
  · refine key [(1, 1), (0, 58), (2, 3), (0, 42), (3, 2)] (by intro s hs; unfold okSm; simp only [List.mem_cons, List.not_mem_nil, or_false] at hs; rcases hs with rfl | rfl | rfl | rfl | rfl | rfl <;> simp) (by rw [hz]; decide) ?_
    rw [hd, if_pos (by decide), b_43]
  · refine key [(1, 1), (0, 58), (2, 3)] (by intro s hs; unfold okSm; simp only [List.mem_cons, List.not_mem_nil, or_false] at hs; rcases hs with rfl | rfl | rfl | rfl | rfl | rfl <;> simp) (by rw [hz]; decide) ?_
    rw [hd, if_neg (by decide), if_pos (by decide), b_45]
  · refine key [(1, 1)] (by intro s hs; unfold okSm; simp only [List.mem_cons, List.not_mem_nil, or_false] at hs; rcases hs with rfl | rfl | rfl | rfl | rfl | rfl <;> simp) (by rw [hz]; decide) ?_
    rw [hd, if_neg (by decide), if_neg (by decide), if_pos (by decide), b_61]
  · refine key [(1, 1), (2, 1)] (by intro s hs; unfold okSm; simp only [List.mem_cons, List.not_mem_nil, or_false] at hs; rcases hs with rfl | rfl | rfl | rfl | rfl | rfl <;> simp) (by rw [hz]; decide) ?_
    rw [hd, if_neg (by decide), if_neg (by decide), if_neg (by decide), if_pos (by decide), b_62]
theorem m_order (g : GC c n) {J : Mm} {p : Nat} (h : MS c n J (false, p)) (hp : p ≤ n) : ∃ J', fX5_readOrder J = some ((), J') ∧ MS c n J' (orS c n p) ∧ FR J J' ∧ ((orS c n p).1 = false → J' 163 15 = iI (c p) ∧ ∀ q v, q < 3 → vlS c n (lsO (c p)) p q = some v → J' 163 (16 + q) = iI v) := by
  have g1 := g.1
  have a3 : J 163 14 = iI p := h.2.2.1
  have a4 : J 163 19 = 0 := h.2.2.2
  rw [fX5_readOrder, a4, if_pos rfl, h.1, a3]
  by_cases b : p < n
  · have gp := g.2 p b
    rw [if_neg (by rw [iI_le (by omega) (by omega) (by omega) (by omega)]; omega), iI_cl (by omega) (by omega), tn_n, if_neg (by rw [l_0, iI_lt (by omega) (by omega) (by omega) (by omega)]; omega), h.2.1 p b]
    obtain ⟨z, hz⟩ : ∃ z : Nat, c p = z := ⟨(c p).toNat, by omega⟩
    rw [hz]
    by_cases d : z = 37 ∨ z = 43 ∨ z = 45 ∨ z = 61 ∨ z = 62
    · obtain ⟨J', x1, x2, x3, x4⟩ := m_good g h b hz d
      exact ⟨J', x1, x2, x3, by rw [← hz]; exact x4⟩
    · obtain ⟨J', x1, x2, x3⟩ := m_bad g h (show p ≤ n from hp) (z := z) (by omega) d
      have o := or_no g b (by omega) (by omega) (by omega) (by omega) (by omega)
      rw [o]
      exact ⟨J', x1, x2, x3, fun f => absurd (show true = false from f) (by decide)⟩
  · rw [if_pos (by rw [iI_le (by omega) (by omega) (by omega) (by omega)]; omega), ord_end b]
    obtain ⟨J', x1, x2, x3⟩ := m_bad g h (show p ≤ n from hp) (z := 32) (by omega) (by omega)
    exact ⟨J', x1, x2, x3, fun f => absurd (show true = false from f) (by decide)⟩
theorem m_order_w (g : GC c n) {J : Mm} {p : Nat} (h : MS c n J (true, p)) (hp : p ≤ n) : ∃ J', fX5_readOrder J = some ((), J') ∧ MS c n J' (true, p) ∧ FR J J' := by
  have a4 : J 163 19 = 1 := h.2.2.2
  rw [fX5_readOrder, a4, if_neg (by decide)]
  exact m_bad g h (show p ≤ n from hp) (z := 32) (by omega) (by omega)
theorem m_count_p (g : GC c n) : ∀ (f k m : Nat) (J : Mm), f + k = 21 → f + 1 < m → k ≤ 20 → poF c n k ≤ n → 3 * k ≤ poF c n k → MS c n J (false, poF c n k) → ∃ v J', (bd (fX5_readOrder J) fun _ I => fX5_countOrders_p16 m (iI ((k + 1 : Nat) : Int)) I) = some (v, J') ∧ FR J J' ∧ MS c n J' ((paS_ c n f k).1, (paS_ c n f k).2.1) ∧ ((paS_ c n f k).1 = false → v = iI (paS_ c n f k).2.2)
  | 0, k, m, J, hf, hm, hk, hp, h3, h => by omega
  | f + 1, k, m, J, hf, hm, hk, hp, h3, h => by
    have g1 := g.1
    obtain ⟨m, rfl⟩ : ∃ y, m = y + 1 := ⟨m - 1, by omega⟩
    obtain ⟨J1, i1, i2, i3, i4⟩ := m_order g h hp
    have ol := ord_le (c := c) (n := n) hp
    have om := @ord_mv c n (poF c n k) hp
    rw [i1, bd_s, fX5_countOrders_p16, i2.2.2.2, paS_]
    by_cases a : (orS c n (poF c n k)).1 = true
    · rw [if_pos a, if_pos a, if_neg (by decide)]
      refine ⟨_, J1, rfl, i3, ?_, fun f => absurd (show true = false from f) (by decide)⟩
      have : orS c n (poF c n k) = (true, (orS c n (poF c n k)).2) := Prod.ext a rfl
      rw [this] at i2; exact i2
    · have a' := bf a
      have om := om a'
      have i2' : MS c n J1 (false, (orS c n (poF c n k)).2) := by
        have : orS c n (poF c n k) = (false, (orS c n (poF c n k)).2) := Prod.ext a' rfl
        rw [this] at i2; exact i2
      rw [if_neg a, if_neg a, if_pos rfl, i2'.1, i2'.2.2.1]
      by_cases b : (orS c n (poF c n k)).2 < n
      · rw [if_neg (by rw [iI_le (by omega) (by omega) (by omega) (by omega)]; omega), if_pos b]
        obtain ⟨J2, e1, e2, e3⟩ := m_must g i2' ol.2 (ch := 59) (by omega)
        rw [show (59 : Int32) = iI ((59 : Nat) : Int) from rfl, e1, bd_s]
        have fr2 : FR J1 J2 := fun a j y => e3 a j (by omega)
        by_cases d : c (orS c n (poF c n k)).2 = 59
        · rw [if_pos d]
          have es : stS c n (0, 59) (false, (orS c n (poF c n k)).2) = (false, poF c n (k + 1)) := by unfold stS; rw [if_neg (show ¬ false = true by decide), if_pos rfl, if_pos ⟨b, d⟩]; rfl
          rw [es] at e2
          obtain ⟨v, J', x1, x2, x3, x4⟩ := m_count_p g f (k + 1) m J2 (by omega) (by omega) (by omega) (by rw [poF]; omega) (by rw [poF]; omega) e2
          refine ⟨v, J', ?_, fr_tr i3 (fr_tr fr2 x2), x3, x4⟩
          rw [← x1]
          congr 1
          funext _ I
          rw [ltm_s, l_1, iI_add]; rfl
        · rw [if_neg d]
          have es : stS c n (0, 59) (false, (orS c n (poF c n k)).2) = (true, (orS c n (poF c n k)).2) := by unfold stS; rw [if_neg (show ¬ false = true by decide), if_pos rfl, if_neg (fun x => d x.2)]
          rw [es] at e2
          obtain ⟨J3, y1, y2, y3⟩ := m_order_w g e2 ol.2
          obtain ⟨m, rfl⟩ : ∃ y, m = y + 1 := ⟨m - 1, by omega⟩
          rw [y1, bd_s, ltm_s, fX5_countOrders_p16, y2.2.2.2, if_pos rfl, if_neg (by decide)]
          exact ⟨_, J3, rfl, fr_tr i3 (fr_tr fr2 y3), y2, fun f => absurd (show true = false from f) (by decide)⟩
      · rw [if_pos (by rw [iI_le (by omega) (by omega) (by omega) (by omega)]; omega), if_neg b]
        refine ⟨_, J1, rfl, i3, ?_, fun _ => rfl⟩
        rw [show (orS c n (poF c n k)).2 = n by omega] at i2'; exact i2'
theorem m_count_o (g : GC c n) {J : Mm} (h1 : J 163 13 = iI n) (h2 : ∀ k, k < n → J 178 k = iI (c k)) : ∃ v J', fX5_countOrders J = some (v, J') ∧ FR J J' ∧ MS c n J' ((paS_ c n 21 0).1, (paS_ c n 21 0).2.1) ∧ ((paS_ c n 21 0).1 = false → v = iI (paS_ c n 21 0).2.2) := by
  obtain ⟨v, J', x1, x2, x3, x4⟩ := m_count_p g 21 0 1000 (wr (wr J 163 14 0) 163 19 0) (by omega) (by omega) (by omega) (Nat.zero_le _) (Nat.zero_le _) ⟨by rw [wr_e, if_neg (by omega), wr_e, if_neg (by omega)]; exact h1, fun k hk => by rw [wr_e, if_neg (by omega), wr_e, if_neg (by omega)]; exact h2 k hk, by rw [wr_e, if_neg (by omega), wr_e, if_pos ⟨rfl, rfl⟩]; rfl, by rw [wr_e, if_pos ⟨rfl, rfl⟩]; rfl⟩
  refine ⟨v, J', ?_, fr_tr (fun a j y => by rw [wr_e, if_neg (by omega), wr_e, if_neg (by omega)]) x2, x3, x4⟩
  rw [fX5_countOrders, ltm_s, ltm_s]; exact x1
end RM
