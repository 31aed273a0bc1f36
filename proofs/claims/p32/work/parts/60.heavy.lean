/-! ===== the heaviest sheaf ===== -/
def kz (t : Tr) (i : Nat) (p : Nat) : Int := ((99 - (gl t p : Int)) * 1000 + gw t p) * 3 + i
theorem kz_rng {t : Tr} (G : GT t) {i p : Nat} (hi : i < 3) (hp : p < cnt t) : 0 ≤ kz t i p ∧ kz t i p < 300000 := by
  have := G.2.1 p hp
  unfold kz; omega
theorem sm_mono {f g : Nat → Int} : ∀ n, (∀ i, i < n → f i ≤ g i) → sm f n ≤ sm g n
  | 0, _ => by rw [sm, sm]; omega
  | n + 1, h => by
    have := sm_mono (f := f) (g := g) n (fun i hi => h i (by omega))
    have := h n (by omega)
    rw [sm, sm]; omega
theorem sm_zero {f : Nat → Int} : ∀ n, (∀ i, i < n → f i = 0) → sm f n = 0
  | 0, _ => rfl
  | n + 1, h => by
    have := sm_zero (f := f) n (fun i hi => h i (by omega))
    have := h n (by omega)
    rw [sm]; omega
theorem sm_one {f g : Nat → Int} {q : Nat} (d : Int) : ∀ n, q < n → (∀ i, i < n → i ≠ q → f i = g i) → f q = g q + d → sm f n = sm g n + d
  | 0, h, _, _ => by omega
  | n + 1, h, h1, h2 => by
    rw [sm, sm]
    by_cases c : q = n
    · subst c
      rw [sm_congr (f := f) (g := g) q (fun i hi => h1 i (by omega) (by omega)), h2]; omega
    · rw [sm_one d n (by omega) (fun i hi hq => h1 i (by omega) hq) h2, h1 n (by omega) (fun e => c e.symm)]; omega
theorem sm_addf (f g : Nat → Int) : ∀ n, sm (fun i => f i + g i) n = sm f n + sm g n
  | 0 => rfl
  | n + 1 => by rw [sm, sm, sm, sm_addf f g n]; omega
theorem sm_swap (F : Nat → Nat → Int) (m : Nat) : ∀ n, sm (fun s => sm (fun p => F s p) n) m = sm (fun p => sm (fun s => F s p) m) n
  | 0 => by rw [sm]; exact sm_zero m (fun _ _ => rfl)
  | n + 1 => by
    rw [sm, ← sm_swap F m n, ← sm_addf]
    exact sm_congr m (fun i _ => rfl)
theorem sm_le1 {f : Nat → Int} : ∀ n, (∀ i, i < n → 0 ≤ f i ∧ f i ≤ 1) → 0 ≤ sm f n ∧ sm f n ≤ n
  | 0, _ => by rw [sm]; omega
  | n + 1, h => by
    have := sm_le1 (f := f) n (fun i hi => h i (by omega))
    have := h n (by omega)
    rw [sm]; omega
def cR (t : Tr) (i : Nat) (x : Int) : Int := sm (fun p => if kz t i p < x then 1 else 0) (cnt t)
def cB (T : Nat → Tr) (x : Int) : Int := cR (T 0) 0 x + cR (T 1) 1 x + cR (T 2) 2 x
theorem cR_mono (t : Tr) (i : Nat) {x y : Int} (h : x ≤ y) : cR t i x ≤ cR t i y := sm_mono _ (fun p _ => by
  by_cases a : kz t i p < x
  · rw [if_pos a, if_pos (by omega)]; omega
  · rw [if_neg a]; split <;> omega)
theorem cB_mono (T : Nat → Tr) {x y : Int} (h : x ≤ y) : cB T x ≤ cB T y := by
  have := cR_mono (T 0) 0 h
  have := cR_mono (T 1) 1 h
  have := cR_mono (T 2) 2 h
  unfold cB; omega
theorem cR_gap {t : Tr} {i : Nat} {x y : Int} (h : x ≤ y) (hn : ∀ p, p < cnt t → x ≤ kz t i p → y ≤ kz t i p) : cR t i x = cR t i y := sm_congr _ (fun p hp => by
  have := hn p hp
  by_cases a : kz t i p < x
  · rw [if_pos a, if_pos (by omega)]
  · rw [if_neg a, if_neg (by omega)])
theorem cB_gap {T : Nat → Tr} {x y : Int} (h : x ≤ y) (hn : ∀ i p, i < 3 → p < cnt (T i) → x ≤ kz (T i) i p → y ≤ kz (T i) i p) : cB T x = cB T y := by
  unfold cB
  rw [cR_gap h (fun p hp => hn 0 p (by omega) hp), cR_gap h (fun p hp => hn 1 p (by omega) hp), cR_gap h (fun p hp => hn 2 p (by omega) hp)]
theorem kz_inj {T : Nat → Tr} (GA : ∀ i, i < 3 → GT (T i)) {i j p q : Nat} (hi : i < 3) (hj : j < 3) (hp : p < cnt (T i)) (hq : q < cnt (T j)) (e : kz (T i) i p = kz (T j) j q) : i = j ∧ p = q := by
  have a := (GA i hi).2.1 p hp
  have b := (GA j hj).2.1 q hq
  unfold kz at e
  have : i = j := by omega
  subst this
  refine ⟨rfl, gw_inj (GA i hi) hp hq (by omega)⟩
theorem cR_step {T : Nat → Tr} (GA : ∀ i, i < 3 → GT (T i)) {i j p : Nat} (hi : i < 3) (hj : j < 3) (hp : p < cnt (T i)) : cR (T j) j (kz (T i) i p + 1) = cR (T j) j (kz (T i) i p) + (if j = i then 1 else 0) := by
  by_cases c : j = i
  · subst c
    rw [if_pos rfl]
    refine sm_one 1 (q := p) (cnt (T j)) hp (fun q hq hne => ?_) ?_
    · have : kz (T j) j q ≠ kz (T j) j p := fun e => hne (kz_inj GA hj hj hq hp e).2
      by_cases a : kz (T j) j q < kz (T j) j p
      · rw [if_pos a, if_pos (by omega)]
      · rw [if_neg a, if_neg (by omega)]
    · rw [if_pos (by omega), if_neg (by omega)]; rfl
  · rw [if_neg c, Int.add_zero]
    refine sm_congr _ (fun q hq => ?_)
    have : kz (T j) j q ≠ kz (T i) i p := fun e => c (kz_inj GA hj hi hq hp e).1
    by_cases a : kz (T j) j q < kz (T i) i p
    · rw [if_pos a, if_pos (by omega)]
    · rw [if_neg a, if_neg (by omega)]
theorem cB_step {T : Nat → Tr} (GA : ∀ i, i < 3 → GT (T i)) {i p : Nat} (hi : i < 3) (hp : p < cnt (T i)) : cB T (kz (T i) i p + 1) = cB T (kz (T i) i p) + 1 := by
  unfold cB
  rw [cR_step GA hi (j := 0) (by omega) hp, cR_step GA hi (j := 1) (by omega) hp, cR_step GA hi (j := 2) (by omega) hp]
  match i, hi with
  | 0, _ => simp only [if_true]; simp; omega
  | 1, _ => simp only [if_true]; simp; omega
  | 2, _ => simp only [if_true]; simp; omega
theorem cB_le (T : Nat → Tr) (x : Int) : 0 ≤ cB T x ∧ cB T x ≤ ((cnt (T 0) + cnt (T 1) + cnt (T 2) : Nat) : Int) := by
  have h := fun i => sm_le1 (f := fun p => if kz (T i) i p < x then 1 else 0) (cnt (T i)) (fun p _ => by split <;> omega)
  have := h 0
  have := h 1
  have := h 2
  unfold cB cR; omega
theorem cB_all {T : Nat → Tr} {x : Int} (h : ∀ i p, i < 3 → p < cnt (T i) → kz (T i) i p < x) : cB T x = ((cnt (T 0) + cnt (T 1) + cnt (T 2) : Nat) : Int) := by
  have e : ∀ i, i < 3 → cR (T i) i x = cnt (T i) := fun i hi => by
    unfold cR
    rw [sm_congr (g := fun _ => 1) (cnt (T i)) (fun p hp => if_pos (h i p hi hp))]
    have : ∀ n : Nat, sm (fun _ => 1) n = n := fun n => by
      induction n with
      | zero => rfl
      | succ n ih => rw [sm, ih]; omega
    exact this _
  unfold cB
  rw [e 0 (by omega), e 1 (by omega), e 2 (by omega)]; omega
section HV
variable {I : Mm} {T : Nat → Tr} {mo : Nat → Nat} {ct : Nat → Int32}
theorem c_key_in {t : Tr} (G : GT t) {i : Nat} (hi : i < 3) (Rt : RT I (3 + 4 * i) t) {x : Int} (x1 : -1 ≤ x) (x2 : x < 2147483648) : ∀ (k p m : Nat) (le : Int), p + k = cnt t → k < m → 0 ≤ le → le < 2147483648 → ∃ r, fX3_keyAfter_p20 m 1 (iI x) (iI le) (iI i) (some (3 + 4 * i)) (iI p) I = some (iI r, I) ∧ 0 ≤ r ∧ r ≤ le ∧ (∀ q, p ≤ q → q < cnt t → x < kz t i q → r ≤ kz t i q) ∧ (r = le ∨ ∃ q, q < cnt t ∧ r = kz t i q ∧ x < kz t i q)
  | 0, p, m, le, hp, hm, h1, h2 => by
    have g := G.1
    obtain ⟨m, rfl⟩ : ∃ y, m = y + 1 := ⟨m - 1, by omega⟩
    have kd := kd_r (y := 1) (Or.inl rfl) hi
    rw [show 1 + 2 + 4 * i = 3 + 4 * i by omega] at kd
    refine ⟨le, ?_, h1, Int.le_refl _, fun q _ _ _ => by omega, Or.inl rfl⟩
    rw [fX3_keyAfter_p20, on_1, if_pos kd, Rt.1, if_pos (by rw [iI_le (by omega) (by omega) (by omega) (by omega)]; omega)]
  | k + 1, p, m, le, hp, hm, h1, h2 => by
    have g := G.1
    have gp := G.2.1 p (by omega)
    have kr := kz_rng G (i := i) hi (p := p) (by omega)
    obtain ⟨m, rfl⟩ : ∃ y, m = y + 1 := ⟨m - 1, by omega⟩
    have kd := kd_r (y := 1) (Or.inl rfl) hi
    rw [show 1 + 2 + 4 * i = 3 + 4 * i by omega] at kd
    have hd : fX3_keyAfter_p20 (m + 1) 1 (iI x) (iI le) (iI i) (some (3 + 4 * i)) (iI p) I = if kz t i p ≤ x then fX3_keyAfter_p20 m 1 (iI x) (iI le) (iI i) (some (3 + 4 * i)) (iI ((p + 1 : Nat) : Int)) I else if le ≤ kz t i p then fX3_keyAfter_p20 m 1 (iI x) (iI le) (iI i) (some (3 + 4 * i)) (iI ((p + 1 : Nat) : Int)) I else fX3_keyAfter_p20 m 1 (iI x) (iI (kz t i p)) (iI i) (some (3 + 4 * i)) (iI ((p + 1 : Nat) : Int)) I := by
      rw [fX3_keyAfter_p20, on_1, if_pos kd, Rt.1, if_neg (by rw [iI_le (by omega) (by omega) (by omega) (by omega)]; omega), t_loadAt G Rt (by omega) (by omega), bd_s, ltm_s, t_weightAt G Rt (by omega) (by omega), bd_s]
      rw [show LZ t (p : Int) = gl t p by rw [LZ, if_pos (by omega), tn_n], show WZ t (p : Int) = gw t p by rw [WZ, if_pos (by omega), tn_n]]
      rw [l_99, l_1000, l_3, l_1, iI_sub, iI_mul, iI_add, iI_mul, iI_add, ltm_s, show ((99 - (gl t p : Int)) * 1000 + gw t p) * 3 + i = kz t i p from rfl, iI_add]
      simp only [ltm_s]
      by_cases a : kz t i p ≤ x
      · rw [if_pos a, if_pos (by rw [iI_le (by omega) (by omega) (by omega) (by omega)]; exact a)]; rfl
      · rw [if_neg a, if_neg (by rw [iI_le (by omega) (by omega) (by omega) (by omega)]; exact a)]
        by_cases b : le ≤ kz t i p
        · rw [if_pos b, if_pos (by rw [iI_le (by omega) (by omega) (by omega) (by omega)]; exact b)]; rfl
        · rw [if_neg b, if_neg (by rw [iI_le (by omega) (by omega) (by omega) (by omega)]; exact b)]; rfl
    rw [hd]
    by_cases a : kz t i p ≤ x
    · rw [if_pos a]
      obtain ⟨r, e, r0, r1, r2, r3⟩ := c_key_in G hi Rt x1 x2 k (p + 1) m le (by omega) (by omega) h1 h2
      refine ⟨r, e, r0, r1, fun q q1 q2 q3 => ?_, r3⟩
      by_cases d : q = p
      · subst d; omega
      · exact r2 q (by omega) q2 q3
    · rw [if_neg a]
      by_cases b : le ≤ kz t i p
      · rw [if_pos b]
        obtain ⟨r, e, r0, r1, r2, r3⟩ := c_key_in G hi Rt x1 x2 k (p + 1) m le (by omega) (by omega) h1 h2
        refine ⟨r, e, r0, r1, fun q q1 q2 q3 => ?_, r3⟩
        by_cases d : q = p
        · subst d; omega
        · exact r2 q (by omega) q2 q3
      · rw [if_neg b]
        obtain ⟨r, e, r0, r1, r2, r3⟩ := c_key_in G hi Rt x1 x2 k (p + 1) m (kz t i p) (by omega) (by omega) (by omega) (by omega)
        refine ⟨r, e, r0, by omega, fun q q1 q2 q3 => ?_, ?_⟩
        · by_cases d : q = p
          · subst d; exact r1
          · exact r2 q (by omega) q2 q3
        · rcases r3 with r3 | r3
          · exact Or.inr ⟨p, by omega, r3, by omega⟩
          · exact Or.inr r3
theorem c_key (O : OKY T mo ct) (C : CY I 1 T mo ct) {x : Int} (x1 : -1 ≤ x) (x2 : x < 2147483648) : ∃ r, fX3_keyAfter 1 (iI x) I = some (iI r, I) ∧ 0 ≤ r ∧ r ≤ 2147483647 ∧ (∀ i q, i < 3 → q < cnt (T i) → x < kz (T i) i q → r ≤ kz (T i) i q) ∧ (r = 2147483647 ∨ ∃ i q, i < 3 ∧ q < cnt (T i) ∧ r = kz (T i) i q ∧ x < kz (T i) i q) := by
  have st : ∀ (i n : Nat) (le : Int), i < 3 → 0 ≤ le → le < 2147483648 → ∃ r, fX3_keyAfter_p5 (n + 1) 1 (iI x) (iI le) (iI i) I = fX3_keyAfter_p5 n 1 (iI x) (iI r) (iI ((i + 1 : Nat) : Int)) I ∧ 0 ≤ r ∧ r ≤ le ∧ (∀ q, q < cnt (T i) → x < kz (T i) i q → r ≤ kz (T i) i q) ∧ (r = le ∨ ∃ q, q < cnt (T i) ∧ r = kz (T i) i q ∧ x < kz (T i) i q) := fun i n le hi h1 h2 => by
    have g := (O.1 i hi).1.1
    obtain ⟨r, e, r0, r1, r2, r3⟩ := c_key_in (O.1 i hi).1 hi (rc_1 (C := C) hi) x1 x2 (cnt (T i)) 0 1000 le (by omega) (by omega) h1 h2
    refine ⟨r, ?_, r0, r1, fun q hq => r2 q (by omega) hq, r3⟩
    rw [fX3_keyAfter_p5, if_neg (by rw [l_3, iI_le (by omega) (by omega) (by omega) (by omega)]; omega), c_rick hi, bd_s, show 1 + 2 + 4 * i = 3 + 4 * i by omega, show fX3_keyAfter_p20 1000 1 (iI x) (iI le) (iI i) (some (3 + 4 * i)) 0 I = _ from e, bd_s, ltm_s, l_1, iI_add]
    rfl
  obtain ⟨a, e0, a0, a1, a2, a3⟩ := st 0 999 2147483647 (by omega) (by omega) (by omega)
  obtain ⟨b, e1, b0, b1, b2, b3⟩ := st 1 998 a (by omega) (by omega) (by omega)
  obtain ⟨d, e2, d0, d1, d2, d3⟩ := st 2 997 b (by omega) (by omega) (by omega)
  refine ⟨d, ?_, d0, by omega, fun i q hi hq h => ?_, ?_⟩
  · rw [fX3_keyAfter]
    refine (e0.trans (e1.trans e2)).trans ?_
    rw [fX3_keyAfter_p5, if_pos (by decide)]
  · match i, hi with
    | 0, _ => have := a2 q hq h; omega
    | 1, _ => have := b2 q hq h; omega
    | 2, _ => exact d2 q hq h
  · rcases d3 with d3 | ⟨q, q1, q2, q3⟩
    · rcases b3 with b3 | ⟨q, q1, q2, q3⟩
      · rcases a3 with a3 | ⟨q, q1, q2, q3⟩
        · left; omega
        · exact Or.inr ⟨0, q, by omega, q1, by omega, q3⟩
      · exact Or.inr ⟨1, q, by omega, q1, by omega, q3⟩
    · exact Or.inr ⟨2, q, by omega, q1, q2, q3⟩
/-- the class goes from key to key -/
theorem c_heavy_p (O : OKY T mo ct) (C : CY I 1 T mo ct) {z : Int} (z0 : 0 ≤ z) (z1 : z < ((cnt (T 0) + cnt (T 1) + cnt (T 2) : Nat) : Int)) : ∀ (k j m : Nat) (x : Int), (j : Int) + k = z + 1 → k < m → -1 ≤ x → x < 300000 → cB T (x + 1) = j → (0 < j → ∃ i p, i < 3 ∧ p < cnt (T i) ∧ x = kz (T i) i p) → ∃ i p, i < 3 ∧ p < cnt (T i) ∧ cB T (kz (T i) i p) = z ∧ fX4_heaviest_p22 m (iI z) (iI x) (iI j) I = some (iI (i * 1000 + gw (T i) p : Nat), I)
  | 0, j, m, x, hj, hm, x1, x2, hc, hk => by
    have gs0 := (O.1 0 (by omega)).1.1
    have gs1 := (O.1 1 (by omega)).1.1
    have gs2 := (O.1 2 (by omega)).1.1
    obtain ⟨m, rfl⟩ : ∃ y, m = y + 1 := ⟨m - 1, by omega⟩
    obtain ⟨i, p, hi, hp, e⟩ := hk (by omega)
    have G := (O.1 i hi).1
    have gp := G.2.1 p hp
    have cs := cB_step (T := T) (fun i hi => (O.1 i hi).1) hi hp
    refine ⟨i, p, hi, hp, by rw [e, cs] at hc; omega, ?_⟩
    have kx : x = ((99 - (gl (T i) p : Int)) * 1000 + gw (T i) p) * 3 + i := e
    rw [fX4_heaviest_p22, if_pos (by rw [iI_lt (by omega) (by omega) (by omega) (by omega)]; omega)]
    rw [l_3, l_1000, iI_div (by omega) (by omega) (by omega) (by omega), iI_mul, iI_sub, iI_mul, iI_div (by omega) (by omega) (by omega) (by omega), iI_mul, iI_sub, iI_add]
    congr 3; omega
  | k + 1, j, m, x, hj, hm, x1, x2, hc, hk => by
    have gs0 := (O.1 0 (by omega)).1.1
    have gs1 := (O.1 1 (by omega)).1.1
    have gs2 := (O.1 2 (by omega)).1.1
    obtain ⟨m, rfl⟩ : ∃ y, m = y + 1 := ⟨m - 1, by omega⟩
    obtain ⟨r, e, r0, r1, r2, r3⟩ := c_key O C x1 (by omega) (x := x)
    have ex : ∃ i q, i < 3 ∧ q < cnt (T i) ∧ r = kz (T i) i q ∧ x < kz (T i) i q := by
      rcases r3 with r3 | r3
      · have : cB T (x + 1) = ((cnt (T 0) + cnt (T 1) + cnt (T 2) : Nat) : Int) := cB_all (fun i p hi hp => by
          have kr := kz_rng (O.1 i hi).1 hi hp
          by_cases a : x < kz (T i) i p
          · have := r2 i p hi hp a; omega
          · omega)
        omega
      · exact r3
    obtain ⟨i, q, hi, hq, q1, q2⟩ := ex
    have kr := kz_rng (O.1 i hi).1 hi hq
    have gap : cB T (x + 1) = cB T r := cB_gap (by omega) (fun i p hi hp h => r2 i p hi hp (by omega))
    have cs := cB_step (T := T) (fun i hi => (O.1 i hi).1) hi hq
    obtain ⟨i', p', h1, h2, h3, h4⟩ := c_heavy_p O C z0 z1 k (j + 1) m r (by omega) (by omega) (by omega) (by omega) (by rw [q1, cs, ← q1]; omega) (fun _ => ⟨i, q, hi, hq, q1⟩)
    refine ⟨i', p', h1, h2, h3, ?_⟩
    rw [fX4_heaviest_p22, if_neg (by rw [iI_lt (by omega) (by omega) (by omega) (by omega)]; omega), e, bd_s, ltm_s, l_1, iI_add]
    exact h4
end HV
