/-! ===== the heaviest sheaf, the reference's way ===== -/
/-- whether a stall's sheaf is ahead of a key -/
def hS (t : Tr) (i : Nat) (x : Int) (s : Nat) : Int := sm (fun p => if gs t p = s ∧ kz t i p < x then 1 else 0) (cnt t)
theorem sm_delta (a : Nat) (P : Prop) [Decidable P] : ∀ m, sm (fun s => if a = s ∧ P then 1 else 0) m = if a < m ∧ P then 1 else 0
  | 0 => by rw [sm, if_neg (by omega)]
  | m + 1 => by
    rw [sm, sm_delta a P m]
    by_cases p : P
    · by_cases c : a = m
      · rw [if_neg (by omega), if_pos ⟨c, p⟩, if_pos ⟨by omega, p⟩]; rfl
      · by_cases d : a < m
        · rw [if_pos ⟨d, p⟩, if_neg (by omega), if_pos ⟨by omega, p⟩]; rfl
        · rw [if_neg (by omega), if_neg (by omega), if_neg (by omega)]; rfl
    · rw [if_neg (fun h => p h.2), if_neg (fun h => p h.2), if_neg (fun h => p h.2)]; rfl
theorem hS_sum {t : Tr} (G : GT t) (i : Nat) (x : Int) : sm (hS t i x) 30 = cR t i x := by
  have e : sm (hS t i x) 30 = sm (fun p => sm (fun s => if gs t p = s ∧ kz t i p < x then 1 else 0) 30) (cnt t) := sm_swap (fun s p => if gs t p = s ∧ kz t i p < x then 1 else 0) 30 (cnt t)
  rw [e]
  unfold cR
  refine sm_congr _ (fun p hp => ?_)
  have := (G.2.1 p hp).2.2.2
  rw [sm_delta (gs t p) (kz t i p < x) 30]
  by_cases a : kz t i p < x
  · rw [if_pos ⟨this, a⟩, if_pos a]
  · rw [if_neg (fun h => a h.2), if_neg a]
theorem hS_at {t : Tr} (G : GT t) (i : Nat) (x : Int) {p : Nat} (hp : p < cnt t) : hS t i x (gs t p) = if kz t i p < x then 1 else 0 := by
  unfold hS
  rw [sm_one (f := fun q => if gs t q = gs t p ∧ kz t i q < x then 1 else 0) (g := fun _ => 0) (q := p) (if kz t i p < x then 1 else 0) (cnt t) hp (fun q hq hne => ?_) ?_, sm_zero _ (fun _ _ => rfl), Int.zero_add]
  · by_cases a : kz t i p < x
    · rw [if_pos ⟨rfl, a⟩, if_pos a]; rfl
    · rw [if_neg (fun h => a h.2), if_neg a]; rfl
  · refine if_neg (fun h => ?_)
    by_cases d : q < p
    · exact G.2.2.2 q p d hp h.1
    · exact G.2.2.2 p q (by omega) hq h.1.symm
theorem hS_no {t : Tr} (i : Nat) (x : Int) {s : Nat} (h : ¬ St t s) : hS t i x s = 0 := sm_zero _ (fun p hp => if_neg (fun e => h ⟨p, hp, e.1⟩))
/-- by all stalls -/
def hA (T : Nat → Tr) (x : Int) (k : Nat) : Int := hS (T (k / 30)) (k / 30) x (k % 30)
theorem hA_sum {T : Nat → Tr} (GA : ∀ i, i < 3 → GT (T i)) (x : Int) : sm (hA T x) 90 = cB T x := by
  rw [show (90 : Nat) = 30 + (30 + 30) from rfl, sm_add, sm_add]
  rw [sm_congr (g := hS (T 0) 0 x) 30 (fun j hj => by unfold hA; rw [show j / 30 = 0 by omega, show j % 30 = j by omega])]
  rw [sm_congr (f := fun j => hA T x (30 + j)) (g := hS (T 1) 1 x) 30 (fun j hj => by unfold hA; rw [show (30 + j) / 30 = 1 by omega, show (30 + j) % 30 = j by omega])]
  rw [sm_congr (f := fun j => hA T x (30 + (30 + j))) (g := hS (T 2) 2 x) 30 (fun j hj => by unfold hA; rw [show (30 + (30 + j)) / 30 = 2 by omega, show (30 + (30 + j)) % 30 = j by omega])]
  rw [hS_sum (GA 0 (by omega)), hS_sum (GA 1 (by omega)), hS_sum (GA 2 (by omega))]
  unfold cB; omega
theorem hA_rng {T : Nat → Tr} (GA : ∀ i, i < 3 → GT (T i)) (x : Int) : ∀ k, k ≤ 90 → 0 ≤ sm (hA T x) k ∧ sm (hA T x) k ≤ k := fun k hk => sm_le1 k (fun j hj => by
  unfold hA
  by_cases c : St (T (j / 30)) (j % 30)
  · obtain ⟨p, hp, e⟩ := c
    rw [← e, hS_at (GA _ (by omega)) _ _ hp]
    split <;> omega
  · rw [hS_no _ _ c]; omega)
section HM
variable {I : Mm} {T : Nat → Tr} {mo : Nat → Nat} {ct : Nat → Int32}
theorem k_dm {k : Nat} (hk : k < 90) : iI (k : Int) / 30 = iI ((k / 30 : Nat) : Int) ∧ iI (k : Int) - iI ((k / 30 : Nat) : Int) * 30 = iI ((k % 30 : Nat) : Int) := by
  rw [l_30, iI_div (by omega) (by omega) (by omega) (by omega), iI_mul, iI_sub]
  exact ⟨rfl, by congr 1; omega⟩
theorem m_isThere (O : OKY T mo ct) (M : MY (I 164) T mo ct) {k : Nat} (hk : k < 90) : (∃ p, p < cnt (T (k / 30)) ∧ gs (T (k / 30)) p = k % 30 ∧ fX5_isThere (iI k) I = some (1, I)) ∨ (¬ St (T (k / 30)) (k % 30) ∧ fX5_isThere (iI k) I = some (0, I)) := by
  have hi : k / 30 < 3 := by omega
  have e : fX5_isThere (iI k) I = (if I 164 (ad (k / 30) (k % 30) 0) - iI 1 < 0 then some (0, I) else some (1, I)) := by
    rw [fX5_isThere, (k_dm hk).1, (k_dm hk).2, l_0, m_of0 hi (by omega), bd_s]
  by_cases c : St (T (k / 30)) (k % 30)
  · obtain ⟨p, hp, h⟩ := c
    have G := (O.1 _ hi).1
    have gp := G.2.1 p hp
    have a := (tm_p _ _ _ p (M.1 _ hi).1.2.1 hp).1
    rw [h] at a
    refine Or.inl ⟨p, hp, h, ?_⟩
    rw [e, a, sub1, if_neg (by rw [l_0, iI_lt (by omega) (by omega) (by omega) (by omega)]; omega)]
  · refine Or.inr ⟨c, ?_⟩
    rw [e, (M.1 _ hi).1.2.2 (k % 30) (by omega) (fun p hp h => c ⟨p, hp, h⟩), iI_sub, if_pos (by decide)]
theorem m_ofAll (O : OKY T mo ct) (M : MY (I 164) T mo ct) {k p : Nat} (hk : k < 90) (hp : p < cnt (T (k / 30))) (h : gs (T (k / 30)) p = k % 30) : fX5_ofAll (iI k) 0 I = some (iI (gw (T (k / 30)) p), I) ∧ fX5_ofAll (iI k) 1 I = some (iI (gl (T (k / 30)) p), I) := by
  have hi : k / 30 < 3 := by omega
  have G := (O.1 _ hi).1
  have M' := (M.1 _ hi).1
  have a := m_w hi G M' hp
  have b := m_l hi G M' hp
  rw [h] at a b
  constructor
  · rw [fX5_ofAll, (k_dm hk).1, (k_dm hk).2, l_0, a, bd_s]
  · rw [fX5_ofAll, (k_dm hk).1, (k_dm hk).2, l_1, b, bd_s]
theorem m_isAhead (O : OKY T mo ct) (M : MY (I 164) T mo ct) {k p k2 p2 : Nat} (hk : k < 90) (hp : p < cnt (T (k / 30))) (h : gs (T (k / 30)) p = k % 30) (hk2 : k2 < 90) (hp2 : p2 < cnt (T (k2 / 30))) (h2 : gs (T (k2 / 30)) p2 = k2 % 30) : fX5_isAhead (iI k) (iI k2) I = some (if kz (T (k / 30)) (k / 30) p < kz (T (k2 / 30)) (k2 / 30) p2 then 1 else 0, I) := by
  have a := m_ofAll O M hk hp h
  have b := m_ofAll O M hk2 hp2 h2
  have g1 := (O.1 (k / 30) (by omega)).1.2.1 p hp
  have g2 := (O.1 (k2 / 30) (by omega)).1.2.1 p2 hp2
  rw [fX5_isAhead, a.2, bd_s, b.2, bd_s, iI_sub, ltm_s, a.1, bd_s, b.1, bd_s, iI_sub, ltm_s, (k_dm hk).1, (k_dm hk2).1]
  simp (disch := omega) only [l_0, iI_eq, iI_le]
  unfold kz
  generalize gl (T (k / 30)) p = l1 at *
  generalize gl (T (k2 / 30)) p2 = l2 at *
  generalize gw (T (k / 30)) p = w1 at *
  generalize gw (T (k2 / 30)) p2 = w2 at *
  by_cases c : (l1 : Int) - l2 = 0
  · rw [if_pos c]
    by_cases d : (w1 : Int) - w2 = 0
    · rw [if_pos d]
      by_cases e : ((k2 / 30 : Nat) : Int) ≤ ((k / 30 : Nat) : Int)
      · rw [if_pos e, if_neg (by omega)]
      · rw [if_neg e, if_pos (by omega)]
    · rw [if_neg d]
      by_cases e : 0 ≤ (w1 : Int) - w2
      · rw [if_pos e, if_neg (by omega)]
      · rw [if_neg e, if_pos (by omega)]
  · rw [if_neg c]
    by_cases e : (l1 : Int) - l2 ≤ 0
    · rw [if_pos e, if_neg (by omega)]
    · rw [if_neg e, if_pos (by omega)]
theorem m_cnt_p (O : OKY T mo ct) (M : MY (I 164) T mo ct) {x1 : Int32} {k2 p2 : Nat} (hk2 : k2 < 90) (hp2 : p2 < cnt (T (k2 / 30))) (h2 : gs (T (k2 / 30)) p2 = k2 % 30) : ∀ (r k m : Nat), k + r = 90 → r < m → fX5_heaviest_p13 m x1 (iI k2) (iI (sm (hA T (kz (T (k2 / 30)) (k2 / 30) p2)) k)) (iI k) I = some (iI (sm (hA T (kz (T (k2 / 30)) (k2 / 30) p2)) 90), I)
  | 0, k, m, hk, hm => by
    obtain ⟨m, rfl⟩ : ∃ y, m = y + 1 := ⟨m - 1, by omega⟩
    obtain rfl : k = 90 := by omega
    rw [fX5_heaviest_p13, if_pos (by decide)]
  | r + 1, k, m, hk, hm => by
    obtain ⟨m, rfl⟩ : ∃ y, m = y + 1 := ⟨m - 1, by omega⟩
    have GA : ∀ i, i < 3 → GT (T i) := fun i hi => (O.1 i hi).1
    have ih := m_cnt_p O M hk2 hp2 h2 (x1 := x1) r (k + 1) m (by omega) (by omega)
    have t2 : fX5_isThere (iI k2) I = some (1, I) := by
      rcases m_isThere O M hk2 with ⟨_, _, _, e⟩ | ⟨c, _⟩
      · exact e
      · exact absurd ⟨p2, hp2, h2⟩ c
    rw [fX5_heaviest_p13, if_neg (by rw [show (90 : Int32) = iI 90 from rfl, iI_le (by omega) (by omega) (by omega) (by omega)]; omega), t2, bd_s, if_neg (by decide)]
    rw [sm] at ih
    rcases m_isThere O M (k := k) (by omega) with ⟨p, hp, h, e⟩ | ⟨c, e⟩
    · have hv : hA T (kz (T (k2 / 30)) (k2 / 30) p2) k = if kz (T (k / 30)) (k / 30) p < kz (T (k2 / 30)) (k2 / 30) p2 then 1 else 0 := by
        unfold hA; rw [← h, hS_at (GA _ (by omega)) _ _ hp]
      rw [hv] at ih
      rw [e, bd_s, if_neg (by decide), m_isAhead O M (by omega) hp h hk2 hp2 h2, bd_s]
      by_cases d : kz (T (k / 30)) (k / 30) p < kz (T (k2 / 30)) (k2 / 30) p2
      · rw [if_pos d] at ih ⊢
        rw [if_neg (by decide), l_1, iI_add, ltm_s, iI_add, ltm_s]
        exact ih
      · rw [if_neg d] at ih ⊢
        rw [if_pos rfl, l_0, l_1, iI_add, ltm_s, iI_add, ltm_s]
        exact ih
    · have hv : hA T (kz (T (k2 / 30)) (k2 / 30) p2) k = 0 := by unfold hA; exact hS_no _ _ c
      rw [hv] at ih
      rw [e, bd_s, if_pos rfl, l_0, l_1, iI_add, ltm_s, iI_add, ltm_s]
      exact ih
/-- one turn of the reference's -/
theorem m_heavy_1 (O : OKY T mo ct) (M : MY (I 164) T mo ct) {z : Int} (z1 : -2147483648 ≤ z) (z2 : z < 2147483648) {k m : Nat} (hk : k < 90) : (∃ p, p < cnt (T (k / 30)) ∧ gs (T (k / 30)) p = k % 30 ∧ fX5_heaviest_p2 (m + 1) (iI z) (iI k) I = if cB T (kz (T (k / 30)) (k / 30) p) = z then some (iI ((k / 30 * 1000 + gw (T (k / 30)) p : Nat) : Int), I) else fX5_heaviest_p2 m (iI z) (iI ((k + 1 : Nat) : Int)) I) ∨ (¬ St (T (k / 30)) (k % 30) ∧ fX5_heaviest_p2 (m + 1) (iI z) (iI k) I = fX5_heaviest_p2 m (iI z) (iI ((k + 1 : Nat) : Int)) I) := by
  have GA : ∀ i, i < 3 → GT (T i) := fun i hi => (O.1 i hi).1
  have n90 : ¬ (90 : Int32) ≤ iI k := by rw [show (90 : Int32) = iI 90 from rfl, iI_le (by omega) (by omega) (by omega) (by omega)]; omega
  rcases m_isThere O M hk with ⟨p, hp, h, e⟩ | ⟨c, e⟩
  · left
    refine ⟨p, hp, h, ?_⟩
    have gp := (GA (k / 30) (by omega)).2.1 p hp
    have cn := m_cnt_p O M hk hp h (x1 := iI z) 90 0 1000 (by omega) (by omega)
    rw [hA_sum GA] at cn
    have cl := cB_le T (kz (T (k / 30)) (k / 30) p)
    have g0 := (GA 0 (by omega)).1
    have g1 := (GA 1 (by omega)).1
    have g2 := (GA 2 (by omega)).1
    rw [fX5_heaviest_p2, if_neg n90, show fX5_heaviest_p13 1000 (iI z) (iI k) 0 0 I = _ from cn, bd_s, e, bd_s, if_neg (by decide)]
    by_cases d : cB T (kz (T (k / 30)) (k / 30) p) = z
    · rw [if_pos d, if_pos (by rw [d]), (m_ofAll O M hk hp h).1, bd_s, (k_dm hk).1, l_1000, iI_mul, iI_add]
      congr 3; omega
    · rw [if_neg d, if_neg (by rw [iI_eq (by omega) (by omega) z1 z2]; exact d), ltm_s, l_1, iI_add]; rfl
  · right
    refine ⟨c, ?_⟩
    have u : ∃ u, fX5_heaviest_p13 1000 (iI z) (iI k) 0 0 I = some (u, I) := ⟨0, by
      rw [fX5_heaviest_p13, if_neg (by decide), e, bd_s, if_pos rfl]⟩
    obtain ⟨u, hu⟩ := u
    rw [fX5_heaviest_p2, if_neg n90, hu, bd_s, e, bd_s, if_pos rfl, ltm_s, l_1, iI_add]; rfl
theorem m_heavy_yes (O : OKY T mo ct) (M : MY (I 164) T mo ct) {z : Int} (z1 : -2147483648 ≤ z) (z2 : z < 2147483648) {i p : Nat} (hi : i < 3) (hp : p < cnt (T i)) (hz : cB T (kz (T i) i p) = z) : ∀ (r k m : Nat), k + r = 30 * i + gs (T i) p → r < m → fX5_heaviest_p2 m (iI z) (iI k) I = some (iI ((i * 1000 + gw (T i) p : Nat) : Int), I) := by
  have GA : ∀ i, i < 3 → GT (T i) := fun i hi => (O.1 i hi).1
  have gp := (GA i hi).2.1 p hp
  intro r
  induction r with
  | zero =>
    intro k m hk hm
    obtain ⟨m, rfl⟩ : ∃ y, m = y + 1 := ⟨m - 1, by omega⟩
    have e1 : k / 30 = i := by omega
    have e2 : k % 30 = gs (T i) p := by omega
    rcases m_heavy_1 O M z1 z2 (k := k) (m := m) (by omega) with ⟨q, q1, q2, q3⟩ | ⟨c, _⟩
    · rw [e1] at q1 q2 q3
      rw [e2] at q2
      have : q = p := by
        by_cases a : q < p
        · exact absurd q2 ((GA i hi).2.2.2 q p a hp)
        · by_cases b : p < q
          · exact absurd q2.symm ((GA i hi).2.2.2 p q b q1)
          · omega
      subst this
      rw [q3, if_pos hz]
    · rw [e1, e2] at c; exact absurd ⟨p, hp, rfl⟩ c
  | succ r ih =>
    intro k m hk hm
    obtain ⟨m, rfl⟩ : ∃ y, m = y + 1 := ⟨m - 1, by omega⟩
    have ih := ih (k + 1) m (by omega) (by omega)
    rcases m_heavy_1 O M z1 z2 (k := k) (m := m) (by omega) with ⟨q, q1, q2, q3⟩ | ⟨c, e⟩
    · rw [q3, if_neg ?_, ih]
      intro e
      have hk3 : k / 30 < 3 := by omega
      have s1 := cB_step (T := T) GA hi hp
      have s2 := cB_step (T := T) GA hk3 q1
      have ne : kz (T (k / 30)) (k / 30) q ≠ kz (T i) i p := fun e => by
        obtain ⟨x1, x2⟩ := kz_inj GA hk3 hi q1 hp e
        subst x1 x2
        omega
      by_cases a : kz (T (k / 30)) (k / 30) q < kz (T i) i p
      · have := cB_mono T (x := kz (T (k / 30)) (k / 30) q + 1) (y := kz (T i) i p) (by omega); omega
      · have := cB_mono T (x := kz (T i) i p + 1) (y := kz (T (k / 30)) (k / 30) q) (by omega); omega
    · rw [e, ih]
theorem m_heavy_no (O : OKY T mo ct) (M : MY (I 164) T mo ct) {z : Int} (z1 : -2147483648 ≤ z) (z2 : z < 2147483648) (hz : z < 0 ∨ ((cnt (T 0) + cnt (T 1) + cnt (T 2) : Nat) : Int) ≤ z) : ∀ (r k m : Nat), k + r = 90 → r < m → fX5_heaviest_p2 m (iI z) (iI k) I = some (iI (-11), I) := by
  have GA : ∀ i, i < 3 → GT (T i) := fun i hi => (O.1 i hi).1
  intro r
  induction r with
  | zero =>
    intro k m hk hm
    obtain ⟨m, rfl⟩ : ∃ y, m = y + 1 := ⟨m - 1, by omega⟩
    obtain rfl : k = 90 := by omega
    rw [fX5_heaviest_p2, if_pos (by decide)]; rfl
  | succ r ih =>
    intro k m hk hm
    obtain ⟨m, rfl⟩ : ∃ y, m = y + 1 := ⟨m - 1, by omega⟩
    have ih := ih (k + 1) m (by omega) (by omega)
    rcases m_heavy_1 O M z1 z2 (k := k) (m := m) (by omega) with ⟨q, q1, q2, q3⟩ | ⟨c, e⟩
    · rw [q3, if_neg ?_, ih]
      intro e
      have s2 := cB_step (T := T) GA (i := k / 30) (by omega) q1
      have l1 := cB_le T (kz (T (k / 30)) (k / 30) q)
      have l2 := cB_le T (kz (T (k / 30)) (k / 30) q + 1)
      omega
    · rw [e, ih]
end HM
theorem ak_heaviest (x : Int32) : Ak (fX4_heaviest x) (fX5_heaviest x) := ak_q fun I R => by
  obtain ⟨⟨T, mo, ct, O, C, M⟩, _⟩ := R
  obtain ⟨z, rfl, h1, h2⟩ := iI_ex x
  have g0 := (O.1 0 (by omega)).1.1
  have g1 := (O.1 1 (by omega)).1.1
  have g2 := (O.1 2 (by omega)).1.1
  have no : (z < 0 ∨ ((cnt (T 0) + cnt (T 1) + cnt (T 2) : Nat) : Int) ≤ z) → fX5_heaviest (iI z) I = some (iI (-11), I) := fun h => by
    rw [fX5_heaviest]; exact m_heavy_no O M h1 h2 h 90 0 1000 (by omega) (by omega)
  by_cases a : z < 0
  · refine ⟨iI (-11), I, ?_, no (Or.inl a), lf_rfl I⟩
    rw [fX4_heaviest, if_pos (by rw [l_0, iI_lt h1 h2 (by omega) (by omega)]; exact a)]; rfl
  · by_cases b : z < ((cnt (T 0) + cnt (T 1) + cnt (T 2) : Nat) : Int)
    · obtain ⟨i, p, hi, hp, hz, e⟩ := c_heavy_p O C (z := z) (by omega) b (z + 1).toNat 0 1000 (-1) (by omega) (by omega) (by omega) (by omega) (by
        unfold cB cR
        rw [sm_zero _ (fun p hp => if_neg (by have := kz_rng (O.1 0 (by omega)).1 (i := 0) (by omega) hp; omega)), sm_zero _ (fun p hp => if_neg (by have := kz_rng (O.1 1 (by omega)).1 (i := 1) (by omega) hp; omega)), sm_zero _ (fun p hp => if_neg (by have := kz_rng (O.1 2 (by omega)).1 (i := 2) (by omega) hp; omega))]
        rfl) (fun h => by omega)
      have gp := (O.1 i hi).1.2.1 p hp
      have me := m_heavy_yes O M h1 h2 hi hp hz (30 * i + gs (T i) p) 0 1000 (by omega) (by omega)
      refine ⟨_, I, ?_, by rw [fX5_heaviest]; exact me, lf_rfl I⟩
      rw [fX4_heaviest, if_neg (by rw [l_0, iI_lt h1 h2 (by omega) (by omega)]; exact a), c_sheaves (Or.inl rfl) C, bd_s, if_pos (by rw [iI_lt h1 h2 (by omega) (by omega)]; exact b)]
      exact e
    · refine ⟨iI (-11), I, ?_, no (Or.inr (by omega)), lf_rfl I⟩
      rw [fX4_heaviest, if_neg (by rw [l_0, iI_lt h1 h2 (by omega) (by omega)]; exact a), c_sheaves (Or.inl rfl) C, bd_s, if_neg (by rw [iI_lt h1 h2 (by omega) (by omega)]; exact b)]; rfl
