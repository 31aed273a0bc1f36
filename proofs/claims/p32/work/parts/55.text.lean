/-! ===== a text as orders: what both readers do ===== -/
/-- digits from a place on, at most so many: where they end, their value -/
def nE (c : Nat → Int) (n : Nat) : Nat → Nat → Nat
  | 0, p => p
  | d + 1, p => if p < n ∧ 48 ≤ c p ∧ c p ≤ 57 then nE c n d (p + 1) else p
def nV (c : Nat → Int) (n : Nat) : Nat → Nat → Int → Int
  | 0, _, a => a
  | d + 1, p, a => if p < n ∧ 48 ≤ c p ∧ c p ≤ 57 then nV c n d (p + 1) (a * 10 + c p - 48) else a
theorem ne_rng (c : Nat → Int) (n : Nat) : ∀ d p, p ≤ n → p ≤ nE c n d p ∧ nE c n d p ≤ n ∧ nE c n d p ≤ p + d
  | 0, p, h => by rw [nE]; omega
  | d + 1, p, h => by
    rw [nE]
    by_cases q : p < n ∧ 48 ≤ c p ∧ c p ≤ 57
    · rw [if_pos q]; have := ne_rng c n d (p + 1) (by omega); omega
    · rw [if_neg q]; omega
theorem ne_eq (c : Nat → Int) (n d p : Nat) (h : p ≤ n) : nE c n (d + 1) p = p ↔ ¬ (p < n ∧ 48 ≤ c p ∧ c p ≤ 57) := by
  rw [nE]
  by_cases q : p < n ∧ 48 ≤ c p ∧ c p ≤ 57
  · rw [if_pos q]; have := ne_rng c n d (p + 1) (by omega)
    exact ⟨fun e => by omega, fun e => absurd q e⟩
  · rw [if_neg q]; exact ⟨fun _ => q, fun _ => rfl⟩
/-- steps: (0, a character), (which + 1, digits) -/
abbrev Sp : Type := Nat × Nat
def stS (c : Nat → Int) (n : Nat) (s : Sp) (x : Bool × Nat) : Bool × Nat := if x.1 = true then x else if s.1 = 0 then (if x.2 < n ∧ c x.2 = s.2 then (false, x.2 + 1) else (true, x.2)) else if nE c n s.2 x.2 = x.2 then (true, x.2) else (false, nE c n s.2 x.2)
def runS (c : Nat → Int) (n : Nat) : List Sp → Bool × Nat → Bool × Nat
  | [], x => x
  | s :: ss, x => runS c n ss (stS c n s x)
theorem run_t (c : Nat → Int) (n : Nat) : ∀ (ss : List Sp) (p : Nat), runS c n ss (true, p) = (true, p)
  | [], p => rfl
  | s :: ss, p => by
    rw [runS, show stS c n s (true, p) = (true, p) from if_pos rfl]; exact run_t c n ss p
theorem st_le (c : Nat → Int) (n : Nat) (s : Sp) (x : Bool × Nat) (h : x.2 ≤ n) : x.2 ≤ (stS c n s x).2 ∧ (stS c n s x).2 ≤ n := by
  unfold stS
  split
  · exact ⟨Nat.le_refl _, h⟩
  · split
    · split
      · show x.2 ≤ x.2 + 1 ∧ x.2 + 1 ≤ n; omega
      · exact ⟨Nat.le_refl _, h⟩
    · split
      · exact ⟨Nat.le_refl _, h⟩
      · have := ne_rng c n s.2 x.2 h
        show x.2 ≤ nE c n s.2 x.2 ∧ nE c n s.2 x.2 ≤ n; omega
theorem run_le (c : Nat → Int) (n : Nat) : ∀ (ss : List Sp) (x : Bool × Nat), x.2 ≤ n → x.2 ≤ (runS c n ss x).2 ∧ (runS c n ss x).2 ≤ n
  | [], x, h => ⟨Nat.le_refl _, h⟩
  | s :: ss, x, h => by
    have a := st_le c n s x h
    have b := run_le c n ss _ a.2
    rw [runS]; omega
/-- a successful step moves on -/
theorem st_mv (c : Nat → Int) (n : Nat) (s : Sp) (x : Bool × Nat) (h : x.2 ≤ n) (e : (stS c n s x).1 = false) : x.1 = false ∧ x.2 + 1 ≤ (stS c n s x).2 := by
  unfold stS at e ⊢
  by_cases a : x.1 = true
  · rw [if_pos a] at e; rw [a] at e; exact absurd e (by decide)
  · rw [if_neg a] at e ⊢
    refine ⟨by cases hx : x.1 <;> simp_all, ?_⟩
    by_cases b : s.1 = 0
    · rw [if_pos b] at e ⊢
      by_cases d : x.2 < n ∧ c x.2 = s.2
      · rw [if_pos d]; exact Nat.le_refl _
      · rw [if_neg d] at e; exact absurd (show true = false from e) (by decide)
    · rw [if_neg b] at e ⊢
      by_cases d : nE c n s.2 x.2 = x.2
      · rw [if_pos d] at e; exact absurd (show true = false from e) (by decide)
      · rw [if_neg d]; have := ne_rng c n s.2 x.2 h; show x.2 + 1 ≤ nE c n s.2 x.2; omega
theorem run_mv (c : Nat → Int) (n : Nat) : ∀ (ss : List Sp) (x : Bool × Nat), x.2 ≤ n → (runS c n ss x).1 = false → x.1 = false ∧ x.2 + ss.length ≤ (runS c n ss x).2
  | [], x, h, e => ⟨e, Nat.le_refl _⟩
  | s :: ss, x, h, e => by
    rw [runS] at e ⊢
    have a := run_mv c n ss _ (st_le c n s x h).2 e
    have b := st_mv c n s x h a.1
    rw [List.length_cons]; exact ⟨b.1, by omega⟩
/-- the numbers that are read: by which -/
def vlS (c : Nat → Int) (n : Nat) : List Sp → Nat → Nat → Option Int
  | [], _, _ => none
  | s :: ss, p, q => if s.1 = 0 then vlS c n ss (p + 1) q else if (vlS c n ss (nE c n s.2 p) q).isSome then vlS c n ss (nE c n s.2 p) q else if q + 1 = s.1 then some (nV c n s.2 p 0) else none
/-- the steps of an order by its sign -/
def lsO (z : Int) : List Sp := if z = 37 then [(0, 37), (1, 2)] else if z = 43 then [(0, 43), (1, 1), (0, 58), (2, 3), (0, 42), (3, 2)] else if z = 45 then [(0, 45), (1, 1), (0, 58), (2, 3)] else if z = 61 then [(0, 61), (1, 1)] else if z = 62 then [(0, 62), (1, 1), (2, 1)] else [(0, 1), (0, 1)]
def orS (c : Nat → Int) (n p : Nat) : Bool × Nat := runS c n (lsO (c p)) (false, p)
theorem ls_len (z : Int) : 2 ≤ (lsO z).length := by
  unfold lsO
  repeat' split
  all_goals simp
theorem ord_mv {c : Nat → Int} {n p : Nat} (h : p ≤ n) (e : (orS c n p).1 = false) : p + 2 ≤ (orS c n p).2 ∧ (orS c n p).2 ≤ n := by
  have a := run_mv c n (lsO (c p)) (false, p) h e
  have b := run_le c n (lsO (c p)) (false, p) h
  have d := ls_len (c p)
  have a2 : p + (lsO (c p)).length ≤ (orS c n p).2 := a.2
  have b2 : (orS c n p).2 ≤ n := b.2
  omega
theorem ord_le {c : Nat → Int} {n p : Nat} (h : p ≤ n) : p ≤ (orS c n p).2 ∧ (orS c n p).2 ≤ n := run_le c n (lsO (c p)) (false, p) h
theorem ls_hd (z : Int) : ∃ a ss, lsO z = (0, a) :: ss := by
  unfold lsO
  repeat' split
  all_goals exact ⟨_, _, rfl⟩
theorem ord_end {c : Nat → Int} {n p : Nat} (h : ¬ p < n) : orS c n p = (true, p) := by
  obtain ⟨a, ss, e⟩ := ls_hd (c p)
  unfold orS
  rw [e, runS, show stS c n (0, a) (false, p) = (true, p) by unfold stS; rw [if_neg (show ¬ false = true by decide), if_pos rfl, if_neg (by rintro ⟨x, _⟩; exact h x)]]
  exact run_t c n ss p
/-- where the orders begin -/
def poF (c : Nat → Int) (n : Nat) : Nat → Nat
  | 0 => 0
  | k + 1 => (orS c n (poF c n k)).2 + 1
/-- the reading: wrong, where; how many -/
def paS_ (c : Nat → Int) (n : Nat) : Nat → Nat → Bool × Nat × Nat
  | 0, _ => (true, 0, 0)
  | f + 1, k => if (orS c n (poF c n k)).1 = true then (true, (orS c n (poF c n k)).2, 0) else if (orS c n (poF c n k)).2 < n then (if c (orS c n (poF c n k)).2 = 59 then paS_ c n f (k + 1) else (true, (orS c n (poF c n k)).2, 0)) else (false, n, k + 1)
theorem bf {b : Bool} (h : ¬ b = true) : b = false := by cases b <;> simp_all
theorem pa_good (c : Nat → Int) (n : Nat) : ∀ f k, (paS_ c n f k).1 = false → k + 1 ≤ (paS_ c n f k).2.2 ∧ (paS_ c n f k).2.2 ≤ k + f ∧ ∀ q, k ≤ q → q < (paS_ c n f k).2.2 → (orS c n (poF c n q)).1 = false
  | 0, k, e => absurd (show true = false from e) (by decide)
  | f + 1, k, e => by
    rw [paS_] at e ⊢
    by_cases a : (orS c n (poF c n k)).1 = true
    · rw [if_pos a] at e; exact absurd (show true = false from e) (by decide)
    · rw [if_neg a] at e ⊢
      have a' := bf a
      by_cases b : (orS c n (poF c n k)).2 < n
      · rw [if_pos b] at e ⊢
        by_cases d : c (orS c n (poF c n k)).2 = 59
        · rw [if_pos d] at e ⊢
          have ih := pa_good c n f (k + 1) e
          refine ⟨by omega, by omega, fun q h1 h2 => ?_⟩
          by_cases x : q = k
          · rw [x]; exact a'
          · exact ih.2.2 q (by omega) h2
        · rw [if_neg d] at e; exact absurd (show true = false from e) (by decide)
      · rw [if_neg b]
        refine ⟨Nat.le_refl _, by show k + 1 ≤ _; omega, fun q h1 h2 => ?_⟩
        have h2' : q < k + 1 := h2
        rw [show q = k by omega]; exact a'
theorem wr_self {I : Mm} {a j : Nat} {v : Int32} (h : I a j = v) : wr I a j v = I := by
  funext b k
  rw [wr_e]
  by_cases c : b = a ∧ k = j
  · rw [if_pos c, c.1, c.2, h]
  · rw [if_neg c]
theorem wr_wr (I : Mm) (a j : Nat) (u v : Int32) : wr (wr I a j u) a j v = wr I a j v := by
  funext b k
  rw [wr_e, wr_e, wr_e]
  by_cases c : b = a ∧ k = j
  · rw [if_pos c, if_pos c]
  · rw [if_neg c, if_neg c, if_neg c]
/-! the class reads -/
def TC (c : Nat → Int) (n : Nat) (J : Mm) : Prop := J 30 1 = iI n ∧ ∀ k, k < n → J 31 k = iI (c k)
theorem tc_of {c : Nat → Int} {n : Nat} {I J : Mm} (h : TC c n I) (o : ∀ a j, 30 ≤ a → a ≤ 31 → J a j = I a j) : TC c n J := ⟨by rw [o _ _ (by omega) (by omega)]; exact h.1, fun k hk => by rw [o _ _ (by omega) (by omega)]; exact h.2 k hk⟩
def GC (c : Nat → Int) (n : Nat) : Prop := n ≤ 60 ∧ ∀ k, k < n → 32 ≤ c k ∧ c k ≤ 126
section CTX
variable {c : Nat → Int} {n : Nat}
theorem c_cod (g : GC c n) {J : Mm} (h : TC c n J) {p : Nat} (hp : p ≤ n) : fX2_codeAt 30 (iI p) J = some (iI (if p < n then c p else -11), J) := by
  have g1 := g.1
  rw [c_codeAt h.1 g.1 (by omega) (by omega)]
  by_cases q : p < n
  · rw [if_pos (by omega), if_pos q, tn_n, show 30 + 1 = 31 from rfl, h.2 p q]
  · rw [if_neg (by omega), if_neg q]; rfl
theorem c_isC (g : GC c n) {J : Mm} (h : TC c n J) {p : Nat} (hp : p ≤ n) (e : J 34 3 = iI p) {ch : Nat} (hc : ch ≤ 126) : fX0_isCode 30 (iI ch) J = some (if p < n ∧ c p = ch then (1, wr J 34 3 (iI ((p + 1 : Nat) : Int))) else (0, J)) := by
  have g1 := g.1
  rw [fX0_isCode, e, c_cod g h hp, bd_s, e, l_1, iI_add, ltm_s]
  by_cases q : p < n
  · have gp := g.2 p q
    rw [if_pos q]
    by_cases d : c p = ch
    · rw [if_pos (by rw [d]), if_pos ⟨q, d⟩]; rfl
    · rw [if_neg (by rw [iI_eq (by omega) (by omega) (by omega) (by omega)]; exact d), if_neg (fun x => d x.2)]
  · rw [if_neg q, if_neg (by rw [iI_eq (by omega) (by omega) (by omega) (by omega)]; omega), if_neg (fun x => q x.1)]
theorem c_dig {z : Int} (h1 : -2147483648 ≤ z) (h2 : z < 2147483648) (J : Mm) : fX0_isDigit (iI z) J = some (iI (if 48 ≤ z ∧ z ≤ 57 then 1 else 0), J) := by
  unfold fX0_isDigit
  simp (disch := omega) only [l_48, l_57, iI_lt]
  by_cases a : z < 48
  · rw [if_pos a, if_neg (by omega)]; rfl
  · rw [if_neg a]
    by_cases b : 57 < z
    · rw [if_pos b, if_neg (by omega)]; rfl
    · rw [if_neg b, if_pos (by omega)]; rfl
theorem c_num_p (g : GC c n) {w d : Nat} (hd : d ≤ 3) : ∀ (rest q rd m : Nat) (a : Int) (J : Mm), rd + rest = d → rest < m → q ≤ n → TC c n J → J 34 3 = iI q → fX0_isNumber_p6 m 30 (iI w) (iI d) (iI a) (iI rd) J = fX0_isNumber_p61 (iI w) (iI (nV c n rest q a)) (iI ((rd + (nE c n rest q - q) : Nat) : Int)) (wr J 34 3 (iI (nE c n rest q)))
  | 0, q, rd, m, a, J, hr, hm, hq, h, e => by
    obtain ⟨m, rfl⟩ : ∃ y, m = y + 1 := ⟨m - 1, by omega⟩
    rw [fX0_isNumber_p6, if_pos (by rw [iI_le (by omega) (by omega) (by omega) (by omega)]; omega), nE, nV, wr_self e, Nat.sub_self, Nat.add_zero]
  | rest + 1, q, rd, m, a, J, hr, hm, hq, h, e => by
    have g1 := g.1
    obtain ⟨m, rfl⟩ : ∃ y, m = y + 1 := ⟨m - 1, by omega⟩
    have cz : -11 ≤ (if q < n then c q else -11) ∧ (if q < n then c q else -11) ≤ 126 := by
      by_cases x : q < n
      · have := g.2 q x; rw [if_pos x]; omega
      · rw [if_neg x]; omega
    rw [fX0_isNumber_p6, if_neg (by rw [iI_le (by omega) (by omega) (by omega) (by omega)]; omega), e, c_cod g h hq, bd_s, c_dig (by omega) (by omega), bd_s, e, c_cod g h hq, bd_s, e, nE, nV]
    by_cases x : q < n ∧ 48 ≤ c q ∧ c q ≤ 57
    · have ih := c_num_p g hd (w := w) rest (q + 1) (rd + 1) m (a * 10 + c q - 48) (wr J 34 3 (iI ((q + 1 : Nat) : Int))) (by omega) (by omega) (by omega) (tc_of h (fun a j _ _ => by rw [wr_e, if_neg (by omega)])) (by rw [wr_e, if_pos ⟨rfl, rfl⟩])
      have r := ne_rng c n rest (q + 1) (by omega)
      rw [if_pos x, if_pos x, if_pos x.1, if_pos x.2, if_neg i10, ltm_s, ltm_s, ltm_s, l_10, l_48, l_1, iI_mul, iI_add, iI_sub, iI_add, iI_add]
      rw [wr_wr] at ih
      rw [show rd + 1 + (nE c n rest (q + 1) - (q + 1)) = rd + (nE c n rest (q + 1) - q) by omega] at ih
      exact ih
    · rw [if_neg x, if_neg x, wr_self e, Nat.sub_self, Nat.add_zero, if_pos]
      by_cases y : q < n
      · rw [if_pos y, if_neg (by omega)]; rfl
      · rw [if_neg y, if_neg (by omega)]; rfl
theorem c_isN (g : GC c n) {J : Mm} (h : TC c n J) {p k : Nat} (hp : p ≤ n) (e : J 34 3 = iI p) (ek : J 34 2 = iI k) (hk : k < 20) {w d : Nat} (hw : w < 3) (hd : d ≤ 3) : fX0_isNumber 30 (iI w) (iI d) J = some (if nE c n d p = p then (0, J) else (1, wr (wr J 34 3 (iI (nE c n d p))) 36 (3 * k + w) (iI (nV c n d p 0)))) := by
  have r := ne_rng c n d p hp
  have key := c_num_p g hd (w := w) d p 0 1000 0 J (by omega) (by omega) hp h e
  rw [Nat.zero_add] at key
  rw [fX0_isNumber]
  refine Eq.trans key ?_
  rw [fX0_isNumber_p61]
  by_cases x : nE c n d p = p
  · rw [if_pos x, x, Nat.sub_self, if_pos (by decide), if_pos (by decide), wr_self e]
  · rw [if_neg x, if_neg (by rw [l_0, iI_le (by omega) (by omega) (by omega) (by omega)]; omega), show (wr J 34 3 (iI (nE c n d p))) 34 2 = iI k by rw [wr_e, if_neg (by omega), ek]]
    rw [if_neg (by rw [l_0, iI_lt (by omega) (by omega) (by omega) (by omega)]; omega), if_neg (by rw [l_20, iI_le (by omega) (by omega) (by omega) (by omega)]; omega), if_neg (by rw [l_0, iI_lt (by omega) (by omega) (by omega) (by omega)]; omega), if_neg (by rw [l_3, iI_le (by omega) (by omega) (by omega) (by omega)]; omega)]
    rw [l_3, iI_mul, iI_add, iI_cl (by omega) (by omega), if_neg (by rw [l_0, iI_lt (by omega) (by omega) (by omega) (by omega)]; omega), ltm_s, if_neg (by rw [l_0, iI_le (by omega) (by omega) (by omega) (by omega)]; omega), show ((k : Int) * 3 + w).toNat = 3 * k + w by omega]
/-- a step of the class's -/
def stC (s : Sp) (I : Mm) : Option (Int32 × Mm) := if s.1 = 0 then fX0_isCode 30 (iI s.2) I else fX0_isNumber 30 (iI ((s.1 - 1 : Nat) : Int)) (iI s.2) I
def runC : List Sp → Mm → Option (Int32 × Mm)
  | [], I => some (1, I)
  | s :: ss, I => bd (stC s I) fun r I1 => if r = 0 then some (0, I1) else runC ss I1
def okSp (s : Sp) : Prop := (s.1 = 0 ∧ s.2 ≤ 126) ∨ (1 ≤ s.1 ∧ s.1 ≤ 3 ∧ s.2 ≤ 3)
def CSt (c : Nat → Int) (n k p : Nat) (I J : Mm) : Prop := TC c n J ∧ J 34 2 = iI k ∧ J 34 3 = iI p ∧ ∀ a j, (a = 34 → j ≠ 3) → (a = 36 → j < 3 * k ∨ 3 * k + 3 ≤ j) → J a j = I a j
theorem c_run (g : GC c n) {k : Nat} (hk : k < 20) {I : Mm} : ∀ (ss : List Sp) (p : Nat) (J : Mm), (∀ s, s ∈ ss → okSp s) → p ≤ n → CSt c n k p I J → ∃ J', runC ss J = some (if (runS c n ss (false, p)).1 = true then 0 else 1, J') ∧ CSt c n k (runS c n ss (false, p)).2 I J' ∧ ((runS c n ss (false, p)).1 = false → ∀ q, q < 3 → (∀ v, vlS c n ss p q = some v → J' 36 (3 * k + q) = iI v) ∧ (vlS c n ss p q = none → J' 36 (3 * k + q) = J 36 (3 * k + q)))
  | [], p, J, ho, hp, h => ⟨J, rfl, h, fun _ q _ => ⟨fun v hv => (by cases hv), fun _ => rfl⟩⟩
  | s :: ss, p, J, ho, hp, h => by
    have os := ho s (List.mem_cons_self)
    rw [runC, stC, runS]
    by_cases a : s.1 = 0
    · have s2 : s.2 ≤ 126 := by unfold okSp at os; omega
      rw [if_pos a, c_isC g h.1 hp h.2.2.1 s2]
      by_cases b : p < n ∧ c p = s.2
      · have es : stS c n s (false, p) = (false, p + 1) := by unfold stS; rw [if_neg (show ¬ false = true by decide), if_pos a, if_pos b]
        rw [if_pos b, bd_s, if_neg (by decide), es]
        obtain ⟨J', e1, e2, e3⟩ := c_run (I := I) g hk ss (p + 1) (wr J 34 3 (iI ((p + 1 : Nat) : Int))) (fun s hs => ho s (List.mem_cons_of_mem _ hs)) (by omega) ⟨tc_of h.1 (fun a j _ _ => by rw [wr_e, if_neg (by omega)]), by rw [wr_e, if_neg (by omega)]; exact h.2.1, by rw [wr_e, if_pos ⟨rfl, rfl⟩], fun a j x y => by rw [wr_e, if_neg (by omega)]; exact h.2.2.2 a j x y⟩
        refine ⟨J', e1, e2, fun f q hq => ?_⟩
        have := e3 f q hq
        rw [vlS, if_pos a]
        rw [wr_e, if_neg (by omega)] at this
        exact this
      · have es : stS c n s (false, p) = (true, p) := by unfold stS; rw [if_neg (show ¬ false = true by decide), if_pos a, if_neg b]
        rw [if_neg b, bd_s, if_pos rfl, es, run_t]
        exact ⟨J, rfl, h, fun f => absurd (show true = false from f) (by decide)⟩
    · have s2 : s.1 - 1 < 3 ∧ s.2 ≤ 3 := by unfold okSp at os; omega
      rw [if_neg a, c_isN g h.1 hp h.2.2.1 h.2.1 hk s2.1 s2.2]
      have r := ne_rng c n s.2 p hp
      by_cases b : nE c n s.2 p = p
      · have es : stS c n s (false, p) = (true, p) := by unfold stS; rw [if_neg (show ¬ false = true by decide), if_neg a, if_pos b]
        rw [if_pos b, bd_s, if_pos rfl, es, run_t]
        exact ⟨J, rfl, h, fun f => absurd (show true = false from f) (by decide)⟩
      · have es : stS c n s (false, p) = (false, nE c n s.2 p) := by unfold stS; rw [if_neg (show ¬ false = true by decide), if_neg a, if_neg b]
        rw [if_neg b, bd_s, if_neg (by decide), es]
        obtain ⟨J', e1, e2, e3⟩ := c_run (I := I) g hk ss (nE c n s.2 p) (wr (wr J 34 3 (iI (nE c n s.2 p))) 36 (3 * k + (s.1 - 1)) (iI (nV c n s.2 p 0))) (fun s hs => ho s (List.mem_cons_of_mem _ hs)) (by omega) ⟨tc_of h.1 (fun a j _ _ => by rw [wr_e, if_neg (by omega), wr_e, if_neg (by omega)]), by rw [wr_e, if_neg (by omega), wr_e, if_neg (by omega)]; exact h.2.1, by rw [wr_e, if_neg (by omega), wr_e, if_pos ⟨rfl, rfl⟩], fun a j x y => by rw [wr_e, if_neg (by omega), wr_e, if_neg (by omega)]; exact h.2.2.2 a j x y⟩
        refine ⟨J', e1, e2, fun f q hq => ?_⟩
        have t := e3 f q hq
        rw [vlS, if_neg a]
        cases hv : vlS c n ss (nE c n s.2 p) q with
        | some v => 
          refine ⟨fun v' hv' => ?_, fun hv' => by simp at hv'⟩
          simp at hv'
          rw [← hv']; exact t.1 v hv
        | none =>
          have t2 := t.2 hv
          rw [wr_e] at t2
          by_cases x : q + 1 = s.1
          · rw [if_pos ⟨rfl, by omega⟩] at t2
            refine ⟨fun v' hv' => ?_, fun hv' => by simp [x] at hv'⟩
            simp [x] at hv'
            rw [← hv']; exact t2
          · rw [if_neg (by omega), wr_e, if_neg (by omega)] at t2
            exact ⟨fun v' hv' => by simp [x] at hv', fun _ => t2⟩
theorem ls_ok (z : Int) : ∀ s, s ∈ lsO z → okSp s := by
  unfold lsO okSp
  intro s hs
  repeat' split at hs
  all_goals (simp only [List.mem_cons, List.not_mem_nil, or_false] at hs; rcases hs with rfl | rfl | rfl | rfl | rfl | rfl <;> simp)
end CTX
