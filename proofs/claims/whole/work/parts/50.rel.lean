/-! ===== both sides alike: the relation between the class's cells and the reference's ===== -/
def SvR (I : Mm) : Prop := (I 0 2 = 0 ∧ I 163 7 = 0) ∨ (I 0 2 = 1 ∧ I 163 7 = 1 ∧ YY I 15 (I 165))
def PaR (I : Mm) (nx un : Nat) : Prop := nx < 9 ∧ un ≤ 8 ∧ I 0 4 = iI nx ∧ I 0 5 = iI un ∧ I 163 4 = iI un ∧ ∀ k, k < un → YY I (37 + 14 * ((nx + 9 - un + k) % 9)) (I (168 + k))
def RsR (I : Mm) : Prop := (I 163 5 = 0 ∧ I 0 9 = -15 ∧ I 0 10 = -15) ∨ (I 163 5 ≠ 0 ∧ I 0 9 = I 163 5 ∧ I 0 10 = I 163 6)
def TxR (I : Mm) : Prop := ∃ n : Nat, n ≤ 60 ∧ I 30 1 = iI n ∧ I 163 13 = iI n ∧ ∀ k, k < n → ∃ z : Int, 32 ≤ z ∧ z ≤ 126 ∧ I 31 k = iI z ∧ I 178 k = iI z
def LnR (I : Mm) : Prop := ∃ n : Nat, n ≤ 60 ∧ I 32 1 = iI n ∧ I 163 21 = iI n ∧ ∀ k, k < n → I 33 k = I 179 k
def RR (I : Mm) : Prop := YY I 1 (I 164) ∧ SvR I ∧ (∃ nx un, PaR I nx un) ∧ RsR I ∧ I 163 8 = 0 ∧ TxR I ∧ LnR I
theorem sv_of {I J : Mm} (R : SvR I) (h1 : ∀ a j, 15 ≤ a → a ≤ 28 → J a j = I a j) (h2 : J 0 2 = I 0 2) (h3 : J 163 7 = I 163 7) (h4 : ∀ j, J 165 j = I 165 j) : SvR J := by
  rcases R with ⟨a, b⟩ | ⟨a, b, c⟩
  · exact Or.inl ⟨by rw [h2, a], by rw [h3, b]⟩
  · exact Or.inr ⟨by rw [h2, a], by rw [h3, b], yy_of c (fun a j x y => h1 a j x (by omega)) (fun j _ => h4 j)⟩
theorem pa_of {I J : Mm} {nx un : Nat} (R : PaR I nx un) (h1 : ∀ a j, 37 ≤ a → a < 163 → J a j = I a j) (h2 : J 0 4 = I 0 4) (h3 : J 0 5 = I 0 5) (h4 : J 163 4 = I 163 4) (h5 : ∀ a j, 168 ≤ a → a < 176 → J a j = I a j) : PaR J nx un := by
  obtain ⟨a, b, c, d, e, g⟩ := R
  refine ⟨a, b, by rw [h2, c], by rw [h3, d], by rw [h4, e], fun k hk => yy_of (g k hk) (fun x j h1' h2' => h1 x j (by omega) (by omega)) (fun j _ => h5 _ j (by omega) (by omega))⟩
theorem rs_of {I J : Mm} (R : RsR I) (h1 : J 163 5 = I 163 5) (h2 : J 163 6 = I 163 6) (h3 : J 0 9 = I 0 9) (h4 : J 0 10 = I 0 10) : RsR J := by
  unfold RsR at R ⊢
  rw [h1, h2, h3, h4]; exact R
theorem tx_of {I J : Mm} (R : TxR I) (h1 : ∀ a j, 30 ≤ a → a ≤ 31 → J a j = I a j) (h2 : J 163 13 = I 163 13) (h3 : ∀ j, J 178 j = I 178 j) : TxR J := by
  obtain ⟨n, a, b, c, d⟩ := R
  refine ⟨n, a, by rw [h1 _ _ (by omega) (by omega), b], by rw [h2, c], fun k hk => ?_⟩
  rw [h1 _ _ (by omega) (by omega), h3]; exact d k hk
theorem ln_of {I J : Mm} (R : LnR I) (h1 : ∀ a j, 32 ≤ a → a ≤ 33 → J a j = I a j) (h2 : J 163 21 = I 163 21) (h3 : ∀ j, J 179 j = I 179 j) : LnR J := by
  obtain ⟨n, a, b, c, d⟩ := R
  refine ⟨n, a, by rw [h1 _ _ (by omega) (by omega), b], by rw [h2, c], fun k hk => ?_⟩
  rw [h1 _ _ (by omega) (by omega), h3]; exact d k hk
/-- what the reference's lists change tells nothing -/
theorem rr_lf {I J : Mm} (R : RR I) (h : LF I J) : RR J := by
  obtain ⟨a, b, ⟨nx, un, c⟩, d, e, f, g⟩ := R
  exact ⟨yy_of a (fun x j _ _ => h x j (by omega) (by omega)) (fun j _ => h 164 j (by omega) (by omega)), sv_of b (fun x j _ _ => h x j (by omega) (by omega)) (h _ _ (by omega) (by omega)) (h _ _ (by omega) (by omega)) (fun j => h _ _ (by omega) (by omega)), ⟨nx, un, pa_of c (fun x j _ _ => h x j (by omega) (by omega)) (h _ _ (by omega) (by omega)) (h _ _ (by omega) (by omega)) (h _ _ (by omega) (by omega)) (fun x j _ _ => h x j (by omega) (by omega))⟩, rs_of d (h _ _ (by omega) (by omega)) (h _ _ (by omega) (by omega)) (h _ _ (by omega) (by omega)) (h _ _ (by omega) (by omega)), by rw [h _ _ (by omega) (by omega), e], tx_of f (fun x j _ _ => h x j (by omega) (by omega)) (h _ _ (by omega) (by omega)) (fun j => h _ _ (by omega) (by omega)), ln_of g (fun x j _ _ => h x j (by omega) (by omega)) (h _ _ (by omega) (by omega)) (fun j => h _ _ (by omega) (by omega))⟩
/-- a call of both -/
def Ak {α : Type} (cF mF : Mm → Option (α × Mm)) : Prop := ∀ I, RR I → ∃ (v : α) (J L : Mm), cF I = some (v, J) ∧ mF J = some (v, L) ∧ RR L
theorem ak_q {α : Type} {cF mF : Mm → Option (α × Mm)} (h : ∀ I, RR I → ∃ (v : α) (L : Mm), cF I = some (v, I) ∧ mF I = some (v, L) ∧ LF I L) : Ak cF mF := fun I R => by
  obtain ⟨v, L, a, b, c⟩ := h I R
  exact ⟨v, I, L, a, b, rr_lf R c⟩
/-- what a row that is remembered leaves -/
def chg (un s : Nat) (K : Mm) : Mm := fun a j => if a = 163 ∧ j = 4 then iI (min (un + 1) 8 : Nat) else if un = 8 ∧ 168 ≤ a ∧ a < 175 ∧ j < 373 then K (a + 1) j else if a = 168 + min un 7 ∧ j < 373 then K s j else K a j
theorem m_rem_p {s : Nat} (hs : s = 164 ∨ s = 166) (K : Mm) : ∀ (k q m : Nat) (J : Mm), q + k = 7 → k < m → (∀ a j, J a j = if a = 163 ∧ j = 4 then iI 7 else if 168 ≤ a ∧ a < 168 + q ∧ j < 373 then K (a + 1) j else K a j) → ∃ L, fX5_remember_p21 m s (iI q) J = some ((), L) ∧ ∀ a j, L a j = chg 8 s K a j := by
  intro k
  induction k with
  | zero =>
    intro q m J hq hm h
    obtain ⟨m, rfl⟩ : ∃ x, m = x + 1 := ⟨m - 1, by omega⟩
    obtain rfl : q = 7 := by omega
    have e : J 163 4 = iI 7 := by rw [h, if_pos ⟨rfl, rfl⟩]
    obtain ⟨L, e1, e2, e3⟩ := @m_copyRow J s 175 (by unfold isW; omega) (by unfold isW; omega) (by omega)
    have e5 : L 163 4 = iI 7 := by rw [e3 _ _ (by omega), e]
    refine ⟨wr L 163 4 (iI 8), ?_, fun a j => ?_⟩
    · rw [fX5_remember_p21, e, if_pos (by decide), if_neg (by decide), show (168 + (iI 7).toNatClampNeg) = 175 from rfl, e1, bd_s, ltm_s, e5]
      rfl
    · rw [wr_e]
      unfold chg
      by_cases c : a = 163 ∧ j = 4
      · rw [if_pos c, if_pos c]; rfl
      · rw [if_neg c, if_neg c]
        by_cases c2 : 168 ≤ a ∧ a < 175 ∧ j < 373
        · rw [if_pos (by omega), e3 a j (by omega), h, if_neg c, if_pos (by omega)]
        · rw [if_neg (by omega)]
          by_cases c3 : a = 175 ∧ j < 373
          · rw [if_pos (by omega), c3.1, e2 j c3.2, h, if_neg (by omega), if_neg (by omega)]
          · rw [if_neg (by omega), e3 a j (by omega), h, if_neg c, if_neg (by omega)]
  | succ k ih =>
    intro q m J hq hm h
    obtain ⟨m, rfl⟩ : ∃ x, m = x + 1 := ⟨m - 1, by omega⟩
    have e : J 163 4 = iI 7 := by rw [h, if_pos ⟨rfl, rfl⟩]
    obtain ⟨J2, e1, e2, e3⟩ := @m_copyRow J (168 + (q + 1)) (168 + q) (by unfold isW; omega) (by unfold isW; omega) (by omega)
    obtain ⟨L, f1, f2⟩ := ih (q + 1) m J2 (by omega) (by omega) (fun a j => by
      by_cases c : a = 168 + q ∧ j < 373
      · rw [c.1, e2 j c.2, h, if_neg (by omega), if_neg (by omega), if_neg (by omega), if_pos (by omega)]; rfl
      · rw [e3 a j (by omega), h]
        by_cases c2 : a = 163 ∧ j = 4
        · rw [if_pos c2, if_pos c2]
        · rw [if_neg c2, if_neg c2]
          by_cases c3 : 168 ≤ a ∧ a < 168 + q ∧ j < 373
          · rw [if_pos c3, if_pos (by omega)]
          · rw [if_neg c3, if_neg (by omega)])
    refine ⟨L, ?_, f2⟩
    rw [fX5_remember_p21, e, if_neg (by rw [iI_le (by omega) (by omega) (by omega) (by omega)]; omega), l_1, iI_add]
    simp (disch := omega) only [l_0, show (8 : Nat) = 8 from rfl, iI_lt, iI_cl, if_neg, ltm_s]
    rw [show ((q : Int) + 1).toNat = q + 1 from rfl, show ((q : Int)).toNat = q from rfl, e1, bd_s]
    exact f1
theorem m_remember {s : Nat} (hs : s = 164 ∨ s = 166) {K : Mm} {un : Nat} (hu : un ≤ 8) (h : K 163 4 = iI un) : ∃ L, fX5_remember s K = some ((), L) ∧ ∀ a j, L a j = chg un s K a j := by
  by_cases c : un = 8
  · subst c
    obtain ⟨L, e1, e2⟩ := m_rem_p hs K 7 0 1000 (wr K 163 4 (iI 7)) (by omega) (by omega) (fun a j => by
      rw [wr_e]
      by_cases c2 : a = 163 ∧ j = 4
      · rw [if_pos c2, if_pos c2]
      · rw [if_neg c2, if_neg c2, if_neg (by omega)])
    refine ⟨L, ?_, e2⟩
    rw [fX5_remember, h, if_pos (by decide), ltm_s]
    exact e1
  · obtain ⟨L, e1, e2, e3⟩ := @m_copyRow K s (168 + un) (by unfold isW; omega) (by unfold isW; omega) (by omega)
    have e5 : L 163 4 = iI un := by rw [e3 _ _ (by omega), h]
    refine ⟨wr L 163 4 (iI ((un + 1 : Nat) : Int)), ?_, fun a j => ?_⟩
    · rw [fX5_remember, h, if_neg (by rw [l_8, iI_eq (by omega) (by omega) (by omega) (by omega)]; omega)]
      simp (disch := omega) only [l_0, iI_lt, iI_cl, if_neg]
      rw [show ((un : Int)).toNat = un from rfl, e1, bd_s, ltm_s, e5, l_1, iI_add]
      rfl
    · rw [wr_e]
      unfold chg
      by_cases c2 : a = 163 ∧ j = 4
      · rw [if_pos c2, if_pos c2, Nat.min_eq_left (by omega)]
      · rw [if_neg c2, if_neg c2, if_neg (by omega), Nat.min_eq_left (by omega)]
        by_cases c3 : a = 168 + un ∧ j < 373
        · rw [if_pos c3, c3.1, e2 j c3.2]
        · rw [if_neg c3, e3 a j (by omega)]
theorem chg_ok {K : Mm} {un : Nat} (hu : un ≤ 8) (h : K 163 4 = iI un) (h8 : K 163 8 = 0) : ChgOK K (chg un 164 K) := fun K0 l => by
  obtain ⟨L, e1, e2⟩ := m_remember (s := 164) (Or.inl rfl) (K := K0) hu (by rw [l _ _ (by omega) (by omega), h])
  refine ⟨L, ?_, funext fun j => ?_, fun a j a1 a2 a3 a4 => ?_⟩
  · rw [fX5_change, l _ _ (by omega) (by omega), h8, if_pos rfl, e1, bd_s]
  · rw [e2]; unfold chg; rw [if_neg (by omega), if_neg (by omega), if_neg (by omega)]
  · rw [e2]
    unfold chg
    rw [l a j a2 a4, l 164 j (by omega) (by omega)]
    by_cases c : a = 163 ∧ j = 4
    · rw [if_pos c, if_pos c]
    · rw [if_neg c, if_neg c]
      by_cases c2 : un = 8 ∧ 168 ≤ a ∧ a < 175 ∧ j < 373
      · rw [if_pos c2, if_pos c2, l _ _ (by omega) (by omega)]
      · rw [if_neg c2, if_neg c2]
theorem chg_in {K : Mm} (h8 : K 163 8 = 1) : ChgOK K K := fun K0 l => ⟨K0, by rw [fX5_change, l _ _ (by omega) (by omega), h8, if_neg (by decide)], rfl, lf_eq l⟩
section HOLD
variable {I : Mm}
theorem c_before {nx : Nat} (h : nx < 9) (e : I 0 4 = iI nx) : fX4_beforeNow I = some (some (37 + 14 * nx), I) := by
  rw [fX4_beforeNow, e, l_9]
  simp (disch := omega) only [l_0, iI_lt, iI_le, iI_cl, if_neg]
  rfl
theorem is_p {nx : Nat} (h : nx < 9) : isY (37 + 14 * nx) := Or.inr (Or.inr ⟨nx, h, rfl⟩)
theorem c_hold {nx : Nat} (h : nx < 9) (e : I 0 4 = iI nx) {T : Nat → Tr} {mo : Nat → Nat} {ct : Nat → Int32} (O : OKY T mo ct) (C : CY I 1 T mo ct) : ∃ J, fX4_hold I = some ((), J) ∧ CY J (37 + 14 * nx) T mo ct ∧ ∀ x j, (x < 37 + 14 * nx ∨ 37 + 14 * nx + 13 < x) → J x j = I x j := by
  obtain ⟨J, a, b, c⟩ := c_copyY (is_p h) (Or.inl rfl) (by omega) O C
  exact ⟨J, by rw [fX4_hold, c_before h e, bd_s, on_1, if_pos (kd_y (is_p h)), a, bd_s], b, c⟩
theorem c_give {nx : Nat} (h : nx < 9) (e : I 0 4 = iI nx) {T : Nat → Tr} {mo : Nat → Nat} {ct : Nat → Int32} (O : OKY T mo ct) (C : CY I (37 + 14 * nx) T mo ct) : ∃ J, fX4_giveBack I = some ((), J) ∧ CY J 1 T mo ct ∧ ∀ x j, (x < 1 ∨ 14 < x) → J x j = I x j := by
  obtain ⟨J, a, b, c⟩ := c_copyY (Or.inl rfl) (is_p h) (by omega) O C
  exact ⟨J, by rw [fX4_giveBack, c_before h e, bd_s, on_1, if_pos (kd_y (is_p h)), a, bd_s], b, c⟩
theorem c_keep0 {v : Int32} (h : v < 0) : fX4_keep v I = some (v, I) := by rw [fX4_keep, if_pos h]
theorem c_keep1 {v : Int32} (h : 0 ≤ v) {nx un : Nat} (h1 : nx < 9) (h2 : un ≤ 8) (e1 : I 0 4 = iI nx) (e2 : I 0 5 = iI un) : fX4_keep v I = some (v, wr (wr I 0 4 (iI (((nx + 1) % 9 : Nat) : Int))) 0 5 (iI (min (un + 1) 8 : Nat))) := by
  have nv : ¬ v < 0 := by rw [Int32.lt_iff_toInt_lt]; rw [Int32.le_iff_toInt_le] at h; omega
  rw [fX4_keep, if_neg nv, e1, ltm_s, ltm_s]
  have a : (iI nx + 1 - (iI nx + 1) / 9 * 9) = iI (((nx + 1) % 9 : Nat) : Int) := by
    rw [l_1, l_9, iI_add, iI_div (by omega) (by omega) (by omega) (by omega), iI_mul, iI_sub]; congr 1; omega
  have b : wr I 0 4 (iI (((nx + 1) % 9 : Nat) : Int)) 0 5 = iI un := by rw [wr_e, if_neg (by omega), e2]
  rw [a, b, l_1, l_8, iI_add, iI_min (by omega) (by omega) (by omega) (by omega)]
  congr 4; omega
end HOLD
