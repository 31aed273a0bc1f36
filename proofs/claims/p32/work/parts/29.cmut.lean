/-! ===== what the class's rick does ===== -/
theorem wr_e (I : Mm) (a j : Nat) (v : Int32) (b k : Nat) : wr I a j v b k = if b = a ∧ k = j then v else I b k := rfl
/-- nothing but the rick's sheaves has changed -/
def Off (r : Nat) (I J : Mm) : Prop := ∀ a j, (a < r ∨ r + 3 < a ∨ (a = r ∧ j ≠ 3)) → J a j = I a j
theorem off_rfl (r : Nat) (I : Mm) : Off r I I := fun _ _ _ => rfl
theorem off_tr {r : Nat} {I J K : Mm} (h : Off r I J) (h2 : Off r J K) : Off r I K := fun a j c => (h2 a j c).trans (h a j c)
section CM
variable {r n : Nat} {J : Mm}
theorem u_weightAt (h3 : J r 3 = iI n) (hn : n ≤ 30) {p : Nat} (hp : p < n) : fX1_weightAt r (iI p) J = some (J (r + 1) p, J) := by
  unfold fX1_weightAt
  rw [h3]
  simp (disch := omega) only [l_0, l_30, iI_lt, iI_le, iI_cl, if_neg, tn_n]
theorem u_loadAt (h3 : J r 3 = iI n) (hn : n ≤ 30) {p : Nat} (hp : p < n) : fX1_loadAt r (iI p) J = some (J (r + 2) p, J) := by
  unfold fX1_loadAt
  rw [h3]
  simp (disch := omega) only [l_0, l_30, iI_lt, iI_le, iI_cl, if_neg, tn_n]
theorem u_depthAt (h3 : J r 3 = iI n) (hn : n ≤ 30) {p : Nat} (hp : p < n) : fX1_depthAt r (iI p) J = some (J (r + 3) p, J) := by
  unfold fX1_depthAt
  rw [h3]
  simp (disch := omega) only [l_0, l_30, iI_lt, iI_le, iI_cl, if_neg, tn_n]
theorem u_set {a b c : Int32} {p : Nat} (hp : p < 30) : fX1_set r (iI p) a b c J = some ((), wr (wr (wr J (r + 1) p a) (r + 2) p b) (r + 3) p c) := by
  unfold fX1_set
  simp (disch := omega) only [l_0, l_30, iI_lt, iI_le, iI_cl, if_neg, tn_n, ltm_s]
theorem u_setDepth {c : Int32} {p : Nat} (hp : p < 30) : fX1_setDepth r (iI p) c J = some ((), wr J (r + 3) p c) := by
  unfold fX1_setDepth
  simp (disch := omega) only [l_0, l_30, iI_lt, iI_le, iI_cl, if_neg, tn_n, ltm_s]
theorem c_lay_p {place : Nat} {a b c : Int32} (hn : n < 30) : ∀ k i m (J : Mm), i = place + k → i ≤ n → J r 3 = iI n → k < m → ∃ J', fX1_lay_p49 m r a b (iI place) c (iI i) J = some (iI place, J') ∧ ∀ x j, J' x j = if x = r ∧ j = 3 then iI ((n + 1 : Nat) : Int) else if x = r + 1 ∨ x = r + 2 ∨ x = r + 3 then (if j < place then J x j else if j = place then (if x = r + 1 then a else if x = r + 2 then b else c) else if j ≤ i then J x (j - 1) else J x j) else J x j := by
  intro k
  induction k with
  | zero =>
    intro i m J hi h2 h3 hm
    obtain ⟨m, rfl⟩ : ∃ x, m = x + 1 := ⟨m - 1, by omega⟩
    obtain rfl : i = place := by omega
    have e : (wr (wr (wr J (r + 1) i a) (r + 2) i b) (r + 3) i c) r 3 = iI n := by
      simp (disch := omega) only [wr_e, if_neg]; exact h3
    rw [fX1_lay_p49]
    simp (disch := omega) only [iI_le, if_pos, u_set, bd_s, ltm_s]
    refine ⟨_, rfl, fun x j => ?_⟩
    rw [e, l_1, iI_add]
    simp only [wr_e]
    grind
  | succ k ih =>
    intro i m J hi h2 h3 hm
    obtain ⟨m, rfl⟩ : ∃ x, m = x + 1 := ⟨m - 1, by omega⟩
    rw [fX1_lay_p49, l_1, iI_neg, iI_sub, iI_add, show (i : Int) + -1 = ((i - 1 : Nat) : Int) by omega, show (i : Int) - 1 = ((i - 1 : Nat) : Int) by omega]
    simp (disch := omega) only [iI_le, if_neg, u_weightAt h3, u_loadAt h3, u_depthAt h3, bd_s, u_set, ltm_s]
    obtain ⟨J', e, h⟩ := ih (i - 1) m (wr (wr (wr J (r + 1) i (J (r + 1) (i - 1))) (r + 2) i (J (r + 2) (i - 1))) (r + 3) i (J (r + 3) (i - 1))) (by omega) (by omega) (by simp (disch := omega) only [wr_e, if_neg]; exact h3) (by omega)
    refine ⟨J', e, fun x j => ?_⟩
    rw [h]
    simp only [wr_e]
    grind
theorem c_lift_p (hn : n ≤ 30) : ∀ k i m (J : Mm), i + k + 1 = n → J r 3 = iI n → k < m → ∃ J', fX1_lift_p73 m r (iI i) J = some ((), J') ∧ ∀ x j, J' x j = if x = r ∧ j = 3 then iI ((n - 1 : Nat) : Int) else if x = r + 1 ∨ x = r + 2 ∨ x = r + 3 then (if j < i then J x j else if j + 1 < n then J x (j + 1) else J x j) else J x j := by
  intro k
  induction k with
  | zero =>
    intro i m J hi h3 hm
    obtain ⟨m, rfl⟩ : ∃ x, m = x + 1 := ⟨m - 1, by omega⟩
    rw [fX1_lift_p73, h3, l_1, iI_sub]
    simp (disch := omega) only [iI_le, if_pos, ltm_s]
    refine ⟨_, rfl, fun x j => ?_⟩
    rw [show (n : Int) - 1 = ((n - 1 : Nat) : Int) by omega]
    simp only [wr_e]
    grind
  | succ k ih =>
    intro i m J hi h3 hm
    obtain ⟨m, rfl⟩ : ∃ x, m = x + 1 := ⟨m - 1, by omega⟩
    rw [fX1_lift_p73, h3, l_1, iI_sub, iI_add, show (i : Int) + 1 = ((i + 1 : Nat) : Int) by omega]
    simp (disch := omega) only [iI_le, if_neg, u_weightAt h3, u_loadAt h3, u_depthAt h3, bd_s, u_set, ltm_s]
    obtain ⟨J', e, h⟩ := ih (i + 1) m (wr (wr (wr J (r + 1) i (J (r + 1) (i + 1))) (r + 2) i (J (r + 2) (i + 1))) (r + 3) i (J (r + 3) (i + 1))) (by omega) (by simp (disch := omega) only [wr_e, if_neg]; exact h3) (by omega)
    refine ⟨J', e, fun x j => ?_⟩
    rw [h]
    simp only [wr_e]
    grind
theorem c_raise_p (hn : n ≤ 30) {hi : Nat} (hh : hi < n) : ∀ k i m (J : Mm), i + k = hi + 1 → J r 3 = iI n → k < m → ∃ J', fX1_raise_p2 m r (iI hi) (iI i) J = some ((), J') ∧ ∀ x j, J' x j = if x = r + 3 ∧ i ≤ j ∧ j ≤ hi then J x j - 1 else J x j := by
  intro k
  induction k with
  | zero =>
    intro i m J h2 h3 hm
    obtain ⟨m, rfl⟩ : ∃ x, m = x + 1 := ⟨m - 1, by omega⟩
    rw [fX1_raise_p2]
    simp (disch := omega) only [iI_lt, if_pos]
    refine ⟨_, rfl, fun x j => ?_⟩
    rw [if_neg (by omega)]
  | succ k ih =>
    intro i m J h2 h3 hm
    obtain ⟨m, rfl⟩ : ∃ x, m = x + 1 := ⟨m - 1, by omega⟩
    rw [fX1_raise_p2, h3]
    simp (disch := omega) only [iI_lt, iI_le, if_neg, u_depthAt h3, bd_s, u_setDepth, ltm_s]
    rw [l_1, iI_add, show (i : Int) + 1 = ((i + 1 : Nat) : Int) by omega]
    obtain ⟨J', e, h⟩ := ih (i + 1) m (wr J (r + 3) i (J (r + 3) i - iI 1)) (by omega) (by simp (disch := omega) only [wr_e, if_neg]; exact h3) (by omega)
    refine ⟨J', e, fun x j => ?_⟩
    rw [h]
    simp only [wr_e]
    rw [← l_1]
    grind
/-- how many depths are other ones -/
def mvF (od nd : Nat → Int) : Nat → Int := sm (fun j => if od j = nd j then 0 else 1)
theorem c_spread (hn : n ≤ 30) {od nd : Nat → Int} {fs fw fl : Nat → Nat} (ho : ∀ j, j < n → -1 ≤ od j ∧ od j < 100) : ∀ (fu lo c d m : Nat) (J : Mm), c ≤ fu → lo + c ≤ n → d + c ≤ 31 → J r 3 = iI n → (∀ j, lo ≤ j → j < lo + c → J (r + 3) j = iI (od j) ∧ nd j = ((d + gd (balT fs fw fl fu lo c) (j - lo) : Nat) : Int)) → c < m → ∃ J', fX1_spread m r (iI lo) (iI ((lo : Int) + c - 1)) (iI d) J = some (iI (mvF od nd (lo + c) - mvF od nd lo), J') ∧ ∀ x j, J' x j = if x = r + 3 ∧ lo ≤ j ∧ j < lo + c then iI (nd j) else J x j
  | fu, lo, 0, d, m, J, h1, h2, h3, h4, h5, hm => by
    obtain ⟨m, rfl⟩ : ∃ x, m = x + 1 := ⟨m - 1, by omega⟩
    rw [fX1_spread]
    simp (disch := omega) only [iI_lt, if_pos, l_0]
    refine ⟨_, by rw [Nat.add_zero, Int.sub_self], fun x j => ?_⟩
    rw [if_neg (by omega)]
  | 0, lo, c + 1, d, m, J, h1, h2, h3, h4, h5, hm => by omega
  | fu + 1, lo, c + 1, d, m, J, h1, h2, h3, h4, h5, hm => by
    obtain ⟨m, rfl⟩ : ∃ x, m = x + 1 := ⟨m - 1, by omega⟩
    have hb := bal_pos fs fw fl fu lo (c / 2) (by omega)
    have hb2 := bal_pos fs fw fl fu (lo + c / 2 + 1) (c - c / 2) (by omega)
    have hx : balT fs fw fl (fu + 1) lo (c + 1) = .inner (fs (lo + c / 2)) (fw (lo + c / 2)) (fl (lo + c / 2)) (balT fs fw fl fu lo (c / 2)) (balT fs fw fl fu (lo + c / 2 + 1) (c - c / 2)) := by
      rw [balT, if_neg (by omega), Nat.add_sub_cancel]
    rw [hx] at h5
    have hM := h5 (lo + c / 2) (by omega) (by omega)
    have em := @gi_m (fs (lo + c / 2)) (fw (lo + c / 2)) (fl (lo + c / 2)) (balT fs fw fl fu lo (c / 2)) (balT fs fw fl fu (lo + c / 2 + 1) (c - c / 2))
    rw [hb.1] at em
    rw [show lo + c / 2 - lo = c / 2 by omega, em.2.2.2.1, Nat.add_zero] at hM
    have hL : ∀ j, lo ≤ j → j < lo + c / 2 → J (r + 3) j = iI (od j) ∧ nd j = ((d + 1 + gd (balT fs fw fl fu lo (c / 2)) (j - lo) : Nat) : Int) := fun j a b => by
      have q := h5 j a (by omega)
      have el := @gi_l (fs (lo + c / 2)) (fw (lo + c / 2)) (fl (lo + c / 2)) (balT fs fw fl fu lo (c / 2)) (balT fs fw fl fu (lo + c / 2 + 1) (c - c / 2)) (j - lo) (by omega)
      rw [el.2.2.2.1] at q
      exact ⟨q.1, by omega⟩
    have hR : ∀ j, lo + c / 2 + 1 ≤ j → j < lo + c / 2 + 1 + (c - c / 2) → J (r + 3) j = iI (od j) ∧ nd j = ((d + 1 + gd (balT fs fw fl fu (lo + c / 2 + 1) (c - c / 2)) (j - (lo + c / 2 + 1)) : Nat) : Int) := fun j a b => by
      have q := h5 j (by omega) (by omega)
      have el := @gi_r (fs (lo + c / 2)) (fw (lo + c / 2)) (fl (lo + c / 2)) (balT fs fw fl fu lo (c / 2)) (balT fs fw fl fu (lo + c / 2 + 1) (c - c / 2)) (j - (lo + c / 2 + 1))
      rw [hb.1, show c / 2 + 1 + (j - (lo + c / 2 + 1)) = j - lo by omega] at el
      rw [el.2.2.2.1] at q
      exact ⟨q.1, by omega⟩
    have oM := ho (lo + c / 2) (by omega)
    obtain ⟨J2, e2, k2⟩ := c_spread hn (fs := fs) (fw := fw) (fl := fl) ho fu lo (c / 2) (d + 1) m (wr J (r + 3) (lo + c / 2) (iI d)) (by omega) (by omega) (by omega) (by simp (disch := omega) only [wr_e, if_neg]; exact h4) (fun j a b => by simp (disch := omega) only [wr_e, if_neg]; exact hL j a b) (by omega)
    obtain ⟨J3, e3, k3⟩ := c_spread hn (fs := fs) (fw := fw) (fl := fl) ho fu (lo + c / 2 + 1) (c - c / 2) (d + 1) m J2 (by omega) (by omega) (by omega) (by rw [k2]; simp (disch := omega) only [wr_e, if_neg]; exact h4) (fun j a b => by rw [k2]; simp (disch := omega) only [wr_e, if_neg]; exact hR j a b) (by omega)
    have sM : mvF od nd (lo + c / 2 + 1) = mvF od nd (lo + c / 2) + (if od (lo + c / 2) = nd (lo + c / 2) then 0 else 1) := rfl
    rw [show lo + c / 2 + 1 + (c - c / 2) = lo + (c + 1) by omega] at e3
    rw [fX1_spread]
    simp (disch := omega) only [l_0, l_1, l_2, l_30, iI_lt, iI_le, if_neg, if_pos, iI_add, iI_div, ltm_s]
    rw [show ((lo : Int) + ((lo : Int) + (c + 1 : Nat) - 1)) / 2 = ((lo + c / 2 : Nat) : Int) by omega]
    simp (disch := omega) only [u_depthAt h4, bd_s, hM.1, iI_eq, u_setDepth]
    rw [iI_sub, show ((lo + c / 2 : Nat) : Int) - 1 = (lo : Int) + (c / 2 : Nat) - 1 by omega, show ((lo + c / 2 : Nat) : Int) + 1 = ((lo + c / 2 + 1 : Nat) : Int) by omega, show (lo : Int) + (c + 1 : Nat) - 1 = ((lo + c / 2 + 1 : Nat) : Int) + (c - c / 2 : Nat) - 1 by omega, show (d : Int) + 1 = ((d + 1 : Nat) : Int) by omega, e2, bd_s, bd_s, e3, bd_s, bd_s]
    refine ⟨J3, ?_, fun x j => ?_⟩
    · by_cases q : od (lo + c / 2) = d
      · rw [if_pos q, iI_add, iI_add]
        rw [if_pos (by omega)] at sM
        congr 3; omega
      · rw [if_neg q, iI_add, iI_add]
        rw [if_neg (by omega)] at sM
        congr 3; omega
    · rw [k3, k2]
      simp only [wr_e]
      have hq := hM.2
      have hc : c / 2 ≤ c := by omega
      clear e2 e3 k2 k3 h5 hb hb2 hx em hL hR ho hM oM sM
      generalize c / 2 = b at *
      by_cases y : x = r + 3
      · by_cases z : j = lo + b
        · rw [if_neg (by omega), if_neg (show ¬ (x = r + 3 ∧ lo ≤ j ∧ j < lo + b) by omega), if_pos ⟨y, z⟩, if_pos (by omega), z, hq]; rfl
        · by_cases z2 : lo ≤ j ∧ j < lo + (c + 1)
          · rw [if_pos (show x = r + 3 ∧ lo ≤ j ∧ j < lo + (c + 1) from ⟨y, z2⟩)]
            by_cases z3 : j < lo + b
            · rw [if_neg (by omega), if_pos (show x = r + 3 ∧ lo ≤ j ∧ j < lo + b by omega)]
            · rw [if_pos (by omega)]
          · rw [if_neg (by omega), if_neg (by omega), if_neg (by omega), if_neg (by omega)]
      · rw [if_neg (by omega), if_neg (by omega), if_neg (by omega), if_neg (by omega)]
end CM
