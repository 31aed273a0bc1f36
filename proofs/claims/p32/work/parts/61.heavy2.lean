/-! ===== the heaviest sheaf, the reference's way ===== -/
/-- whether a stall's sheaf is ahead of a key -/
def hS (t : Tr) (i : Nat) (x : Int) (s : Nat) : Int := sm (fun p => if gs t p = s ∧ kz t i p < x then 1 else 0) (cnt t)
theorem sm_delta (a : Nat) (P : Prop) [Decidable P] : ∀ m, sm (fun s => if a = s ∧ P then 1 else 0) m = if a < m ∧ P then 1 else 0
  | 0 => by rw [sm, if_neg (by omega)]
  | m + 1 => by
    rw [sm, sm_delta a P m]
    by_cases p : P
    · by_cases c : a = m
      · rw [if_neg (by omega), if_pos ⟨c, p⟩, if_pos ⟨by omega, p⟩]; rfl
      · by_cases d : a < m
        · rw [if_pos ⟨d, p⟩, if_neg (by omega), if_pos ⟨by omega, p⟩]; rfl
        · rw [if_neg (by omega), if_neg (by omega), if_neg (by omega)]; rfl
    · rw [if_neg (fun h => p h.2), if_neg (fun h => p h.2), if_neg (fun h => p h.2)]; rfl
theorem hS_sum {t : Tr} (G : GT t) (i : Nat) (x : Int) : sm (hS t i x) 30 = cR t i x := by
  have e : sm (hS t i x) 30 = sm (fun p => sm (fun s => if gs t p = s ∧ kz t i p < x then 1 else 0) 30) (cnt t) := sm_swap (fun s p => if gs t p = s ∧ kz t i p < x then 1 else 0) 30 (cnt t)
  rw [e]
  unfold cR
  refine sm_congr _ (fun p hp => ?_)
  have := (G.2.1 p hp).2.2.2
  rw [sm_delta (gs t p) (kz t i p < x) 30]
  by_cases a : kz t i p < x
  · rw [if_pos ⟨this, a⟩, if_pos a]
  · rw [if_neg (fun h => a h.2), if_neg a]
theorem hS_at {t : Tr} (G : GT t) (i : Nat) (x : Int) {p : Nat} (hp : p < cnt t) : hS t i x (gs t p) = if kz t i p < x then 1 else 0 := by
  unfold hS
  rw [sm_one (f := fun q => if gs t q = gs t p ∧ kz t i q < x then 1 else 0) (g := fun _ => 0) (q := p) (if kz t i p < x then 1 else 0) (cnt t) hp (fun q hq hne => ?_) ?_, sm_zero _ (fun _ _ => rfl), Int.zero_add]
  · by_cases a : kz t i p < x
    · rw [if_pos ⟨rfl, a⟩, if_pos a]; rfl
    · rw [if_neg (fun h => a h.2), if_neg a]; rfl
  · refine if_neg (fun h => ?_)
    by_cases d : q < p
    · exact G.2.2.2 q p d hp h.1
    · exact G.2.2.2 p q (by omega) hq h.1.symm
theorem hS_no {t : Tr} (i : Nat) (x : Int) {s : Nat} (h : ¬ St t s) : hS t i x s = 0 := sm_zero _ (fun p hp => if_neg (fun e => h ⟨p, hp, e.1⟩))
/-- by all stalls -/
def hA (T : Nat → Tr) (x : Int) (k : Nat) : Int := hS (T (k / 30)) (k / 30) x (k % 30)
theorem hA_sum {T : Nat → Tr} (GA : ∀ i, i < 3 → GT (T i)) (x : Int) : sm (hA T x) 90 = cB T x := by
  rw [show (90 : Nat) = 30 + (30 + 30) from rfl, sm_add, sm_add]
  rw [sm_congr (g := hS (T 0) 0 x) 30 (fun j hj => by unfold hA; rw [show j / 30 = 0 by omega, show j % 30 = j by omega])]
  rw [sm_congr (f := fun j => hA T x (30 + j)) (g := hS (T 1) 1 x) 30 (fun j hj => by unfold hA; rw [show (30 + j) / 30 = 1 by omega, show (30 + j) % 30 = j by omega])]
  rw [sm_congr (f := fun j => hA T x (30 + (30 + j))) (g := hS (T 2) 2 x) 30 (fun j hj => by unfold hA; rw [show (30 + (30 + j)) / 30 = 2 by omega, show (30 + (30 + j)) % 30 = j by omega])]
  rw [hS_sum (GA 0 (by omega)), hS_sum (GA 1 (by omega)), hS_sum (GA 2 (by omega))]
  unfold cB; omega
theorem hA_rng {T : Nat → Tr} (GA : ∀ i, i < 3 → GT (T i)) (x : Int) : ∀ k, k ≤ 90 → 0 ≤ sm (hA T x) k ∧ sm (hA T x) k ≤ k := fun k hk => sm_le1 k (fun j hj => by
  unfold hA
  by_cases c : St (T (j / 30)) (j % 30)
  · obtain ⟨p, hp, e⟩ := c
    rw [← e, hS_at (GA _ (by omega)) _ _ hp]
    split <;> omega
  · rw [hS_no _ _ c]; omega)
section HM
variable {I : Mm} {T : Nat → Tr} {mo : Nat → Nat} {ct : Nat → Int32}
theorem k_dm {k : Nat} (hk : k < 90) : iI (k : Int) / 30 = iI ((k / 30 : Nat) : Int) ∧ iI (k : Int) - iI ((k / 30 : Nat) : Int) * 30 = iI ((k % 30 : Nat) : Int) := by
  rw [l_30, iI_div (by omega) (by omega) (by omega) (by omega), iI_mul, iI_sub]
  exact ⟨rfl, by congr 1; omega⟩
end HM
