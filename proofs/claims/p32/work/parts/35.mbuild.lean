/-! ===== the reference builds anew, takes out ===== -/
theorem st_bal {fs fw fl : Nat → Nat} {n lo c k : Nat} (h : c ≤ n) : St (balT fs fw fl n lo c) k ↔ ∃ q, lo ≤ q ∧ q < lo + c ∧ fs q = k := by
  have b := bal_pos fs fw fl n lo c h
  constructor
  · rintro ⟨p, hp, e⟩
    rw [b.1] at hp
    exact ⟨lo + p, by omega, by omega, by rw [← (b.2 p hp).2.2, e]⟩
  · rintro ⟨q, h1, h2, e⟩
    exact ⟨q - lo, by rw [b.1]; omega, by rw [(b.2 (q - lo) (by omega)).2.2, show lo + (q - lo) = q by omega, e]⟩
theorem st_same {t u : Tr} (h : cnt u = cnt t) (hg : ∀ p, p < cnt t → gs u p = gs t p) (k : Nat) : St u k ↔ St t k := by
  constructor
  · rintro ⟨p, hp, e⟩; exact ⟨p, by omega, by rw [← hg p (by omega), e]⟩
  · rintro ⟨p, hp, e⟩; exact ⟨p, by omega, by rw [hg p hp, e]⟩
theorem st_above {t : Tr} {p : Nat} (G : GT t) (hp : p < cnt t) (h : paP t p ≠ -1) : ¬ St (sbP t p) (gs t (paP t p).toNat) := by
  rintro ⟨q, hq, e⟩
  have B := bl_p t t 0 0 p (bl_0 t) hp
  rw [Nat.zero_add, Nat.zero_add] at B
  have b := (B.2 q hq).2.2.1
  obtain ⟨l, r, e1, e2, e3⟩ := sb_is t p hp
  rw [e1, cnt_i] at hq
  have f := fo_le t p hp
  have hne : foP t p + q ≠ (paP t p).toNat ∧ (paP t p).toNat < cnt t := by
    rcases pa_is t p hp with ⟨a1, a2, a3, a4⟩ | ⟨a1, a2, a3, a4⟩ | ⟨a1, a2, a3, a4⟩ <;> omega
  rw [← b] at e
  by_cases c : foP t p + q < (paP t p).toNat
  · exact G.2.2.2 _ _ c hne.2 e
  · exact G.2.2.2 _ _ (by omega) (by omega) e.symm
section MB
variable {i : Nat}
theorem st_del {t : Tr} {p : Nat} (G : GT t) (hp : p < cnt t) (k : Nat) : St (delT t p) k ↔ St t k ∧ k ≠ gs t p := by
  have d := del_pos t p hp
  constructor
  · rintro ⟨q, hq, e⟩
    rw [(d.2 q (by omega)).2.2.1] at e
    refine ⟨⟨_, by split <;> omega, e⟩, fun h => ?_⟩
    rw [h] at e
    by_cases c : q < p
    · rw [if_pos c] at e; exact G.2.2.2 q p c hp e
    · rw [if_neg c] at e; exact G.2.2.2 p (q + 1) (by omega) (by omega) e.symm
  · rintro ⟨⟨q, hq, e⟩, h⟩
    by_cases c : q < p
    · exact ⟨q, by omega, by rw [(d.2 q (by omega)).2.2.1, if_pos c, e]⟩
    · have : q ≠ p := fun x => h (by rw [← e, x])
      exact ⟨q - 1, by omega, by rw [(d.2 (q - 1) (by omega)).2.2.1, if_neg (by omega), show q - 1 + 1 = q by omega, e]⟩
end MB
