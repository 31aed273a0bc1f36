/-! ===== what the reference's rick does ===== -/
/-- nothing but a rick's stalls and top has changed -/
def RO (i : Nat) (I J : Mm) : Prop := ∀ a j, (a ≠ 164 ∨ j < 7 + 122 * i ∨ 7 + 122 * i + 122 ≤ j ∨ j = 7 + 122 * i + 1) → J a j = I a j
theorem ro_rfl (i : Nat) (I : Mm) : RO i I I := fun _ _ _ => rfl
theorem ro_tr {i : Nat} {I J K : Mm} (h : RO i I J) (h2 : RO i J K) : RO i I K := fun a j c => (h2 a j c).trans (h a j c)
theorem ad_in {i k c : Nat} (h : k < 30) (h2 : c < 4) : 7 + 122 * i + 2 ≤ ad i k c ∧ ad i k c < 7 + 122 * i + 122 := by unfold ad; omega
/-- nor any stall's weight or load -/
def W0 (i : Nat) (I J : Mm) : Prop := ∀ k c, c < 2 → J 164 (ad i k c) = I 164 (ad i k c)
section MM
variable {I : Mm} {i : Nat}
theorem tp_0 (hi : i < 3) : (7 + 122 * iI i : Int32) = iI ((7 + 122 * i : Nat) : Int) := by
  rw [l_7, l_122, iI_mul, iI_add]; congr 1
theorem php : ∀ (n m : Nat) (g : Nat → Nat), (∀ k, k < n → ∃ p, p < m ∧ g p = k) → n ≤ m
  | 0, m, g, h => by omega
  | n + 1, m, g, h => by
    obtain ⟨p0, h1, h2⟩ := h n (by omega)
    have ih := php n (m - 1) (fun p => if p = p0 then g (m - 1) else g p) (fun k hk => by
      obtain ⟨p, h3, h4⟩ := h k (by omega)
      by_cases c : p < m - 1
      · refine ⟨p, c, ?_⟩
        rw [if_neg (fun e => by rw [e] at h4; omega)]; exact h4
      · have hp : p = m - 1 := by omega
        refine ⟨p0, ?_, by rw [if_pos rfl, ← hp]; exact h4⟩
        by_cases d : p0 = m - 1
        · rw [d, ← hp] at h2; omega
        · omega)
    omega
/-- a stall's four cells set -/
def w4 (I : Mm) (i k : Nat) (a b c d : Int) : Mm := wr (wr (wr (wr I 164 (ad i k 0) (iI a)) 164 (ad i k 1) (iI b)) 164 (ad i k 2) (iI c)) 164 (ad i k 3) (iI d)
theorem w4_at (I : Mm) (i k : Nat) (a b c d : Int) : w4 I i k a b c d 164 (ad i k 0) = iI a ∧ w4 I i k a b c d 164 (ad i k 1) = iI b ∧ w4 I i k a b c d 164 (ad i k 2) = iI c ∧ w4 I i k a b c d 164 (ad i k 3) = iI d := by
  unfold w4
  refine ⟨?_, ?_, ?_, ?_⟩
  · rw [wr_e, if_neg (fun e => ad_n (by omega) (by omega) (by omega) e.2), wr_e, if_neg (fun e => ad_n (by omega) (by omega) (by omega) e.2), wr_e, if_neg (fun e => ad_n (by omega) (by omega) (by omega) e.2), wr_e, if_pos ⟨rfl, rfl⟩]
  · rw [wr_e, if_neg (fun e => ad_n (by omega) (by omega) (by omega) e.2), wr_e, if_neg (fun e => ad_n (by omega) (by omega) (by omega) e.2), wr_e, if_pos ⟨rfl, rfl⟩]
  · rw [wr_e, if_neg (fun e => ad_n (by omega) (by omega) (by omega) e.2), wr_e, if_pos ⟨rfl, rfl⟩]
  · rw [wr_e, if_pos ⟨rfl, rfl⟩]
theorem w4_n (I : Mm) (i k : Nat) (a b c d : Int) {x j : Nat} (h : x = 164 → j ≠ ad i k 0 ∧ j ≠ ad i k 1 ∧ j ≠ ad i k 2 ∧ j ≠ ad i k 3) : w4 I i k a b c d x j = I x j := by
  unfold w4
  rw [wr_e, if_neg (fun e => (h e.1).2.2.2 e.2), wr_e, if_neg (fun e => (h e.1).2.2.1 e.2), wr_e, if_neg (fun e => (h e.1).2.1 e.2), wr_e, if_neg (fun e => (h e.1).1 e.2)]
theorem w4_o (I : Mm) (i k : Nat) (a b c d : Int) {k' c' : Nat} (h : k' ≠ k) (hc : c' < 4) : w4 I i k a b c d 164 (ad i k' c') = I 164 (ad i k' c') :=
  w4_n I i k a b c d (fun _ => ⟨ad_n hc (by omega) (Or.inl h), ad_n hc (by omega) (Or.inl h), ad_n hc (by omega) (Or.inl h), ad_n hc (by omega) (Or.inl h)⟩)
theorem w4_ro (I : Mm) (i k : Nat) (a b c d : Int) (hk : k < 30) : RO i I (w4 I i k a b c d) := fun x j h => by
  have a0 := @ad_in i k 0 hk (by omega)
  have a1 := @ad_in i k 1 hk (by omega)
  have a2 := @ad_in i k 2 hk (by omega)
  have a3 := @ad_in i k 3 hk (by omega)
  exact w4_n I i k a b c d (fun _ => by omega)
/-- what else than links within a tree stays -/
def LkF (i : Nat) (t : Tr) (I J : Mm) : Prop := ∀ x j, (x = 164 → ∀ k c, St t k → (c = 2 ∨ c = 3) → j ≠ ad i k c) → J x j = I x j
theorem st_ins {k w ld : Nat} {k' : Nat} : ∀ (t : Tr), St (insT k w ld t) k' ↔ k' = k ∨ St t k'
  | .leaf => by
    rw [insT, st_i]
    constructor
    · rintro (h | h | h)
      · exact Or.inl h
      · exact Or.inr h
      · exact Or.inr h
    · rintro (h | h)
      · exact Or.inl h
      · exact Or.inr (Or.inl h)
  | .inner s w1 l1 l r => by
    have hl := @st_ins k w ld k' l
    have hr := @st_ins k w ld k' r
    rw [insT]
    by_cases c : w < w1
    · rw [if_pos c, st_i, st_i, hl]
      constructor
      · rintro (h | (h | h) | h)
        · exact Or.inr (Or.inl h)
        · exact Or.inl h
        · exact Or.inr (Or.inr (Or.inl h))
        · exact Or.inr (Or.inr (Or.inr h))
      · rintro (h | h | h | h)
        · exact Or.inr (Or.inl (Or.inl h))
        · exact Or.inl h
        · exact Or.inr (Or.inl (Or.inr h))
        · exact Or.inr (Or.inr h)
    · rw [if_neg c, st_i, st_i, hr]
      constructor
      · rintro (h | h | h | h)
        · exact Or.inr (Or.inl h)
        · exact Or.inr (Or.inr (Or.inl h))
        · exact Or.inl h
        · exact Or.inr (Or.inr (Or.inr h))
      · rintro (h | h | h | h)
        · exact Or.inr (Or.inr (Or.inl h))
        · exact Or.inl h
        · exact Or.inr (Or.inl h)
        · exact Or.inr (Or.inr (Or.inr h))
end MM
