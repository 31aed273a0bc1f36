/-! ===== places in a tree ===== -/
/-- weight, load, depth, stall by the place in the order of the weights -/
def gw : Tr → Nat → Nat
  | .leaf, _ => 0
  | .inner _ w _ l r, p => if p < cnt l then gw l p else if p = cnt l then w else gw r (p - cnt l - 1)
def gl : Tr → Nat → Nat
  | .leaf, _ => 0
  | .inner _ _ ld l r, p => if p < cnt l then gl l p else if p = cnt l then ld else gl r (p - cnt l - 1)
def gs : Tr → Nat → Nat
  | .leaf, _ => 0
  | .inner s _ _ l r, p => if p < cnt l then gs l p else if p = cnt l then s else gs r (p - cnt l - 1)
def gd : Tr → Nat → Nat
  | .leaf, _ => 0
  | .inner _ _ _ l r, p => if p < cnt l then gd l p + 1 else if p = cnt l then 0 else gd r (p - cnt l - 1) + 1
/-- the part of a sheaf: its first place, its last, the tree itself; the place above, -1 if there is none -/
def foP : Tr → Nat → Nat
  | .leaf, _ => 0
  | .inner _ _ _ l r, p => if p < cnt l then foP l p else if p = cnt l then 0 else cnt l + 1 + foP r (p - cnt l - 1)
def loP : Tr → Nat → Nat
  | .leaf, _ => 0
  | .inner _ _ _ l r, p => if p < cnt l then loP l p else if p = cnt l then cnt l + cnt r else cnt l + 1 + loP r (p - cnt l - 1)
def sbP : Tr → Nat → Tr
  | .leaf, _ => .leaf
  | .inner s w ld l r, p => if p < cnt l then sbP l p else if p = cnt l then .inner s w ld l r else sbP r (p - cnt l - 1)
def paP : Tr → Nat → Int
  | .leaf, _ => -1
  | .inner _ _ _ l r, p => if p < cnt l then (if paP l p = -1 then cnt l else paP l p) else if p = cnt l then -1 else (if paP r (p - cnt l - 1) = -1 then cnt l else cnt l + 1 + paP r (p - cnt l - 1))
theorem cnt_i (s w ld : Nat) (l r : Tr) : cnt (.inner s w ld l r) = cnt l + 1 + cnt r := rfl
theorem gd_lt : ∀ (t : Tr) (p : Nat), p < cnt t → gd t p < cnt t
  | .leaf, p, h => by simp [cnt] at h
  | .inner _ _ _ l r, p, h => by
    rw [cnt_i] at h
    rw [cnt_i, gd]
    by_cases c : p < cnt l
    · rw [if_pos c]; have := gd_lt l p c; omega
    · rw [if_neg c]
      by_cases c2 : p = cnt l
      · rw [if_pos c2]; omega
      · rw [if_neg c2]; have := gd_lt r (p - cnt l - 1) (by omega); omega
theorem fo_le : ∀ (t : Tr) (p : Nat), p < cnt t → foP t p ≤ p ∧ p ≤ loP t p ∧ loP t p < cnt t
  | .leaf, p, h => by simp [cnt] at h
  | .inner _ _ _ l r, p, h => by
    rw [cnt_i] at h
    rw [cnt_i, foP, loP]
    by_cases c : p < cnt l
    · rw [if_pos c, if_pos c]; have := fo_le l p c; omega
    · rw [if_neg c, if_neg c]
      by_cases c2 : p = cnt l
      · rw [if_pos c2, if_pos c2]; omega
      · rw [if_neg c2, if_neg c2]; have := fo_le r (p - cnt l - 1) (by omega); omega
/-- within a part all others are deeper -/
theorem part_deep : ∀ (t : Tr) (p q : Nat), p < cnt t → foP t p ≤ q → q ≤ loP t p → q ≠ p → gd t p < gd t q
  | .leaf, p, q, h, _, _, _ => by simp [cnt] at h
  | .inner _ _ _ l r, p, q, h, h1, h2, h3 => by
    rw [cnt_i] at h
    rw [foP] at h1
    rw [loP] at h2
    rw [gd, gd]
    by_cases c : p < cnt l
    · rw [if_pos c] at h1 h2
      have hb := fo_le l p c
      rw [if_pos c, if_pos (show q < cnt l by omega)]
      have := part_deep l p q c h1 h2 h3
      omega
    · rw [if_neg c] at h1 h2 ⊢
      by_cases c2 : p = cnt l
      · rw [if_pos c2]
        by_cases c3 : q < cnt l
        · rw [if_pos c3]; omega
        · rw [if_neg c3, if_neg (by omega)]; omega
      · rw [if_neg c2] at h1 h2 ⊢
        have hb := fo_le r (p - cnt l - 1) (by omega)
        rw [if_neg (by omega), if_neg (by omega)]
        have := part_deep r (p - cnt l - 1) (q - cnt l - 1) (by omega) (by omega) (by omega) (by omega)
        omega
/-- what stands beside a part is higher -/
theorem part_l : ∀ (t : Tr) (p : Nat), p < cnt t → foP t p = 0 ∨ gd t (foP t p - 1) < gd t p
  | .leaf, p, h => by simp [cnt] at h
  | .inner _ _ _ l r, p, h => by
    rw [cnt_i] at h
    rw [foP]
    by_cases c : p < cnt l
    · rw [if_pos c]
      have hb := fo_le l p c
      rcases part_l l p c with h1 | h1
      · exact Or.inl h1
      · right
        rw [gd, gd, if_pos c, if_pos (by omega)]
        omega
    · rw [if_neg c]
      by_cases c2 : p = cnt l
      · rw [if_pos c2]; exact Or.inl rfl
      · rw [if_neg c2]
        right
        have hb := fo_le r (p - cnt l - 1) (by omega)
        rw [gd, gd, if_neg c, if_neg c2, if_neg (by omega)]
        by_cases c3 : foP r (p - cnt l - 1) = 0
        · rw [if_pos (by omega)]; omega
        · rw [if_neg (by omega)]
          rcases part_l r (p - cnt l - 1) (by omega) with h1 | h1
          · exact absurd h1 c3
          · rw [show cnt l + 1 + foP r (p - cnt l - 1) - 1 - cnt l - 1 = foP r (p - cnt l - 1) - 1 by omega]
            omega
theorem part_r : ∀ (t : Tr) (p : Nat), p < cnt t → loP t p + 1 = cnt t ∨ gd t (loP t p + 1) < gd t p
  | .leaf, p, h => by simp [cnt] at h
  | .inner _ _ _ l r, p, h => by
    rw [cnt_i] at h
    rw [loP, cnt_i]
    by_cases c : p < cnt l
    · rw [if_pos c]
      have hb := fo_le l p c
      right
      rw [gd, gd, if_pos c]
      by_cases c3 : loP l p + 1 = cnt l
      · rw [if_neg (by omega), if_pos c3]; omega
      · rw [if_pos (by omega)]
        rcases part_r l p c with h1 | h1
        · exact absurd h1 c3
        · omega
    · rw [if_neg c]
      by_cases c2 : p = cnt l
      · rw [if_pos c2]; left; omega
      · rw [if_neg c2]
        have hb := fo_le r (p - cnt l - 1) (by omega)
        rcases part_r r (p - cnt l - 1) (by omega) with h1 | h1
        · left; omega
        · by_cases c3 : loP r (p - cnt l - 1) + 1 = cnt r
          · left; omega
          · right
            rw [gd, gd, if_neg c, if_neg c2, if_neg (by omega), if_neg (by omega), show cnt l + 1 + loP r (p - cnt l - 1) + 1 - cnt l - 1 = loP r (p - cnt l - 1) + 1 by omega]
            omega
theorem pa_rng : ∀ (t : Tr) (p : Nat), p < cnt t → -1 ≤ paP t p ∧ paP t p < cnt t
  | .leaf, p, h => by simp [cnt] at h
  | .inner _ _ _ l r, p, h => by
    rw [cnt_i] at h
    rw [paP, cnt_i]
    by_cases c : p < cnt l
    · rw [if_pos c]
      have := pa_rng l p c
      by_cases c3 : paP l p = -1
      · rw [if_pos c3]; omega
      · rw [if_neg c3]; omega
    · rw [if_neg c]
      by_cases c2 : p = cnt l
      · rw [if_pos c2]; omega
      · rw [if_neg c2]
        have := pa_rng r (p - cnt l - 1) (by omega)
        by_cases c3 : paP r (p - cnt l - 1) = -1
        · rw [if_pos c3]; omega
        · rw [if_neg c3]; omega
/-- the place above a part is beside it: the deeper one of the two neighbours; -1 if there is none -/
theorem pa_is : ∀ (t : Tr) (p : Nat), p < cnt t →
    (paP t p = -1 ∧ foP t p = 0 ∧ loP t p + 1 = cnt t ∧ gd t p = 0) ∨
    (paP t p = foP t p - 1 ∧ 0 < foP t p ∧ gd t (foP t p - 1) + 1 = gd t p ∧ (loP t p + 1 = cnt t ∨ gd t (loP t p + 1) < gd t (foP t p - 1))) ∨
    (paP t p = loP t p + 1 ∧ loP t p + 1 < cnt t ∧ gd t (loP t p + 1) + 1 = gd t p ∧ (foP t p = 0 ∨ gd t (foP t p - 1) < gd t (loP t p + 1)))
  | .leaf, p, h => by simp [cnt] at h
  | .inner s w ld l r, p, h => by
    rw [cnt_i] at h
    rw [paP, foP, loP, cnt_i]
    by_cases c : p < cnt l
    · rw [if_pos c, if_pos c, if_pos c]
      have hb := fo_le l p c
      have hp : gd (.inner s w ld l r) p = gd l p + 1 := by rw [gd, if_pos c]
      rcases pa_is l p c with ⟨a1, a2, a3, a4⟩ | ⟨a1, a2, a3, a4⟩ | ⟨a1, a2, a3, a4⟩
      · rw [if_pos a1]
        right; right
        refine ⟨by omega, by omega, ?_, Or.inl a2⟩
        rw [hp, a3, gd, if_neg (by omega), if_pos rfl]; omega
      · rw [if_neg (by omega)]
        right; left
        have e1 : gd (.inner s w ld l r) (foP l p - 1) = gd l (foP l p - 1) + 1 := by rw [gd, if_pos (by omega)]
        refine ⟨a1, a2, by rw [hp, e1]; omega, ?_⟩
        right
        rw [e1]
        by_cases c3 : loP l p + 1 = cnt l
        · rw [c3, gd, if_neg (by omega), if_pos rfl]; omega
        · rcases a4 with a4 | a4
          · exact absurd a4 c3
          · rw [gd, if_pos (by omega)]; omega
      · rw [if_neg (by omega)]
        right; right
        have e1 : gd (.inner s w ld l r) (loP l p + 1) = gd l (loP l p + 1) + 1 := by rw [gd, if_pos (by omega)]
        refine ⟨a1, by omega, by rw [hp, e1]; omega, ?_⟩
        rcases a4 with a4 | a4
        · exact Or.inl a4
        · right; rw [e1, gd, if_pos (by omega)]; omega
    · rw [if_neg c, if_neg c, if_neg c]
      by_cases c2 : p = cnt l
      · rw [if_pos c2, if_pos c2, if_pos c2]
        left
        refine ⟨rfl, rfl, by omega, ?_⟩
        rw [gd, if_neg c, if_pos c2]
      · rw [if_neg c2, if_neg c2, if_neg c2]
        have hb := fo_le r (p - cnt l - 1) (by omega)
        have hp : gd (.inner s w ld l r) p = gd r (p - cnt l - 1) + 1 := by rw [gd, if_neg c, if_neg c2]
        rcases pa_is r (p - cnt l - 1) (by omega) with ⟨a1, a2, a3, a4⟩ | ⟨a1, a2, a3, a4⟩ | ⟨a1, a2, a3, a4⟩
        · rw [if_pos a1]
          right; left
          refine ⟨by omega, by omega, ?_, Or.inl (by omega)⟩
          rw [hp, a2, gd, if_neg (by omega), if_pos (by omega)]; omega
        · rw [if_neg (by omega)]
          right; left
          have e1 : gd (.inner s w ld l r) (cnt l + 1 + foP r (p - cnt l - 1) - 1) = gd r (foP r (p - cnt l - 1) - 1) + 1 := by
            rw [gd, if_neg (by omega), if_neg (by omega), show cnt l + 1 + foP r (p - cnt l - 1) - 1 - cnt l - 1 = foP r (p - cnt l - 1) - 1 by omega]
          refine ⟨by omega, by omega, by rw [hp, e1]; omega, ?_⟩
          rcases a4 with a4 | a4
          · left; omega
          · by_cases c3 : loP r (p - cnt l - 1) + 1 = cnt r
            · left; omega
            · right
              rw [e1, gd, if_neg (by omega), if_neg (by omega), show cnt l + 1 + loP r (p - cnt l - 1) + 1 - cnt l - 1 = loP r (p - cnt l - 1) + 1 by omega]
              omega
        · rw [if_neg (by omega)]
          right; right
          have e1 : gd (.inner s w ld l r) (cnt l + 1 + loP r (p - cnt l - 1) + 1) = gd r (loP r (p - cnt l - 1) + 1) + 1 := by
            rw [gd, if_neg (by omega), if_neg (by omega), show cnt l + 1 + loP r (p - cnt l - 1) + 1 - cnt l - 1 = loP r (p - cnt l - 1) + 1 by omega]
          refine ⟨by omega, by omega, by rw [hp, e1]; omega, ?_⟩
          right
          rw [e1]
          by_cases c3 : foP r (p - cnt l - 1) = 0
          · rw [c3, gd, if_neg (by omega), if_pos (by omega)]; omega
          · rcases a4 with a4 | a4
            · exact absurd a4 c3
            · rw [gd, if_neg (by omega), if_neg (by omega), show cnt l + 1 + foP r (p - cnt l - 1) - 1 - cnt l - 1 = foP r (p - cnt l - 1) - 1 by omega]
              omega
