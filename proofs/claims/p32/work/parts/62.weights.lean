/-! ===== weights as bits ===== -/
def bF (t : Tr) (f : Int) : Nat → Int64
  | 0 => 0
  | k + 1 => if fdP t (f + k) = -1 then bF t f k ||| 0 else bF t f k ||| (1 <<< ((iI (k : Int)).toInt64 &&& 63))
theorem i64_or0 (x : Int64) : x ||| 0 = x := by
  apply Int64.toBitVec_inj.mp
  rw [Int64.toBitVec_or]
  show x.toBitVec ||| 0#64 = x.toBitVec
  exact BitVec.or_zero
theorem bF_gap {t : Tr} {f : Int} : ∀ (d k : Nat), (∀ j, k ≤ j → j < k + d → fdP t (f + j) = -1) → bF t f (k + d) = bF t f k
  | 0, k, _ => rfl
  | d + 1, k, h => by
    rw [show k + (d + 1) = (k + d) + 1 from rfl, bF, if_pos (h (k + d) (by omega) (by omega)), i64_or0]
    exact bF_gap d k (fun j a b => h j a (by omega))
section WB
variable {I : Mm} {t : Tr}
theorem fd_none {x : Int} (h : ∀ q, q < cnt t → (gw t q : Int) ≠ x) : fdP t x = -1 := by
  by_cases c : fdP t x = -1
  · exact c
  · obtain ⟨p, hp, _, e, _⟩ := fd_yes c
    exact absurd e (h p hp)
theorem c_bits {r : Nat} (G : GT t) (Rt : RT I r t) {f : Int} (f0 : 0 ≤ f) (f1 : f ≤ 936) : ∀ (n p k m : Nat), p + n = cnt t → n < m → k ≤ 64 → (∀ q, q < p → (gw t q : Int) < f + k ∨ f + 64 ≤ gw t q) → (∀ q, p ≤ q → q < cnt t → f + k ≤ gw t q ∨ (gw t q : Int) < f) → fX4_weights_p32 m (iI f) r (bF t f k) (iI p) I = some (bF t f 64, I)
  | 0, p, k, m, hp, hm, hk, h1, h2 => by
    have g := G.1
    obtain ⟨m, rfl⟩ : ∃ y, m = y + 1 := ⟨m - 1, by omega⟩
    have e := bF_gap (t := t) (f := f) (64 - k) k (fun j a b => fd_none (fun q hq => by have := h1 q (by omega); omega))
    rw [show k + (64 - k) = 64 by omega] at e
    rw [fX4_weights_p32, Rt.1, if_pos (by rw [iI_le (by omega) (by omega) (by omega) (by omega)]; omega), e]
  | n + 1, p, k, m, hp, hm, hk, h1, h2 => by
    have g := G.1
    obtain ⟨m, rfl⟩ : ∃ y, m = y + 1 := ⟨m - 1, by omega⟩
    have gp := (G.2.1 p (by omega)).1
    have q1 : iI (p : Int) + 1 = iI ((p + 1 : Nat) : Int) := by rw [l_1, iI_add]; rfl
    rw [fX4_weights_p32, Rt.1, if_neg (by rw [iI_le (by omega) (by omega) (by omega) (by omega)]; omega), t_weightAt G Rt (by omega) (by omega), bd_s, show WZ t (p : Int) = gw t p by rw [WZ, if_pos (by omega), tn_n], iI_sub, ltm_s]
    have lt : ∀ q, q < p → gw t q < gw t p := fun q hq => G.2.2.1 q p hq (by omega)
    have gt : ∀ q, p < q → q < cnt t → gw t p < gw t q := fun q hq h => G.2.2.1 p q hq h
    by_cases a : (gw t p : Int) - f < 0
    · rw [if_pos (by rw [l_0, iI_lt (by omega) (by omega) (by omega) (by omega)]; exact a), ltm_s, q1]
      refine c_bits G Rt f0 f1 n (p + 1) k m (by omega) (by omega) hk (fun q hq => ?_) (fun q x y => h2 q (by omega) y)
      by_cases d : q = p
      · subst d; left; omega
      · exact h1 q (by omega)
    · rw [if_neg (by rw [l_0, iI_lt (by omega) (by omega) (by omega) (by omega)]; exact a)]
      by_cases b : 64 ≤ (gw t p : Int) - f
      · rw [if_pos (by rw [l_64, iI_le (by omega) (by omega) (by omega) (by omega)]; exact b), ltm_s, q1]
        refine c_bits G Rt f0 f1 n (p + 1) k m (by omega) (by omega) hk (fun q hq => ?_) (fun q x y => h2 q (by omega) y)
        by_cases d : q = p
        · subst d; right; omega
        · exact h1 q (by omega)
      · rw [if_neg (by rw [l_64, iI_le (by omega) (by omega) (by omega) (by omega)]; exact b), ltm_s, ltm_s, q1]
        obtain ⟨v, hv⟩ : ∃ v : Nat, (gw t p : Int) - f = v := ⟨((gw t p : Int) - f).toNat, by omega⟩
        have hp2 := h2 p (by omega) (by omega)
        have e := bF_gap (t := t) (f := f) (v - k) k (fun j x y => fd_none (fun q hq => by
          by_cases d : q < p
          · have := h1 q d; have := lt q d; omega
          · by_cases d2 : q = p
            · subst d2; omega
            · have := gt q (by omega) hq; omega))
        rw [show k + (v - k) = v by omega] at e
        have ev : bF t f (v + 1) = bF t f k ||| (1 <<< ((iI (v : Int)).toInt64 &&& 63)) := by
          have := fd_at G (p := p) (by omega)
          rw [bF, if_neg (by rw [show f + (v : Int) = gw t p by omega, this]; omega), e]
        rw [hv, ← ev]
        exact c_bits G Rt f0 f1 n (p + 1) (v + 1) m (by omega) (by omega) (by omega) (fun q hq => by
          by_cases d : q = p
          · subst d; left; omega
          · have := lt q (by omega); left; omega) (fun q x y => by have := gt q (by omega) y; left; omega)
end WB
