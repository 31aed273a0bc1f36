/-! ===== a sheaf taken out of a tree ===== -/
def popM : Tr → Tr
  | .leaf => .leaf
  | .inner s w ld l r => if cnt l = 0 then r else .inner s w ld (popM l) r
def jnT (l r : Tr) : Tr := if cnt l = 0 then r else if cnt r = 0 then l else .inner (gs r 0) (gw r 0) (gl r 0) l (popM r)
def delT : Tr → Nat → Tr
  | .leaf, _ => .leaf
  | .inner s w ld l r, p => if p < cnt l then .inner s w ld (delT l p) r else if p = cnt l then jnT l r else .inner s w ld l (delT r (p - cnt l - 1))
theorem pop_pos : ∀ (t : Tr), 0 < cnt t → cnt (popM t) + 1 = cnt t ∧ ∀ q, q + 1 < cnt t → gw (popM t) q = gw t (q + 1) ∧ gl (popM t) q = gl t (q + 1) ∧ gs (popM t) q = gs t (q + 1) ∧ gd (popM t) q = if q + 1 ≤ loP t 0 then gd t (q + 1) - 1 else gd t (q + 1)
  | .leaf, h => by simp [cnt] at h
  | .inner s w ld l r, h => by
    rw [popM]
    by_cases c : cnt l = 0
    · rw [if_pos c]
      have m := @gi_m s w ld l r
      rw [c] at m
      refine ⟨by rw [cnt_i]; omega, fun q hq => ?_⟩
      rw [cnt_i] at hq
      have e := @gi_r s w ld l r q
      rw [show cnt l + 1 + q = q + 1 by omega] at e
      rw [e.1, e.2.1, e.2.2.1, e.2.2.2.1, m.2.2.2.2.2.1, if_pos (by omega)]
      exact ⟨rfl, rfl, rfl, by omega⟩
    · rw [if_neg c]
      have ih := pop_pos l (by omega)
      have f := fo_le l 0 (by omega)
      have m := @gi_l s w ld l r 0 (by omega)
      refine ⟨by rw [cnt_i, cnt_i]; omega, fun q hq => ?_⟩
      rw [m.2.2.2.2.2.1]
      by_cases c1 : q + 1 < cnt l
      · have a := @gi_l s w ld (popM l) r q (by omega)
        have b := @gi_l s w ld l r (q + 1) c1
        have i := ih.2 q c1
        rw [a.1, a.2.1, a.2.2.1, a.2.2.2.1, b.1, b.2.1, b.2.2.1, b.2.2.2.1, i.2.2.2]
        refine ⟨i.1, i.2.1, i.2.2.1, ?_⟩
        by_cases x : q + 1 ≤ loP l 0
        · have := part_deep l 0 (q + 1) (by omega) (by omega) (by omega) (by omega)
          rw [if_pos x, if_pos x]; omega
        · rw [if_neg x, if_neg x]
      · by_cases c2 : q + 1 = cnt l
        · have a := @gi_m s w ld (popM l) r
          have b := @gi_m s w ld l r
          rw [show cnt (popM l) = q by omega] at a
          rw [c2, a.1, a.2.1, a.2.2.1, a.2.2.2.1, b.1, b.2.1, b.2.2.1, b.2.2.2.1, if_neg (by omega)]
          exact ⟨rfl, rfl, rfl, rfl⟩
        · rw [cnt_i] at hq
          have a := @gi_r s w ld (popM l) r (q - cnt l)
          have b := @gi_r s w ld l r (q - cnt l)
          rw [show cnt (popM l) + 1 + (q - cnt l) = q by omega] at a
          rw [show cnt l + 1 + (q - cnt l) = q + 1 by omega] at b
          rw [a.1, a.2.1, a.2.2.1, a.2.2.2.1, b.1, b.2.1, b.2.2.1, b.2.2.2.1, if_neg (by omega)]
          exact ⟨rfl, rfl, rfl, rfl⟩
/-- how deep each is then, by the places ahead -/
def delD (t : Tr) (p j : Nat) : Nat := if foP t p < p ∧ p < loP t p then (if j = p + 1 then gd t p else if p + 2 ≤ j ∧ j ≤ loP t (p + 1) then gd t j - 1 else gd t j) else if foP t p ≤ j ∧ j ≤ loP t p then gd t j - 1 else gd t j
theorem del_pos : ∀ (t : Tr) (p : Nat), p < cnt t → cnt (delT t p) + 1 = cnt t ∧ ∀ q, q + 1 < cnt t → gw (delT t p) q = gw t (if q < p then q else q + 1) ∧ gl (delT t p) q = gl t (if q < p then q else q + 1) ∧ gs (delT t p) q = gs t (if q < p then q else q + 1) ∧ gd (delT t p) q = delD t p (if q < p then q else q + 1)
  | .leaf, p, h => by simp [cnt] at h
  | .inner s w ld l r, p, h => by
    rcases pl_3 h with c | c | ⟨k, c, rfl⟩
    · have ih := del_pos l p c
      have e := @gi_l s w ld l r p c
      have f := fo_le l p c
      rw [delT, if_pos c]
      refine ⟨by rw [cnt_i, cnt_i]; omega, fun q hq => ?_⟩
      unfold delD
      rw [e.2.2.2.1, e.2.2.2.2.1, e.2.2.2.2.2.1]
      by_cases c1 : q + 1 < cnt l
      · have a := @gi_l s w ld (delT l p) r q (by omega)
        have i := ih.2 q c1
        have hj : (if q < p then q else q + 1) < cnt l := by split <;> omega
        have hj2 : (if q < p then q else q + 1) ≠ p := by split <;> omega
        revert i hj hj2
        generalize (if q < p then q else q + 1) = j
        intro i hj hj2
        have b := @gi_l s w ld l r j hj
        rw [a.1, a.2.1, a.2.2.1, a.2.2.2.1, b.1, b.2.1, b.2.2.1, b.2.2.2.1, i.2.2.2]
        refine ⟨i.1, i.2.1, i.2.2.1, ?_⟩
        unfold delD
        by_cases x : foP l p < p ∧ p < loP l p
        · rw [if_pos x, if_pos x, (@gi_l s w ld l r (p + 1) (by omega)).2.2.2.2.2.1]
          by_cases y : j = p + 1
          · rw [if_pos y, if_pos y]
          · rw [if_neg y, if_neg y]
            by_cases z : p + 2 ≤ j ∧ j ≤ loP l (p + 1)
            · have g := fo_le l (p + 1) (by omega)
              have := part_deep l (p + 1) j (by omega) (by omega) (by omega) (by omega)
              rw [if_pos z, if_pos z]; omega
            · rw [if_neg z, if_neg z]
        · rw [if_neg x, if_neg x]
          by_cases z : foP l p ≤ j ∧ j ≤ loP l p
          · have := part_deep l p j (by omega) (by omega) (by omega) (by omega)
            rw [if_pos z, if_pos z]; omega
          · rw [if_neg z, if_neg z]
      · rw [if_neg (show ¬ q < p by omega)]
        have hh : (if foP l p < p ∧ p < loP l p then if q + 1 = p + 1 then gd l p + 1 else if p + 2 ≤ q + 1 ∧ q + 1 ≤ loP (.inner s w ld l r) (p + 1) then gd (.inner s w ld l r) (q + 1) - 1 else gd (.inner s w ld l r) (q + 1) else if foP l p ≤ q + 1 ∧ q + 1 ≤ loP l p then gd (.inner s w ld l r) (q + 1) - 1 else gd (.inner s w ld l r) (q + 1)) = gd (.inner s w ld l r) (q + 1) := by
          by_cases x : foP l p < p ∧ p < loP l p
          · have g := fo_le l (p + 1) (by omega)
            rw [if_pos x, if_neg (by omega), (@gi_l s w ld l r (p + 1) (by omega)).2.2.2.2.2.1, if_neg (by omega)]
          · rw [if_neg x, if_neg (by omega)]
        rw [hh]
        by_cases c2 : q + 1 = cnt l
        · have a := @gi_m s w ld (delT l p) r
          have b := @gi_m s w ld l r
          rw [show cnt (delT l p) = q by omega] at a
          rw [c2, a.1, a.2.1, a.2.2.1, a.2.2.2.1, b.1, b.2.1, b.2.2.1, b.2.2.2.1]
          exact ⟨rfl, rfl, rfl, rfl⟩
        · have a := @gi_r s w ld (delT l p) r (q - cnt l)
          have b := @gi_r s w ld l r (q - cnt l)
          rw [show cnt (delT l p) + 1 + (q - cnt l) = q by omega] at a
          rw [show cnt l + 1 + (q - cnt l) = q + 1 by omega] at b
          rw [a.1, a.2.1, a.2.2.1, a.2.2.2.1, b.1, b.2.1, b.2.2.1, b.2.2.2.1]
          exact ⟨rfl, rfl, rfl, rfl⟩
    · have e := @gi_m s w ld l r
      subst c
      rw [delT, if_neg (by omega), if_pos rfl, jnT]
      unfold delD
      rw [e.2.2.2.1, e.2.2.2.2.1, e.2.2.2.2.2.1]
      by_cases c1 : cnt l = 0
      · rw [if_pos c1]
        refine ⟨by rw [cnt_i]; omega, fun q hq => ?_⟩
        rw [cnt_i] at hq
        have a := @gi_r s w ld l r q
        rw [show cnt l + 1 + q = q + 1 by omega] at a
        rw [if_neg (show ¬ q < cnt l by omega), a.1, a.2.1, a.2.2.1, a.2.2.2.1, if_neg (by omega), if_pos (by omega)]
        exact ⟨rfl, rfl, rfl, by omega⟩
      · rw [if_neg c1]
        by_cases c2 : cnt r = 0
        · rw [if_pos c2]
          refine ⟨by rw [cnt_i]; omega, fun q hq => ?_⟩
          rw [cnt_i] at hq
          have a := @gi_l s w ld l r q (by omega)
          rw [if_pos (show q < cnt l by omega), a.1, a.2.1, a.2.2.1, a.2.2.2.1, if_neg (by omega), if_pos (by omega)]
          exact ⟨rfl, rfl, rfl, by omega⟩
        · rw [if_neg c2]
          have pp := pop_pos r (by omega)
          refine ⟨by rw [cnt_i, cnt_i]; omega, fun q hq => ?_⟩
          rw [cnt_i] at hq
          have e0 := @gi_r s w ld l r 0
          rw [Nat.add_zero] at e0
          rw [if_pos (show 0 < cnt l ∧ cnt l < cnt l + cnt r by omega), e0.2.2.2.2.2.1]
          by_cases d1 : q < cnt l
          · have a := @gi_l (gs r 0) (gw r 0) (gl r 0) l (popM r) q d1
            have b := @gi_l s w ld l r q d1
            rw [if_pos d1, a.1, a.2.1, a.2.2.1, a.2.2.2.1, b.1, b.2.1, b.2.2.1, b.2.2.2.1, if_neg (by omega), if_neg (by omega)]
            exact ⟨rfl, rfl, rfl, rfl⟩
          · rw [if_neg d1]
            by_cases d2 : q = cnt l
            · have a := @gi_m (gs r 0) (gw r 0) (gl r 0) l (popM r)
              rw [d2, a.1, a.2.1, a.2.2.1, a.2.2.2.1, e0.1, e0.2.1, e0.2.2.1, if_pos rfl]
              exact ⟨rfl, rfl, rfl, rfl⟩
            · obtain ⟨m, rfl⟩ : ∃ m, q = cnt l + 1 + m := ⟨q - cnt l - 1, by omega⟩
              have a := @gi_r (gs r 0) (gw r 0) (gl r 0) l (popM r) m
              have b := @gi_r s w ld l r (m + 1)
              have i := pp.2 m (by omega)
              rw [show cnt l + 1 + (m + 1) = cnt l + 1 + m + 1 by omega] at b
              rw [a.1, a.2.1, a.2.2.1, a.2.2.2.1, b.1, b.2.1, b.2.2.1, b.2.2.2.1, i.2.2.2, if_neg (show ¬ (cnt l + 1 + m + 1 = cnt l + 1) by omega)]
              refine ⟨i.1, i.2.1, i.2.2.1, ?_⟩
              have f := fo_le r 0 (by omega)
              by_cases x : m + 1 ≤ loP r 0
              · have := part_deep r 0 (m + 1) (by omega) (by omega) (by omega) (by omega)
                rw [if_pos x, if_pos (by omega)]; omega
              · rw [if_neg x, if_neg (by omega)]
    · have ih := del_pos r k c
      have e := @gi_r s w ld l r k
      have f := fo_le r k c
      rw [delT, if_neg (by omega), if_neg (by omega), show cnt l + 1 + k - cnt l - 1 = k by omega]
      refine ⟨by rw [cnt_i, cnt_i]; omega, fun q hq => ?_⟩
      rw [cnt_i] at hq
      unfold delD
      rw [e.2.2.2.1, e.2.2.2.2.1, e.2.2.2.2.2.1]
      by_cases c1 : q < cnt l + 1
      · rw [if_pos (show q < cnt l + 1 + k by omega)]
        have hh : (if cnt l + 1 + foP r k < cnt l + 1 + k ∧ cnt l + 1 + k < cnt l + 1 + loP r k then if q = cnt l + 1 + k + 1 then gd r k + 1 else if cnt l + 1 + k + 2 ≤ q ∧ q ≤ loP (.inner s w ld l r) (cnt l + 1 + k + 1) then gd (.inner s w ld l r) q - 1 else gd (.inner s w ld l r) q else if cnt l + 1 + foP r k ≤ q ∧ q ≤ cnt l + 1 + loP r k then gd (.inner s w ld l r) q - 1 else gd (.inner s w ld l r) q) = gd (.inner s w ld l r) q := by
          by_cases x : cnt l + 1 + foP r k < cnt l + 1 + k ∧ cnt l + 1 + k < cnt l + 1 + loP r k
          · rw [if_pos x, if_neg (by omega), if_neg (by omega)]
          · rw [if_neg x, if_neg (by omega)]
        rw [hh]
        by_cases c2 : q < cnt l
        · have a := @gi_l s w ld l (delT r k) q c2
          have b := @gi_l s w ld l r q c2
          rw [a.1, a.2.1, a.2.2.1, a.2.2.2.1, b.1, b.2.1, b.2.2.1, b.2.2.2.1]
          exact ⟨rfl, rfl, rfl, rfl⟩
        · obtain rfl : q = cnt l := by omega
          have a := @gi_m s w ld l (delT r k)
          have b := @gi_m s w ld l r
          rw [a.1, a.2.1, a.2.2.1, a.2.2.2.1, b.1, b.2.1, b.2.2.1, b.2.2.2.1]
          exact ⟨rfl, rfl, rfl, rfl⟩
      · obtain ⟨m, rfl⟩ : ∃ m, q = cnt l + 1 + m := ⟨q - cnt l - 1, by omega⟩
        have a := @gi_r s w ld l (delT r k) m
        have i := ih.2 m (by omega)
        rw [show (if cnt l + 1 + m < cnt l + 1 + k then cnt l + 1 + m else cnt l + 1 + m + 1) = cnt l + 1 + (if m < k then m else m + 1) by split <;> split <;> omega]
        have hj : (if m < k then m else m + 1) < cnt r := by split <;> omega
        have hj2 : (if m < k then m else m + 1) ≠ k := by split <;> omega
        revert i hj hj2
        generalize (if m < k then m else m + 1) = j
        intro i hj hj2
        have b := @gi_r s w ld l r j
        rw [a.1, a.2.1, a.2.2.1, a.2.2.2.1, b.1, b.2.1, b.2.2.1, b.2.2.2.1, i.2.2.2]
        refine ⟨i.1, i.2.1, i.2.2.1, ?_⟩
        unfold delD
        by_cases x : foP r k < k ∧ k < loP r k
        · have b2 := @gi_r s w ld l r (k + 1)
          rw [show cnt l + 1 + (k + 1) = cnt l + 1 + k + 1 by omega] at b2
          rw [if_pos x, if_pos (show cnt l + 1 + foP r k < cnt l + 1 + k ∧ cnt l + 1 + k < cnt l + 1 + loP r k by omega), b2.2.2.2.2.2.1]
          by_cases y : j = k + 1
          · rw [if_pos y, if_pos (by omega)]
          · rw [if_neg y, if_neg (show ¬ cnt l + 1 + j = cnt l + 1 + k + 1 by omega)]
            by_cases z : k + 2 ≤ j ∧ j ≤ loP r (k + 1)
            · have g := fo_le r (k + 1) (by omega)
              have := part_deep r (k + 1) j (by omega) (by omega) (by omega) (by omega)
              rw [if_pos z, if_pos (by omega)]; omega
            · rw [if_neg z, if_neg (by omega)]
        · rw [if_neg x, if_neg (show ¬ (cnt l + 1 + foP r k < cnt l + 1 + k ∧ cnt l + 1 + k < cnt l + 1 + loP r k) by omega)]
          by_cases z : foP r k ≤ j ∧ j ≤ loP r k
          · have := part_deep r k j (by omega) (by omega) (by omega) (by omega)
            rw [if_pos z, if_pos (by omega)]; omega
          · rw [if_neg z, if_neg (by omega)]
theorem del_gt {t : Tr} {p : Nat} (G : GT t) (h : p < cnt t) : GT (delT t p) := by
  have d := del_pos t p h
  refine ⟨by have := G.1; omega, fun q k => ?_, fun q q' k1 k2 => ?_, fun q q' k1 k2 => ?_⟩
  · have a := d.2 q (by omega)
    rw [a.1, a.2.1, a.2.2.1]
    exact G.2.1 _ (by split <;> omega)
  · rw [(d.2 q (by omega)).1, (d.2 q' (by omega)).1]
    exact G.2.2.1 _ _ (by split <;> split <;> omega) (by split <;> omega)
  · rw [(d.2 q (by omega)).2.2.1, (d.2 q' (by omega)).2.2.1]
    exact G.2.2.2 _ _ (by split <;> split <;> omega) (by split <;> omega)
