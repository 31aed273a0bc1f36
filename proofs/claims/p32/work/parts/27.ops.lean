/-! ===== what is done to trees ===== -/
def insT (k w ld : Nat) : Tr → Tr
  | .leaf => .inner k w ld .leaf .leaf
  | .inner s w1 l1 l r => if w < w1 then .inner s w1 l1 (insT k w ld l) r else .inner s w1 l1 l (insT k w ld r)
/-- how deep the deeper neighbour of a place between two sheaves is, one more -/
def nbD (t : Tr) (p : Nat) : Int := max (DZ t ((p : Int) - 1)) (DZ t p) + 1
theorem dz_n {t : Tr} {p : Nat} (h : p < cnt t) : DZ t p = gd t p := by
  rw [DZ, if_pos (by omega)]; rfl
theorem dz_o {t : Tr} {z : Int} (h : ¬ (0 ≤ z ∧ z < cnt t)) : DZ t z = -1 := by rw [DZ, if_neg h]
theorem nb_l {s w ld : Nat} {l r : Tr} {p : Nat} (h : p ≤ cnt l) : nbD (.inner s w ld l r) p = nbD l p + 1 := by
  have c : cnt (.inner s w ld l r) = cnt l + 1 + cnt r := rfl
  unfold nbD
  by_cases h0 : p = 0
  · subst h0
    rw [@dz_o (.inner s w ld l r) _ (by omega), @dz_o l (((0 : Nat) : Int) - 1) (by omega)]
    by_cases h1 : cnt l = 0
    · rw [@dz_n (.inner s w ld l r) 0 (by omega), @dz_o l _ (by omega)]
      have := (@gi_m s w ld l r).2.2.2.1
      rw [h1] at this
      rw [this]; rfl
    · rw [@dz_n (.inner s w ld l r) 0 (by omega), @dz_n l 0 (by omega), (@gi_l s w ld l r 0 (by omega)).2.2.2.1]
      omega
  · rw [show (p : Int) - 1 = ((p - 1 : Nat) : Int) by omega, @dz_n (.inner s w ld l r) (p - 1) (by omega), @dz_n l (p - 1) (by omega), (@gi_l s w ld l r (p - 1) (by omega)).2.2.2.1]
    by_cases h1 : p = cnt l
    · rw [@dz_n (.inner s w ld l r) p (by omega), @dz_o l _ (by omega), h1, (@gi_m s w ld l r).2.2.2.1]
      omega
    · rw [@dz_n (.inner s w ld l r) p (by omega), @dz_n l p (by omega), (@gi_l s w ld l r p (by omega)).2.2.2.1]
      omega
theorem nb_r {s w ld : Nat} {l r : Tr} {p : Nat} (h : p ≤ cnt r) : nbD (.inner s w ld l r) (cnt l + 1 + p) = nbD r p + 1 := by
  have c : cnt (.inner s w ld l r) = cnt l + 1 + cnt r := rfl
  unfold nbD
  rw [show ((cnt l + 1 + p : Nat) : Int) - 1 = ((cnt l + p : Nat) : Int) by omega, @dz_n (.inner s w ld l r) (cnt l + p) (by omega)]
  by_cases h0 : p = 0
  · subst h0
    rw [Nat.add_zero, (@gi_m s w ld l r).2.2.2.1, @dz_o r (((0 : Nat) : Int) - 1) (by omega)]
    by_cases h1 : cnt r = 0
    · rw [@dz_o (.inner s w ld l r) _ (by omega), @dz_o r _ (by omega)]; rfl
    · rw [@dz_n (.inner s w ld l r) (cnt l + 1 + 0) (by omega), @dz_n r 0 (by omega), (@gi_r s w ld l r 0).2.2.2.1]
      omega
  · rw [show cnt l + p = cnt l + 1 + (p - 1) by omega, (@gi_r s w ld l r (p - 1)).2.2.2.1, show (p : Int) - 1 = ((p - 1 : Nat) : Int) by omega, @dz_n r (p - 1) (by omega)]
    by_cases h1 : p = cnt r
    · rw [@dz_o (.inner s w ld l r) _ (by omega), @dz_o r _ (by omega)]
      omega
    · rw [@dz_n (.inner s w ld l r) (cnt l + 1 + p) (by omega), @dz_n r p (by omega), (@gi_r s w ld l r p).2.2.2.1]
      omega
theorem in_cnt (k w ld : Nat) : ∀ t : Tr, cnt (insT k w ld t) = cnt t + 1
  | .leaf => rfl
  | .inner s w1 l1 l r => by
    rw [insT]
    split
    · rw [cnt_i, cnt_i, in_cnt k w ld l]; omega
    · rw [cnt_i, cnt_i, in_cnt k w ld r]; omega
/-- what a place of the tree behind it is -/
def InP (k w ld : Nat) (t : Tr) (R p : Nat) : Prop := 
  (p < R → gw (insT k w ld t) p = gw t p ∧ gl (insT k w ld t) p = gl t p ∧ gs (insT k w ld t) p = gs t p ∧ gd (insT k w ld t) p = gd t p) ∧
  (p = R → gw (insT k w ld t) p = w ∧ gl (insT k w ld t) p = ld ∧ gs (insT k w ld t) p = k ∧ (gd (insT k w ld t) p : Int) = nbD t R) ∧
  (R < p → gw (insT k w ld t) p = gw t (p - 1) ∧ gl (insT k w ld t) p = gl t (p - 1) ∧ gs (insT k w ld t) p = gs t (p - 1) ∧ gd (insT k w ld t) p = gd t (p - 1))
theorem in_pos (k w ld : Nat) : ∀ (t : Tr) (p : Nat), GT t → (∀ q, q < cnt t → gw t q ≠ w) → p ≤ cnt t → InP k w ld t (rkQ w t) p
  | .leaf, p, G, H, hp => by
    simp only [cnt] at hp
    obtain rfl : p = 0 := by omega
    refine ⟨fun h => by simp [rkQ] at h, fun _ => ?_, fun h => by simp [rkQ] at h⟩
    simp [insT, gw, gl, gs, gd, cnt, nbD, rkQ, DZ]
  | .inner s w1 l1 l r, p, G, H, hp => by
    have gm := gt_m G
    have hc : w1 ≠ w := by have := H (cnt l) (by rw [cnt_i]; omega); rw [(@gi_m s w1 l1 l r).1] at this; exact this
    have Hl : ∀ q, q < cnt l → gw l q ≠ w := fun q h => by have := H q (by rw [cnt_i]; omega); rw [(@gi_l s w1 l1 l r q h).1] at this; exact this
    have Hr : ∀ q, q < cnt r → gw r q ≠ w := fun q h => by have := H (cnt l + 1 + q) (by rw [cnt_i]; omega); rw [(@gi_r s w1 l1 l r q).1] at this; exact this
    rw [cnt_i] at hp
    have kl := rk_le (w : Int) l
    have kr := rk_le (w : Int) r
    unfold InP
    rw [insT, rkQ]
    by_cases c : w < w1
    · rw [if_pos c, if_neg (by omega)]
      have cl := in_cnt k w ld l
      by_cases c1 : p ≤ cnt l
      · have ih := in_pos k w ld l p (gt_l G) Hl c1
        have e := @gi_l s w1 l1 (insT k w ld l) r p (by omega)
        rw [e.1, e.2.1, e.2.2.1, e.2.2.2.1, nb_l (by omega)]
        refine ⟨fun h => ?_, fun h => ?_, fun h => ?_⟩
        · have f := @gi_l s w1 l1 l r p (by omega)
          have := ih.1 h
          rw [f.1, f.2.1, f.2.2.1, f.2.2.2.1]
          exact ⟨this.1, this.2.1, this.2.2.1, by omega⟩
        · have := ih.2.1 h
          exact ⟨this.1, this.2.1, this.2.2.1, by omega⟩
        · have f := @gi_l s w1 l1 l r (p - 1) (by omega)
          have := ih.2.2 h
          rw [f.1, f.2.1, f.2.2.1, f.2.2.2.1]
          exact ⟨this.1, this.2.1, this.2.2.1, by omega⟩
      · refine ⟨fun h => by omega, fun h => by omega, fun h => ?_⟩
        by_cases c2 : p = cnt l + 1
        · subst c2
          have e := @gi_m s w1 l1 (insT k w ld l) r
          rw [cl] at e
          have f := @gi_m s w1 l1 l r
          rw [e.1, e.2.1, e.2.2.1, e.2.2.2.1, Nat.add_sub_cancel, f.1, f.2.1, f.2.2.1, f.2.2.2.1]
          exact ⟨rfl, rfl, rfl, rfl⟩
        · have e := @gi_r s w1 l1 (insT k w ld l) r (p - cnt l - 2)
          rw [cl, show cnt l + 1 + 1 + (p - cnt l - 2) = p by omega] at e
          have f := @gi_r s w1 l1 l r (p - cnt l - 2)
          rw [show cnt l + 1 + (p - cnt l - 2) = p - 1 by omega] at f
          rw [e.1, e.2.1, e.2.2.1, e.2.2.2.1, f.1, f.2.1, f.2.2.1, f.2.2.2.1]
          exact ⟨rfl, rfl, rfl, rfl⟩
    · rw [if_neg c, if_pos (by omega)]
      by_cases c1 : p < cnt l
      · have e := @gi_l s w1 l1 l (insT k w ld r) p c1
        have f := @gi_l s w1 l1 l r p c1
        refine ⟨fun h => ?_, fun h => by omega, fun h => by omega⟩
        rw [e.1, e.2.1, e.2.2.1, e.2.2.2.1, f.1, f.2.1, f.2.2.1, f.2.2.2.1]
        exact ⟨rfl, rfl, rfl, rfl⟩
      · by_cases c2 : p = cnt l
        · subst c2
          have e := @gi_m s w1 l1 l (insT k w ld r)
          have f := @gi_m s w1 l1 l r
          refine ⟨fun h => ?_, fun h => by omega, fun h => by omega⟩
          rw [e.1, e.2.1, e.2.2.1, e.2.2.2.1, f.1, f.2.1, f.2.2.1, f.2.2.2.1]
          exact ⟨rfl, rfl, rfl, rfl⟩
        · obtain ⟨q, rfl⟩ : ∃ q, p = cnt l + 1 + q := ⟨p - cnt l - 1, by omega⟩
          have ih := in_pos k w ld r q (gt_r G) Hr (by omega)
          have e := @gi_r s w1 l1 l (insT k w ld r) q
          rw [e.1, e.2.1, e.2.2.1, e.2.2.2.1, nb_r (by omega)]
          refine ⟨fun h => ?_, fun h => ?_, fun h => ?_⟩
          · have f := @gi_r s w1 l1 l r q
            have := ih.1 (by omega)
            rw [f.1, f.2.1, f.2.2.1, f.2.2.2.1]
            exact ⟨this.1, this.2.1, this.2.2.1, by omega⟩
          · have := ih.2.1 (by omega)
            exact ⟨this.1, this.2.1, this.2.2.1, by omega⟩
          · have f := @gi_r s w1 l1 l r (q - 1)
            have := ih.2.2 (by omega)
            rw [show cnt l + 1 + q - 1 = cnt l + 1 + (q - 1) by omega, f.1, f.2.1, f.2.2.1, f.2.2.2.1]
            exact ⟨this.1, this.2.1, this.2.2.1, by omega⟩
theorem in_gt {k w ld : Nat} {t : Tr} (G : GT t) (H : ∀ q, q < cnt t → gw t q ≠ w) (K : ∀ q, q < cnt t → gs t q ≠ k) (h1 : w < 1000) (h2 : 1 ≤ ld) (h3 : ld < 100) (h4 : k < 30) (h5 : cnt t < 30) : GT (insT k w ld t) := by
  have cl := in_cnt k w ld t
  have kr := rk_le (w : Int) t
  refine ⟨by omega, fun p h => ?_, fun p q h1 h2 => ?_, fun p q h1 h2 => ?_⟩
  · have a := in_pos k w ld t p G H (by omega)
    by_cases c1 : p < rkQ w t
    · have b := a.1 c1
      rw [b.1, b.2.1, b.2.2.1]; exact G.2.1 p (by omega)
    · by_cases c2 : p = rkQ w t
      · have b := a.2.1 c2
        rw [b.1, b.2.1, b.2.2.1]; omega
      · have b := a.2.2 (by omega)
        rw [b.1, b.2.1, b.2.2.1]; exact G.2.1 (p - 1) (by omega)
  · have a := in_pos k w ld t p G H (by omega)
    have b := in_pos k w ld t q G H (by omega)
    by_cases c1 : p < rkQ w t
    · have r1 := rk_lt (w : Int) t p G c1
      rw [(a.1 c1).1]
      by_cases d1 : q < rkQ w t
      · rw [(b.1 d1).1]; exact G.2.2.1 p q h1 (by omega)
      · by_cases d2 : q = rkQ w t
        · rw [(b.2.1 d2).1]; omega
        · rw [(b.2.2 (by omega)).1]; exact G.2.2.1 p (q - 1) (by omega) (by omega)
    · have r2 := rk_ge (w : Int) t (q - 1) G (by omega) (by omega)
      have r3 := H (q - 1) (by omega)
      rw [(b.2.2 (by omega)).1]
      by_cases c2 : p = rkQ w t
      · rw [(a.2.1 c2).1]; omega
      · rw [(a.2.2 (by omega)).1]; exact G.2.2.1 (p - 1) (q - 1) (by omega) (by omega)
  · have a := in_pos k w ld t p G H (by omega)
    have b := in_pos k w ld t q G H (by omega)
    by_cases c1 : p < rkQ w t
    · rw [(a.1 c1).2.2.1]
      by_cases d1 : q < rkQ w t
      · rw [(b.1 d1).2.2.1]; exact G.2.2.2 p q h1 (by omega)
      · by_cases d2 : q = rkQ w t
        · rw [(b.2.1 d2).2.2.1]; exact K p (by omega)
        · rw [(b.2.2 (by omega)).2.2.1]; exact G.2.2.2 p (q - 1) (by omega) (by omega)
    · rw [(b.2.2 (by omega)).2.2.1]
      by_cases c2 : p = rkQ w t
      · rw [(a.2.1 c2).2.2.1]; exact fun e => K (q - 1) (by omega) e.symm
      · rw [(a.2.2 (by omega)).2.2.1]; exact G.2.2.2 (p - 1) (q - 1) (by omega) (by omega)
/-! trees in balance -/
def balT (fs fw fl : Nat → Nat) : Nat → Nat → Nat → Tr
  | 0, _, _ => .leaf
  | n + 1, lo, c => if c = 0 then .leaf else .inner (fs (lo + (c - 1) / 2)) (fw (lo + (c - 1) / 2)) (fl (lo + (c - 1) / 2)) (balT fs fw fl n lo ((c - 1) / 2)) (balT fs fw fl n (lo + (c - 1) / 2 + 1) (c - 1 - (c - 1) / 2))
theorem bal_pos (fs fw fl : Nat → Nat) : ∀ (n lo c : Nat), c ≤ n → cnt (balT fs fw fl n lo c) = c ∧ ∀ p, p < c → gw (balT fs fw fl n lo c) p = fw (lo + p) ∧ gl (balT fs fw fl n lo c) p = fl (lo + p) ∧ gs (balT fs fw fl n lo c) p = fs (lo + p)
  | 0, lo, c, h => by
    obtain rfl : c = 0 := by omega
    exact ⟨rfl, fun p h => by omega⟩
  | n + 1, lo, c, h => by
    rw [balT]
    by_cases c0 : c = 0
    · rw [if_pos c0]; exact ⟨by rw [c0]; rfl, fun p h => by omega⟩
    · rw [if_neg c0]
      have a := bal_pos fs fw fl n lo ((c - 1) / 2) (by omega)
      have b := bal_pos fs fw fl n (lo + (c - 1) / 2 + 1) (c - 1 - (c - 1) / 2) (by omega)
      refine ⟨by rw [cnt_i, a.1, b.1]; omega, fun p hp => ?_⟩
      by_cases c1 : p < (c - 1) / 2
      · have e := @gi_l (fs (lo + (c - 1) / 2)) (fw (lo + (c - 1) / 2)) (fl (lo + (c - 1) / 2)) (balT fs fw fl n lo ((c - 1) / 2)) (balT fs fw fl n (lo + (c - 1) / 2 + 1) (c - 1 - (c - 1) / 2)) p (by rw [a.1]; exact c1)
        rw [e.1, e.2.1, e.2.2.1]; exact a.2 p c1
      · by_cases c2 : p = (c - 1) / 2
        · have e := @gi_m (fs (lo + (c - 1) / 2)) (fw (lo + (c - 1) / 2)) (fl (lo + (c - 1) / 2)) (balT fs fw fl n lo ((c - 1) / 2)) (balT fs fw fl n (lo + (c - 1) / 2 + 1) (c - 1 - (c - 1) / 2))
          rw [a.1, ← c2] at e
          rw [← c2, e.1, e.2.1, e.2.2.1]; exact ⟨rfl, rfl, rfl⟩
        · have e := @gi_r (fs (lo + (c - 1) / 2)) (fw (lo + (c - 1) / 2)) (fl (lo + (c - 1) / 2)) (balT fs fw fl n lo ((c - 1) / 2)) (balT fs fw fl n (lo + (c - 1) / 2 + 1) (c - 1 - (c - 1) / 2)) (p - (c - 1) / 2 - 1)
          rw [a.1, show (c - 1) / 2 + 1 + (p - (c - 1) / 2 - 1) = p by omega] at e
          have q := b.2 (p - (c - 1) / 2 - 1) (by omega)
          rw [show lo + (c - 1) / 2 + 1 + (p - (c - 1) / 2 - 1) = lo + p by omega] at q
          rw [e.1, e.2.1, e.2.2.1]; exact q
/-- the tree built anew -/
def bwT (t : Tr) : Tr := balT (gs t) (gw t) (gl t) (cnt t) 0 (cnt t)
theorem bw_pos (t : Tr) : cnt (bwT t) = cnt t ∧ ∀ p, p < cnt t → gw (bwT t) p = gw t p ∧ gl (bwT t) p = gl t p ∧ gs (bwT t) p = gs t p := by
  have a := bal_pos (gs t) (gw t) (gl t) (cnt t) 0 (cnt t) (Nat.le_refl _)
  refine ⟨a.1, fun p h => ?_⟩
  have b := a.2 p h
  rw [Nat.zero_add] at b
  exact b
/-- good is, what has the same places -/
theorem gt_same {t u : Tr} (G : GT t) (h : cnt u = cnt t) (hp : ∀ p, p < cnt t → gw u p = gw t p ∧ gl u p = gl t p ∧ gs u p = gs t p) : GT u := by
  refine ⟨by have := G.1; omega, fun p k => ?_, fun p q k1 k2 => ?_, fun p q k1 k2 => ?_⟩
  · rw [h] at k; rw [(hp p k).1, (hp p k).2.1, (hp p k).2.2]; exact G.2.1 p k
  · rw [h] at k2; rw [(hp p (by omega)).1, (hp q k2).1]; exact G.2.2.1 p q k1 k2
  · rw [h] at k2; rw [(hp p (by omega)).2.2, (hp q k2).2.2]; exact G.2.2.2 p q k1 k2
theorem bw_gt {t : Tr} (G : GT t) : GT (bwT t) := gt_same G (bw_pos t).1 (bw_pos t).2
/-- the part of a place built anew -/
def rebT : Tr → Nat → Tr
  | .leaf, _ => .leaf
  | .inner s w ld l r, p => if p < cnt l then .inner s w ld (rebT l p) r else if p = cnt l then bwT (.inner s w ld l r) else .inner s w ld l (rebT r (p - cnt l - 1))
theorem reb_pos : ∀ (t : Tr) (p : Nat), p < cnt t → cnt (rebT t p) = cnt t ∧ ∀ q, q < cnt t → gw (rebT t p) q = gw t q ∧ gl (rebT t p) q = gl t q ∧ gs (rebT t p) q = gs t q ∧ gd (rebT t p) q = if foP t p ≤ q ∧ q ≤ loP t p then gd t p + gd (bwT (sbP t p)) (q - foP t p) else gd t q
  | .leaf, p, h => by simp [cnt] at h
  | .inner s w ld l r, p, h => by
    rcases pl_3 h with c | c | ⟨k, c, rfl⟩
    · have ih := reb_pos l p c
      have e := @gi_l s w ld l r p c
      have fl := fo_le l p c
      rw [rebT, if_pos c, e.2.2.2.1, e.2.2.2.2.1, e.2.2.2.2.2.1, e.2.2.2.2.2.2]
      refine ⟨by rw [cnt_i, cnt_i, ih.1], fun q hq => ?_⟩
      rcases pl_3 hq with d | d | ⟨m, d, rfl⟩
      · have f := @gi_l s w ld (rebT l p) r q (by rw [ih.1]; exact d)
        have g := @gi_l s w ld l r q d
        have i2 := ih.2 q d
        rw [f.1, f.2.1, f.2.2.1, f.2.2.2.1, g.1, g.2.1, g.2.2.1, g.2.2.2.1, i2.2.2.2]
        refine ⟨i2.1, i2.2.1, i2.2.2.1, ?_⟩
        by_cases x : foP l p ≤ q ∧ q ≤ loP l p
        · rw [if_pos x, if_pos x]; omega
        · rw [if_neg x, if_neg x]
      · have f := @gi_m s w ld (rebT l p) r
        have g := @gi_m s w ld l r
        rw [ih.1] at f
        rw [d, f.1, f.2.1, f.2.2.1, f.2.2.2.1, g.1, g.2.1, g.2.2.1, g.2.2.2.1, if_neg (by omega)]
        exact ⟨rfl, rfl, rfl, rfl⟩
      · have f := @gi_r s w ld (rebT l p) r m
        have g := @gi_r s w ld l r m
        rw [ih.1] at f
        rw [f.1, f.2.1, f.2.2.1, f.2.2.2.1, g.1, g.2.1, g.2.2.1, g.2.2.2.1, if_neg (by omega)]
        exact ⟨rfl, rfl, rfl, rfl⟩
    · have e := @gi_m s w ld l r
      have b := bw_pos (.inner s w ld l r)
      rw [rebT, if_neg (by omega), if_pos c, c, e.2.2.2.1, e.2.2.2.2.1, e.2.2.2.2.2.1, e.2.2.2.2.2.2]
      refine ⟨b.1, fun q hq => ?_⟩
      have b2 := b.2 q hq
      rw [cnt_i] at hq
      rw [if_pos (by omega)]
      exact ⟨b2.1, b2.2.1, b2.2.2, by simp⟩
    · have ih := reb_pos r k c
      have e := @gi_r s w ld l r k
      rw [rebT, if_neg (by omega), if_neg (by omega), show cnt l + 1 + k - cnt l - 1 = k by omega, e.2.2.2.1, e.2.2.2.2.1, e.2.2.2.2.2.1, e.2.2.2.2.2.2]
      refine ⟨by rw [cnt_i, cnt_i, ih.1], fun q hq => ?_⟩
      rcases pl_3 hq with d | d | ⟨m, d, rfl⟩
      · have f := @gi_l s w ld l (rebT r k) q d
        have g := @gi_l s w ld l r q d
        rw [f.1, f.2.1, f.2.2.1, f.2.2.2.1, g.1, g.2.1, g.2.2.1, g.2.2.2.1, if_neg (by omega)]
        exact ⟨rfl, rfl, rfl, rfl⟩
      · have f := @gi_m s w ld l (rebT r k)
        have g := @gi_m s w ld l r
        rw [d, f.1, f.2.1, f.2.2.1, f.2.2.2.1, g.1, g.2.1, g.2.2.1, g.2.2.2.1, if_neg (by omega)]
        exact ⟨rfl, rfl, rfl, rfl⟩
      · have f := @gi_r s w ld l (rebT r k) m
        have g := @gi_r s w ld l r m
        have i2 := ih.2 m d
        rw [f.1, f.2.1, f.2.2.1, f.2.2.2.1, g.1, g.2.1, g.2.2.1, g.2.2.2.1, i2.2.2.2]
        refine ⟨i2.1, i2.2.1, i2.2.2.1, ?_⟩
        by_cases x : foP r k ≤ m ∧ m ≤ loP r k
        · rw [if_pos x, if_pos (by omega), show cnt l + 1 + m - (cnt l + 1 + foP r k) = m - foP r k by omega]; omega
        · rw [if_neg x, if_neg (by omega)]
theorem reb_gt {t : Tr} {p : Nat} (G : GT t) (h : p < cnt t) : GT (rebT t p) := gt_same G (reb_pos t p h).1 (fun q hq => ⟨((reb_pos t p h).2 q hq).1, ((reb_pos t p h).2 q hq).2.1, ((reb_pos t p h).2 q hq).2.2.1⟩)
/-- a part and what stands over it are not more than all -/
theorem gd_part : ∀ (t : Tr) (p : Nat), p < cnt t → gd t p + cnt (sbP t p) ≤ cnt t
  | .leaf, p, h => by simp [cnt] at h
  | .inner s w ld l r, p, h => by
    rcases pl_3 h with c | c | ⟨k, c, rfl⟩
    · have e := @gi_l s w ld l r p c
      have := gd_part l p c
      rw [e.2.2.2.1, e.2.2.2.2.2.2, cnt_i]; omega
    · have e := @gi_m s w ld l r
      rw [c, e.2.2.2.1, e.2.2.2.2.2.2]; omega
    · have e := @gi_r s w ld l r k
      have := gd_part r k c
      rw [e.2.2.2.1, e.2.2.2.2.2.2, cnt_i]; omega
