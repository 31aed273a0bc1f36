/-! ===== good trees; blocks: a tree's places within another's ===== -/
/-- at most 30 sheaves, weights in order, all in range, stalls their own -/
def GT (t : Tr) : Prop := cnt t ≤ 30 ∧ (∀ p, p < cnt t → gw t p < 1000 ∧ 1 ≤ gl t p ∧ gl t p < 100 ∧ gs t p < 30) ∧ (∀ p q, p < q → q < cnt t → gw t p < gw t q) ∧ (∀ p q, p < q → q < cnt t → gs t p ≠ gs t q)
theorem gi_l {s w ld : Nat} {l r : Tr} {p : Nat} (h : p < cnt l) : gw (.inner s w ld l r) p = gw l p ∧ gl (.inner s w ld l r) p = gl l p ∧ gs (.inner s w ld l r) p = gs l p ∧ gd (.inner s w ld l r) p = gd l p + 1 ∧ foP (.inner s w ld l r) p = foP l p ∧ loP (.inner s w ld l r) p = loP l p ∧ sbP (.inner s w ld l r) p = sbP l p := by
  refine ⟨?_, ?_, ?_, ?_, ?_, ?_, ?_⟩
  · rw [gw, if_pos h]
  · rw [gl, if_pos h]
  · rw [gs, if_pos h]
  · rw [gd, if_pos h]
  · rw [foP, if_pos h]
  · rw [loP, if_pos h]
  · rw [sbP, if_pos h]
theorem gi_m {s w ld : Nat} {l r : Tr} : gw (.inner s w ld l r) (cnt l) = w ∧ gl (.inner s w ld l r) (cnt l) = ld ∧ gs (.inner s w ld l r) (cnt l) = s ∧ gd (.inner s w ld l r) (cnt l) = 0 ∧ foP (.inner s w ld l r) (cnt l) = 0 ∧ loP (.inner s w ld l r) (cnt l) = cnt l + cnt r ∧ sbP (.inner s w ld l r) (cnt l) = .inner s w ld l r := by
  have h : ¬ cnt l < cnt l := by omega
  refine ⟨?_, ?_, ?_, ?_, ?_, ?_, ?_⟩
  · rw [gw, if_neg h, if_pos rfl]
  · rw [gl, if_neg h, if_pos rfl]
  · rw [gs, if_neg h, if_pos rfl]
  · rw [gd, if_neg h, if_pos rfl]
  · rw [foP, if_neg h, if_pos rfl]
  · rw [loP, if_neg h, if_pos rfl]
  · rw [sbP, if_neg h, if_pos rfl]
theorem gi_r {s w ld : Nat} {l r : Tr} {p : Nat} : gw (.inner s w ld l r) (cnt l + 1 + p) = gw r p ∧ gl (.inner s w ld l r) (cnt l + 1 + p) = gl r p ∧ gs (.inner s w ld l r) (cnt l + 1 + p) = gs r p ∧ gd (.inner s w ld l r) (cnt l + 1 + p) = gd r p + 1 ∧ foP (.inner s w ld l r) (cnt l + 1 + p) = cnt l + 1 + foP r p ∧ loP (.inner s w ld l r) (cnt l + 1 + p) = cnt l + 1 + loP r p ∧ sbP (.inner s w ld l r) (cnt l + 1 + p) = sbP r p := by
  have h : ¬ cnt l + 1 + p < cnt l := by omega
  have h2 : ¬ cnt l + 1 + p = cnt l := by omega
  have h3 : cnt l + 1 + p - cnt l - 1 = p := by omega
  refine ⟨?_, ?_, ?_, ?_, ?_, ?_, ?_⟩
  · rw [gw, if_neg h, if_neg h2, h3]
  · rw [gl, if_neg h, if_neg h2, h3]
  · rw [gs, if_neg h, if_neg h2, h3]
  · rw [gd, if_neg h, if_neg h2, h3]
  · rw [foP, if_neg h, if_neg h2, h3]
  · rw [loP, if_neg h, if_neg h2, h3]
  · rw [sbP, if_neg h, if_neg h2, h3]
theorem pa_l {s w ld : Nat} {l r : Tr} {p : Nat} (h : p < cnt l) : paP (.inner s w ld l r) p = if paP l p = -1 then (cnt l : Int) else paP l p := by
  rw [paP, if_pos h]
theorem pa_m {s w ld : Nat} {l r : Tr} : paP (.inner s w ld l r) (cnt l) = -1 := by
  have h : ¬ cnt l < cnt l := by omega
  rw [paP, if_neg h, if_pos rfl]
theorem pa_r {s w ld : Nat} {l r : Tr} {p : Nat} : paP (.inner s w ld l r) (cnt l + 1 + p) = if paP r p = -1 then (cnt l : Int) else cnt l + 1 + paP r p := by
  have h : ¬ cnt l + 1 + p < cnt l := by omega
  have h2 : ¬ cnt l + 1 + p = cnt l := by omega
  have h3 : cnt l + 1 + p - cnt l - 1 = p := by omega
  rw [paP, if_neg h, if_neg h2, h3]
/-- a place of a tree is in the left, the middle or the right -/
theorem pl_3 {s w ld : Nat} {l r : Tr} {p : Nat} (h : p < cnt (.inner s w ld l r)) : p < cnt l ∨ p = cnt l ∨ ∃ q, q < cnt r ∧ p = cnt l + 1 + q := by
  rw [cnt_i] at h
  by_cases c : p < cnt l
  · exact Or.inl c
  · by_cases c2 : p = cnt l
    · exact Or.inr (Or.inl c2)
    · exact Or.inr (Or.inr ⟨p - cnt l - 1, by omega, by omega⟩)
theorem gt_l {s w ld : Nat} {l r : Tr} (G : GT (.inner s w ld l r)) : GT l := by
  obtain ⟨g1, g2, g3, g4⟩ := G
  rw [cnt_i] at g1 g2 g3 g4
  refine ⟨by omega, fun p h => ?_, fun p q h1 h2 => ?_, fun p q h1 h2 => ?_⟩
  · have := g2 p (by omega)
    have e := @gi_l s w ld l r p h
    rw [e.1, e.2.1, e.2.2.1] at this
    exact this
  · have := g3 p q h1 (by omega)
    rw [(@gi_l s w ld l r p (by omega)).1, (@gi_l s w ld l r q h2).1] at this
    exact this
  · have := g4 p q h1 (by omega)
    rw [(@gi_l s w ld l r p (by omega)).2.2.1, (@gi_l s w ld l r q h2).2.2.1] at this
    exact this
theorem gt_r {s w ld : Nat} {l r : Tr} (G : GT (.inner s w ld l r)) : GT r := by
  obtain ⟨g1, g2, g3, g4⟩ := G
  rw [cnt_i] at g1 g2 g3 g4
  refine ⟨by omega, fun p h => ?_, fun p q h1 h2 => ?_, fun p q h1 h2 => ?_⟩
  · have := g2 (cnt l + 1 + p) (by omega)
    have e := @gi_r s w ld l r p
    rw [e.1, e.2.1, e.2.2.1] at this
    exact this
  · have := g3 (cnt l + 1 + p) (cnt l + 1 + q) (by omega) (by omega)
    rw [(@gi_r s w ld l r p).1, (@gi_r s w ld l r q).1] at this
    exact this
  · have := g4 (cnt l + 1 + p) (cnt l + 1 + q) (by omega) (by omega)
    rw [(@gi_r s w ld l r p).2.2.1, (@gi_r s w ld l r q).2.2.1] at this
    exact this
theorem gt_m {s w ld : Nat} {l r : Tr} (G : GT (.inner s w ld l r)) : w < 1000 ∧ 1 ≤ ld ∧ ld < 100 ∧ s < 30 ∧ (∀ p, p < cnt l → gw l p < w ∧ gs l p ≠ s) ∧ (∀ p, p < cnt r → w < gw r p ∧ s ≠ gs r p) ∧ (∀ p q, p < cnt l → q < cnt r → gs l p ≠ gs r q) := by
  obtain ⟨g1, g2, g3, g4⟩ := G
  rw [cnt_i] at g1 g2 g3 g4
  have e := @gi_m s w ld l r
  have a := g2 (cnt l) (by omega)
  rw [e.1, e.2.1, e.2.2.1] at a
  refine ⟨a.1, a.2.1, a.2.2.1, a.2.2.2, fun p h => ?_, fun p h => ?_, fun p q h h2 => ?_⟩
  · have b := g3 p (cnt l) (by omega) (by omega)
    have c := g4 p (cnt l) (by omega) (by omega)
    have f := @gi_l s w ld l r p h
    rw [e.1, f.1] at b
    rw [e.2.2.1, f.2.2.1] at c
    exact ⟨b, c⟩
  · have b := g3 (cnt l) (cnt l + 1 + p) (by omega) (by omega)
    have c := g4 (cnt l) (cnt l + 1 + p) (by omega) (by omega)
    have f := @gi_r s w ld l r p
    rw [e.1, f.1] at b
    rw [e.2.2.1, f.2.2.1] at c
    exact ⟨b, c⟩
  · have c := g4 p (cnt l + 1 + q) (by omega) (by omega)
    have f := @gi_r s w ld l r q
    have f2 := @gi_l s w ld l r p h
    rw [f2.2.2.1, f.2.2.1] at c
    exact c
/-- s's places stand in t from lo on, d deeper -/
def BL (t : Tr) (lo d : Nat) (s : Tr) : Prop := lo + cnt s ≤ cnt t ∧ ∀ q, q < cnt s → gw t (lo + q) = gw s q ∧ gl t (lo + q) = gl s q ∧ gs t (lo + q) = gs s q ∧ gd t (lo + q) = d + gd s q ∧ foP t (lo + q) = lo + foP s q ∧ loP t (lo + q) = lo + loP s q ∧ sbP t (lo + q) = sbP s q ∧ (paP s q ≠ -1 → paP t (lo + q) = lo + paP s q)
theorem bl_0 (t : Tr) : BL t 0 0 t := by
  refine ⟨by omega, fun q _ => ?_⟩
  simp
theorem bl_l {t l r : Tr} {lo d s w ld : Nat} (B : BL t lo d (.inner s w ld l r)) : BL t lo (d + 1) l := by
  obtain ⟨b1, b2⟩ := B
  rw [cnt_i] at b1 b2
  refine ⟨by omega, fun q h => ?_⟩
  have a := b2 q (by omega)
  have e := @gi_l s w ld l r q h
  rw [e.1, e.2.1, e.2.2.1, e.2.2.2.1, e.2.2.2.2.1, e.2.2.2.2.2.1, e.2.2.2.2.2.2, pa_l h] at a
  refine ⟨a.1, a.2.1, a.2.2.1, by omega, a.2.2.2.2.1, a.2.2.2.2.2.1, a.2.2.2.2.2.2.1, fun c => ?_⟩
  have := a.2.2.2.2.2.2.2
  rw [if_neg c] at this
  exact this c
theorem bl_r {t l r : Tr} {lo d s w ld : Nat} (B : BL t lo d (.inner s w ld l r)) : BL t (lo + cnt l + 1) (d + 1) r := by
  obtain ⟨b1, b2⟩ := B
  rw [cnt_i] at b1 b2
  refine ⟨by omega, fun q h => ?_⟩
  have a := b2 (cnt l + 1 + q) (by omega)
  have e := @gi_r s w ld l r q
  rw [e.1, e.2.1, e.2.2.1, e.2.2.2.1, e.2.2.2.2.1, e.2.2.2.2.2.1, e.2.2.2.2.2.2, pa_r, show lo + (cnt l + 1 + q) = lo + cnt l + 1 + q by omega] at a
  refine ⟨a.1, a.2.1, a.2.2.1, by omega, by omega, by omega, a.2.2.2.2.2.2.1, fun c => ?_⟩
  have := a.2.2.2.2.2.2.2
  rw [if_neg c] at this
  have pr := pa_rng r q h
  rw [this (by omega)]
  omega
/-- the part of a place is a block of its own -/
theorem bl_p : ∀ (s : Tr) (t : Tr) (lo d p : Nat), BL t lo d s → p < cnt s → BL t (lo + foP s p) (d + gd s p) (sbP s p)
  | .leaf, t, lo, d, p, B, h => by simp [cnt] at h
  | .inner s w ld l r, t, lo, d, p, B, h => by
    rcases pl_3 h with c | c | ⟨q, c, rfl⟩
    · have e := @gi_l s w ld l r p c
      rw [e.2.2.2.1, e.2.2.2.2.1, e.2.2.2.2.2.2]
      have := bl_p l t lo (d + 1) p (bl_l B) c
      rw [show d + (gd l p + 1) = d + 1 + gd l p by omega]
      exact this
    · subst c
      have e := @gi_m s w ld l r
      rw [e.2.2.2.1, e.2.2.2.2.1, e.2.2.2.2.2.2]
      exact B
    · have e := @gi_r s w ld l r q
      rw [e.2.2.2.1, e.2.2.2.2.1, e.2.2.2.2.2.2]
      have := bl_p r t (lo + cnt l + 1) (d + 1) q (bl_r B) c
      rw [show d + (gd r q + 1) = d + 1 + gd r q by omega, show lo + (cnt l + 1 + foP r q) = lo + cnt l + 1 + foP r q by omega]
      exact this
/-- the part of a place: its sheaf on top, what stands to the left and to the right -/
theorem sb_is : ∀ (t : Tr) (p : Nat), p < cnt t → ∃ l r, sbP t p = .inner (gs t p) (gw t p) (gl t p) l r ∧ foP t p + cnt l = p ∧ p + cnt r = loP t p
  | .leaf, p, h => by simp [cnt] at h
  | .inner s w ld l r, p, h => by
    rcases pl_3 h with c | c | ⟨q, c, rfl⟩
    · have e := @gi_l s w ld l r p c
      rw [e.1, e.2.1, e.2.2.1, e.2.2.2.2.1, e.2.2.2.2.2.1, e.2.2.2.2.2.2]
      exact sb_is l p c
    · subst c
      have e := @gi_m s w ld l r
      rw [e.1, e.2.1, e.2.2.1, e.2.2.2.2.1, e.2.2.2.2.2.1, e.2.2.2.2.2.2]
      exact ⟨l, r, rfl, by omega, rfl⟩
    · have e := @gi_r s w ld l r q
      rw [e.1, e.2.1, e.2.2.1, e.2.2.2.2.1, e.2.2.2.2.2.1, e.2.2.2.2.2.2]
      obtain ⟨a, b, h1, h2, h3⟩ := sb_is r q c
      exact ⟨a, b, h1, by omega, by omega⟩
theorem gt_p : ∀ (t : Tr) (p : Nat), GT t → p < cnt t → GT (sbP t p)
  | .leaf, p, G, h => by simp [cnt] at h
  | .inner s w ld l r, p, G, h => by
    rcases pl_3 h with c | c | ⟨q, c, rfl⟩
    · rw [(@gi_l s w ld l r p c).2.2.2.2.2.2]; exact gt_p l p (gt_l G) c
    · subst c; rw [(@gi_m s w ld l r).2.2.2.2.2.2]; exact G
    · rw [(@gi_r s w ld l r q).2.2.2.2.2.2]; exact gt_p r q (gt_r G) c
/-- the place of the top of a block -/
theorem bl_m {t l r : Tr} {lo d s w ld : Nat} (B : BL t lo d (.inner s w ld l r)) : lo + cnt l + cnt r < cnt t ∧ gw t (lo + cnt l) = w ∧ gl t (lo + cnt l) = ld ∧ gs t (lo + cnt l) = s ∧ gd t (lo + cnt l) = d ∧ foP t (lo + cnt l) = lo ∧ loP t (lo + cnt l) = lo + cnt l + cnt r ∧ sbP t (lo + cnt l) = .inner s w ld l r ∧ (∀ q, lo ≤ q → q ≤ lo + cnt l + cnt r → q ≠ lo + cnt l → d < gd t q) := by
  obtain ⟨b1, b2⟩ := B
  rw [cnt_i] at b1 b2
  have a := b2 (cnt l) (by omega)
  have e := @gi_m s w ld l r
  rw [e.1, e.2.1, e.2.2.1, e.2.2.2.1, e.2.2.2.2.1, e.2.2.2.2.2.1, e.2.2.2.2.2.2] at a
  refine ⟨by omega, a.1, a.2.1, a.2.2.1, by omega, by omega, by omega, a.2.2.2.2.2.2.1, fun q h1 h2 h3 => ?_⟩
  have b := b2 (q - lo) (by omega)
  rw [show lo + (q - lo) = q by omega] at b
  rw [b.2.2.2.1]
  rcases pl_3 (show q - lo < cnt (.inner s w ld l r) by rw [cnt_i]; omega) with c | c | ⟨k, c, c2⟩
  · rw [(@gi_l s w ld l r _ c).2.2.2.1]; omega
  · omega
  · rw [c2, (@gi_r s w ld l r k).2.2.2.1]; omega
/-- how many are lighter -/
def rkQ (x : Int) : Tr → Nat
  | .leaf => 0
  | .inner _ w _ l r => if (w : Int) < x then cnt l + 1 + rkQ x r else rkQ x l
theorem rk_le (x : Int) : ∀ t : Tr, rkQ x t ≤ cnt t
  | .leaf => by simp [rkQ, cnt]
  | .inner _ w _ l r => by
    have := rk_le x l
    have := rk_le x r
    rw [rkQ, cnt_i]
    split <;> omega
theorem rk_lt (x : Int) : ∀ (t : Tr) (p : Nat), GT t → p < rkQ x t → (gw t p : Int) < x
  | .leaf, p, G, h => by simp [rkQ] at h
  | .inner s w ld l r, p, G, h => by
    have m := gt_m G
    have kl := rk_le x l
    have kr := rk_le x r
    rw [rkQ] at h
    by_cases c : (w : Int) < x
    · rw [if_pos c] at h
      rcases pl_3 (show p < cnt (.inner s w ld l r) by rw [cnt_i]; omega) with d | d | ⟨q, d, rfl⟩
      · rw [(@gi_l s w ld l r p d).1]; have := (m.2.2.2.2.1 p d).1; omega
      · rw [d, (@gi_m s w ld l r).1]; exact c
      · rw [(@gi_r s w ld l r q).1]; exact rk_lt x r q (gt_r G) (by omega)
    · rw [if_neg c] at h
      rw [(@gi_l s w ld l r p (by omega)).1]
      exact rk_lt x l p (gt_l G) h
theorem rk_ge (x : Int) : ∀ (t : Tr) (p : Nat), GT t → rkQ x t ≤ p → p < cnt t → x ≤ gw t p
  | .leaf, p, G, h, h2 => by simp [cnt] at h2
  | .inner s w ld l r, p, G, h, h2 => by
    have m := gt_m G
    have kl := rk_le x l
    have kr := rk_le x r
    rw [rkQ] at h
    by_cases c : (w : Int) < x
    · rw [if_pos c] at h
      rcases pl_3 h2 with d | d | ⟨q, d, rfl⟩
      · omega
      · omega
      · rw [(@gi_r s w ld l r q).1]; exact rk_ge x r q (gt_r G) (by omega) d
    · rw [if_neg c] at h
      rcases pl_3 h2 with d | d | ⟨q, d, rfl⟩
      · rw [(@gi_l s w ld l r p d).1]; exact rk_ge x l p (gt_l G) (by omega) d
      · rw [d, (@gi_m s w ld l r).1]; omega
      · rw [(@gi_r s w ld l r q).1]; have := (m.2.2.2.2.2.1 q d).1; omega
/-- the place of a weight, -1 if it isn't there -/
def fdP (t : Tr) (x : Int) : Int := if rkQ x t < cnt t ∧ (gw t (rkQ x t) : Int) = x then rkQ x t else -1
theorem fd_no {t : Tr} {x : Int} (G : GT t) (h : fdP t x = -1) (p : Nat) (hp : p < cnt t) : (gw t p : Int) ≠ x := by
  intro c
  unfold fdP at h
  split at h
  · omega
  · next hh =>
    have a : ¬ p < rkQ x t := fun q => by have := rk_lt x t p G q; omega
    by_cases d : rkQ x t = p
    · exact hh ⟨by omega, by rw [d]; exact c⟩
    · have b := rk_ge x t (rkQ x t) G (Nat.le_refl _) (by omega)
      have e := G.2.2.1 (rkQ x t) p (by omega) hp
      omega
theorem fd_yes {t : Tr} {x : Int} (h : fdP t x ≠ -1) : ∃ p, p < cnt t ∧ fdP t x = (p : Int) ∧ (gw t p : Int) = x ∧ p = rkQ x t := by
  unfold fdP at h ⊢
  split
  · next hh => exact ⟨_, hh.1, rfl, hh.2, rfl⟩
  · next hh => rw [if_neg hh] at h; exact absurd rfl h
theorem fd_at {t : Tr} {p : Nat} (G : GT t) (hp : p < cnt t) : fdP t (gw t p) = p := by
  by_cases c : fdP t (gw t p) = -1
  · exact absurd rfl (fd_no G c p hp)
  · obtain ⟨q, h1, h2, h3, _⟩ := fd_yes c
    rw [h2]
    by_cases d : q < p
    · have := G.2.2.1 q p d hp; omega
    · by_cases e : p < q
      · have := G.2.2.1 p q e h1; omega
      · omega
