/-! ===== where a sheaf lies too deep, a part above it leans ===== -/
def NLp (lim : Int) : Tr → Nat → Prop
  | .leaf, _ => True
  | .inner s w ld l r, p => if p = cnt l then True else lnB lim (.inner s w ld l r) ≠ true ∧ (if p < cnt l then NLp lim l p else NLp lim r (p - cnt l - 1))
def rtp : Tr → Nat
  | .leaf => 0
  | .inner _ _ _ l _ => cnt l
theorem rtp_lt : ∀ {t : Tr}, 0 < cnt t → rtp t < cnt t ∧ paP t (rtp t) = -1 ∧ gd t (rtp t) = 0 ∧ gw t (rtp t) = (tpW t).toNat ∧ sbP t (rtp t) = t
  | .leaf, h => by simp [cnt] at h
  | .inner s w ld l r, h => by
    have e := @gi_m s w ld l r
    refine ⟨by rw [rtp, cnt_i]; omega, pa_m, e.2.2.2.1, ?_, e.2.2.2.2.2.2⟩
    rw [rtp, e.1]; rfl
theorem nl_up {lim : Int} {t : Tr} : ∀ (s : Tr) (lo d p n : Nat), BL t lo d s → p < cnt s → gd s p ≤ n → flP lim t n (paP t (lo + p)) = -1 → NLp lim s p ∧ flP lim t (n - gd s p) (paP t (lo + rtp s)) = -1
  | .leaf, lo, d, p, n, B, h, hn, e => by simp [cnt] at h
  | .inner k w ld l r, lo, d, p, n, B, h, hn, e => by
    have bm := bl_m B
    have step : ∀ m, 1 ≤ m → flP lim t m ((lo + cnt l : Nat) : Int) = -1 → lnB lim (.inner k w ld l r) ≠ true ∧ flP lim t (m - 1) (paP t (lo + cnt l)) = -1 := by
      intro m hm f
      obtain ⟨m, rfl⟩ : ∃ y, m = y + 1 := ⟨m - 1, by omega⟩
      rw [flP, if_neg (by omega), tn_n, bm.2.2.2.2.2.2.2.1] at f
      by_cases q : lnB lim (.inner k w ld l r) = true
      · rw [if_pos q] at f; omega
      · rw [if_neg q] at f
        exact ⟨q, f⟩
    rcases pl_3 h with c | c | ⟨q, c, rfl⟩
    · have g := @gi_l k w ld l r p c
      rw [g.2.2.2.1] at hn ⊢
      obtain ⟨a1, a2⟩ := nl_up l lo (d + 1) p n (bl_l B) c (by omega) e
      have rt := @rtp_lt l (by omega)
      have b2 := (B.2 (rtp l) (by rw [cnt_i]; omega)).2.2.2.2.2.2.2
      rw [pa_l rt.1, if_pos rt.2.1] at b2
      rw [b2 (by omega)] at a2
      obtain ⟨s1, s2⟩ := step (n - gd l p) (by omega) a2
      refine ⟨?_, by rw [show n - (gd l p + 1) = n - gd l p - 1 by omega]; exact s2⟩
      rw [NLp, if_neg (by omega), if_pos c]
      exact ⟨s1, a1⟩
    · subst c
      have g := @gi_m k w ld l r
      rw [g.2.2.2.1]
      refine ⟨by rw [NLp, if_pos rfl]; trivial, e⟩
    · have g := @gi_r k w ld l r q
      rw [g.2.2.2.1] at hn ⊢
      rw [show lo + (cnt l + 1 + q) = lo + cnt l + 1 + q by omega] at e
      obtain ⟨a1, a2⟩ := nl_up r (lo + cnt l + 1) (d + 1) q n (bl_r B) c (by omega) e
      have rt := @rtp_lt r (by omega)
      have b2 := (B.2 (cnt l + 1 + rtp r) (by rw [cnt_i]; omega)).2.2.2.2.2.2.2
      rw [pa_r, if_pos rt.2.1, show lo + (cnt l + 1 + rtp r) = lo + cnt l + 1 + rtp r by omega] at b2
      rw [b2 (by omega)] at a2
      obtain ⟨s1, s2⟩ := step (n - gd r q) (by omega) a2
      refine ⟨?_, by rw [show n - (gd r q + 1) = n - gd r q - 1 by omega]; exact s2⟩
      rw [NLp, if_neg (by omega), if_neg (by omega), show cnt l + 1 + q - cnt l - 1 = q by omega]
      exact ⟨s1, a1⟩
theorem mh_mono {lim : Int} (hl : 55 ≤ lim ∧ lim ≤ 90) : ∀ (n : Nat) {x y : Int}, x ≤ y → mhZ lim n x ≤ mhZ lim n y
  | 0, x, y, h => by rw [mhZ, mhZ]; omega
  | n + 1, x, y, h => by
    have m0 : x * lim ≤ y * lim := Int.mul_le_mul_of_nonneg_right h (by omega)
    have ih := mh_mono hl n (x := x * lim / 100) (y := y * lim / 100) (by omega)
    have r := @mh_rng lim hl n (y * lim / 100)
    rw [mhZ, mhZ]
    by_cases c : x ≤ 0
    · rw [if_pos c]; split <;> omega
    · rw [if_neg c, if_neg (by omega)]; omega
theorem nl_deep {lim : Int} (hl : 55 ≤ lim ∧ lim ≤ 90) : ∀ (s : Tr) (n p : Nat), cnt s ≤ n → p < cnt s → NLp lim s p → (gd s p : Int) ≤ mhZ lim n ((cnt s : Int) * lim / 100)
  | .leaf, n, p, hn, h, N => by simp [cnt] at h
  | .inner k w ld l r, n, p, hn, h, N => by
    have hn' := hn
    rw [cnt_i] at hn'
    obtain ⟨n, rfl⟩ : ∃ y, n = y + 1 := ⟨n - 1, by omega⟩
    have rg := @mh_rng lim hl (n + 1) ((cnt (Std.DTreeMap.Internal.Impl.inner k w ld l r) : Int) * lim / 100)
    have half : ∀ x : Nat, x ≤ max (cnt l) (cnt r) → 1 ≤ x → lnB lim (.inner k w ld l r) ≠ true → ∀ g : Nat, (g : Int) ≤ mhZ lim n ((x : Int) * lim / 100) → ((g + 1 : Nat) : Int) ≤ mhZ lim (n + 1) ((cnt (.inner k w ld l r) : Int) * lim / 100) := by
      intro x hx h1 hln g hg
      have q : ¬ (lim * (cnt l + 1 + cnt r : Nat) < 100 * (max (cnt l) (cnt r) : Nat)) := fun q => hln (by rw [lnB]; exact decide_eq_true q)
      rw [cnt_i]
      generalize hS : ((cnt l + 1 + cnt r : Nat) : Int) = S at q ⊢
      have e : S * lim = lim * S := Int.mul_comm _ _
      have hy : (x : Int) ≤ S * lim / 100 := by omega
      have m0 : (x : Int) * lim ≤ (S * lim / 100) * lim := Int.mul_le_mul_of_nonneg_right hy (by omega)
      have mm := @mh_mono lim hl n ((x : Int) * lim / 100) ((S * lim / 100) * lim / 100) (by omega)
      rw [mhZ, if_neg (by omega)]
      omega
    rcases pl_3 h with c | c | ⟨q, c, rfl⟩
    · have g := @gi_l k w ld l r p c
      rw [NLp, if_neg (by omega), if_pos c] at N
      rw [g.2.2.2.1]
      exact half (cnt l) (by omega) (by omega) N.1 _ (nl_deep hl l n p (by omega) c N.2)
    · subst c
      rw [(@gi_m k w ld l r).2.2.2.1]; omega
    · have g := @gi_r k w ld l r q
      rw [NLp, if_neg (by omega), if_neg (by omega), show cnt l + 1 + q - cnt l - 1 = q by omega] at N
      rw [g.2.2.2.1]
      exact half (cnt r) (by omega) (by omega) N.1 _ (nl_deep hl r n q (by omega) c N.2)
/-- too deep: a part above leans -/
theorem sg {lim : Int} (hl : 55 ≤ lim ∧ lim ≤ 90) {t : Tr} (h30 : cnt t ≤ 30) {p : Nat} (hp : p < cnt t) (h : mhZ lim 30 ((cnt t : Int) * lim / 100) < gd t p) : 0 ≤ flP lim t 31 (paP t p) := by
  have r := fl_rng lim t 31 (paP t p) (pa_rng t p hp).2
  by_cases c : flP lim t 31 (paP t p) = -1
  · have g := gd_lt t p hp
    have a := (nl_up t 0 0 p 31 (bl_0 t) hp (by omega) (by rw [Nat.zero_add]; exact c)).1
    have b := nl_deep hl t 30 p h30 hp a
    omega
  · omega
