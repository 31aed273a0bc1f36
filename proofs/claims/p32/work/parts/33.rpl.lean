/-! ===== stalls; a part put in another's place ===== -/
def St (t : Tr) (k : Nat) : Prop := ∃ p, p < cnt t ∧ gs t p = k
theorem st_0 (k : Nat) : ¬ St .leaf k := fun ⟨p, h, _⟩ => by simp [cnt] at h
theorem st_i {s w ld : Nat} {l r : Tr} {k : Nat} : St (.inner s w ld l r) k ↔ k = s ∨ St l k ∨ St r k := by
  constructor
  · rintro ⟨p, h, e⟩
    rcases pl_3 h with c | c | ⟨q, c, rfl⟩
    · rw [(@gi_l s w ld l r p c).2.2.1] at e; exact Or.inr (Or.inl ⟨p, c, e⟩)
    · rw [c, (@gi_m s w ld l r).2.2.1] at e; exact Or.inl e.symm
    · rw [(@gi_r s w ld l r q).2.2.1] at e; exact Or.inr (Or.inr ⟨q, c, e⟩)
  · rintro (h | ⟨p, h, e⟩ | ⟨p, h, e⟩)
    · exact ⟨cnt l, by rw [cnt_i]; omega, by rw [(@gi_m s w ld l r).2.2.1, h]⟩
    · exact ⟨p, by rw [cnt_i]; omega, by rw [(@gi_l s w ld l r p h).2.2.1, e]⟩
    · exact ⟨cnt l + 1 + p, by rw [cnt_i]; omega, by rw [(@gi_r s w ld l r p).2.2.1, e]⟩
theorem st_rng {t : Tr} (G : GT t) {k : Nat} (h : St t k) : k < 30 := by
  obtain ⟨p, hp, e⟩ := h
  rw [← e]; exact (G.2.1 p hp).2.2.2
theorem st_d {s w ld : Nat} {l r : Tr} (G : GT (.inner s w ld l r)) : ¬ St l s ∧ ¬ St r s ∧ ∀ k, St l k → ¬ St r k := by
  have gm := gt_m G
  refine ⟨fun ⟨p, hp, e⟩ => (gm.2.2.2.2.1 p hp).2 e, fun ⟨p, hp, e⟩ => (gm.2.2.2.2.2.1 p hp).2 e.symm, fun k ⟨p, hp, e⟩ ⟨q, hq, e2⟩ => gm.2.2.2.2.2.2 p q hp hq (e.trans e2.symm)⟩
theorem st_p : ∀ (t : Tr) (p k : Nat), p < cnt t → St (sbP t p) k → St t k
  | .leaf, p, k, h, _ => by simp [cnt] at h
  | .inner s w ld l r, p, k, h, S => by
    rcases pl_3 h with c | c | ⟨q, c, rfl⟩
    · rw [(@gi_l s w ld l r p c).2.2.2.2.2.2] at S; exact st_i.mpr (Or.inr (Or.inl (st_p l p k c S)))
    · rw [c, (@gi_m s w ld l r).2.2.2.2.2.2] at S; exact S
    · rw [(@gi_r s w ld l r q).2.2.2.2.2.2] at S; exact st_i.mpr (Or.inr (Or.inr (st_p r q k c S)))
theorem ad_n {i k c k' c' : Nat} (h : c < 4) (h2 : c' < 4) (h3 : k ≠ k' ∨ c ≠ c') : ad i k c ≠ ad i k' c' := by unfold ad; omega
theorem ad_s1 {i k c k' c' : Nat} {t : Tr} (h : St t k) (h2 : ¬ St t k') (h3 : c < 4) (h4 : c' < 4) : ad i k c ≠ ad i k' c' := ad_n h3 h4 (Or.inl (fun e => h2 (e ▸ h)))
theorem ad_s2 {i k c k' c' : Nat} {t : Tr} (h : ¬ St t k) (h2 : St t k') (h3 : c < 4) (h4 : c' < 4) : ad i k c ≠ ad i k' c' := ad_n h3 h4 (Or.inl (fun e => h (e ▸ h2)))
def rplT : Tr → Nat → Tr → Tr
  | .leaf, _, u => u
  | .inner s w ld l r, p, u => if p < cnt l then .inner s w ld (rplT l p u) r else if p = cnt l then u else .inner s w ld l (rplT r (p - cnt l - 1) u)
theorem rp_l {s w ld : Nat} {l r u : Tr} {p : Nat} (h : p < cnt l) : rplT (.inner s w ld l r) p u = .inner s w ld (rplT l p u) r := by rw [rplT, if_pos h]
theorem rp_m {s w ld : Nat} {l r u : Tr} : rplT (.inner s w ld l r) (cnt l) u = u := by rw [rplT, if_neg (by omega), if_pos rfl]
theorem rp_r {s w ld : Nat} {l r u : Tr} {p : Nat} : rplT (.inner s w ld l r) (cnt l + 1 + p) u = .inner s w ld l (rplT r p u) := by
  rw [rplT, if_neg (by omega), if_neg (by omega), show cnt l + 1 + p - cnt l - 1 = p by omega]
theorem rp_root : ∀ (t : Tr) (p : Nat) (u : Tr), p < cnt t → (paP t p = -1 → rplT t p u = u ∧ (gs t p : Int) = rtT t ∧ sbP t p = t) ∧ (paP t p ≠ -1 → rtT (rplT t p u) = rtT t)
  | .leaf, p, u, h => by simp [cnt] at h
  | .inner s w ld l r, p, u, h => by
    rcases pl_3 h with c | c | ⟨q, c, rfl⟩
    · rw [pa_l c, rp_l c]
      refine ⟨fun e => ?_, fun _ => rfl⟩
      split at e
      · omega
      · next d => exact absurd e d
    · subst c
      rw [pa_m, rp_m, (@gi_m s w ld l r).2.2.1, (@gi_m s w ld l r).2.2.2.2.2.2]
      exact ⟨fun _ => ⟨rfl, rfl, rfl⟩, fun e => absurd rfl e⟩
    · rw [pa_r, rp_r]
      have pr := pa_rng r q c
      refine ⟨fun e => ?_, fun _ => rfl⟩
      split at e
      · omega
      · omega
/-- building anew and taking out, as something put in the place of a part -/
theorem reb_rpl : ∀ (t : Tr) (p : Nat), p < cnt t → rebT t p = rplT t p (bwT (sbP t p))
  | .leaf, p, h => by simp [cnt] at h
  | .inner s w ld l r, p, h => by
    rcases pl_3 h with c | c | ⟨q, c, rfl⟩
    · rw [rebT, if_pos c, rp_l c, (@gi_l s w ld l r p c).2.2.2.2.2.2, reb_rpl l p c]
    · subst c
      rw [rebT, if_neg (by omega), if_pos rfl, rp_m, (@gi_m s w ld l r).2.2.2.2.2.2]
    · rw [rebT, if_neg (by omega), if_neg (by omega), show cnt l + 1 + q - cnt l - 1 = q by omega, rp_r, (@gi_r s w ld l r q).2.2.2.2.2.2, reb_rpl r q c]
theorem del_rpl : ∀ (t : Tr) (p : Nat), p < cnt t → ∀ {s w ld : Nat} {l r : Tr}, sbP t p = .inner s w ld l r → delT t p = rplT t p (jnT l r)
  | .leaf, p, h, _, _, _, _, _, _ => by simp [cnt] at h
  | .inner s w ld l r, p, h, s', w', ld', l', r', e => by
    rcases pl_3 h with c | c | ⟨q, c, rfl⟩
    · rw [(@gi_l s w ld l r p c).2.2.2.2.2.2] at e
      rw [delT, if_pos c, rp_l c, del_rpl l p c e]
    · subst c
      rw [(@gi_m s w ld l r).2.2.2.2.2.2] at e
      rw [delT, if_neg (by omega), if_pos rfl, rp_m]
      cases e; rfl
    · rw [(@gi_r s w ld l r q).2.2.2.2.2.2] at e
      rw [delT, if_neg (by omega), if_neg (by omega), show cnt l + 1 + q - cnt l - 1 = q by omega, rp_r, del_rpl r q c e]
theorem pop_del : ∀ (t : Tr), 0 < cnt t → popM t = delT t 0
  | .leaf, h => by simp [cnt] at h
  | .inner s w ld l r, h => by
    rw [popM, delT]
    by_cases c : cnt l = 0
    · rw [if_pos c, if_neg (by omega), if_pos c.symm, jnT, if_pos c]
    · rw [if_neg c, if_pos (by omega), pop_del l (by omega)]
/-- the next sheaf taken out first -/
theorem rpl_next : ∀ (t : Tr) (p : Nat), p < cnt t → ∀ {s w ld : Nat} {l r : Tr}, sbP t p = .inner s w ld l r → 0 < cnt r → (∀ u, rplT (delT t (p + 1)) p u = rplT t p u) ∧ sbP (delT t (p + 1)) p = .inner s w ld l (popM r) ∧ paP (delT t (p + 1)) p = (if paP t p ≤ p then paP t p else paP t p - 1)
  | .leaf, p, h, _, _, _, _, _, _, _ => by simp [cnt] at h
  | .inner s w ld l r, p, h, s', w', ld', l', r', e, hr => by
    rcases pl_3 h with c | c | ⟨q, c, rfl⟩
    · rw [(@gi_l s w ld l r p c).2.2.2.2.2.2] at e
      obtain ⟨a, b, e1, e2, e3⟩ := sb_is l p c
      rw [e] at e1
      have fl := fo_le l p c
      have hb : r' = b := by cases e1; rfl
      subst hb
      have dp := del_pos l (p + 1) (by omega)
      have ih := rpl_next l p c e hr
      have pr := pa_rng l p c
      have pr2 := pa_rng (delT l (p + 1)) p (by omega)
      rw [delT, if_pos (by omega)]
      refine ⟨fun u => by rw [rp_l (by omega), rp_l c, ih.1], by rw [(@gi_l s w ld (delT l (p + 1)) r p (by omega)).2.2.2.2.2.2]; exact ih.2.1, ?_⟩
      rw [pa_l (by omega), pa_l c, ih.2.2]
      by_cases d : paP l p = -1
      · rw [if_pos d, d]
        simp (disch := omega) only [if_pos, if_neg, if_true]
        omega
      · rw [if_neg d]
        by_cases d2 : paP l p ≤ p
        · simp (disch := omega) only [if_pos, if_neg]
        · simp (disch := omega) only [if_pos, if_neg]
    · subst c
      rw [(@gi_m s w ld l r).2.2.2.2.2.2] at e
      have hb : l' = l ∧ r' = r ∧ s' = s ∧ w' = w ∧ ld' = ld := by cases e; exact ⟨rfl, rfl, rfl, rfl, rfl⟩
      obtain ⟨rfl, rfl, rfl, rfl, rfl⟩ := hb
      rw [delT, if_neg (by omega), if_neg (by omega), show cnt l' + 1 - cnt l' - 1 = 0 by omega, ← pop_del r' hr]
      refine ⟨fun u => by rw [rp_m, rp_m], (@gi_m s' w' ld' l' (popM r')).2.2.2.2.2.2, ?_⟩
      rw [pa_m, pa_m, if_pos (by omega)]
    · rw [(@gi_r s w ld l r q).2.2.2.2.2.2] at e
      obtain ⟨a, b, e1, e2, e3⟩ := sb_is r q c
      rw [e] at e1
      have fl := fo_le r q c
      have hb : r' = b := by cases e1; rfl
      subst hb
      have dp := del_pos r (q + 1) (by omega)
      have ih := rpl_next r q c e hr
      have pr := pa_rng r q c
      rw [delT, if_neg (by omega), if_neg (by omega), show cnt l + 1 + q + 1 - cnt l - 1 = q + 1 by omega]
      refine ⟨fun u => by rw [rp_r, rp_r, ih.1], by rw [(@gi_r s w ld l (delT r (q + 1)) q).2.2.2.2.2.2]; exact ih.2.1, ?_⟩
      rw [pa_r, pa_r, ih.2.2]
      by_cases d : paP r q = -1
      · rw [if_pos d, d]
        simp (disch := omega) only [if_pos, if_neg, if_true]
      · rw [if_neg d]
        by_cases d2 : paP r q ≤ q
        · simp (disch := omega) only [if_pos, if_neg]
        · simp (disch := omega) only [if_pos, if_neg]
          omega
