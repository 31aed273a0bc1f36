/-! ===== stalls; a part put in another's place ===== -/
def St (t : Tr) (k : Nat) : Prop := ∃ p, p < cnt t ∧ gs t p = k
theorem st_0 (k : Nat) : ¬ St .leaf k := fun ⟨p, h, _⟩ => by simp [cnt] at h
theorem st_i {s w ld : Nat} {l r : Tr} {k : Nat} : St (.inner s w ld l r) k ↔ k = s ∨ St l k ∨ St r k := by
  constructor
  · rintro ⟨p, h, e⟩
    rcases pl_3 h with c | c | ⟨q, c, rfl⟩
    · rw [(@gi_l s w ld l r p c).2.2.1] at e; exact Or.inr (Or.inl ⟨p, c, e⟩)
    · rw [c, (@gi_m s w ld l r).2.2.1] at e; exact Or.inl e.symm
    · rw [(@gi_r s w ld l r q).2.2.1] at e; exact Or.inr (Or.inr ⟨q, c, e⟩)
  · rintro (h | ⟨p, h, e⟩ | ⟨p, h, e⟩)
    · exact ⟨cnt l, by rw [cnt_i]; omega, by rw [(@gi_m s w ld l r).2.2.1, h]⟩
    · exact ⟨p, by rw [cnt_i]; omega, by rw [(@gi_l s w ld l r p h).2.2.1, e]⟩
    · exact ⟨cnt l + 1 + p, by rw [cnt_i]; omega, by rw [(@gi_r s w ld l r p).2.2.1, e]⟩
theorem st_rng {t : Tr} (G : GT t) {k : Nat} (h : St t k) : k < 30 := by
  obtain ⟨p, hp, e⟩ := h
  rw [← e]; exact (G.2.1 p hp).2.2.2
theorem st_d {s w ld : Nat} {l r : Tr} (G : GT (.inner s w ld l r)) : ¬ St l s ∧ ¬ St r s ∧ ∀ k, St l k → ¬ St r k := by
  have gm := gt_m G
  refine ⟨fun ⟨p, hp, e⟩ => (gm.2.2.2.2.1 p hp).2 e, fun ⟨p, hp, e⟩ => (gm.2.2.2.2.2.1 p hp).2 e.symm, fun k ⟨p, hp, e⟩ ⟨q, hq, e2⟩ => gm.2.2.2.2.2.2 p q hp hq (e.trans e2.symm)⟩
theorem st_p : ∀ (t : Tr) (p k : Nat), p < cnt t → St (sbP t p) k → St t k
  | .leaf, p, k, h, _ => by simp [cnt] at h
  | .inner s w ld l r, p, k, h, S => by
    rcases pl_3 h with c | c | ⟨q, c, rfl⟩
    · rw [(@gi_l s w ld l r p c).2.2.2.2.2.2] at S; exact st_i.mpr (Or.inr (Or.inl (st_p l p k c S)))
    · rw [c, (@gi_m s w ld l r).2.2.2.2.2.2] at S; exact S
    · rw [(@gi_r s w ld l r q).2.2.2.2.2.2] at S; exact st_i.mpr (Or.inr (Or.inr (st_p r q k c S)))
theorem tm_st {f g : Nat → Int32} {i : Nat} {t : Tr} (M : TM f i t) (h : ∀ k c, St t k → c < 4 → g (ad i k c) = f (ad i k c)) : TM g i t := tm_of t M (fun p c hp hc => h _ c ⟨p, hp, rfl⟩ hc)
theorem ad_n {i k c k' c' : Nat} (h : c < 4) (h2 : c' < 4) (h3 : k ≠ k' ∨ c ≠ c') : ad i k c ≠ ad i k' c' := by unfold ad; omega
theorem ad_s1 {i k c k' c' : Nat} {t : Tr} (h : St t k) (h2 : ¬ St t k') (h3 : c < 4) (h4 : c' < 4) : ad i k c ≠ ad i k' c' := ad_n h3 h4 (Or.inl (fun e => h2 (e ▸ h)))
theorem ad_s2 {i k c k' c' : Nat} {t : Tr} (h : ¬ St t k) (h2 : St t k') (h3 : c < 4) (h4 : c' < 4) : ad i k c ≠ ad i k' c' := ad_n h3 h4 (Or.inl (fun e => h (e ▸ h2)))
def rplT : Tr → Nat → Tr → Tr
  | .leaf, _, u => u
  | .inner s w ld l r, p, u => if p < cnt l then .inner s w ld (rplT l p u) r else if p = cnt l then u else .inner s w ld l (rplT r (p - cnt l - 1) u)
theorem rp_l {s w ld : Nat} {l r u : Tr} {p : Nat} (h : p < cnt l) : rplT (.inner s w ld l r) p u = .inner s w ld (rplT l p u) r := by rw [rplT, if_pos h]
theorem rp_m {s w ld : Nat} {l r u : Tr} : rplT (.inner s w ld l r) (cnt l) u = u := by rw [rplT, if_neg (by omega), if_pos rfl]
theorem rp_r {s w ld : Nat} {l r u : Tr} {p : Nat} : rplT (.inner s w ld l r) (cnt l + 1 + p) u = .inner s w ld l (rplT r p u) := by
  rw [rplT, if_neg (by omega), if_neg (by omega), show cnt l + 1 + p - cnt l - 1 = p by omega]
theorem rp_root : ∀ (t : Tr) (p : Nat) (u : Tr), p < cnt t → (paP t p = -1 → rplT t p u = u ∧ (gs t p : Int) = rtT t ∧ sbP t p = t) ∧ (paP t p ≠ -1 → rtT (rplT t p u) = rtT t)
  | .leaf, p, u, h => by simp [cnt] at h
  | .inner s w ld l r, p, u, h => by
    rcases pl_3 h with c | c | ⟨q, c, rfl⟩
    · rw [pa_l c, rp_l c]
      refine ⟨fun e => ?_, fun _ => rfl⟩
      split at e
      · omega
      · next d => exact absurd e d
    · subst c
      rw [pa_m, rp_m, (@gi_m s w ld l r).2.2.1, (@gi_m s w ld l r).2.2.2.2.2.2]
      exact ⟨fun _ => ⟨rfl, rfl, rfl⟩, fun e => absurd rfl e⟩
    · rw [pa_r, rp_r]
      have pr := pa_rng r q c
      refine ⟨fun e => ?_, fun _ => rfl⟩
      split at e
      · omega
      · omega
/-- a tree but for the part of a place -/
def TMx (f : Nat → Int32) (i : Nat) : Tr → Nat → Prop
  | .leaf, _ => True
  | .inner s w ld l r, p => if p < cnt l then f (ad i s 0) = iI ((w : Int) + 1) ∧ f (ad i s 1) = iI ld ∧ f (ad i s 2) = iI (rtT l + 1) ∧ f (ad i s 3) = iI (rtT r + 1) ∧ TMx f i l p ∧ TM f i r else if p = cnt l then True else f (ad i s 0) = iI ((w : Int) + 1) ∧ f (ad i s 1) = iI ld ∧ f (ad i s 2) = iI (rtT l + 1) ∧ f (ad i s 3) = iI (rtT r + 1) ∧ TM f i l ∧ TMx f i r (p - cnt l - 1)
theorem tmx_of {f g : Nat → Int32} {i : Nat} : ∀ (t : Tr) (p : Nat), GT t → p < cnt t → TM f i t → (∀ k c, St t k → ¬ St (sbP t p) k → c < 4 → g (ad i k c) = f (ad i k c)) → TMx g i t p
  | .leaf, p, G, h, _, _ => by simp [cnt] at h
  | .inner s w ld l r, p, G, h, M, H => by
    have sd := st_d G
    rcases pl_3 h with c | c | ⟨q, c, rfl⟩
    · rw [(@gi_l s w ld l r p c).2.2.2.2.2.2] at H
      rw [TMx, if_pos c]
      have hs : ∀ c, c < 4 → g (ad i s c) = f (ad i s c) := fun x hx => H s x (st_i.mpr (Or.inl rfl)) (fun y => sd.1 (st_p l p s c y)) hx
      refine ⟨by rw [hs 0 (by omega)]; exact M.1, by rw [hs 1 (by omega)]; exact M.2.1, by rw [hs 2 (by omega)]; exact M.2.2.1, by rw [hs 3 (by omega)]; exact M.2.2.2.1, tmx_of l p (gt_l G) c M.2.2.2.2.1 (fun k x hk hk2 hx => H k x (st_i.mpr (Or.inr (Or.inl hk))) hk2 hx), tm_st M.2.2.2.2.2 (fun k x hk hx => H k x (st_i.mpr (Or.inr (Or.inr hk))) (fun y => sd.2.2 k (st_p l p k c y) hk) hx)⟩
    · rw [TMx, if_neg (by omega), if_pos c]; trivial
    · rw [(@gi_r s w ld l r q).2.2.2.2.2.2] at H
      rw [TMx, if_neg (by omega), if_neg (by omega), show cnt l + 1 + q - cnt l - 1 = q by omega]
      have hs : ∀ c, c < 4 → g (ad i s c) = f (ad i s c) := fun x hx => H s x (st_i.mpr (Or.inl rfl)) (fun y => sd.2.1 (st_p r q s c y)) hx
      refine ⟨by rw [hs 0 (by omega)]; exact M.1, by rw [hs 1 (by omega)]; exact M.2.1, by rw [hs 2 (by omega)]; exact M.2.2.1, by rw [hs 3 (by omega)]; exact M.2.2.2.1, tm_st M.2.2.2.2.1 (fun k x hk hx => H k x (st_i.mpr (Or.inr (Or.inl hk))) (fun y => sd.2.2 k hk (st_p r q k c y)) hx), tmx_of r q (gt_r G) c M.2.2.2.2.2 (fun k x hk hk2 hx => H k x (st_i.mpr (Or.inr (Or.inr hk))) hk2 hx)⟩
/-- what a link set anew makes of it -/
theorem rpl_w {f g : Nat → Int32} {i : Nat} : ∀ (t : Tr) (p : Nat) (u : Tr), GT t → p < cnt t → paP t p ≠ -1 → TMx f i t p → TM f i u → ¬ St u (gs t (paP t p).toNat) → ∃ c, (c = 2 ∨ c = 3) ∧ (c = 2 → f (ad i (gs t (paP t p).toNat) 2) = iI ((gs t p : Int) + 1)) ∧ (c = 3 → ∃ z : Int, -1 ≤ z ∧ z < 30 ∧ z ≠ gs t p ∧ f (ad i (gs t (paP t p).toNat) 2) = iI (z + 1)) ∧ ((∀ j, g j = if j = ad i (gs t (paP t p).toNat) c then iI (rtT u + 1) else f j) → TM g i (rplT t p u))
  | .leaf, p, u, G, h, _, _, _, _ => by simp [cnt] at h
  | .inner s w ld l r, p, u, G, h, H, M, U, D => by
    have sd := st_d G
    have rr := rt_rng (gt_r G)
    have rl := rt_rng (gt_l G)
    rcases pl_3 h with c | c | ⟨q, c, rfl⟩
    · rw [TMx, if_pos c] at M
      have pr := pa_rng l p c
      have hp := pa_l (s := s) (w := w) (ld := ld) (r := r) c
      have rt := rp_root l p u c
      rw [(@gi_l s w ld l r p c).2.2.1, rp_l c]
      by_cases d : paP l p = -1
      · rw [if_pos d] at hp
        rw [hp, tn_n, (@gi_m s w ld l r).2.2.1] at D ⊢
        have rt := rt.1 d
        refine ⟨2, Or.inl rfl, fun _ => by rw [M.2.2.1, rt.2.1], fun x => by omega, fun e => ?_⟩
        refine ⟨by rw [e, if_neg (ad_n (by omega) (by omega) (by omega))]; exact M.1, by rw [e, if_neg (ad_n (by omega) (by omega) (by omega))]; exact M.2.1, by rw [e, if_pos rfl, rt.1], by rw [e, if_neg (ad_n (by omega) (by omega) (by omega))]; exact M.2.2.2.1, ?_, ?_⟩
        · rw [rt.1]
          exact tm_st U (fun k x hk hx => by rw [e, if_neg (ad_s1 hk D hx (by omega))])
        · exact tm_st M.2.2.2.2.2 (fun k x hk hx => by rw [e, if_neg (ad_s1 hk sd.2.1 hx (by omega))])
      · rw [if_neg d] at hp
        have sl : St l (gs l (paP l p).toNat) := ⟨_, by omega, rfl⟩
        rw [hp, (@gi_l s w ld l r (paP l p).toNat (by omega)).2.2.1] at D ⊢
        obtain ⟨x, x1, x2, x3, x4⟩ := rpl_w (g := g) l p u (gt_l G) c d M.2.2.2.2.1 U D
        refine ⟨x, x1, x2, x3, fun e => ?_⟩
        have es : ∀ y, y < 4 → g (ad i s y) = f (ad i s y) := fun y hy => by rw [e, if_neg (ad_s2 sd.1 sl hy (by omega))]
        refine ⟨by rw [es 0 (by omega)]; exact M.1, by rw [es 1 (by omega)]; exact M.2.1, by rw [es 2 (by omega), M.2.2.1, rt.2 d], by rw [es 3 (by omega)]; exact M.2.2.2.1, x4 e, tm_st M.2.2.2.2.2 (fun k y hk hy => by rw [e, if_neg (ad_s1 hk (sd.2.2 _ sl) hy (by omega))])⟩
    · subst c; exact absurd pa_m H
    · rw [TMx, if_neg (by omega), if_neg (by omega), show cnt l + 1 + q - cnt l - 1 = q by omega] at M
      have pr := pa_rng r q c
      have hp := pa_r (s := s) (w := w) (ld := ld) (l := l) (r := r) (p := q)
      have rt := rp_root r q u c
      have sq : St r (gs r q) := ⟨q, c, rfl⟩
      rw [(@gi_r s w ld l r q).2.2.1, rp_r]
      by_cases d : paP r q = -1
      · rw [if_pos d] at hp
        rw [hp, tn_n, (@gi_m s w ld l r).2.2.1] at D ⊢
        have rt := rt.1 d
        refine ⟨3, Or.inr rfl, fun x => by omega, fun _ => ⟨rtT l, rl.1, rl.2, fun z => ?_, M.2.2.1⟩, fun e => ?_⟩
        · cases l with
          | leaf => rw [rtT] at z; omega
          | inner s2 w2 l2 a b =>
            rw [rtT] at z
            refine sd.2.2 (gs r q) (st_i.mpr (Or.inl ?_)) sq
            omega
        · refine ⟨by rw [e, if_neg (ad_n (by omega) (by omega) (by omega))]; exact M.1, by rw [e, if_neg (ad_n (by omega) (by omega) (by omega))]; exact M.2.1, by rw [e, if_neg (ad_n (by omega) (by omega) (by omega))]; exact M.2.2.1, by rw [e, if_pos rfl, rt.1], ?_, ?_⟩
          · exact tm_st M.2.2.2.2.1 (fun k x hk hx => by rw [e, if_neg (ad_s1 hk sd.1 hx (by omega))])
          · rw [rt.1]
            exact tm_st U (fun k x hk hx => by rw [e, if_neg (ad_s1 hk D hx (by omega))])
      · rw [if_neg d] at hp
        have sl : St r (gs r (paP r q).toNat) := ⟨_, by omega, rfl⟩
        rw [hp, show ((cnt l : Int) + 1 + paP r q).toNat = cnt l + 1 + (paP r q).toNat by omega, (@gi_r s w ld l r (paP r q).toNat).2.2.1] at D ⊢
        obtain ⟨x, x1, x2, x3, x4⟩ := rpl_w (g := g) r q u (gt_r G) c d M.2.2.2.2.2 U D
        refine ⟨x, x1, x2, x3, fun e => ?_⟩
        have es : ∀ y, y < 4 → g (ad i s y) = f (ad i s y) := fun y hy => by rw [e, if_neg (ad_s2 sd.2.1 sl hy (by omega))]
        refine ⟨by rw [es 0 (by omega)]; exact M.1, by rw [es 1 (by omega)]; exact M.2.1, by rw [es 2 (by omega)]; exact M.2.2.1, by rw [es 3 (by omega), M.2.2.2.1, rt.2 d], tm_st M.2.2.2.2.1 (fun k y hk hy => by rw [e, if_neg (ad_s1 hk (fun z => sd.2.2 _ z sl) hy (by omega))]), x4 e⟩
/-- building anew and taking out, as something put in the place of a part -/
theorem reb_rpl : ∀ (t : Tr) (p : Nat), p < cnt t → rebT t p = rplT t p (bwT (sbP t p))
  | .leaf, p, h => by simp [cnt] at h
  | .inner s w ld l r, p, h => by
    rcases pl_3 h with c | c | ⟨q, c, rfl⟩
    · rw [rebT, if_pos c, rp_l c, (@gi_l s w ld l r p c).2.2.2.2.2.2, reb_rpl l p c]
    · subst c
      rw [rebT, if_neg (by omega), if_pos rfl, rp_m, (@gi_m s w ld l r).2.2.2.2.2.2]
    · rw [rebT, if_neg (by omega), if_neg (by omega), show cnt l + 1 + q - cnt l - 1 = q by omega, rp_r, (@gi_r s w ld l r q).2.2.2.2.2.2, reb_rpl r q c]
theorem del_rpl : ∀ (t : Tr) (p : Nat), p < cnt t → ∀ {s w ld : Nat} {l r : Tr}, sbP t p = .inner s w ld l r → delT t p = rplT t p (jnT l r)
  | .leaf, p, h, _, _, _, _, _, _ => by simp [cnt] at h
  | .inner s w ld l r, p, h, s', w', ld', l', r', e => by
    rcases pl_3 h with c | c | ⟨q, c, rfl⟩
    · rw [(@gi_l s w ld l r p c).2.2.2.2.2.2] at e
      rw [delT, if_pos c, rp_l c, del_rpl l p c e]
    · subst c
      rw [(@gi_m s w ld l r).2.2.2.2.2.2] at e
      rw [delT, if_neg (by omega), if_pos rfl, rp_m]
      cases e; rfl
    · rw [(@gi_r s w ld l r q).2.2.2.2.2.2] at e
      rw [delT, if_neg (by omega), if_neg (by omega), show cnt l + 1 + q - cnt l - 1 = q by omega, rp_r, del_rpl r q c e]
theorem pop_del : ∀ (t : Tr), 0 < cnt t → popM t = delT t 0
  | .leaf, h => by simp [cnt] at h
  | .inner s w ld l r, h => by
    rw [popM, delT]
    by_cases c : cnt l = 0
    · rw [if_pos c, if_neg (by omega), if_pos c.symm, jnT, if_pos c]
    · rw [if_neg c, if_pos (by omega), pop_del l (by omega)]
/-- the next sheaf taken out first -/
theorem rpl_next : ∀ (t : Tr) (p : Nat), p < cnt t → ∀ {s w ld : Nat} {l r : Tr}, sbP t p = .inner s w ld l r → 0 < cnt r → (∀ u, rplT (delT t (p + 1)) p u = rplT t p u) ∧ sbP (delT t (p + 1)) p = .inner s w ld l (popM r) ∧ paP (delT t (p + 1)) p = (if paP t p ≤ p then paP t p else paP t p - 1)
  | .leaf, p, h, _, _, _, _, _, _, _ => by simp [cnt] at h
  | .inner s w ld l r, p, h, s', w', ld', l', r', e, hr => by
    rcases pl_3 h with c | c | ⟨q, c, rfl⟩
    · rw [(@gi_l s w ld l r p c).2.2.2.2.2.2] at e
      obtain ⟨a, b, e1, e2, e3⟩ := sb_is l p c
      rw [e] at e1
      have fl := fo_le l p c
      have hb : r' = b := by cases e1; rfl
      subst hb
      have dp := del_pos l (p + 1) (by omega)
      have ih := rpl_next l p c e hr
      have pr := pa_rng l p c
      have pr2 := pa_rng (delT l (p + 1)) p (by omega)
      rw [delT, if_pos (by omega)]
      refine ⟨fun u => by rw [rp_l (by omega), rp_l c, ih.1], by rw [(@gi_l s w ld (delT l (p + 1)) r p (by omega)).2.2.2.2.2.2]; exact ih.2.1, ?_⟩
      rw [pa_l (by omega), pa_l c, ih.2.2]
      by_cases d : paP l p = -1
      · rw [if_pos d, d]
        simp (disch := omega) only [if_pos, if_neg, if_true]
        omega
      · rw [if_neg d]
        by_cases d2 : paP l p ≤ p
        · simp (disch := omega) only [if_pos, if_neg]
        · simp (disch := omega) only [if_pos, if_neg]
    · subst c
      rw [(@gi_m s w ld l r).2.2.2.2.2.2] at e
      have hb : l' = l ∧ r' = r ∧ s' = s ∧ w' = w ∧ ld' = ld := by cases e; exact ⟨rfl, rfl, rfl, rfl, rfl⟩
      obtain ⟨rfl, rfl, rfl, rfl, rfl⟩ := hb
      rw [delT, if_neg (by omega), if_neg (by omega), show cnt l' + 1 - cnt l' - 1 = 0 by omega, ← pop_del r' hr]
      refine ⟨fun u => by rw [rp_m, rp_m], (@gi_m s' w' ld' l' (popM r')).2.2.2.2.2.2, ?_⟩
      rw [pa_m, pa_m, if_pos (by omega)]
    · rw [(@gi_r s w ld l r q).2.2.2.2.2.2] at e
      obtain ⟨a, b, e1, e2, e3⟩ := sb_is r q c
      rw [e] at e1
      have fl := fo_le r q c
      have hb : r' = b := by cases e1; rfl
      subst hb
      have dp := del_pos r (q + 1) (by omega)
      have ih := rpl_next r q c e hr
      have pr := pa_rng r q c
      rw [delT, if_neg (by omega), if_neg (by omega), show cnt l + 1 + q + 1 - cnt l - 1 = q + 1 by omega]
      refine ⟨fun u => by rw [rp_r, rp_r, ih.1], by rw [(@gi_r s w ld l (delT r (q + 1)) q).2.2.2.2.2.2]; exact ih.2.1, ?_⟩
      rw [pa_r, pa_r, ih.2.2]
      by_cases d : paP r q = -1
      · rw [if_pos d, d]
        simp (disch := omega) only [if_pos, if_neg, if_true]
      · rw [if_neg d]
        by_cases d2 : paP r q ≤ q
        · simp (disch := omega) only [if_pos, if_neg]
        · simp (disch := omega) only [if_pos, if_neg]
          omega
