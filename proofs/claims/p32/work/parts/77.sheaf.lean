/-! ===== the law's check of one sheaf ===== -/
section SHF
variable {I : Mm} {i m : Nat} {t : Tr} {lim : Int}
theorem q_a8 (Q : RQ I i t m lim) : fX4_account 8 I = some (iI lim, I) := by
  unfold fX4_account
  rw [Q.2.2.2.2.2.1]
  rfl
theorem rk_self (G : GT t) {p : Nat} (hp : p < cnt t) : rkQ (gw t p) t = p ∧ rkQ ((gw t p : Int) + 1) t = p + 1 := by
  have a := fd_at G hp
  obtain ⟨p', hp', b, c, d⟩ := fd_yes (t := t) (x := (gw t p : Int)) (by rw [a]; omega)
  have e : p' = p := by rw [a] at b; omega
  subst e
  refine ⟨d.symm, ?_⟩
  have r1 := (@rk_iff t ((gw t p' : Int) + 1) G p' hp).mp (by omega)
  have r2 := rk_le ((gw t p' : Int) + 1) t
  by_cases q : p' + 1 < rkQ ((gw t p' : Int) + 1) t
  · have r3 := (@rk_iff t ((gw t p' : Int) + 1) G (p' + 1) (by omega)).mpr q
    have := G.2.2.1 p' (p' + 1) (by omega) (by omega)
    omega
  · omega
/-- what lies just below a sheaf -/
def ChQ (I : Mm) (i : Nat) (t : Tr) (p : Nat) (c : Tr) : Prop := (tpW c = -15 ∧ cnt c = 0 ∧ ldS c = 0) ∨ (0 ≤ tpW c ∧ tpW c < 1000 ∧ fX4_sheafOf (iI i) (iI (tpW c)) 2 I = some (iI (cnt c), I) ∧ fX4_sheafOf (iI i) (iI (tpW c)) 3 I = some (iI (ldS c), I) ∧ fX4_sheafOf (iI i) (iI (tpW c)) 5 I = some (iI (gw t p), I))
theorem ch_at (Q : RQ I i t m lim) {p q : Nat} (hp : p < cnt t) (hq : q < cnt t) {c : Tr} (h1 : tpW c = gw t q) (h2 : sbP t q = c) (h3 : paP t q = p) : ChQ I i t p c := by
  have gq := Q.2.1.2.1 q hq
  right
  rw [h1]
  refine ⟨by omega, by omega, by rw [q_s2 Q hq, h2], by rw [q_s3 Q hq, h2], ?_⟩
  rw [q_s5 Q hq, h3, WZ, if_pos (by omega)]; rfl
theorem ch_l (Q : RQ I i t m lim) {p : Nat} (hp : p < cnt t) {k w ld : Nat} {l r : Tr} (e : sbP t p = .inner k w ld l r) (hf : foP t p + cnt l = p) : ChQ I i t p l ∧ (tpW l = -15 ∨ tpW l < gw t p) := by
  have B := bl_p t t 0 0 p (bl_0 t) hp
  rw [Nat.zero_add, Nat.zero_add, e] at B
  cases l with
  | leaf => exact ⟨Or.inl ⟨rfl, rfl, rfl⟩, Or.inl rfl⟩
  | inner k' w' ld' l' r' =>
    have bm := bl_m (bl_l B)
    have rt := @rtp_lt (.inner k' w' ld' l' r') (by rw [cnt_i]; omega)
    have pa := (B.2 (rtp (.inner k' w' ld' l' r')) (by rw [cnt_i]; omega)).2.2.2.2.2.2.2
    rw [pa_l rt.1, if_pos rt.2.1] at pa
    rw [show rtp (.inner k' w' ld' l' r') = cnt l' from rfl] at pa
    rw [cnt_i] at hf
    refine ⟨ch_at Q hp (q := foP t p + cnt l') (by omega) (by rw [bm.2.1]; rfl) bm.2.2.2.2.2.2.2.1 (by rw [pa (by omega), cnt_i]; omega), Or.inr ?_⟩
    have := Q.2.1.2.2.1 (foP t p + cnt l') p (by omega) hp
    rw [bm.2.1] at this
    show (w' : Int) < gw t p
    omega
theorem ch_r (Q : RQ I i t m lim) {p : Nat} (hp : p < cnt t) {k w ld : Nat} {l r : Tr} (e : sbP t p = .inner k w ld l r) (hf : foP t p + cnt l = p) : ChQ I i t p r ∧ (tpW r = -15 ∨ (gw t p : Int) < tpW r) := by
  have B := bl_p t t 0 0 p (bl_0 t) hp
  rw [Nat.zero_add, Nat.zero_add, e] at B
  cases r with
  | leaf => exact ⟨Or.inl ⟨rfl, rfl, rfl⟩, Or.inl rfl⟩
  | inner k' w' ld' l' r' =>
    have bm := bl_m (bl_r B)
    have rt := @rtp_lt (.inner k' w' ld' l' r') (by rw [cnt_i]; omega)
    have pa := (B.2 (cnt l + 1 + rtp (.inner k' w' ld' l' r')) (by rw [cnt_i, cnt_i]; rw [cnt_i] at rt; omega)).2.2.2.2.2.2.2
    rw [pa_r, if_pos rt.2.1] at pa
    rw [show rtp (.inner k' w' ld' l' r') = cnt l' from rfl] at pa
    have bm1 := bm.1
    refine ⟨ch_at Q hp (q := foP t p + cnt l + 1 + cnt l') (by omega) (by rw [bm.2.1]; rfl) bm.2.2.2.2.2.2.2.1 (by rw [show foP t p + cnt l + 1 + cnt l' = foP t p + (cnt l + 1 + cnt l') by omega, pa (by omega)]; omega), Or.inr ?_⟩
    have := Q.2.1.2.2.1 p (foP t p + cnt l + 1 + cnt l') (by omega) (by omega)
    rw [bm.2.1] at this
    show (gw t p : Int) < w'
    omega
theorem gd_root : ∀ {t : Tr} {p : Nat}, p < cnt t → gd t p = 0 → (gw t p : Int) = tpW t
  | .leaf, p, h, _ => by simp [cnt] at h
  | .inner k w ld l r, p, h, e => by
    rcases pl_3 h with c | c | ⟨q, c, rfl⟩
    · rw [(@gi_l k w ld l r p c).2.2.2.1] at e; omega
    · subst c; rw [(@gi_m k w ld l r).1]; rfl
    · rw [(@gi_r k w ld l r q).2.2.2.1] at e; omega
theorem ck_335 (Q : RQ I i t m lim) {p : Nat} (hp : p < cnt t) : fL_isSheaf_p335 (iI i) (iI p) (iI (gw t p)) 1 I = some (1, I) := by
  have G := Q.2.1
  have g := G.1
  have gp := G.2.1 p hp
  obtain ⟨k1, k2⟩ := rk_self G hp
  have r1 := q_rank Q (w := gw t p) (by omega) (by omega)
  have r2 := q_rankA Q (w := gw t p) (by omega) (by omega)
  have r3 := q_rank Q (w := (gw t p : Int) + 1) (by omega) (by omega)
  rw [k1] at r1 r2
  rw [k2] at r3
  rw [fL_isSheaf_p335, if_neg (by decide), r1, bd_s, if_pos rfl, r2, bd_s, if_pos rfl, l_1, iI_add, r3, bd_s, if_pos (by rw [iI_add]; rfl)]
  by_cases c : p = 0
  · subst c
    rw [if_pos (by rfl)]
  · have o := G.2.2.1 (p - 1) p (by omega) hp
    have gq := G.2.1 (p - 1) (by omega)
    rw [if_neg (by rw [l_0, iI_eq (by omega) (by omega) (by omega) (by omega)]; omega), iI_sub, show (p : Int) - 1 = ((p - 1 : Nat) : Int) by omega, q_atp Q (by omega), bd_s, if_neg (by rw [iI_le (by omega) (by omega) (by omega) (by omega)]; omega)]
theorem ck_273 (Q : RQ I i t m lim) {p : Nat} (hp : p < cnt t) : fL_isSheaf_p273 (iI i) (iI p) (iI (gw t p)) (iI (WZ t (paP t p))) 1 I = some (1, I) := by
  have G := Q.2.1
  have g := G.1
  have gp := G.2.1 p hp
  have pr := pa_rng t p hp
  have gd0 := gd_lt t p hp
  rw [fL_isSheaf_p273, if_neg (by decide)]
  by_cases c : paP t p = -1
  · have d0 : gd t p = 0 := by
      rcases pa_is t p hp with ⟨_, _, _, a⟩ | ⟨a, b, _⟩ | ⟨a, _⟩
      · exact a
      · omega
      · omega
    rw [c, if_pos (by rw [WZ, if_neg (by omega)]; rfl), q_s1 Q hp, bd_s, d0, if_pos (by rfl), q_r2 Q, bd_s, gd_root hp d0, if_pos rfl, ← gd_root hp d0]
    rw [fL_isSheaf_p330]; exact ck_335 Q hp
  · obtain ⟨a, ha⟩ : ∃ a : Nat, paP t p = a := ⟨(paP t p).toNat, by omega⟩
    have ga := G.2.1 a (by omega)
    have d := pa_d hp c
    have wz : WZ t (paP t p) = gw t a := by rw [ha, WZ, if_pos (by omega), tn_n]
    rw [ha, tn_n] at d
    rw [wz, if_neg (by rw [l_m15, iI_eq (by omega) (by omega) (by omega) (by omega)]; omega), q_s1 Q hp, bd_s, q_s1 Q (p := a) (by omega), bd_s, if_pos (by rw [l_1, iI_add]; congr 1; omega)]
    rw [fL_isSheaf_p330]; exact ck_335 Q hp
theorem ck_sheaf (Q : RQ I i t m lim) {p : Nat} (hp : p < cnt t) : fL_isSheaf (iI i) (iI p) I = some (1, I) := by
  have G := Q.2.1
  have g := G.1
  have gp := G.2.1 p hp
  obtain ⟨l, r, e, f1, f2⟩ := sb_is t p hp
  have own : cnt (sbP t p) = cnt l + 1 + cnt r := by rw [e, cnt_i]
  have lo' := fo_le t p hp
  have lds : ldS (sbP t p) = gl t p + ldS l + ldS r := by rw [e]; rfl
  obtain ⟨CL, WL⟩ := ch_l Q hp e f1
  obtain ⟨CR, WR⟩ := ch_r Q hp e f1
  obtain ⟨hl2, hl3⟩ := Q.2.2.2.2.1
  -- the leaning
  have lean : fL_isSheaf_p230 (iI i) (iI p) (iI (gw t p)) (iI (WZ t (paP t p))) (iI (cnt (sbP t p))) (iI (100 * (max (cnt l) (cnt r) : Nat))) I = some (1, I) := by
    have mm : lim * ((cnt l + 1 + cnt r : Nat) : Int) ≤ 90 * ((cnt l + 1 + cnt r : Nat) : Int) := Int.mul_le_mul_of_nonneg_right hl3 (by omega)
    have m0 : 0 ≤ lim * ((cnt l + 1 + cnt r : Nat) : Int) := Int.mul_nonneg (by omega) (by omega)
    rw [fL_isSheaf_p230, q_s4 Q hp, bd_s]
    by_cases c : lnB lim (sbP t p) = true
    · have c2 : lim * ((cnt l + 1 + cnt r : Nat) : Int) < 100 * ((max (cnt l) (cnt r) : Nat) : Int) := by
        rw [e, lnB] at c; exact of_decide_eq_true c
      rw [if_pos c, if_pos (show iI 1 = 1 from rfl), fL_isSheaf_p246, q_a8 Q, bd_s, iI_mul, own, if_neg (by rw [iI_le (by omega) (by omega) (by omega) (by omega)]; omega), fL_isSheaf_p265, if_pos rfl]
      exact ck_273 Q hp
    · have c2 : ¬ lim * ((cnt l + 1 + cnt r : Nat) : Int) < 100 * ((max (cnt l) (cnt r) : Nat) : Int) := fun q => c (by rw [e, lnB]; exact decide_eq_true q)
      rw [if_neg c, if_neg (by decide), fL_isSheaf_p246, q_a8 Q, bd_s, iI_mul, own, if_pos (by rw [iI_le (by omega) (by omega) (by omega) (by omega)]; omega), fL_isSheaf_p265, if_pos rfl]
      exact ck_273 Q hp
  have s205 : fL_isSheaf_p205 (iI i) (iI p) (iI (gw t p)) (iI (tpW r)) (iI (WZ t (paP t p))) (iI (cnt (sbP t p))) (iI (100 * (max (cnt l) (cnt r) : Nat))) I = some (1, I) := by
    rw [fL_isSheaf_p205]
    rcases CR with ⟨c1, _⟩ | ⟨c1, c2, c3, c4, c5⟩
    · rw [c1, if_pos (by rfl)]; exact lean
    · rw [if_neg (by rw [l_m15, iI_eq (by omega) (by omega) (by omega) (by omega)]; omega), if_neg (by rw [iI_le (by omega) (by omega) (by omega) (by omega)]; omega), c5, bd_s, if_pos rfl]; exact lean
  have s173 : fL_isSheaf_p173 (iI i) (iI p) (iI (gw t p)) (iI (tpW l)) (iI (tpW r)) (iI (WZ t (paP t p))) (iI (cnt (sbP t p))) (iI (100 * (max (cnt l) (cnt r) : Nat))) 1 I = some (1, I) := by
    rw [fL_isSheaf_p173, if_neg (by decide)]
    rcases CL with ⟨c1, _⟩ | ⟨c1, c2, c3, c4, c5⟩
    · rw [c1, if_pos (by rfl)]; exact s205
    · rw [if_neg (by rw [l_m15, iI_eq (by omega) (by omega) (by omega) (by omega)]; omega), if_neg (by rw [iI_le (by omega) (by omega) (by omega) (by omega)]; omega), c5, bd_s, if_pos rfl]; exact s205
  have s144 : fL_isSheaf_p144 (iI i) (iI p) (iI (gw t p)) (iI (tpW l)) (iI (tpW r)) (iI (WZ t (paP t p))) (iI (cnt (sbP t p))) (iI (100 * (max (cnt l) (cnt r) : Nat))) (iI (ldS (sbP t p))) (iI (gl t p)) (iI (ldS l)) I = some (1, I) := by
    rw [fL_isSheaf_p144]
    rcases CR with ⟨c1, c2, c3⟩ | ⟨c1, c2, c3, c4, c5⟩
    · rw [if_pos (by rw [c1]; rfl), fL_isSheaf_p164, if_pos (by rw [lds, c3, l_0, iI_add, iI_add])]; exact s173
    · rw [if_neg (by rw [l_m15, iI_eq (by omega) (by omega) (by omega) (by omega)]; omega), c4, bd_s, fL_isSheaf_p164, if_pos (by rw [lds, iI_add, iI_add])]; exact s173
  have s76 : fL_isSheaf_p76 (iI i) (iI p) (iI (gw t p)) (iI (tpW l)) (iI (tpW r)) (iI (WZ t (paP t p))) (iI (cnt l)) (iI (cnt r)) I = some (1, I) := by
    rw [fL_isSheaf_p76, q_s2 Q hp, bd_s, iI_max (by omega) (by omega) (by omega) (by omega), l_100, iI_mul, ltm_s, show (100 : Int) * max (cnt l : Int) (cnt r : Int) = 100 * (max (cnt l) (cnt r) : Nat) by omega, if_pos (by rw [l_1, iI_add, iI_add, own]; congr 1; omega), q_s3 Q hp, bd_s, q_s0 Q hp, bd_s]
    rcases CL with ⟨c1, c2, c3⟩ | ⟨c1, c2, c3, c4, c5⟩
    · rw [if_pos (by rw [c1]; rfl)]
      rw [c3] at s144
      exact s144
    · rw [if_neg (by rw [l_m15, iI_eq (by omega) (by omega) (by omega) (by omega)]; omega), c4, bd_s]; exact s144
  have s55 : fL_isSheaf_p55 (iI i) (iI p) (iI (gw t p)) (iI (tpW l)) (iI (tpW r)) (iI (WZ t (paP t p))) (iI (cnt l)) I = some (1, I) := by
    rw [fL_isSheaf_p55]
    rcases CR with ⟨c1, c2, c3⟩ | ⟨c1, c2, c3, c4, c5⟩
    · rw [if_pos (by rw [c1]; rfl)]
      rw [c2] at s76
      exact s76
    · rw [if_neg (by rw [l_m15, iI_eq (by omega) (by omega) (by omega) (by omega)]; omega), c3, bd_s]; exact s76
  rw [fL_isSheaf, q_atp Q hp, bd_s, q_s6 Q hp e, bd_s, q_s7 Q hp e, bd_s, q_s5 Q hp, bd_s]
  rcases CL with ⟨c1, c2, c3⟩ | ⟨c1, c2, c3, c4, c5⟩
  · rw [if_pos (by rw [c1]; rfl)]
    rw [c2] at s55
    exact s55
  · rw [if_neg (by rw [l_m15, iI_eq (by omega) (by omega) (by omega) (by omega)]; omega), c3, bd_s]; exact s55
end SHF
