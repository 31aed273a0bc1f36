/-! ===== the law's checks of a rick, of carts, of the heaviest, of the whole ===== -/
section CHK
variable {I : Mm} {i m : Nat} {t : Tr} {lim : Int} {T : Nat → Tr} {mo : Nat → Nat} {ct : Nat → Int32}
theorem rq_fr {J : Mm} (Q : RQ I i t m lim) (f : ∀ a j, a ≠ 32 → a ≠ 33 → J a j = I a j) : RQ J i t m lim := by
  have hi := Q.1
  exact ⟨hi, Q.2.1, rt_of Q.2.2.1 (fun a j x y => f a j (by omega) (by omega)), by rw [f _ _ (by omega) (by omega)]; exact Q.2.2.2.1, Q.2.2.2.2.1, by rw [f _ _ (by omega) (by omega)]; exact Q.2.2.2.2.2.1, Q.2.2.2.2.2.2⟩
/-- the sums up to a place -/
def lnF (lim : Int) (t : Tr) : Nat → Int := fun p => if lnB lim (sbP t p) = true then 1 else 0
def lwF (t : Tr) : Nat → Int := fun p => if cnt (sbP t p) = 1 then 1 else 0
def gdF (t : Tr) : Nat → Int := fun p => (gd t p : Int)
theorem ck_tail (Q : RQ I i t m lim) {p : Nat} (hp : p < cnt t) (n : Nat) (v4 : Int32) : (bd (fX4_sheafOf (iI i) (iI (gw t p)) 1 I) fun r6 I6 => ltm (mxI (iI (mxF (gdF t) p)) r6) fun v5 => bd (fL_isSheaf (iI i) (iI p) I6) fun r7 I7 => (if r7 = 0 then ltm (iI p + 1) fun v6 => fL_isRick_p85 n (iI i) (iI (cnt t)) (iI (sL t (p + 1))) (iI (sm (gdF t) (p + 1))) (iI (sm (lnF lim t) (p + 1))) v4 v5 0 v6 I7 else bd (fX4_between (iI i) (iI (gw t p)) 999 I7) fun r8 I8 => bd (fX4_betweenAgain (iI i) (iI (gw t p)) 999 I8) fun r9 I9 => (if r8 = r9 then bd (fX4_between (iI i) 0 (iI (gw t p)) I9) fun r10 I10 => (if r10 = iI (sL t (p + 1)) then bd (fX4_weights (iI i) (mnI 936 (iI (gw t p))) I10) fun r11 I11 => (if (lg_cmp ((r11 >>> (((iI (gw t p)) - (mnI 936 (iI (gw t p)))).toInt64 &&& 63)) &&& 1) 1) = 0 then ltm (iI p + 1) fun v6 => fL_isRick_p85 n (iI i) (iI (cnt t)) (iI (sL t (p + 1))) (iI (sm (gdF t) (p + 1))) (iI (sm (lnF lim t) (p + 1))) v4 v5 1 v6 I11 else ltm (iI p + 1) fun v6 => fL_isRick_p85 n (iI i) (iI (cnt t)) (iI (sL t (p + 1))) (iI (sm (gdF t) (p + 1))) (iI (sm (lnF lim t) (p + 1))) v4 v5 0 v6 I11) else ltm (iI p + 1) fun v6 => fL_isRick_p85 n (iI i) (iI (cnt t)) (iI (sL t (p + 1))) (iI (sm (gdF t) (p + 1))) (iI (sm (lnF lim t) (p + 1))) v4 v5 0 v6 I10) else ltm (iI p + 1) fun v6 => fL_isRick_p85 n (iI i) (iI (cnt t)) (iI (sL t (p + 1))) (iI (sm (gdF t) (p + 1))) (iI (sm (lnF lim t) (p + 1))) v4 v5 0 v6 I9))) = fL_isRick_p85 n (iI i) (iI (cnt t)) (iI (sL t (p + 1))) (iI (sm (gdF t) (p + 1))) (iI (sm (lnF lim t) (p + 1))) v4 (iI (mxF (gdF t) (p + 1))) 1 (iI ((p + 1 : Nat) : Int)) I := by
  have G := Q.2.1
  have g := G.1
  have gp := G.2.1 p hp
  have gd0 := gd_lt t p hp
  have mr := mxF_rng (f := gdF t) (b := 30) p (by omega) (fun q hq => by have := gd_lt t q (by omega); unfold gdF; omega)
  have e1 : iI (p : Int) + 1 = iI ((p + 1 : Nat) : Int) := by rw [l_1, iI_add]; rfl
  have e2 : mxI (iI (mxF (gdF t) p)) (iI (gd t p : Int)) = iI (mxF (gdF t) (p + 1)) := by rw [iI_max (by omega) (by omega) (by omega) (by omega)]; rfl
  have b1 : fX4_between (iI i) (iI (gw t p)) 999 I = some (iI (btZ t (gw t p) 999), I) := q_bt Q (v := 999) (by omega) (by omega) (by omega) (by omega)
  have b2 : fX4_betweenAgain (iI i) (iI (gw t p)) 999 I = some (iI (btZ t (gw t p) 999), I) := q_btA Q (v := 999) (by omega) (by omega) (by omega) (by omega)
  have b3 : fX4_between (iI i) 0 (iI (gw t p)) I = some (iI (sL t (p + 1)), I) := by
    have := q_bt Q (w := 0) (v := gw t p) (by omega) (by omega) (by omega) (by omega)
    rw [bt_is G, if_pos (by omega), (rk_self G hp).2] at this
    have z : rkQ 0 t = 0 := by
      by_cases q : rkQ 0 t = 0
      · exact q
      · have := rk_lt 0 t 0 G (by omega); omega
    rw [z, show sL t 0 = 0 from rfl, Int.sub_zero] at this
    exact this
  have mw : mnI 936 (iI (gw t p)) = iI (min 936 (gw t p : Int)) := by rw [l_936, iI_min (by omega) (by omega) (by omega) (by omega)]
  have b4 := q_weights Q (f := min 936 (gw t p : Int)) (by omega) (by omega)
  have wb := w_bit G hp (f := min 936 (gw t p : Int)) (by omega) (by omega)
  rw [q_s1 Q hp, bd_s, e2, ltm_s, ck_sheaf Q hp, bd_s, if_neg (by decide), b1, bd_s, b2, bd_s, if_pos rfl, b3, bd_s, if_pos rfl, mw, b4, bd_s, iI_sub, wb, if_pos (lg_self 1), e1, ltm_s]
theorem ck_p85 (Q : RQ I i t m lim) : ∀ (k p n : Nat), p + k = cnt t → k < n → fL_isRick_p85 n (iI i) (iI (cnt t)) (iI (sL t p)) (iI (sm (gdF t) p)) (iI (sm (lnF lim t) p)) (iI (sm (lwF t) p)) (iI (mxF (gdF t) p)) 1 (iI p) I = fL_isRick_p269 (iI i) (iI (cnt t)) (iI (sL t (cnt t))) (iI (sm (gdF t) (cnt t))) (iI (sm (lnF lim t) (cnt t))) (iI (sm (lwF t) (cnt t))) (iI (mxF (gdF t) (cnt t))) 1 I
  | 0, p, n, hp, hn => by
    have g := Q.2.1.1
    obtain ⟨n, rfl⟩ : ∃ y, n = y + 1 := ⟨n - 1, by omega⟩
    obtain rfl : p = cnt t := by omega
    rw [fL_isRick_p85, if_neg (by decide), if_pos (by rw [iI_le (by omega) (by omega) (by omega) (by omega)]; omega)]
  | k + 1, p, n, hp, hn => by
    have G := Q.2.1
    have g := G.1
    have hpt : p < cnt t := by omega
    have gp := G.2.1 p hpt
    obtain ⟨n, rfl⟩ : ∃ y, n = y + 1 := ⟨n - 1, by omega⟩
    have ih := ck_p85 Q k (p + 1) n (by omega) (by omega)
    have o1 : iI (sL t p) + iI (gl t p) = iI (sL t (p + 1)) := by rw [iI_add]; rfl
    have o2 : iI (sm (gdF t) p) + iI (gd t p) = iI (sm (gdF t) (p + 1)) := by rw [iI_add]; rfl
    have o3 : iI (sm (lnF lim t) p) + iI (if lnB lim (sbP t p) = true then 1 else 0) = iI (sm (lnF lim t) (p + 1)) := by rw [iI_add]; rfl
    obtain ⟨l, r, e, f1, f2⟩ := sb_is t p hpt
    have lo' := fo_le t p hpt
    have own : cnt (sbP t p) = cnt l + 1 + cnt r := by rw [e, cnt_i]
    rw [fL_isRick_p85, if_neg (by decide), if_neg (by rw [iI_le (by omega) (by omega) (by omega) (by omega)]; omega), q_atp Q hpt, bd_s, q_s0 Q hpt, bd_s, o1, ltm_s, q_s1 Q hpt, bd_s, o2, ltm_s, q_s4 Q hpt, bd_s, o3, ltm_s, q_s2 Q hpt, bd_s]
    by_cases c : cnt (sbP t p) = 1
    · rw [if_pos (by rw [c]; rfl)]
      rw [show iI (sm (lwF t) p) + 1 = iI (sm (lwF t) (p + 1)) by rw [l_1, iI_add, sm, lwF, if_pos c], ltm_s, ck_tail Q hpt]
      exact ih
    · rw [if_neg (by rw [l_1, iI_eq (by omega) (by omega) (by omega) (by omega)]; omega)]
      rw [show iI (sm (lwF t) p) + 0 = iI (sm (lwF t) (p + 1)) by rw [l_0, iI_add, sm, lwF, if_neg c], ltm_s, ck_tail Q hpt]
      exact ih
theorem ck_269 (Q : RQ I i t m lim) : fL_isRick_p269 (iI i) (iI (cnt t)) (iI (sL t (cnt t))) (iI (sm (gdF t) (cnt t))) (iI (sm (lnF lim t) (cnt t))) (iI (sm (lwF t) (cnt t))) (iI (mxF (gdF t) (cnt t))) 1 I = some (1, I) := by
  have G := Q.2.1
  have g := G.1
  have r1 := q_r1 Q
  rw [ld_is] at r1
  have r7 : fX4_rickOf (iI i) 7 I = some (iI (sm (gdF t) (cnt t)), I) := q_r7 Q
  have r6 : fX4_rickOf (iI i) 6 I = some (iI (sm (lnF lim t) (cnt t)), I) := q_r6 Q
  have r8 : fX4_rickOf (iI i) 8 I = some (iI (sm (lwF t) (cnt t)), I) := q_r8 Q
  have r3 : fX4_rickOf (iI i) 3 I = some (iI (mxF (gdF t) (cnt t)), I) := q_r3 Q
  rw [fL_isRick_p269]
  by_cases c : cnt t = 0
  · obtain ⟨s1, s2⟩ := q_share0 Q c
    rw [if_pos (by rw [c]; rfl), fL_isRick_p278, if_neg (by decide), r1, bd_s, if_pos rfl, r7, bd_s, if_pos rfl, r6, bd_s, if_pos rfl, r8, bd_s, if_pos rfl, r3, bd_s, if_pos rfl, s1, bd_s, if_neg (by decide), fL_isRick_p366, if_pos rfl, s2, bd_s, if_neg (by decide), if_pos (lg_self _)]
  · have rg := sm_le1 (f := lnF lim t) (cnt t) (fun p _ => by unfold lnF; split <;> omega)
    obtain ⟨a, ha⟩ : ∃ a : Nat, sm (lnF lim t) (cnt t) = a := ⟨_, (Int.toNat_of_nonneg rg.1).symm⟩
    obtain ⟨s1, s2⟩ := q_share Q (by omega) ha
    have rd := d_sum t
    obtain ⟨b, hb⟩ : ∃ b : Nat, sm (gdF t) (cnt t) = b := ⟨_, (Int.toNat_of_nonneg rd.1).symm⟩
    obtain ⟨v, m1, m2, m3⟩ := q_mean Q (by omega) hb
    rw [ha] at r6
    rw [hb] at r7
    rw [ha, hb, if_neg (by rw [l_0, iI_eq (by omega) (by omega) (by omega) (by omega)]; omega), fL_isRick_p278, if_neg (by decide), r1, bd_s, if_pos rfl, r7, bd_s, if_pos rfl, r6, bd_s, if_pos rfl, r8, bd_s, if_pos rfl, r3, bd_s, if_pos rfl, s1, bd_s, if_pos rfl, if_pos s2, ltm_s, fL_isRick_p366, if_pos rfl, m1, bd_s, if_pos rfl, if_pos m3, ltm_s, m2, bd_s, if_pos (lg_self v)]
theorem ck_rick (Q : RQ I i t m lim) : ∃ J, fL_isRick (iI i) I = some (1, J) ∧ ∀ a j, a ≠ 32 → a ≠ 33 → J a j = I a j := by
  have G := Q.2.1
  have g := G.1
  obtain ⟨n, J, e, hn, f⟩ := q_tell Q
  have QJ := rq_fr Q f
  have a1 := q_at Q (z := cnt t) (by omega) (by omega)
  rw [if_neg (by omega)] at a1
  have a2 : fX4_at (iI i) (-1) I = some (iI (-11), I) := by
    have := q_at Q (z := -1) (by omega) (by omega)
    rw [if_neg (by omega)] at this
    exact this
  have lp := ck_p85 QJ (cnt t) 0 1000 (by omega) (by omega)
  refine ⟨J, ?_, f⟩
  rw [fL_isRick, q_r0 Q, bd_s, a1, bd_s, if_pos (show iI (-11) = -11 from rfl), a2, bd_s, if_pos (show iI (-11) = -11 from rfl), q_r5 Q, bd_s, if_neg (by have := Q.2.2.2.2.2.2; rw [iI_lt (by omega) (by omega) (by omega) (by omega)]; omega), q_shape Q, bd_s, if_pos (bc_shape g), e, bd_s, if_neg (by rw [l_60, iI_lt (by omega) (by omega) (by omega) (by omega)]; omega), fL_isRick_p80]
  exact lp.trans (ck_269 QJ)
/-! carts -/
theorem ct_p53 (Q : RQ I i t m lim) {b : Int} (hb : 99 ≤ b ∧ b ≤ 999) (c0 : Int) (hc0 : c0 = if cnt t = 0 then 0 else (crT t b (cnt t)).1 + 1) : ∀ (k p n : Nat), p + k = cnt t → k < n → fL_areCarts_p53 n (iI i) (iI b) (iI c0) (iI (crT t b p).1) (iI (crT t b p).2) 1 (iI p) I = some (1, I)
  | 0, p, n, hp, hn => by
    have g := Q.2.1.1
    obtain ⟨n, rfl⟩ : ∃ y, n = y + 1 := ⟨n - 1, by omega⟩
    obtain rfl : p = cnt t := by omega
    rw [fL_areCarts_p53, if_neg (by decide), q_r0 Q, bd_s, if_pos (Int32.le_refl _), if_neg (by decide)]
    by_cases c : cnt t = 0
    · rw [hc0, if_pos c, if_pos (by rfl)]
    · have r := cr_rng Q.2.1 hb (cnt t) (Nat.le_refl _)
      rw [hc0, if_neg c, if_neg (by rw [l_0, iI_eq (by omega) (by omega) (by omega) (by omega)]; omega), if_pos (by rw [l_1, iI_add])]
  | k + 1, p, n, hp, hn => by
    have G := Q.2.1
    have g := G.1
    have hpt : p < cnt t := by omega
    have gp := G.2.1 p hpt
    have r := cr_rng G hb p (by omega)
    have r2 := cr_rng G hb (p + 1) (by omega)
    have co := q_cartOf Q hb hpt
    obtain ⟨n, rfl⟩ : ∃ y, n = y + 1 := ⟨n - 1, by omega⟩
    have ih := ct_p53 Q hb c0 hc0 k (p + 1) n (by omega) (by omega)
    have e1 : iI (p : Int) + 1 = iI ((p + 1 : Nat) : Int) := by rw [l_1, iI_add]; rfl
    have i1 : ∀ {β : Type} (A B : β), (if (1 : Int32) = 0 then A else B) = B := fun A B => if_neg (by decide)
    have i0 : ∀ {β : Type} (A B : β), (if (0 : Int32) = 0 then A else B) = A := fun A B => if_pos rfl
    rw [crT] at ih co
    rw [fL_areCarts_p53, if_neg (by decide), q_r0 Q, bd_s, if_neg (by rw [iI_le (by omega) (by omega) (by omega) (by omega)]; omega), q_atp Q hpt, bd_s, q_s0 Q hpt, bd_s, iI_add]
    by_cases c : (crT t b p).2 + gl t p > b
    · rw [if_pos c] at ih co
      rw [if_neg (by rw [iI_le (by omega) (by omega) (by omega) (by omega)]; omega), i1, show iI (crT t b p).1 + 1 = iI ((crT t b p).1 + 1) by rw [l_1, iI_add], ltm_s, i1, q_atp Q hpt, bd_s, co, bd_s, if_pos rfl, e1, ltm_s]
      exact ih
    · rw [if_neg c] at ih co
      rw [if_pos (by rw [iI_le (by omega) (by omega) (by omega) (by omega)]; omega), i0, show iI (crT t b p).1 + 0 = iI (crT t b p).1 by rw [l_0, iI_add, Int.add_zero], ltm_s, i0, ltm_s, q_atp Q hpt, bd_s, co, bd_s, if_pos rfl, e1, ltm_s]
      exact ih
theorem ck_carts (Q : RQ I i t m lim) {b : Int} (hb : 99 ≤ b ∧ b ≤ 999) : fL_areCarts (iI i) (iI b) I = some (1, I) := by
  have G := Q.2.1
  have g := G.1
  have r := cr_rng G hb (cnt t) (Nat.le_refl _)
  have qc := q_carts Q hb
  generalize hc0 : (if cnt t = 0 then (0 : Int) else (crT t b (cnt t)).1 + 1) = c0 at qc
  have p0 := ct_p53 Q hb c0 hc0.symm (cnt t) 0 1000 (by omega) (by omega)
  have c0r : 0 ≤ c0 ∧ c0 ≤ 31 ∧ (c0 = 0 ↔ cnt t = 0) := by
    rw [← hc0]
    by_cases c : cnt t = 0
    · rw [if_pos c]; omega
    · rw [if_neg c]; omega
  rw [fL_areCarts, qc, bd_s, if_neg (by rw [l_0, iI_lt (by omega) (by omega) (by omega) (by omega)]; omega)]
  have q0 := q_r0 Q
  by_cases c : cnt t = 0
  · rw [if_pos (by rw [c0r.2.2.mpr c]; rfl), fL_areCarts_p26, q0, bd_s, if_pos (by rw [c]; rfl), fL_areCarts_p40, if_pos rfl, fL_areCarts_p48]
    exact p0
  · rw [if_neg (by rw [l_0, iI_eq (by omega) (by omega) (by omega) (by omega)]; omega), fL_areCarts_p26, q0, bd_s, if_neg (by rw [l_0, iI_eq (by omega) (by omega) (by omega) (by omega)]; omega), fL_areCarts_p40, if_pos rfl, fL_areCarts_p48]
    exact p0
end CHK
