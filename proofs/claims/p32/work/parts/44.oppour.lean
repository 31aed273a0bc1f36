/-! ===== pour ===== -/
def El (t : Tr) (w l : Nat) : Prop := ∃ p, p < cnt t ∧ gw t p = w ∧ gl t p = l
theorem el_ins {k w ld : Nat} {t : Tr} (G : GT t) (H : ∀ q, q < cnt t → gw t q ≠ w) (a b : Nat) : El (insT k w ld t) a b ↔ (a = w ∧ b = ld) ∨ El t a b := by
  have rl := rk_le (w : Int) t
  constructor
  · rintro ⟨p, hp, e1, e2⟩
    rw [in_cnt] at hp
    have ip := in_pos k w ld t p G H (by omega)
    by_cases c1 : p < rkQ w t
    · have a := ip.1 c1
      rw [a.1] at e1
      rw [a.2.1] at e2
      exact Or.inr ⟨p, by omega, e1, e2⟩
    · by_cases c2 : p = rkQ w t
      · have a := ip.2.1 c2
        rw [a.1] at e1
        rw [a.2.1] at e2
        exact Or.inl ⟨e1.symm, e2.symm⟩
      · have a := ip.2.2 (by omega)
        rw [a.1] at e1
        rw [a.2.1] at e2
        exact Or.inr ⟨p - 1, by omega, e1, e2⟩
  · rintro (⟨rfl, rfl⟩ | ⟨p, hp, e1, e2⟩)
    · have x := (in_pos k a b t (rkQ a t) G H rl).2.1 rfl
      exact ⟨rkQ a t, by rw [in_cnt]; omega, x.1, x.2.1⟩
    · by_cases c : p < rkQ w t
      · have a := (in_pos k w ld t p G H (by omega)).1 c
        exact ⟨p, by rw [in_cnt]; omega, by rw [a.1]; exact e1, by rw [a.2.1]; exact e2⟩
      · have a := (in_pos k w ld t (p + 1) G H (by omega)).2.2 (by omega)
        rw [Nat.add_sub_cancel] at a
        exact ⟨p + 1, by rw [in_cnt]; omega, by rw [a.1]; exact e1, by rw [a.2.1]; exact e2⟩
theorem gw_inj {t : Tr} (G : GT t) {p q : Nat} (hp : p < cnt t) (hq : q < cnt t) (e : gw t p = gw t q) : p = q := by
  by_cases c : p < q
  · have := G.2.2.1 p q c hq; omega
  · by_cases d : q < p
    · have := G.2.2.1 q p d hp; omega
    · omega
theorem el_same {A B : Tr} (GA : GT A) (GB : GT B) (h : ∀ w l, El A w l ↔ El B w l) : cnt A = cnt B ∧ ∀ p, p < cnt A → gw A p = gw B p ∧ gl A p = gl B p := by
  have half : ∀ (X Y : Tr), GT X → GT Y → (∀ w l, El X w l ↔ El Y w l) → ∀ n p, p < n → p < cnt X → p < cnt Y ∧ gw X p = gw Y p ∧ gl X p = gl Y p := by
    intro X Y GX GY h n
    induction n with
    | zero => intro p hp; omega
    | succ n ih =>
      intro p hp hx
      obtain ⟨q, q1, q2, q3⟩ := (h _ _).mp ⟨p, hx, rfl, rfl⟩
      have qp : ¬ q < p := fun c => by
        have := ih q (by omega) (by omega)
        exact absurd (gw_inj GX (by omega) hx (this.2.1.trans q2)) (by omega)
      have hy : p < cnt Y := by omega
      obtain ⟨q', r1, r2, r3⟩ := (h _ _).mpr ⟨p, hy, rfl, rfl⟩
      have qp' : ¬ q' < p := fun c => by
        have := ih q' (by omega) r1
        exact absurd (gw_inj GY (by omega) hy (this.2.1.symm.trans r2)) (by omega)
      have a1 : gw Y p ≤ gw Y q := by
        by_cases c : p = q
        · rw [c]; exact Nat.le_refl _
        · have := GY.2.2.1 p q (by omega) q1; omega
      have a2 : gw X p ≤ gw X q' := by
        by_cases c : p = q'
        · rw [c]; exact Nat.le_refl _
        · have := GX.2.2.1 p q' (by omega) r1; omega
      have e : gw X p = gw Y p := by omega
      have : q = p := gw_inj GY q1 hy (by omega)
      rw [this] at q3
      exact ⟨hy, e, q3.symm⟩
  have h1 := fun p hp => half A B GA GB h (p + 1) p (by omega) hp
  have h2 := fun p hp => half B A GB GA (fun w l => (h w l).symm) (p + 1) p (by omega) hp
  refine ⟨?_, fun p hp => (h1 p hp).2⟩
  by_cases c : cnt A < cnt B
  · have := h2 (cnt A) c; omega
  · by_cases d : cnt B < cnt A
    · have := h1 (cnt B) d; omega
    · omega
theorem bal_sh (fs fw fl gs' gw' gl' : Nat → Nat) : ∀ (n x y c q : Nat), gd (balT fs fw fl n x c) q = gd (balT gs' gw' gl' n y c) q ∧ cnt (balT fs fw fl n x c) = cnt (balT gs' gw' gl' n y c)
  | 0, x, y, c, q => ⟨rfl, rfl⟩
  | n + 1, x, y, c, q => by
    rw [balT, balT]
    by_cases c0 : c = 0
    · rw [if_pos c0, if_pos c0]; exact ⟨rfl, rfl⟩
    · rw [if_neg c0, if_neg c0]
      have i1 := bal_sh fs fw fl gs' gw' gl' n x y ((c - 1) / 2) q
      have i2 := fun z => bal_sh fs fw fl gs' gw' gl' n (x + (c - 1) / 2 + 1) (y + (c - 1) / 2 + 1) (c - 1 - (c - 1) / 2) z
      rw [cnt_i, cnt_i, i1.2, (i2 0).2]
      refine ⟨?_, rfl⟩
      rw [gd, gd, i1.2, i1.1, (i2 _).1]
theorem rt_bw {I : Mm} {r : Nat} {A B : Tr} (R : RT I r (bwT A)) (h : cnt A = cnt B) (h2 : ∀ p, p < cnt A → gw A p = gw B p ∧ gl A p = gl B p) : RT I r (bwT B) := by
  have a := bw_pos A
  have b := bw_pos B
  refine ⟨by rw [b.1, ← h, ← a.1]; exact R.1, fun p hp => ?_⟩
  rw [b.1] at hp
  have r := R.2 p (by rw [a.1]; omega)
  have e := h2 p (by omega)
  have d : gd (bwT A) p = gd (bwT B) p := by
    unfold bwT
    rw [h]
    exact (bal_sh _ _ _ _ _ _ _ _ _ _ _).1
  rw [(b.2 p hp).1, (b.2 p hp).2.1, ← e.1, ← e.2, ← d, ← (a.2 p (by omega)).1, ← (a.2 p (by omega)).2.1]
  exact r
theorem ex_free {t : Tr} (hc : cnt t < 30) : ∃ k, k < 30 ∧ ¬ St t k := by
  by_cases c : ∃ k, k < 30 ∧ ¬ St t k
  · exact c
  · have := php 30 (cnt t) (gs t) (fun k hk => by
      by_cases d : St t k
      · exact d
      · exact absurd ⟨k, hk, d⟩ c)
    omega
/-- the lightest weight that both hold, -1 if none -/
def cmP (t u : Tr) : Nat → Nat → Int
  | 0, _ => -1
  | k + 1, q => if fdP u (gw t q) = -1 then cmP t u k (q + 1) else gw t q
theorem cm_no {t u : Tr} : ∀ (k q : Nat), q + k = cnt t → cmP t u k q = -1 → ∀ p, q ≤ p → p < cnt t → fdP u (gw t p) = -1
  | 0, q, h, _, p, h1, h2 => by omega
  | k + 1, q, h, e, p, h1, h2 => by
    rw [cmP] at e
    split at e
    · next d =>
      by_cases c : p = q
      · rw [c]; exact d
      · exact cm_no k (q + 1) (by omega) e p (by omega) h2
    · omega
section OPo
variable {I : Mm}
theorem c_common {i j : Nat} {t u : Tr} (Gt : GT t) (Gu : GT u) (Rt : RT I i t) (Ru : RT I j u) : ∀ (k q m : Nat), q + k = cnt t → k < m → fX4_pourNow_p91 m i j (iI q) I = if cmP t u k q = -1 then fX4_pourNow_p136 1000 i j 0 I else some (iI (-14), wr (wr I 0 9 2) 0 10 (iI (cmP t u k q)))
  | 0, q, m, hq, hm => by
    have g := Gt.1
    obtain ⟨m, rfl⟩ : ∃ x, m = x + 1 := ⟨m - 1, by omega⟩
    rw [fX4_pourNow_p91, cmP, if_pos rfl, Rt.1, if_pos (by rw [iI_le (by omega) (by omega) (by omega) (by omega)]; omega)]
  | k + 1, q, m, hq, hm => by
    have g := Gt.1
    have gp := Gt.2.1 q (by omega)
    obtain ⟨m, rfl⟩ : ∃ x, m = x + 1 := ⟨m - 1, by omega⟩
    have ww : fX1_weightAt i (iI q) I = some (iI (gw t q), I) := by
      rw [t_weightAt Gt Rt (by omega) (by omega)]
      simp (disch := omega) only [WZ, if_pos, tn_n]
    rw [fX4_pourNow_p91, cmP, Rt.1, if_neg (by rw [iI_le (by omega) (by omega) (by omega) (by omega)]; omega), ww, bd_s, t_find Gu Ru (by omega) (by omega), bd_s]
    by_cases c : fdP u (gw t q) = -1
    · rw [if_pos c, c, if_pos (show iI (-1) = -1 from rfl), ltm_s, l_1, iI_add, ← c_common Gt Gu Rt Ru k (q + 1) m (by omega) (by omega)]
      rfl
    · obtain ⟨p, hp, f1, f2, f3⟩ := fd_yes c
      have := Gu.1
      rw [if_neg c, f1, if_neg (show ¬ iI (p : Int) = -1 by rw [l_m1, iI_eq (by omega) (by omega) (by omega) (by omega)]; omega), ww, bd_s, c_refuse, bd_s, if_neg (show ¬ (gw t q : Int) = -1 by omega)]
/-- the class lays them one by one -/
theorem c_layAll {i j : Nat} (hij : i + 3 < j ∨ j + 3 < i) {t u : Tr} (Gt : GT t) (Gu : GT u) (hs : cnt u + cnt t ≤ 30) (hn : ∀ p, p < cnt t → fdP u (gw t p) = -1) : ∀ (k q m : Nat) (J : Mm) (U : Tr), q + k = cnt t → k < m → GT U → cnt U = cnt u + q → (∀ a b, El U a b ↔ El u a b ∨ ∃ p, p < q ∧ gw t p = a ∧ gl t p = b) → RT J i t → RT J j U → ∃ J' U' m', fX4_pourNow_p136 m i j (iI q) J = fX4_pourNow_p136 (m' + 1) i j (iI (cnt t)) J' ∧ GT U' ∧ cnt U' = cnt u + cnt t ∧ (∀ a b, El U' a b ↔ El u a b ∨ El t a b) ∧ RT J' i t ∧ RT J' j U' ∧ Off j J J'
  | 0, q, m, J, U, hq, hm, GU, hc, hE, Rt, RU => by
    obtain ⟨m, rfl⟩ : ∃ x, m = x + 1 := ⟨m - 1, by omega⟩
    obtain rfl : q = cnt t := by omega
    exact ⟨J, U, m, rfl, GU, hc, hE, Rt, RU, off_rfl _ _⟩
  | k + 1, q, m, J, U, hq, hm, GU, hc, hE, Rt, RU => by
    have g := Gt.1
    have gp := Gt.2.1 q (by omega)
    obtain ⟨m, rfl⟩ : ∃ x, m = x + 1 := ⟨m - 1, by omega⟩
    have ww : fX1_weightAt i (iI q) J = some (iI (gw t q), J) := by
      rw [t_weightAt Gt Rt (by omega) (by omega)]
      simp (disch := omega) only [WZ, if_pos, tn_n]
    have wl : fX1_loadAt i (iI q) J = some (iI (gl t q), J) := by
      rw [t_loadAt Gt Rt (by omega) (by omega)]
      simp (disch := omega) only [LZ, if_pos, tn_n]
    obtain ⟨s, s1, s2⟩ := ex_free (t := U) (by omega)
    have H : ∀ x, x < cnt U → gw U x ≠ gw t q := fun x hx e => by
      rcases (hE _ _).mp ⟨x, hx, e, rfl⟩ with ⟨y, y1, y2, _⟩ | ⟨p, p1, p2, _⟩
      · exact fd_no Gu (hn q (by omega)) y y1 (by rw [y2])
      · exact absurd (gw_inj Gt (by omega) (by omega) p2) (by omega)
    obtain ⟨J1, e, r1, o1⟩ := tr_lay GU RU (ld := gl t q) s H gp.1 (by omega)
    have G1 := in_gt (k := s) (ld := gl t q) GU H (fun x hx e => s2 ⟨x, hx, e⟩) gp.1 gp.2.1 gp.2.2.1 s1 (by omega)
    obtain ⟨J', U', m', a1, a2, a3, a4, a5, a6, a7⟩ := c_layAll hij Gt Gu hs hn k (q + 1) m J1 (insT s (gw t q) (gl t q) U) (by omega) (by omega) G1 (by rw [in_cnt]; omega) (fun a b => by
      rw [el_ins GU H, hE]
      constructor
      · rintro (⟨x1, x2⟩ | x | ⟨p, p1, p2⟩)
        · exact Or.inr ⟨q, by omega, x1.symm, x2.symm⟩
        · exact Or.inl x
        · exact Or.inr ⟨p, by omega, p2⟩
      · rintro (x | ⟨p, p1, p2, p3⟩)
        · exact Or.inr (Or.inl x)
        · by_cases c : p = q
          · subst c; exact Or.inl ⟨p2.symm, p3.symm⟩
          · exact Or.inr (Or.inr ⟨p, by omega, p2, p3⟩)) (rt_of Rt (fun a b x1 x2 => o1 a b (by omega))) r1
    refine ⟨J', U', m', ?_, a2, a3, a4, a5, a6, off_tr o1 a7⟩
    rw [← a1, fX4_pourNow_p136, Rt.1, if_neg (by rw [iI_le (by omega) (by omega) (by omega) (by omega)]; omega), ww, bd_s, wl, bd_s, e, bd_s, ltm_s, l_1, iI_add]
    rfl
end OPo
