/-! ===== what the reference's rick does ===== -/
/-- nothing but a rick's stalls and top has changed -/
def RO (i : Nat) (I J : Mm) : Prop := ∀ a j, (a ≠ 164 ∨ j < 7 + 122 * i ∨ 7 + 122 * i + 122 ≤ j ∨ j = 7 + 122 * i + 1) → J a j = I a j
theorem ro_rfl (i : Nat) (I : Mm) : RO i I I := fun _ _ _ => rfl
theorem ro_tr {i : Nat} {I J K : Mm} (h : RO i I J) (h2 : RO i J K) : RO i I K := fun a j c => (h2 a j c).trans (h a j c)
theorem ad_in {i k c : Nat} (h : k < 30) (h2 : c < 4) : 7 + 122 * i + 2 ≤ ad i k c ∧ ad i k c < 7 + 122 * i + 122 := by unfold ad; omega
/-- nor any stall's weight or load -/
def W0 (i : Nat) (I J : Mm) : Prop := ∀ k c, c < 2 → J 164 (ad i k c) = I 164 (ad i k c)
section MM
variable {I : Mm} {i : Nat}
theorem m_put_ (hi : i < 3) {k c : Nat} (hk : k < 30) (hc : c < 4) (h1 : c ≠ 1) {z : Int} : fX5_put (iI i) (iI k) (iI c) (iI z) I = some ((), wr I 164 (ad i k c) (iI (z + 1))) := by
  have e := @ad_0 i hi k (by omega) (by omega) c (by omega) (by omega)
  rw [tn_n, tn_n] at e
  have a := @ad_in i k c hk hc
  unfold fX5_put
  rw [e]
  simp (disch := omega) only [l_0, l_1, iI_lt, iI_cl, if_neg, tn_n, iI_eq, iI_add, ltm_s]
theorem m_put1 (hi : i < 3) {k : Nat} (hk : k < 30) {z : Int} : fX5_put (iI i) (iI k) (iI 1) (iI z) I = some ((), wr I 164 (ad i k 1) (iI z)) := by
  have e := @ad_0 i hi k (by omega) (by omega) 1 (by omega) (by omega)
  rw [tn_n, show Int.toNat 1 = 1 from rfl] at e
  have a := @ad_in i k 1 hk (by omega)
  unfold fX5_put
  rw [e]
  simp (disch := omega) only [l_0, l_1, iI_lt, iI_cl, if_neg, tn_n, iI_eq, iI_add, ltm_s, Int.add_zero]
  rw [if_pos trivial]
theorem tp_0 (hi : i < 3) : (7 + 122 * iI i : Int32) = iI ((7 + 122 * i : Nat) : Int) := by
  rw [l_7, l_122, iI_mul, iI_add]; congr 1
theorem m_setTop (hi : i < 3) {z : Int} : fX5_setTop (iI i) (iI z) I = some ((), wr I 164 (7 + 122 * i) (iI (z + 1))) := by
  unfold fX5_setTop
  rw [tp_0 hi]
  simp (disch := omega) only [l_0, l_1, iI_lt, iI_cl, if_neg, tn_n, iI_add, ltm_s]
theorem m_setMost (hi : i < 3) {v : Int32} : fX5_setMost (iI i) v I = some ((), wr I 164 (7 + 122 * i + 1) v) := by
  unfold fX5_setMost
  rw [tp_0 hi, l_1, iI_add, show ((7 + 122 * i : Nat) : Int) + 1 = ((7 + 122 * i + 1 : Nat) : Int) by omega]
  simp (disch := omega) only [l_0, iI_lt, iI_cl, if_neg, tn_n, ltm_s]
theorem m_most (hi : i < 3) : fX5_most (iI i) I = some (I 164 (7 + 122 * i + 1), I) := by
  unfold fX5_most
  rw [tp_0 hi, l_1, iI_add, show ((7 + 122 * i : Nat) : Int) + 1 = ((7 + 122 * i + 1 : Nat) : Int) by omega]
  simp (disch := omega) only [l_0, iI_lt, iI_cl, if_neg, tn_n, ltm_s]
theorem m_replace (hi : i < 3) {t u : Tr} {p : Nat} (G : GT t) (hp : p < cnt t) (M : TMx (I 164) i t p) (U : TM (I 164) i u) (gu : ∀ k, St u k → k < 30) (hu : paP t p ≠ -1 → ¬ St u (gs t (paP t p).toNat)) (hT : I 164 (7 + 122 * i) = iI (rtT t + 1)) : ∃ J, fX5_replace (iI i) (iI (paS t p (-1))) (iI (gs t p)) (iI (rtT u)) I = some ((), J) ∧ J 164 (7 + 122 * i) = iI (rtT (rplT t p u) + 1) ∧ TM (J 164) i (rplT t p u) ∧ RO i I J ∧ W0 i I J := by
  have g := G.1
  have rr := rp_root t p u hp
  have gp := G.2.1 p hp
  rw [fX5_replace, l_0]
  by_cases c : paP t p = -1
  · rw [paS, if_pos c, if_neg (by rw [iI_le (by omega) (by omega) (by omega) (by omega)]; omega), m_setTop hi, bd_s]
    have r := rr.1 c
    refine ⟨_, rfl, by rw [wr_e, if_pos ⟨rfl, rfl⟩, r.1], ?_, fun a j h => by rw [wr_e, if_neg (by omega)], fun k c hc => by rw [wr_e, if_neg (by unfold ad; omega)]⟩
    rw [r.1]
    exact tm_st U (fun k x hk hx => by have := @ad_in i k x (gu k hk) hx; rw [wr_e, if_neg (by omega)])
  · have pr := pa_rng t p hp
    have ga := G.2.1 (paP t p).toNat (by omega)
    obtain ⟨x, x1, x2, x3, x4⟩ := rpl_w (g := (wr I 164 (ad i (gs t (paP t p).toNat) (if I 164 (ad i (gs t (paP t p).toNat) 2) = iI ((gs t p : Int) + 1) then 2 else 3)) (iI (rtT u + 1))) 164) t p u G hp c M U (hu c)
    have hx : (if I 164 (ad i (gs t (paP t p).toNat) 2) = iI ((gs t p : Int) + 1) then 2 else 3) = x := by
      rcases x1 with x1 | x1
      · rw [if_pos (x2 x1), x1]
      · obtain ⟨z, z1, z2, z3, z4⟩ := x3 x1
        rw [if_neg (fun e => by rw [z4, iI_eq (by omega) (by omega) (by omega) (by omega)] at e; omega), x1]
    rw [hx] at x4
    have ai := @ad_in i (gs t (paP t p).toNat) x ga.2.2.2 (by omega)
    have fin : TM ((wr I 164 (ad i (gs t (paP t p).toNat) x) (iI (rtT u + 1))) 164) i (rplT t p u) := x4 (fun j => by rw [wr_e]; by_cases y : j = ad i (gs t (paP t p).toNat) x <;> simp [y])
    rw [paS, if_neg c, if_pos (by rw [iI_le (by omega) (by omega) (by omega) (by omega)]; omega), l_2, l_3, m_of2 hi ga.2.2.2, bd_s]
    have out : (if I 164 (ad i (gs t (paP t p).toNat) 2) - iI 1 = iI (gs t p) then bd (fX5_put (iI i) (iI (gs t (paP t p).toNat)) (iI 2) (iI (rtT u)) I) fun r2 I2 => some ((), I2) else bd (fX5_put (iI i) (iI (gs t (paP t p).toNat)) (iI 3) (iI (rtT u)) I) fun r2 I2 => some ((), I2)) = some ((), wr I 164 (ad i (gs t (paP t p).toNat) x) (iI (rtT u + 1))) := by
      rcases x1 with x1 | x1
      · rw [x2 x1, sub1, if_pos rfl, show (iI 2 : Int32) = iI ((2 : Nat) : Int) from rfl, m_put_ hi ga.2.2.2 (by omega) (by omega), bd_s, x1]
      · obtain ⟨z, z1, z2, z3, z4⟩ := x3 x1
        rw [z4, sub1, if_neg (fun e => by rw [iI_eq (by omega) (by omega) (by omega) (by omega)] at e; exact z3 e), show (iI 3 : Int32) = iI ((3 : Nat) : Int) from rfl, m_put_ hi ga.2.2.2 (by omega) (by omega), bd_s, x1]
    rw [out]
    refine ⟨_, rfl, by rw [wr_e, if_neg (by omega), hT, rr.2 c], fin, fun a j h => by rw [wr_e, if_neg (by omega)], fun k c hc => by rw [wr_e, if_neg (fun e => absurd e.2 (by unfold ad; omega))]⟩
theorem php : ∀ (n m : Nat) (g : Nat → Nat), (∀ k, k < n → ∃ p, p < m ∧ g p = k) → n ≤ m
  | 0, m, g, h => by omega
  | n + 1, m, g, h => by
    obtain ⟨p0, h1, h2⟩ := h n (by omega)
    have ih := php n (m - 1) (fun p => if p = p0 then g (m - 1) else g p) (fun k hk => by
      obtain ⟨p, h3, h4⟩ := h k (by omega)
      by_cases c : p < m - 1
      · refine ⟨p, c, ?_⟩
        rw [if_neg (fun e => by rw [e] at h4; omega)]; exact h4
      · have hp : p = m - 1 := by omega
        refine ⟨p0, ?_, by rw [if_pos rfl, ← hp]; exact h4⟩
        by_cases d : p0 = m - 1
        · rw [d, ← hp] at h2; omega
        · omega)
    omega
theorem m_emptyStall (hi : i < 3) {t : Tr} {f : Nat → Int32} (G : GT t) (M : MR f i t) (hc : cnt t < 30) : ∃ k, k < 30 ∧ ¬ St t k ∧ ∀ I : Mm, I 164 = f → fX5_emptyStall (iI i) I = some (iI k, I) := by
  have ex : ∃ k, k < 30 ∧ ¬ St t k := by
    by_cases c : ∃ k, k < 30 ∧ ¬ St t k
    · exact c
    · have := php 30 (cnt t) (gs t) (fun k hk => by
        by_cases d : St t k
        · exact d
        · exact absurd ⟨k, hk, d⟩ c)
      omega
  obtain ⟨k1, hk1, hk2⟩ := ex
  have key : ∀ (n q m : Nat), q + n = k1 → n < m → ∃ k, k < 30 ∧ ¬ St t k ∧ ∀ I : Mm, I 164 = f → fX5_emptyStall_p2 m (iI i) (iI q) I = some (iI k, I) := by
    intro n
    induction n with
    | zero =>
      intro q m hq hm
      obtain ⟨m, rfl⟩ : ∃ x, m = x + 1 := ⟨m - 1, by omega⟩
      obtain rfl : q = k1 := by omega
      refine ⟨q, hk1, hk2, fun I hI => ?_⟩
      have e : I 164 (ad i q 0) = iI 0 := by rw [hI]; exact M.2.2 q hk1 (fun p hp e => hk2 ⟨p, hp, e⟩)
      rw [fX5_emptyStall_p2]
      simp (disch := omega) only [l_0, m_of0 hi, bd_s, e, iI_sub, iI_lt, if_pos]
    | succ n ih =>
      intro q m hq hm
      obtain ⟨m, rfl⟩ : ∃ x, m = x + 1 := ⟨m - 1, by omega⟩
      by_cases c : St t q
      · obtain ⟨p, hp, e⟩ := c
        have gp := G.2.1 p hp
        obtain ⟨k, x1, x2, x3⟩ := ih (q + 1) m (by omega) (by omega)
        refine ⟨k, x1, x2, fun I hI => ?_⟩
        have a := (tm_p _ i t p M.2.1 hp).1
        rw [e, ← hI] at a
        rw [fX5_emptyStall_p2]
        simp (disch := omega) only [l_0, l_1, m_of0 hi, bd_s, a, sub1, iI_lt, if_neg, iI_add, ltm_s]
        exact x3 I hI
      · refine ⟨q, by omega, c, fun I hI => ?_⟩
        have e : I 164 (ad i q 0) = iI 0 := by rw [hI]; exact M.2.2 q (by omega) (fun p hp e => c ⟨p, hp, e⟩)
        rw [fX5_emptyStall_p2]
        simp (disch := omega) only [l_0, m_of0 hi, bd_s, e, iI_sub, iI_lt, if_pos]
  obtain ⟨k, x1, x2, x3⟩ := key k1 0 1000 (by omega) (by omega)
  exact ⟨k, x1, x2, fun I hI => by rw [fX5_emptyStall]; exact x3 I hI⟩
/-- a stall's four cells set -/
def w4 (I : Mm) (i k : Nat) (a b c d : Int) : Mm := wr (wr (wr (wr I 164 (ad i k 0) (iI a)) 164 (ad i k 1) (iI b)) 164 (ad i k 2) (iI c)) 164 (ad i k 3) (iI d)
theorem w4_at (I : Mm) (i k : Nat) (a b c d : Int) : w4 I i k a b c d 164 (ad i k 0) = iI a ∧ w4 I i k a b c d 164 (ad i k 1) = iI b ∧ w4 I i k a b c d 164 (ad i k 2) = iI c ∧ w4 I i k a b c d 164 (ad i k 3) = iI d := by
  unfold w4
  refine ⟨?_, ?_, ?_, ?_⟩
  · rw [wr_e, if_neg (fun e => ad_n (by omega) (by omega) (by omega) e.2), wr_e, if_neg (fun e => ad_n (by omega) (by omega) (by omega) e.2), wr_e, if_neg (fun e => ad_n (by omega) (by omega) (by omega) e.2), wr_e, if_pos ⟨rfl, rfl⟩]
  · rw [wr_e, if_neg (fun e => ad_n (by omega) (by omega) (by omega) e.2), wr_e, if_neg (fun e => ad_n (by omega) (by omega) (by omega) e.2), wr_e, if_pos ⟨rfl, rfl⟩]
  · rw [wr_e, if_neg (fun e => ad_n (by omega) (by omega) (by omega) e.2), wr_e, if_pos ⟨rfl, rfl⟩]
  · rw [wr_e, if_pos ⟨rfl, rfl⟩]
theorem w4_n (I : Mm) (i k : Nat) (a b c d : Int) {x j : Nat} (h : x = 164 → j ≠ ad i k 0 ∧ j ≠ ad i k 1 ∧ j ≠ ad i k 2 ∧ j ≠ ad i k 3) : w4 I i k a b c d x j = I x j := by
  unfold w4
  rw [wr_e, if_neg (fun e => (h e.1).2.2.2 e.2), wr_e, if_neg (fun e => (h e.1).2.2.1 e.2), wr_e, if_neg (fun e => (h e.1).2.1 e.2), wr_e, if_neg (fun e => (h e.1).1 e.2)]
theorem w4_o (I : Mm) (i k : Nat) (a b c d : Int) {k' c' : Nat} (h : k' ≠ k) (hc : c' < 4) : w4 I i k a b c d 164 (ad i k' c') = I 164 (ad i k' c') :=
  w4_n I i k a b c d (fun _ => ⟨ad_n hc (by omega) (Or.inl h), ad_n hc (by omega) (Or.inl h), ad_n hc (by omega) (Or.inl h), ad_n hc (by omega) (Or.inl h)⟩)
theorem w4_ro (I : Mm) (i k : Nat) (a b c d : Int) (hk : k < 30) : RO i I (w4 I i k a b c d) := fun x j h => by
  have a0 := @ad_in i k 0 hk (by omega)
  have a1 := @ad_in i k 1 hk (by omega)
  have a2 := @ad_in i k 2 hk (by omega)
  have a3 := @ad_in i k 3 hk (by omega)
  exact w4_n I i k a b c d (fun _ => by omega)
theorem m_enter (hi : i < 3) {t : Tr} {f : Nat → Int32} (G : GT t) (M : MR f i t) (hc : cnt t < 30) : ∃ k, k < 30 ∧ ¬ St t k ∧ ∀ (I : Mm) (w ld : Int), I 164 = f → fX5_enter (iI i) (iI w) (iI ld) I = some (iI k, w4 I i k (w + 1) ld 0 0) := by
  obtain ⟨k, h1, h2, e⟩ := m_emptyStall hi G M hc
  refine ⟨k, h1, h2, fun I w ld hI => ?_⟩
  rw [fX5_enter, e I hI, bd_s, l_m1, show (0 : Int32) = iI ((0 : Nat) : Int) from rfl, show (2 : Int32) = iI ((2 : Nat) : Int) from rfl, show (3 : Int32) = iI ((3 : Nat) : Int) from rfl, l_1, m_put_ hi h1 (by omega) (by omega), bd_s, m_put1 hi h1, bd_s, m_put_ hi h1 (by omega) (by omega), bd_s, m_put_ hi h1 (by omega) (by omega), bd_s]
  rfl
theorem m_clear (hi : i < 3) {k : Nat} (hk : k < 30) : fX5_clear (iI i) (iI k) I = some ((), w4 I i k 0 0 0 0) := by
  rw [fX5_clear, l_m1, show (2 : Int32) = iI ((2 : Nat) : Int) from rfl, show (3 : Int32) = iI ((3 : Nat) : Int) from rfl, l_1, show (fX5_put (iI i) (iI k) 0 (iI (-1)) I) = fX5_put (iI i) (iI k) (iI ((0 : Nat) : Int)) (iI (-1)) I from rfl, m_put_ hi hk (by omega) (by omega), bd_s, l_0, m_put1 hi hk, bd_s, m_put_ hi hk (by omega) (by omega), bd_s, m_put_ hi hk (by omega) (by omega), bd_s]
  rfl
/-- what else than links within a tree stays -/
def LkF (i : Nat) (t : Tr) (I J : Mm) : Prop := ∀ x j, (x = 164 → ∀ k c, St t k → (c = 2 ∨ c = 3) → j ≠ ad i k c) → J x j = I x j
theorem m_hang_p (hi : i < 3) {k w ld : Nat} (hk : k < 30) (hw : w < 1000) : ∀ (s : Tr) (m : Nat) (a b : Int32) (I : Mm), GT s → 0 < cnt s → TM (I 164) i s → ¬ St s k → (∀ q, q < cnt s → gw s q ≠ w) → I 164 (ad i k 0) = iI ((w : Int) + 1) → I 164 (ad i k 1) = iI ld → I 164 (ad i k 2) = iI 0 → I 164 (ad i k 3) = iI 0 → cnt s + 1 < m → ∃ J, fX5_hang_p12 m (iI i) (iI k) a b (iI (rtT s)) I = some ((), J) ∧ TM (J 164) i (insT k w ld s) ∧ LkF i s I J
  | .leaf, m, a, b, I, G, h0, M, hS, hW, c0, c1, c2, c3, hm => by simp [cnt] at h0
  | .inner s w1 l1 l r, m, a, b, I, G, h0, M, hS, hW, c0, c1, c2, c3, hm => by
    have gm := gt_m G
    have sd := st_d G
    have hkl : ¬ St l k := fun h => hS (st_i.mpr (Or.inr (Or.inl h)))
    have hkr : ¬ St r k := fun h => hS (st_i.mpr (Or.inr (Or.inr h)))
    have hks : k ≠ s := fun h => hS (st_i.mpr (Or.inl h))
    have hc : w1 ≠ w := by have := hW (cnt l) (by rw [cnt_i]; omega); rw [(@gi_m s w1 l1 l r).1] at this; exact this
    have Hl : ∀ q, q < cnt l → gw l q ≠ w := fun q h => by have := hW q (by rw [cnt_i]; omega); rw [(@gi_l s w1 l1 l r q h).1] at this; exact this
    have Hr : ∀ q, q < cnt r → gw r q ≠ w := fun q h => by have := hW (cnt l + 1 + q) (by rw [cnt_i]; omega); rw [(@gi_r s w1 l1 l r q).1] at this; exact this
    have r1 := rt_rng (gt_l G)
    have r2 := rt_rng (gt_r G)
    rw [cnt_i] at hm
    obtain ⟨m, rfl⟩ : ∃ x, m = x + 1 := ⟨m - 1, by omega⟩
    rw [fX5_hang_p12, rtT, insT, l_3, l_2]
    simp (disch := omega) only [l_0, iI_lt, if_neg, m_of0 hi, c0, M.1, sub1, bd_s, iI_le]
    by_cases c : w < w1
    · rw [if_neg (by omega), m_of2 hi gm.2.2.2.1, bd_s, M.2.2.1, sub1, if_pos c]
      by_cases z : cnt l = 0
      · cases l with
        | inner _ _ _ _ _ => rw [cnt_i] at z; omega
        | leaf =>
          obtain ⟨m, rfl⟩ : ∃ x, m = x + 1 := ⟨m - 1, by omega⟩
          rw [fX5_hang_p12, rtT]
          simp (disch := omega) only [l_0, iI_lt, iI_le, if_pos]
          rw [show (iI 2 : Int32) = iI ((2 : Nat) : Int) from rfl, m_put_ hi gm.2.2.2.1 (by omega) (by omega), bd_s]
          refine ⟨_, rfl, ?_, fun x j h => ?_⟩
          · rw [insT]
            have o : ∀ k' c', (k' ≠ s ∨ c' ≠ 2) → c' < 4 → (wr I 164 (ad i s 2) (iI ((k : Int) + 1))) 164 (ad i k' c') = I 164 (ad i k' c') := fun k' c' h h2 => by rw [wr_e, if_neg (fun e => ad_n h2 (by omega) (by omega) e.2)]
            refine ⟨by rw [o s 0 (by omega) (by omega)]; exact M.1, by rw [o s 1 (by omega) (by omega)]; exact M.2.1, by rw [wr_e, if_pos ⟨rfl, rfl⟩]; rfl, by rw [o s 3 (by omega) (by omega)]; exact M.2.2.2.1, ⟨by rw [o k 0 (by omega) (by omega)]; exact c0, by rw [o k 1 (by omega) (by omega)]; exact c1, by rw [o k 2 (by omega) (by omega)]; exact c2, by rw [o k 3 (by omega) (by omega)]; exact c3, trivial, trivial⟩, tm_st M.2.2.2.2.2 (fun k' x hk' hx => o k' x (Or.inl (fun e => sd.2.1 (e ▸ hk'))) hx)⟩
          · rw [wr_e, if_neg (fun e => h e.1 s 2 (st_i.mpr (Or.inl rfl)) (Or.inl rfl) e.2)]
      · obtain ⟨J, e, T, L⟩ := m_hang_p hi hk hw l m (iI s) (iI 2) I (gt_l G) (by omega) M.2.2.2.2.1 hkl Hl c0 c1 c2 c3 (by omega)
        have rr : rtT (insT k w ld l) = rtT l := by
          cases l with
          | leaf => exact absurd rfl z
          | inner _ _ _ _ _ => rw [insT]; split <;> rfl
        have o : ∀ k' c', ¬ St l k' → c' < 4 → J 164 (ad i k' c') = I 164 (ad i k' c') := fun k' c' h h2 => L 164 _ (fun _ k'' c'' hs hc => ad_s2 h hs h2 (by omega))
        refine ⟨J, e, ⟨by rw [o s 0 sd.1 (by omega)]; exact M.1, by rw [o s 1 sd.1 (by omega)]; exact M.2.1, by rw [o s 2 sd.1 (by omega), rr]; exact M.2.2.1, by rw [o s 3 sd.1 (by omega)]; exact M.2.2.2.1, T, tm_st M.2.2.2.2.2 (fun k' x hk' hx => o k' x (fun h => sd.2.2 k' h hk') hx)⟩, fun x j h => L x j (fun hx k' c' hs hc => h hx k' c' (st_i.mpr (Or.inr (Or.inl hs))) hc)⟩
    · rw [if_pos (by omega), m_of3 hi gm.2.2.2.1, bd_s, M.2.2.2.1, sub1, if_neg c]
      by_cases z : cnt r = 0
      · cases r with
        | inner _ _ _ _ _ => rw [cnt_i] at z; omega
        | leaf =>
          obtain ⟨m, rfl⟩ : ∃ x, m = x + 1 := ⟨m - 1, by omega⟩
          rw [fX5_hang_p12, rtT]
          simp (disch := omega) only [l_0, iI_lt, iI_le, if_pos]
          rw [show (iI 3 : Int32) = iI ((3 : Nat) : Int) from rfl, m_put_ hi gm.2.2.2.1 (by omega) (by omega), bd_s]
          refine ⟨_, rfl, ?_, fun x j h => ?_⟩
          · rw [insT]
            have o : ∀ k' c', (k' ≠ s ∨ c' ≠ 3) → c' < 4 → (wr I 164 (ad i s 3) (iI ((k : Int) + 1))) 164 (ad i k' c') = I 164 (ad i k' c') := fun k' c' h h2 => by rw [wr_e, if_neg (fun e => ad_n h2 (by omega) (by omega) e.2)]
            refine ⟨by rw [o s 0 (by omega) (by omega)]; exact M.1, by rw [o s 1 (by omega) (by omega)]; exact M.2.1, by rw [o s 2 (by omega) (by omega)]; exact M.2.2.1, by rw [wr_e, if_pos ⟨rfl, rfl⟩]; rfl, tm_st M.2.2.2.2.1 (fun k' x hk' hx => o k' x (Or.inl (fun e => sd.1 (e ▸ hk'))) hx), ⟨by rw [o k 0 (by omega) (by omega)]; exact c0, by rw [o k 1 (by omega) (by omega)]; exact c1, by rw [o k 2 (by omega) (by omega)]; exact c2, by rw [o k 3 (by omega) (by omega)]; exact c3, trivial, trivial⟩⟩
          · rw [wr_e, if_neg (fun e => h e.1 s 3 (st_i.mpr (Or.inl rfl)) (Or.inr rfl) e.2)]
      · obtain ⟨J, e, T, L⟩ := m_hang_p hi hk hw r m (iI s) (iI 3) I (gt_r G) (by omega) M.2.2.2.2.2 hkr Hr c0 c1 c2 c3 (by omega)
        have rr : rtT (insT k w ld r) = rtT r := by
          cases r with
          | leaf => exact absurd rfl z
          | inner _ _ _ _ _ => rw [insT]; split <;> rfl
        have o : ∀ k' c', ¬ St r k' → c' < 4 → J 164 (ad i k' c') = I 164 (ad i k' c') := fun k' c' h h2 => L 164 _ (fun _ k'' c'' hs hc => ad_s2 h hs h2 (by omega))
        refine ⟨J, e, ⟨by rw [o s 0 sd.2.1 (by omega)]; exact M.1, by rw [o s 1 sd.2.1 (by omega)]; exact M.2.1, by rw [o s 2 sd.2.1 (by omega)]; exact M.2.2.1, by rw [o s 3 sd.2.1 (by omega), rr]; exact M.2.2.2.1, tm_st M.2.2.2.2.1 (fun k' x hk' hx => o k' x (fun h => sd.2.2 k' hk' h) hx), T⟩, fun x j h => L x j (fun hx k' c' hs hc => h hx k' c' (st_i.mpr (Or.inr (Or.inr hs))) hc)⟩
theorem st_ins {k w ld : Nat} {k' : Nat} : ∀ (t : Tr), St (insT k w ld t) k' ↔ k' = k ∨ St t k'
  | .leaf => by
    rw [insT, st_i]
    constructor
    · rintro (h | h | h)
      · exact Or.inl h
      · exact Or.inr h
      · exact Or.inr h
    · rintro (h | h)
      · exact Or.inl h
      · exact Or.inr (Or.inl h)
  | .inner s w1 l1 l r => by
    have hl := @st_ins k w ld k' l
    have hr := @st_ins k w ld k' r
    rw [insT]
    by_cases c : w < w1
    · rw [if_pos c, st_i, st_i, hl]
      constructor
      · rintro (h | (h | h) | h)
        · exact Or.inr (Or.inl h)
        · exact Or.inl h
        · exact Or.inr (Or.inr (Or.inl h))
        · exact Or.inr (Or.inr (Or.inr h))
      · rintro (h | h | h | h)
        · exact Or.inr (Or.inl (Or.inl h))
        · exact Or.inl h
        · exact Or.inr (Or.inl (Or.inr h))
        · exact Or.inr (Or.inr h)
    · rw [if_neg c, st_i, st_i, hr]
      constructor
      · rintro (h | h | h | h)
        · exact Or.inr (Or.inl h)
        · exact Or.inr (Or.inr (Or.inl h))
        · exact Or.inl h
        · exact Or.inr (Or.inr (Or.inr h))
      · rintro (h | h | h | h)
        · exact Or.inr (Or.inr (Or.inl h))
        · exact Or.inl h
        · exact Or.inr (Or.inl h)
        · exact Or.inr (Or.inr (Or.inr h))
/-- a sheaf entered and hung -/
theorem m_lay (hi : i < 3) {t : Tr} (G : GT t) (M : MR (I 164) i t) {k w ld : Nat} (hk : k < 30) (hS : ¬ St t k) (hw : w < 1000) (hW : ∀ q, q < cnt t → gw t q ≠ w) : ∃ J, fX5_hang (iI i) (iI k) (w4 I i k ((w : Int) + 1) ld 0 0) = some ((), J) ∧ MR (J 164) i (insT k w ld t) ∧ RO i I J := by
  have g := G.1
  have w4a := w4_at I i k ((w : Int) + 1) ld 0 0
  have ro := w4_ro I i k ((w : Int) + 1) ld 0 0 hk
  have T : TM ((w4 I i k ((w : Int) + 1) ld 0 0) 164) i t := tm_st M.2.1 (fun k' c hk' hc => w4_o I i k _ _ _ _ (fun e => hS (e ▸ hk')) hc)
  have top : (w4 I i k ((w : Int) + 1) ld 0 0) 164 (7 + 122 * i) = iI (rtT t + 1) := by
    have a0 := @ad_in i k 0 hk (by omega)
    have a1 := @ad_in i k 1 hk (by omega)
    have a2 := @ad_in i k 2 hk (by omega)
    have a3 := @ad_in i k 3 hk (by omega)
    rw [w4_n I i k _ _ _ _ (fun _ => by omega)]; exact M.1
  have free : ∀ J : Mm, (∀ k', J 164 (ad i k' 0) = (w4 I i k ((w : Int) + 1) ld 0 0) 164 (ad i k' 0)) → ∀ k', k' < 30 → (∀ p, p < cnt (insT k w ld t) → gs (insT k w ld t) p ≠ k') → J 164 (ad i k' 0) = iI 0 := fun J hJ k' hk' h => by
    have n : ¬ St (insT k w ld t) k' := fun ⟨p, hp, e⟩ => h p hp e
    rw [st_ins] at n
    rw [hJ, w4_o I i k _ _ _ _ (fun e => n (Or.inl e)) (by omega)]
    exact M.2.2 k' hk' (fun p hp e => n (Or.inr ⟨p, hp, e⟩))
  rw [fX5_hang, m_top (t := t) hi top, bd_s]
  by_cases z : cnt t = 0
  · cases t with
    | inner _ _ _ _ _ => rw [cnt_i] at z; omega
    | leaf =>
      have e : ∀ m, 1 < m → fX5_hang_p12 m (iI i) (iI k) (-1) 2 (iI (rtT .leaf)) (w4 I i k ((w : Int) + 1) ld 0 0) = some ((), wr (w4 I i k ((w : Int) + 1) ld 0 0) 164 (7 + 122 * i) (iI ((k : Int) + 1))) := by
        intro m hm
        obtain ⟨m, rfl⟩ : ∃ x, m = x + 1 := ⟨m - 1, by omega⟩
        rw [fX5_hang_p12, rtT, l_m1, l_0, if_pos (by rw [iI_lt (by omega) (by omega) (by omega) (by omega)]; omega), if_neg (by rw [iI_le (by omega) (by omega) (by omega) (by omega)]; omega), m_setTop hi, bd_s]
      rw [e 1000 (by omega)]
      have o : ∀ k' c', c' < 4 → (wr (w4 I i k ((w : Int) + 1) ld 0 0) 164 (7 + 122 * i) (iI ((k : Int) + 1))) 164 (ad i k' c') = (w4 I i k ((w : Int) + 1) ld 0 0) 164 (ad i k' c') := fun k' c' h => by rw [wr_e, if_neg (by unfold ad; omega)]
      refine ⟨_, rfl, ⟨by rw [wr_e, if_pos ⟨rfl, rfl⟩]; rfl, ⟨by rw [o k 0 (by omega)]; exact w4a.1, by rw [o k 1 (by omega)]; exact w4a.2.1, by rw [o k 2 (by omega)]; exact w4a.2.2.1, by rw [o k 3 (by omega)]; exact w4a.2.2.2, trivial, trivial⟩, free _ (fun k' => o k' 0 (by omega))⟩, fun a j h => by rw [wr_e, if_neg (by omega)]; exact ro a j h⟩
  · obtain ⟨J, e, TJ, L⟩ := m_hang_p hi hk hw (ld := ld) t 1000 (-1) 2 _ G (by omega) T hS hW w4a.1 w4a.2.1 w4a.2.2.1 w4a.2.2.2 (by omega)
    have rr : rtT (insT k w ld t) = rtT t := by
      cases t with
      | leaf => exact absurd rfl z
      | inner _ _ _ _ _ => rw [insT]; split <;> rfl
    refine ⟨J, e, ⟨by rw [L 164 _ (fun _ k' c' hs hc => by have := @ad_in i k' c' (st_rng G hs) (by omega); omega), top, rr], TJ, free J (fun k' => L 164 _ (fun _ k'' c' hs hc => ad_n (by omega) (by omega) (Or.inr (by omega))))⟩, fun a j h => ?_⟩
    rw [L a j (fun ha k' c' hs hc => by have := @ad_in i k' c' (st_rng G hs) (by omega); omega)]
    exact ro a j h
end MM
