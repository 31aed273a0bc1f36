/-! ===== the reference builds anew, takes out ===== -/
theorem st_bal {fs fw fl : Nat → Nat} {n lo c k : Nat} (h : c ≤ n) : St (balT fs fw fl n lo c) k ↔ ∃ q, lo ≤ q ∧ q < lo + c ∧ fs q = k := by
  have b := bal_pos fs fw fl n lo c h
  constructor
  · rintro ⟨p, hp, e⟩
    rw [b.1] at hp
    exact ⟨lo + p, by omega, by omega, by rw [← (b.2 p hp).2.2, e]⟩
  · rintro ⟨q, h1, h2, e⟩
    exact ⟨q - lo, by rw [b.1]; omega, by rw [(b.2 (q - lo) (by omega)).2.2, show lo + (q - lo) = q by omega, e]⟩
theorem st_same {t u : Tr} (h : cnt u = cnt t) (hg : ∀ p, p < cnt t → gs u p = gs t p) (k : Nat) : St u k ↔ St t k := by
  constructor
  · rintro ⟨p, hp, e⟩; exact ⟨p, by omega, by rw [← hg p (by omega), e]⟩
  · rintro ⟨p, hp, e⟩; exact ⟨p, by omega, by rw [hg p hp, e]⟩
theorem st_above {t : Tr} {p : Nat} (G : GT t) (hp : p < cnt t) (h : paP t p ≠ -1) : ¬ St (sbP t p) (gs t (paP t p).toNat) := by
  rintro ⟨q, hq, e⟩
  have B := bl_p t t 0 0 p (bl_0 t) hp
  rw [Nat.zero_add, Nat.zero_add] at B
  have b := (B.2 q hq).2.2.1
  obtain ⟨l, r, e1, e2, e3⟩ := sb_is t p hp
  rw [e1, cnt_i] at hq
  have f := fo_le t p hp
  have hne : foP t p + q ≠ (paP t p).toNat ∧ (paP t p).toNat < cnt t := by
    rcases pa_is t p hp with ⟨a1, a2, a3, a4⟩ | ⟨a1, a2, a3, a4⟩ | ⟨a1, a2, a3, a4⟩ <;> omega
  rw [← b] at e
  by_cases c : foP t p + q < (paP t p).toNat
  · exact G.2.2.2 _ _ c hne.2 e
  · exact G.2.2.2 _ _ (by omega) (by omega) e.symm
section MB
variable {i : Nat}
theorem m_make (hi : i < 3) {fs fw fl : Nat → Nat} : ∀ (n lo c m : Nat) (I : Mm), c ≤ n → c < m → lo + c ≤ 90 → (∀ j, lo ≤ j → j < lo + c → I 176 j = iI (fs j) ∧ fs j < 30 ∧ I 164 (ad i (fs j) 0) = iI ((fw j : Int) + 1) ∧ I 164 (ad i (fs j) 1) = iI (fl j)) → (∀ j k, lo ≤ j → j < k → k < lo + c → fs j ≠ fs k) → ∃ J, fX5_make m (iI i) (iI lo) (iI ((lo : Int) + c - 1)) I = some (iI (rtT (balT fs fw fl n lo c)), J) ∧ TM (J 164) i (balT fs fw fl n lo c) ∧ ∀ x j, (x = 164 → ∀ q y, lo ≤ q → q < lo + c → (y = 2 ∨ y = 3) → j ≠ ad i (fs q) y) → J x j = I x j
  | n, lo, 0, m, I, h1, h2, h3, h4, h5 => by
    obtain ⟨m, rfl⟩ : ∃ x, m = x + 1 := ⟨m - 1, by omega⟩
    have e : balT fs fw fl n lo 0 = .leaf := by
      cases n with
      | zero => rfl
      | succ n => rw [balT, if_pos rfl]
    rw [fX5_make, e, rtT]
    simp (disch := omega) only [iI_le, if_neg, l_m1]
    exact ⟨I, rfl, trivial, fun _ _ _ => rfl⟩
  | 0, lo, c + 1, m, I, h1, h2, h3, h4, h5 => by omega
  | n + 1, lo, c + 1, m, I, h1, h2, h3, h4, h5 => by
    obtain ⟨m, rfl⟩ : ∃ x, m = x + 1 := ⟨m - 1, by omega⟩
    have hx : balT fs fw fl (n + 1) lo (c + 1) = .inner (fs (lo + c / 2)) (fw (lo + c / 2)) (fl (lo + c / 2)) (balT fs fw fl n lo (c / 2)) (balT fs fw fl n (lo + c / 2 + 1) (c - c / 2)) := by
      rw [balT, if_neg (by omega), Nat.add_sub_cancel]
    have hM := h4 (lo + c / 2) (by omega) (by omega)
    obtain ⟨J1, e1, t1, f1⟩ := m_make hi (fs := fs) (fw := fw) (fl := fl) n lo (c / 2) m I (by omega) (by omega) (by omega) (fun j a b => h4 j a (by omega)) (fun j k a b d => h5 j k a b (by omega))
    have k1 : ∀ q y, lo + c / 2 ≤ q → q < lo + (c + 1) → y < 4 → J1 164 (ad i (fs q) y) = I 164 (ad i (fs q) y) := fun q y a b hy => f1 164 _ (fun _ q' y' a' b' hy' => ad_n hy (by omega) (Or.inl (fun e => h5 q' q a' (by omega) b e.symm)))
    have k2 : ∀ x, x ≠ 164 → ∀ j, J1 x j = I x j := fun x hx j => f1 x j (fun e => absurd e hx)
    have w2 : ∀ x j, (x = 164 → j ≠ ad i (fs (lo + c / 2)) 2) → (wr J1 164 (ad i (fs (lo + c / 2)) 2) (iI (rtT (balT fs fw fl n lo (c / 2)) + 1))) x j = J1 x j := fun x j h => by rw [wr_e, if_neg (fun e => h e.1 e.2)]
    obtain ⟨J3, e3, t3, f3⟩ := m_make hi (fs := fs) (fw := fw) (fl := fl) n (lo + c / 2 + 1) (c - c / 2) m (wr J1 164 (ad i (fs (lo + c / 2)) 2) (iI (rtT (balT fs fw fl n lo (c / 2)) + 1))) (by omega) (by omega) (by omega) (fun j a b => by
      have q := h4 j (by omega) (by omega)
      have ne : fs j ≠ fs (lo + c / 2) := fun e => h5 (lo + c / 2) j (by omega) (by omega) (by omega) e.symm
      rw [w2 176 _ (fun e => by omega), w2 164 _ (fun _ => ad_n (by omega) (by omega) (Or.inl ne)), w2 164 _ (fun _ => ad_n (by omega) (by omega) (Or.inl ne)), k1 j 0 (by omega) (by omega) (by omega), k1 j 1 (by omega) (by omega) (by omega), k2 176 (by omega)]
      exact q) (fun j k a b d => h5 j k (by omega) b (by omega))
    have s1 := @st_bal fs fw fl n lo (c / 2)
    have s2 := @st_bal fs fw fl n (lo + c / 2 + 1) (c - c / 2)
    have w4 : ∀ x j, (x = 164 → j ≠ ad i (fs (lo + c / 2)) 3) → (wr J3 164 (ad i (fs (lo + c / 2)) 3) (iI (rtT (balT fs fw fl n (lo + c / 2 + 1) (c - c / 2)) + 1))) x j = J3 x j := fun x j h => by rw [wr_e, if_neg (fun e => h e.1 e.2)]
    have n3 : ∀ k y, (∀ q, lo + c / 2 + 1 ≤ q → q < lo + (c + 1) → k ≠ fs q) → y < 4 → J3 164 (ad i k y) = (wr J1 164 (ad i (fs (lo + c / 2)) 2) (iI (rtT (balT fs fw fl n lo (c / 2)) + 1))) 164 (ad i k y) := fun k y h hy => f3 164 _ (fun _ q y' a b hy' => ad_n hy (by omega) (Or.inl (h q a (by omega))))
    have nm : ∀ q, lo + c / 2 + 1 ≤ q → q < lo + (c + 1) → fs (lo + c / 2) ≠ fs q := fun q a b => h5 _ q (by omega) (by omega) b
    rw [fX5_make, hx]
    rw [if_pos (by rw [iI_le (by omega) (by omega) (by omega) (by omega)]; omega), l_2, iI_add, iI_div (by omega) (by omega) (by omega) (by omega), ltm_s, show ((lo : Int) + ((lo : Int) + (c + 1 : Nat) - 1)) / 2 = ((lo + c / 2 : Nat) : Int) by omega]
    simp (disch := omega) only [l_0, l_1, l_3, iI_lt, iI_cl, tn_n, if_neg, ltm_s, hM.1, iI_sub, iI_add]
    rw [show ((lo + c / 2 : Nat) : Int) - 1 = (lo : Int) + (c / 2 : Nat) - 1 by omega, show ((lo + c / 2 : Nat) : Int) + 1 = ((lo + c / 2 + 1 : Nat) : Int) by omega, show (lo : Int) + (c + 1 : Nat) - 1 = ((lo + c / 2 + 1 : Nat) : Int) + (c - c / 2 : Nat) - 1 by omega]
    rw [e1, bd_s, show (iI 2 : Int32) = iI ((2 : Nat) : Int) from rfl, m_put_ hi hM.2.1 (by omega) (by omega), bd_s, e3, bd_s, show (iI 3 : Int32) = iI ((3 : Nat) : Int) from rfl, m_put_ hi hM.2.1 (by omega) (by omega), bd_s]
    refine ⟨_, rfl, ⟨?_, ?_, ?_, ?_, ?_, ?_⟩, fun x j h => ?_⟩
    · rw [w4 164 _ (fun _ => ad_n (by omega) (by omega) (by omega)), n3 _ 0 nm (by omega), w2 164 _ (fun _ => ad_n (by omega) (by omega) (by omega)), k1 _ 0 (by omega) (by omega) (by omega)]
      exact hM.2.2.1
    · rw [w4 164 _ (fun _ => ad_n (by omega) (by omega) (by omega)), n3 _ 1 nm (by omega), w2 164 _ (fun _ => ad_n (by omega) (by omega) (by omega)), k1 _ 1 (by omega) (by omega) (by omega)]
      exact hM.2.2.2
    · rw [w4 164 _ (fun _ => ad_n (by omega) (by omega) (by omega)), n3 _ 2 nm (by omega), wr_e, if_pos ⟨rfl, rfl⟩]
    · rw [wr_e, if_pos ⟨rfl, rfl⟩]
    · refine tm_st t1 (fun k y hk hy => ?_)
      obtain ⟨q, a, b, rfl⟩ := (s1 (by omega)).mp hk
      have ne : fs q ≠ fs (lo + c / 2) := h5 q _ a (by omega) (by omega)
      rw [w4 164 _ (fun _ => ad_n hy (by omega) (Or.inl ne)), n3 _ y (fun q' a' b' => h5 q q' a (by omega) b') hy, w2 164 _ (fun _ => ad_n hy (by omega) (Or.inl ne))]
    · refine tm_st t3 (fun k y hk hy => ?_)
      obtain ⟨q, a, b, rfl⟩ := (s2 (by omega)).mp hk
      have ne : fs q ≠ fs (lo + c / 2) := fun e => nm q a (by omega) e.symm
      rw [w4 164 _ (fun _ => ad_n hy (by omega) (Or.inl ne))]
    · rw [w4 x j (fun hx => h hx (lo + c / 2) 3 (by omega) (by omega) (Or.inr rfl)), f3 x j (fun hx q y a b hy => h hx q y (by omega) (by omega) hy), w2 x j (fun hx => h hx (lo + c / 2) 2 (by omega) (by omega) (Or.inl rfl)), f1 x j (fun hx q y a b hy => h hx q y a (by omega) hy)]
/-- what building a whole tree's list anew makes of it -/
theorem m_make_t (hi : i < 3) {S : Tr} {I : Mm} (G : GT S) (T : TM (I 164) i S) (L : ∀ p, p < cnt S → I 176 p = iI (gs S p)) : ∃ J, fX5_make 40 (iI i) (iI 0) (iI ((cnt S : Int) - 1)) I = some (iI (rtT (bwT S)), J) ∧ TM (J 164) i (bwT S) ∧ LkF i S I J := by
  have g := G.1
  obtain ⟨J, e, t, f⟩ := m_make hi (fs := gs S) (fw := gw S) (fl := gl S) (cnt S) 0 (cnt S) 40 I (Nat.le_refl _) (by omega) (by omega) (fun j a b => by
    have tp := tm_p _ i S j T (by omega)
    exact ⟨L j (by omega), (G.2.1 j (by omega)).2.2.2, tp.1, tp.2.1⟩) (fun j k a b c => G.2.2.2 j k b (by omega))
  rw [show ((0 : Nat) : Int) + cnt S - 1 = cnt S - 1 by omega] at e
  refine ⟨J, e, t, fun x j h => f x j (fun hx q y a b hy => h hx _ y ⟨q, by omega, rfl⟩ hy)⟩
theorem m_buildPart (hi : i < 3) {t : Tr} {I : Mm} (G : GT t) (M : MR (I 164) i t) {p : Nat} (hp : p < cnt t) : ∃ J, fX5_buildPart (iI i) (iI (gs t p)) I = some ((), J) ∧ MR (J 164) i (rebT t p) ∧ J 164 5 = I 164 5 + iI (cnt (sbP t p)) ∧ (∀ a j, a ≠ 164 → a ≠ 176 → (a = 163 → j ≠ 10) → J a j = I a j) ∧ (∀ j, j ≠ 5 → (j < 7 + 122 * i ∨ 7 + 122 * i + 122 ≤ j ∨ j = 7 + 122 * i + 1) → J 164 j = I 164 j) := by
  have g := G.1
  have GS := gt_p t p G hp
  have ts := tm_sb t p M.2.1 hp
  have gp := gd_part t p hp
  have f2 : LF I (wr I 163 10 (iI 0)) := fun a j c d => by rw [wr_e, if_neg (by omega)]
  have e164 : (wr I 163 10 (iI 0)) 164 = I 164 := funext fun j => f2 164 j (by omega) (by omega)
  obtain ⟨J1, e1, l1, n1, q1, _⟩ := m_listFrom hi (sbP t p) 40 0 (wr I 163 10 (iI 0)) GS (by rw [e164]; exact ts.1) (by omega) (by rw [wr_e, if_pos ⟨rfl, rfl⟩]; rfl) (by omega)
  have l1' := lf_tr f2 l1
  have j164 : J1 164 = I 164 := funext fun j => l1' 164 j (by omega) (by omega)
  obtain ⟨J2, e2, t2, k2⟩ := m_make_t hi (I := J1) GS (by rw [j164]; exact ts.1) (fun q hq => by have := q1 q hq; rw [Nat.zero_add] at this; exact this)
  have bp := bw_pos (sbP t p)
  have sb : ∀ k, St (bwT (sbP t p)) k ↔ St (sbP t p) k := st_same bp.1 (fun q hq => (bp.2 q hq).2.2)
  have x2 : TMx (J2 164) i t p := tmx_of t p G hp M.2.1 (fun k c hk hk2 hc => by
    rw [k2 164 _ (fun _ k' c' hs hc' => ad_s2 hk2 hs hc (by omega)), j164])
  have a2 : ∀ k c, c < 2 → J2 164 (ad i k c) = I 164 (ad i k c) := fun k c hc => by
    rw [k2 164 _ (fun _ k' c' hs hc' => ad_n (by omega) (by omega) (Or.inr (by omega))), j164]
  have o2 : ∀ j, (j < 7 + 122 * i ∨ 7 + 122 * i + 122 ≤ j ∨ j = 7 + 122 * i + 1 ∨ j = 7 + 122 * i) → J2 164 j = I 164 j := fun j h => by
    rw [k2 164 _ (fun _ k' c' hs hc' => by have := @ad_in i k' c' (st_rng GS hs) (by omega); omega), j164]
  obtain ⟨J3, e3, p3, t3, r3, w3⟩ := m_replace hi G hp x2 t2 (fun k hk => st_rng GS ((sb k).mp hk)) (fun h hk => st_above G hp h ((sb _).mp hk)) (by rw [o2 _ (by omega)]; exact M.1)
  rw [← reb_rpl t p hp] at p3 t3
  have rp := reb_pos t p hp
  have w : ∀ x j, (x = 164 → j ≠ 5) → (wr J3 164 5 (J3 164 5 + J3 163 10)) x j = J3 x j := fun x j h => by rw [wr_e, if_neg (fun e => h e.1 e.2)]
  have n3 : J3 163 10 = iI (cnt (sbP t p)) := by
    rw [r3 163 10 (by omega), k2 163 10 (by omega), n1, Nat.zero_add]
  refine ⟨wr J3 164 5 (J3 164 5 + J3 163 10), ?_, ⟨by rw [w 164 _ (by omega)]; exact p3, tm_of _ t3 (fun q c hq hc => by
    rw [w 164 _ (fun _ => by unfold ad; omega)]), fun k hk h => ?_⟩, ?_, fun a j h1 h2 h3 => ?_, fun j h1 h2 => ?_⟩
  · rw [fX5_buildPart, m_above hi G M hp, bd_s, l_0, ltm_s, ← ts.2, e1, bd_s, n1, Nat.zero_add, l_1, iI_sub, e2, bd_s, ts.2, e3, bd_s, ltm_s]
  · rw [w 164 _ (fun _ => by unfold ad; omega), w3 k 0 (by omega), a2 k 0 (by omega)]
    exact M.2.2 k hk (fun q hq e => h q (by rw [rp.1]; exact hq) (by rw [(rp.2 q hq).2.2.1]; exact e))
  · rw [wr_e, if_pos ⟨rfl, rfl⟩, n3, r3 164 5 (by omega), o2 5 (by omega)]
  · rw [w a j (by omega), r3 a j (by omega), k2 a j (by omega), l1' a j h2 h3]
  · rw [w 164 j (by omega), r3 164 j (by omega), o2 j (by omega)]
theorem m_buildWhole (hi : i < 3) {t : Tr} {I : Mm} (G : GT t) (M : MR (I 164) i t) : ∃ J, fX5_buildWhole (iI i) I = some ((), J) ∧ MR (J 164) i (bwT t) ∧ J 164 (7 + 122 * i + 1) = iI (cnt t) ∧ J 164 4 = I 164 4 + 1 ∧ J 164 5 = I 164 5 + iI (cnt t) ∧ LsT J t ∧ (∀ a j, a ≠ 164 → a ≠ 176 → (a = 163 → j ≠ 10) → J a j = I a j) ∧ (∀ j, j ≠ 4 → j ≠ 5 → (j < 7 + 122 * i ∨ 7 + 122 * i + 122 ≤ j) → J 164 j = I 164 j) := by
  have g := G.1
  obtain ⟨J1, e1, l1, s1⟩ := m_listAll hi G M
  have j164 : J1 164 = I 164 := funext fun j => l1 164 j (by omega) (by omega)
  obtain ⟨J2, e2, t2, k2⟩ := m_make_t hi (I := J1) G (by rw [j164]; exact M.2.1) s1.2
  have bp := bw_pos t
  have o2 : ∀ j, (∀ k c, St t k → (c = 2 ∨ c = 3) → j ≠ ad i k c) → J2 164 j = I 164 j := fun j h => by
    rw [k2 164 _ (fun _ => h), j164]
  have n2 : J2 163 10 = iI (cnt t) := by rw [k2 163 10 (by omega)]; exact s1.1
  refine ⟨wr (wr (wr (wr J2 164 (7 + 122 * i) (iI (rtT (bwT t) + 1))) 164 (7 + 122 * i + 1) (iI (cnt t))) 164 4 (I 164 4 + 1)) 164 5 (I 164 5 + iI (cnt t)), ?_, ⟨?_, ?_, ?_⟩, ?_, ?_, ?_, ⟨?_, ?_⟩, ?_, ?_⟩
  · rw [fX5_buildWhole, e1, bd_s, s1.1, l_1, iI_sub, l_0, e2, bd_s, m_setTop hi, bd_s, m_setMost hi, bd_s, ltm_s, ltm_s]
    have q : ∀ v, (wr J2 164 (7 + 122 * i) v) 163 10 = iI (cnt t) := fun v => by rw [wr_e, if_neg (by omega)]; exact n2
    rw [q]
    congr 3
    · congr 1
      · rw [wr_e, if_neg (by omega), wr_e, if_neg (by omega), o2 4 (fun k c hs hc => by unfold ad; omega)]
    · rw [wr_e, if_neg (by omega), wr_e, if_neg (by omega), wr_e, if_neg (by omega), o2 5 (fun k c hs hc => by unfold ad; omega), wr_e, if_neg (by omega), wr_e, if_neg (by omega), wr_e, if_neg (by omega), n2]
  · rw [wr_e, if_neg (by omega), wr_e, if_neg (by omega), wr_e, if_neg (by omega), wr_e, if_pos ⟨rfl, rfl⟩]
  · refine tm_of _ t2 (fun q c hq hc => ?_)
    rw [wr_e, if_neg (by unfold ad; omega), wr_e, if_neg (by unfold ad; omega), wr_e, if_neg (by unfold ad; omega), wr_e, if_neg (by unfold ad; omega)]
  · intro k hk h
    rw [wr_e, if_neg (by unfold ad; omega), wr_e, if_neg (by unfold ad; omega), wr_e, if_neg (by unfold ad; omega), wr_e, if_neg (by unfold ad; omega), o2 _ (fun k' c' hs hc => ad_n (by omega) (by omega) (Or.inr (by omega)))]
    exact M.2.2 k hk (fun q hq e => h q (by rw [bp.1]; exact hq) (by rw [(bp.2 q hq).2.2]; exact e))
  · rw [wr_e, if_neg (by omega), wr_e, if_neg (by omega), wr_e, if_pos ⟨rfl, rfl⟩]
  · rw [wr_e, if_neg (by omega), wr_e, if_pos ⟨rfl, rfl⟩]
  · rw [wr_e, if_pos ⟨rfl, rfl⟩]
  · rw [wr_e, if_neg (by omega), wr_e, if_neg (by omega), wr_e, if_neg (by omega), wr_e, if_neg (by omega)]; exact n2
  · intro q hq
    rw [wr_e, if_neg (by omega), wr_e, if_neg (by omega), wr_e, if_neg (by omega), wr_e, if_neg (by omega), k2 176 q (by omega)]; exact s1.2 q hq
  · intro a j h1 h2 h3
    rw [wr_e, if_neg (by omega), wr_e, if_neg (by omega), wr_e, if_neg (by omega), wr_e, if_neg (by omega), k2 a j (by omega), l1 a j h2 h3]
  · intro j h1 h2 h3
    rw [wr_e, if_neg (by omega), wr_e, if_neg (by omega), wr_e, if_neg (by omega), wr_e, if_neg (by omega), o2 j (fun k c hs hc => by have := @ad_in i k c (st_rng G hs) (by omega); omega)]
theorem st_del {t : Tr} {p : Nat} (G : GT t) (hp : p < cnt t) (k : Nat) : St (delT t p) k ↔ St t k ∧ k ≠ gs t p := by
  have d := del_pos t p hp
  constructor
  · rintro ⟨q, hq, e⟩
    rw [(d.2 q (by omega)).2.2.1] at e
    refine ⟨⟨_, by split <;> omega, e⟩, fun h => ?_⟩
    rw [h] at e
    by_cases c : q < p
    · rw [if_pos c] at e; exact G.2.2.2 q p c hp e
    · rw [if_neg c] at e; exact G.2.2.2 p (q + 1) (by omega) (by omega) e.symm
  · rintro ⟨⟨q, hq, e⟩, h⟩
    by_cases c : q < p
    · exact ⟨q, by omega, by rw [(d.2 q (by omega)).2.2.1, if_pos c, e]⟩
    · have : q ≠ p := fun x => h (by rw [← e, x])
      exact ⟨q - 1, by omega, by rw [(d.2 (q - 1) (by omega)).2.2.1, if_neg (by omega), show q - 1 + 1 = q by omega, e]⟩
/-- one that has no more than one side, taken out -/
theorem m_unhang (hi : i < 3) {t : Tr} {I : Mm} (G : GT t) (M : MR (I 164) i t) {p : Nat} (hp : p < cnt t) {l r : Tr} (hs : sbP t p = .inner (gs t p) (gw t p) (gl t p) l r) (h1 : cnt l = 0 ∨ cnt r = 0) : ∃ J, fX5_unhang (iI i) (iI (gs t p)) I = some ((), J) ∧ J 164 (7 + 122 * i) = iI (rtT (delT t p) + 1) ∧ TM (J 164) i (delT t p) ∧ RO i I J ∧ W0 i I J := by
  have g := G.1
  have gp := G.2.1 p hp
  have GS := gt_p t p G hp
  rw [hs] at GS
  obtain ⟨_, _, l', r', e3, _, _, h6, h7, h8, h9⟩ := tm_p _ i t p M.2.1 hp
  rw [hs] at e3
  have hl : l' = l ∧ r' = r := by cases e3; exact ⟨rfl, rfl⟩
  obtain ⟨rfl, rfl⟩ := hl
  have rl := rt_rng (gt_l GS)
  have rr := rt_rng (gt_r GS)
  have su : ∀ u, (u = l' ∨ u = r') → ∀ k, St u k → St (sbP t p) k := fun u hu k hk => by
    rw [hs, st_i]
    rcases hu with rfl | rfl
    · exact Or.inr (Or.inl hk)
    · exact Or.inr (Or.inr hk)
  have go : ∀ u, (u = l' ∨ u = r') → TM (I 164) i u → ∃ J, fX5_replace (iI i) (iI (paS t p (-1))) (iI (gs t p)) (iI (rtT u)) I = some ((), J) ∧ J 164 (7 + 122 * i) = iI (rtT (rplT t p u) + 1) ∧ TM (J 164) i (rplT t p u) ∧ RO i I J ∧ W0 i I J := fun u hu hT =>
    m_replace hi G hp (tmx_of t p G hp M.2.1 (fun _ _ _ _ _ => rfl)) hT (fun k hk => st_rng G (st_p t p k hp (su u hu k hk))) (fun h hk => st_above G hp h (su u hu _ hk)) M.1
  have dr := del_rpl t p hp hs
  rw [fX5_unhang, l_2, l_3, m_of2 hi gp.2.2.2, bd_s, h6, sub1, m_of2 hi gp.2.2.2, m_of3 hi gp.2.2.2, bd_s, bd_s, h6, h7, sub1, sub1, m_above hi G M hp, bd_s, bd_s, l_0]
  by_cases c : cnt l' = 0
  · have : l' = .leaf := by
      cases l' with
      | leaf => rfl
      | inner _ _ _ _ _ => rw [cnt_i] at c; omega
    have e : rtT l' < 0 := by rw [this, rtT]; omega
    obtain ⟨J, a1, a2⟩ := go r' (Or.inr rfl) h9
    rw [if_pos (by rw [iI_lt (by omega) (by omega) (by omega) (by omega)]; exact e), a1, bd_s]
    rw [jnT, if_pos c] at dr
    rw [dr]
    exact ⟨J, rfl, a2⟩
  · have e : ¬ rtT l' < 0 := fun q => c (by rw [rt_leaf q]; rfl)
    obtain ⟨J, a1, a2⟩ := go l' (Or.inl rfl) h8
    rw [if_neg (by rw [iI_lt (by omega) (by omega) (by omega) (by omega)]; exact e), a1, bd_s]
    rw [jnT, if_neg c, if_pos (by omega)] at dr
    rw [dr]
    exact ⟨J, rfl, a2⟩
end MB
