/-! ===== the reference's rick that holds a tree ===== -/
def rtT : Tr → Int
  | .leaf => -1
  | .inner s _ _ _ _ => s
def ad (i k c : Nat) : Nat := 7 + 122 * i + 2 + 4 * k + c
def TM (f : Nat → Int32) (i : Nat) : Tr → Prop
  | .leaf => True
  | .inner s w ld l r => f (ad i s 0) = iI ((w : Int) + 1) ∧ f (ad i s 1) = iI ld ∧ f (ad i s 2) = iI (rtT l + 1) ∧ f (ad i s 3) = iI (rtT r + 1) ∧ TM f i l ∧ TM f i r
def MR (f : Nat → Int32) (i : Nat) (t : Tr) : Prop := f (7 + 122 * i) = iI (rtT t + 1) ∧ TM f i t ∧ ∀ k, k < 30 → (∀ p, p < cnt t → gs t p ≠ k) → f (ad i k 0) = iI 0
theorem rt_rng {t : Tr} (G : GT t) : -1 ≤ rtT t ∧ rtT t < 30 := by
  cases t with
  | leaf => rw [rtT]; omega
  | inner s w ld l r => have := (gt_m G).2.2.2.1; rw [rtT]; omega
theorem rt_leaf {t : Tr} (h : rtT t < 0) : t = .leaf := by
  cases t with
  | leaf => rfl
  | inner s w ld l r => rw [rtT] at h; omega
theorem tm_p (f : Nat → Int32) (i : Nat) : ∀ (t : Tr) (p : Nat), TM f i t → p < cnt t → f (ad i (gs t p) 0) = iI ((gw t p : Int) + 1) ∧ f (ad i (gs t p) 1) = iI (gl t p) ∧ ∃ l r, sbP t p = .inner (gs t p) (gw t p) (gl t p) l r ∧ foP t p + cnt l = p ∧ p + cnt r = loP t p ∧ f (ad i (gs t p) 2) = iI (rtT l + 1) ∧ f (ad i (gs t p) 3) = iI (rtT r + 1) ∧ TM f i l ∧ TM f i r
  | .leaf, p, M, h => by simp [cnt] at h
  | .inner s w ld l r, p, M, h => by
    rcases pl_3 h with c | c | ⟨k, c, rfl⟩
    · have e := @gi_l s w ld l r p c
      rw [e.1, e.2.1, e.2.2.1, e.2.2.2.2.1, e.2.2.2.2.2.1, e.2.2.2.2.2.2]
      exact tm_p f i l p M.2.2.2.2.1 c
    · have e := @gi_m s w ld l r
      rw [c, e.1, e.2.1, e.2.2.1, e.2.2.2.2.1, e.2.2.2.2.2.1, e.2.2.2.2.2.2]
      exact ⟨M.1, M.2.1, l, r, rfl, by omega, rfl, M.2.2.1, M.2.2.2.1, M.2.2.2.2.1, M.2.2.2.2.2⟩
    · have e := @gi_r s w ld l r k
      rw [e.1, e.2.1, e.2.2.1, e.2.2.2.2.1, e.2.2.2.2.2.1, e.2.2.2.2.2.2]
      obtain ⟨h1, h2, a, b, h3, h4, h5, h6⟩ := tm_p f i r k M.2.2.2.2.2 c
      exact ⟨h1, h2, a, b, h3, by omega, by omega, h6⟩
/-- a tree is told by its stalls' cells -/
theorem tm_of {f g : Nat → Int32} {i : Nat} : ∀ (t : Tr), TM f i t → (∀ p c, p < cnt t → c < 4 → g (ad i (gs t p) c) = f (ad i (gs t p) c)) → TM g i t
  | .leaf, _, _ => trivial
  | .inner s w ld l r, M, h => by
    have hm : ∀ c, c < 4 → g (ad i s c) = f (ad i s c) := fun c hc => by
      have := h (cnt l) c (by rw [cnt_i]; omega) hc
      rw [(@gi_m s w ld l r).2.2.1] at this
      exact this
    refine ⟨by rw [hm 0 (by omega)]; exact M.1, by rw [hm 1 (by omega)]; exact M.2.1, by rw [hm 2 (by omega)]; exact M.2.2.1, by rw [hm 3 (by omega)]; exact M.2.2.2.1, tm_of l M.2.2.2.2.1 (fun p c hp hc => ?_), tm_of r M.2.2.2.2.2 (fun p c hp hc => ?_)⟩
    · have := h p c (by rw [cnt_i]; omega) hc
      rw [(@gi_l s w ld l r p hp).2.2.1] at this
      exact this
    · have := h (cnt l + 1 + p) c (by rw [cnt_i]; omega) hc
      rw [(@gi_r s w ld l r p).2.2.1] at this
      exact this
theorem tm_sb {f : Nat → Int32} {i : Nat} : ∀ (t : Tr) (p : Nat), TM f i t → p < cnt t → TM f i (sbP t p) ∧ rtT (sbP t p) = gs t p := fun t p M h => by
  obtain ⟨h1, h2, l, r, h3, h4, h5, h6, h7, h8, h9⟩ := tm_p f i t p M h
  rw [h3]
  exact ⟨⟨h1, h2, h6, h7, h8, h9⟩, rfl⟩
section MRd
variable {I : Mm} {i : Nat}
theorem ad_0 (hi : i < 3) {k : Int} (h1 : 0 ≤ k) (h2 : k < 30) {c : Int} (h3 : 0 ≤ c) (h4 : c < 4) : (7 + 122 * iI i + 2 + 4 * iI k + iI c) = iI (ad i k.toNat c.toNat) := by
  rw [l_7, l_122, l_2, l_4, iI_mul, iI_mul, iI_add, iI_add, iI_add, iI_add]
  congr 1
  unfold ad
  omega
theorem m_of0 (hi : i < 3) {k : Nat} (h : k < 30) : fX5_of (iI i) (iI k) (iI 0) I = some (I 164 (ad i k 0) - iI 1, I) := by
  have e := @ad_0 i hi k (by omega) (by omega) 0 (by omega) (by omega)
  rw [tn_n, show Int.toNat 0 = 0 from rfl] at e
  have a : ad i k 0 < 373 := by unfold ad; omega
  unfold fX5_of
  rw [e]
  simp (disch := omega) only [l_0, l_1, iI_lt, iI_cl, if_neg, tn_n, iI_eq]
theorem m_of1 (hi : i < 3) {k : Nat} (h : k < 30) : fX5_of (iI i) (iI k) (iI 1) I = some (I 164 (ad i k 1), I) := by
  have e := @ad_0 i hi k (by omega) (by omega) 1 (by omega) (by omega)
  rw [tn_n, show Int.toNat 1 = 1 from rfl] at e
  have a : ad i k 1 < 373 := by unfold ad; omega
  unfold fX5_of
  rw [e]
  simp (disch := omega) only [l_0, l_1, iI_lt, iI_cl, if_neg, tn_n, iI_eq, if_pos]
  rw [show (iI 0 : Int32) = 0 from rfl, Int32.sub_zero]
  rfl
theorem m_of2 (hi : i < 3) {k : Nat} (h : k < 30) : fX5_of (iI i) (iI k) (iI 2) I = some (I 164 (ad i k 2) - iI 1, I) := by
  have e := @ad_0 i hi k (by omega) (by omega) 2 (by omega) (by omega)
  rw [tn_n, show Int.toNat 2 = 2 from rfl] at e
  have a : ad i k 2 < 373 := by unfold ad; omega
  unfold fX5_of
  rw [e]
  simp (disch := omega) only [l_0, l_1, iI_lt, iI_cl, if_neg, tn_n, iI_eq]
theorem m_of3 (hi : i < 3) {k : Nat} (h : k < 30) : fX5_of (iI i) (iI k) (iI 3) I = some (I 164 (ad i k 3) - iI 1, I) := by
  have e := @ad_0 i hi k (by omega) (by omega) 3 (by omega) (by omega)
  rw [tn_n, show Int.toNat 3 = 3 from rfl] at e
  have a : ad i k 3 < 373 := by unfold ad; omega
  unfold fX5_of
  rw [e]
  simp (disch := omega) only [l_0, l_1, iI_lt, iI_cl, if_neg, tn_n, iI_eq]
theorem sub1 (z : Int) : iI (z + 1) - iI 1 = iI z := by rw [iI_sub]; congr 1; omega
theorem m_top (hi : i < 3) {t : Tr} (h : I 164 (7 + 122 * i) = iI (rtT t + 1)) : fX5_top (iI i) I = some (iI (rtT t), I) := by
  unfold fX5_top
  have e : (7 + 122 * iI i : Int32) = iI ((7 + 122 * i : Nat) : Int) := by
    rw [l_7, l_122, iI_mul, iI_add]; congr 1
  rw [e]
  simp (disch := omega) only [l_0, l_1, iI_lt, iI_cl, if_neg, tn_n, h, sub1]
theorem m_size (hi : i < 3) : ∀ (s : Tr) (m : Nat), GT s → TM (I 164) i s → cnt s < m → fX5_size m (iI i) (iI (rtT s)) I = some (iI (cnt s), I)
  | .leaf, m, G, M, hm => by
    obtain ⟨m, rfl⟩ : ∃ x, m = x + 1 := ⟨m - 1, by omega⟩
    rw [fX5_size, rtT]
    simp (disch := omega) only [l_0, iI_le, if_neg]
    rfl
  | .inner s w ld l r, m, G, M, hm => by
    have gm := gt_m G
    have r1 := rt_rng (gt_l G)
    have r2 := rt_rng (gt_r G)
    rw [cnt_i] at hm
    obtain ⟨m, rfl⟩ : ∃ x, m = x + 1 := ⟨m - 1, by omega⟩
    have e1 := m_size hi l m (gt_l G) M.2.2.2.2.1 (by omega)
    have e2 := m_size hi r m (gt_r G) M.2.2.2.2.2 (by omega)
    rw [fX5_size, rtT, l_2, l_3]
    simp (disch := omega) only [l_0, l_1, iI_le, if_pos, m_of2 hi, m_of3 hi, bd_s, M.2.2.1, M.2.2.2.1, sub1, e1, e2, iI_add]
    rw [cnt_i]
    congr 3; omega
/-- the loads of a tree -/
def ldS : Tr → Int
  | .leaf => 0
  | .inner _ _ ld l r => ld + ldS l + ldS r
theorem sm_add (f : Nat → Int) : ∀ (n m : Nat), sm f (n + m) = sm f n + sm (fun j => f (n + j)) m
  | n, 0 => by simp [sm]
  | n, m + 1 => by rw [← Nat.add_assoc, sm, sm_add f n m, sm]; omega
theorem ld_is : ∀ (t : Tr), ldS t = sL t (cnt t)
  | .leaf => rfl
  | .inner s w ld l r => by
    rw [ldS, ld_is l, ld_is r, cnt_i, show sL (.inner s w ld l r) (cnt l + 1 + cnt r) = sm (fun i => (gl (.inner s w ld l r) i : Int)) (cnt l + 1 + cnt r) from rfl, sm_add, sm, (@gi_m s w ld l r).2.1]
    have a : sm (fun i => (gl (.inner s w ld l r) i : Int)) (cnt l) = sL l (cnt l) := sm_congr _ (fun j hj => by rw [(@gi_l s w ld l r j hj).2.1])
    have b : sm (fun j => (gl (.inner s w ld l r) (cnt l + 1 + j) : Int)) (cnt r) = sL r (cnt r) := sm_congr _ (fun j hj => by rw [(@gi_r s w ld l r j).2.1])
    rw [a, b]; omega
theorem m_loads (hi : i < 3) : ∀ (s : Tr) (m : Nat), GT s → TM (I 164) i s → cnt s < m → fX5_loads m (iI i) (iI (rtT s)) I = some (iI (ldS s), I)
  | .leaf, m, G, M, hm => by
    obtain ⟨m, rfl⟩ : ∃ x, m = x + 1 := ⟨m - 1, by omega⟩
    rw [fX5_loads, rtT]
    simp (disch := omega) only [l_0, iI_le, if_neg]
    rfl
  | .inner s w ld l r, m, G, M, hm => by
    have gm := gt_m G
    have r1 := rt_rng (gt_l G)
    have r2 := rt_rng (gt_r G)
    rw [cnt_i] at hm
    obtain ⟨m, rfl⟩ : ∃ x, m = x + 1 := ⟨m - 1, by omega⟩
    have e1 := m_loads hi l m (gt_l G) M.2.2.2.2.1 (by omega)
    have e2 := m_loads hi r m (gt_r G) M.2.2.2.2.2 (by omega)
    rw [fX5_loads, rtT, l_2, l_3, l_1]
    simp (disch := omega) only [l_0, iI_le, if_pos, m_of1 hi, m_of2 hi, m_of3 hi, bd_s, M.2.1, M.2.2.1, M.2.2.2.1, sub1, e1, e2, iI_add]
    rfl
/-- the stall of a weight, -1 if it isn't there -/
def fdS (t : Tr) (x : Int) : Int := if fdP t x = -1 then -1 else gs t (fdP t x).toNat
theorem fd_l {s w ld : Nat} {l r : Tr} {x : Int} (G : GT (.inner s w ld l r)) (h : x < w) : fdS (.inner s w ld l r) x = fdS l x := by
  have k := rk_le x l
  have q : rkQ x (.inner s w ld l r) = rkQ x l := by rw [rkQ, if_neg (by omega)]
  have gm := gt_m G
  by_cases c : rkQ x l < cnt l
  · have e := @gi_l s w ld l r _ c
    unfold fdS fdP
    rw [q, cnt_i, e.1]
    by_cases d : (gw l (rkQ x l) : Int) = x
    · simp (disch := omega) only [if_pos, if_neg, tn_n]
      rw [e.2.2.1]
    · simp (disch := omega) only [if_neg, if_true]
  · have e := @gi_m s w ld l r
    unfold fdS fdP
    rw [q, show rkQ x l = cnt l by omega, e.1]
    simp (disch := omega) only [if_neg, if_true]
theorem fd_r {s w ld : Nat} {l r : Tr} {x : Int} (G : GT (.inner s w ld l r)) (h : w < x) : fdS (.inner s w ld l r) x = fdS r x := by
  have k := rk_le x r
  have q : rkQ x (.inner s w ld l r) = cnt l + 1 + rkQ x r := by rw [rkQ, if_pos (by omega)]
  have e := @gi_r s w ld l r (rkQ x r)
  unfold fdS fdP
  rw [q, cnt_i, e.1]
  by_cases d : rkQ x r < cnt r ∧ (gw r (rkQ x r) : Int) = x
  · simp (disch := omega) only [if_pos, if_neg, tn_n]
    rw [e.2.2.1]
  · simp (disch := omega) only [if_neg, if_true]
theorem fd_m {s w ld : Nat} {l r : Tr} (G : GT (.inner s w ld l r)) : fdS (.inner s w ld l r) w = s := by
  unfold fdS
  have e := @gi_m s w ld l r
  have h := fd_at G (p := cnt l) (by rw [cnt_i]; omega)
  rw [e.1] at h
  rw [h, if_neg (by omega), tn_n, e.2.2.1]
theorem m_find_p (hi : i < 3) {x : Int} (h1 : -2147483648 ≤ x) (h2 : x < 2147483648) : ∀ (s : Tr) (m : Nat), GT s → TM (I 164) i s → cnt s < m → fX5_find_p6 m (iI i) (iI x) (iI (rtT s)) I = some (iI (fdS s x), I)
  | .leaf, m, G, M, hm => by
    obtain ⟨m, rfl⟩ : ∃ x, m = x + 1 := ⟨m - 1, by omega⟩
    rw [fX5_find_p6, rtT]
    simp (disch := omega) only [l_0, iI_lt, if_pos]
    rfl
  | .inner s w ld l r, m, G, M, hm => by
    have gm := gt_m G
    have r1 := rt_rng (gt_l G)
    have r2 := rt_rng (gt_r G)
    rw [cnt_i] at hm
    obtain ⟨m, rfl⟩ : ∃ x, m = x + 1 := ⟨m - 1, by omega⟩
    rw [fX5_find_p6, rtT, l_3, l_2]
    simp (disch := omega) only [l_0, iI_lt, if_neg, m_of0 hi, m_of2 hi, m_of3 hi, bd_s, M.1, M.2.2.1, M.2.2.2.1, sub1, iI_eq, iI_le]
    by_cases c : (w : Int) = x
    · rw [if_pos c, ← c, fd_m G]
    · rw [if_neg c]
      by_cases d : (w : Int) ≤ x
      · rw [if_pos d, fd_r G (by omega)]
        exact m_find_p hi h1 h2 r m (gt_r G) M.2.2.2.2.2 (by omega)
      · rw [if_neg d, fd_l G (by omega)]
        exact m_find_p hi h1 h2 l m (gt_l G) M.2.2.2.2.1 (by omega)
theorem m_find (hi : i < 3) {t : Tr} (G : GT t) (M : MR (I 164) i t) {x : Int} (h1 : -2147483648 ≤ x) (h2 : x < 2147483648) : fX5_find (iI i) (iI x) I = some (iI (fdS t x), I) := by
  have g := G.1
  rw [fX5_find, m_top hi M.1, bd_s]
  exact m_find_p hi h1 h2 t 1000 G M.2.1 (by omega)
theorem m_count (hi : i < 3) {t : Tr} (G : GT t) (M : MR (I 164) i t) : fX5_count (iI i) I = some (iI (cnt t), I) := by
  have g := G.1
  rw [fX5_count, m_top hi M.1, bd_s, m_size hi t 40 G M.2.1 (by omega), bd_s]
/-- the stall above a place, `e` if there is none -/
def paS (t : Tr) (p : Nat) (e : Int) : Int := if paP t p = -1 then e else gs t (paP t p).toNat
theorem m_above_p (hi : i < 3) {k w0 : Nat} (hk : k < 30) (hw : w0 < 1000) (hW : I 164 (ad i k 0) = iI ((w0 : Int) + 1)) : ∀ (s : Tr) (q m : Nat) (e : Int), GT s → TM (I 164) i s → q < cnt s → gs s q = k → gw s q = w0 → cnt s < m → fX5_above_p9 m (iI i) (iI k) (iI (rtT s)) (iI e) I = some (iI (paS s q e), I)
  | .leaf, q, m, e, G, M, hq, h1, h2, hm => by simp [cnt] at hq
  | .inner s w ld l r, q, m, e, G, M, hq, h1, h2, hm => by
    have gm := gt_m G
    have r1 := rt_rng (gt_l G)
    have r2 := rt_rng (gt_r G)
    obtain ⟨m, rfl⟩ : ∃ x, m = x + 1 := ⟨m - 1, by omega⟩
    have hm' := hm
    rw [cnt_i] at hm'
    rw [fX5_above_p9, rtT, l_3, l_2]
    rcases pl_3 hq with c | c | ⟨x, c, rfl⟩
    · have f := @gi_l s w ld l r q c
      rw [f.1] at h2
      rw [f.2.2.1] at h1
      have o := gm.2.2.2.2.1 q c
      have ih := m_above_p hi hk hw hW l q m s (gt_l G) M.2.2.2.2.1 c h1 h2 (by omega)
      simp (disch := omega) only [l_0, iI_eq, if_neg, m_of0 hi, m_of2 hi, m_of3 hi, hW, bd_s, M.1, M.2.2.1, M.2.2.2.1, sub1, iI_le, ih]
      unfold paS
      rw [pa_l c]
      have pr := pa_rng l q c
      by_cases d : paP l q = -1
      · rw [if_pos d, if_pos d, if_neg (by omega), tn_n, (@gi_m s w ld l r).2.2.1]
      · rw [if_neg d, if_neg d, if_neg d, (@gi_l s w ld l r (paP l q).toNat (by omega)).2.2.1]
    · subst c
      have f := @gi_m s w ld l r
      rw [f.2.2.1] at h1
      simp (disch := omega) only [iI_eq, if_pos]
      unfold paS
      rw [pa_m, if_pos rfl]
    · have f := @gi_r s w ld l r x
      rw [f.1] at h2
      rw [f.2.2.1] at h1
      have o := gm.2.2.2.2.2.1 x c
      have ih := m_above_p hi hk hw hW r x m s (gt_r G) M.2.2.2.2.2 c h1 h2 (by omega)
      simp (disch := omega) only [l_0, iI_eq, if_neg, if_pos, m_of0 hi, m_of2 hi, m_of3 hi, hW, bd_s, M.1, M.2.2.1, M.2.2.2.1, sub1, iI_le, ih]
      unfold paS
      rw [pa_r]
      have pr := pa_rng r x c
      by_cases d : paP r x = -1
      · rw [if_pos d, if_pos d, if_neg (by omega), tn_n, (@gi_m s w ld l r).2.2.1]
      · rw [if_neg d, if_neg d, if_neg (by omega), show ((cnt l : Int) + 1 + paP r x).toNat = cnt l + 1 + (paP r x).toNat by omega, (@gi_r s w ld l r (paP r x).toNat).2.2.1]
theorem m_above (hi : i < 3) {t : Tr} (G : GT t) (M : MR (I 164) i t) {p : Nat} (hp : p < cnt t) : fX5_above (iI i) (iI (gs t p)) I = some (iI (paS t p (-1)), I) := by
  have g := G.1
  have gp := G.2.1 p hp
  have tp := tm_p _ i t p M.2.1 hp
  rw [fX5_above, m_top hi M.1, bd_s]
  exact m_above_p hi gp.2.2.2 gp.1 tp.1 t p 1000 (-1) G M.2.1 hp rfl rfl (by omega)
theorem m_depth (hi : i < 3) {t : Tr} (G : GT t) (M : MR (I 164) i t) {p : Nat} (hp : p < cnt t) : fX5_depth (iI i) (iI (gs t p)) I = some (iI (gd t p), I) := by
  have g := G.1
  have key : ∀ (k p m : Nat) (a : Int), p < cnt t → gd t p = k → k + 2 < m → fX5_depth_p10 m (iI i) (iI a) (iI (paS t p (-1))) I = some (iI (a + gd t p), I) := by
    intro k
    induction k with
    | zero =>
      intro p m a hp hd hm
      obtain ⟨m, rfl⟩ : ∃ x, m = x + 1 := ⟨m - 1, by omega⟩
      rcases pa_is t p hp with ⟨a1, a2, a3, a4⟩ | ⟨a1, a2, a3, a4⟩ | ⟨a1, a2, a3, a4⟩
      · rw [fX5_depth_p10, paS, if_pos a1]
        simp (disch := omega) only [l_0, iI_lt, if_pos]
        rw [hd]; simp
      · omega
      · omega
    | succ k ih =>
      intro p m a hp hd hm
      obtain ⟨m, rfl⟩ : ∃ x, m = x + 1 := ⟨m - 1, by omega⟩
      have c : paP t p ≠ -1 := fun c => by
        rcases pa_is t p hp with ⟨a1, a2, a3, a4⟩ | ⟨a1, a2, a3, a4⟩ | ⟨a1, a2, a3, a4⟩ <;> omega
      have pr := pa_rng t p hp
      have pd := pa_d hp c
      have gp := G.2.1 (paP t p).toNat (by omega)
      have i1 := ih (paP t p).toNat m (a + 1) (by omega) (by omega) (by omega)
      rw [fX5_depth_p10, show paS t p (-1) = gs t (paP t p).toNat by rw [paS, if_neg c]]
      simp (disch := omega) only [l_0, l_1, iI_lt, if_neg, iI_add, ltm_s, m_above hi G M, bd_s, i1]
      congr 3; omega
  rw [fX5_depth, m_above hi G M hp, bd_s]
  have dp := gd_lt t p hp
  have e := key (gd t p) p 1000 0 hp rfl (by omega)
  rw [Int.zero_add] at e
  exact e
theorem m_leans (hi : i < 3) {t : Tr} (G : GT t) (M : MR (I 164) i t) {p : Nat} (hp : p < cnt t) {lim : Int} (hl : 55 ≤ lim ∧ lim ≤ 90) (hL : I 164 0 = iI lim) : fX5_leans (iI i) (iI (gs t p)) I = some (iI (if lnB lim (sbP t p) = true then 1 else 0), I) := by
  have g := G.1
  have gp := G.2.1 p hp
  obtain ⟨h1, h2, l, r, h3, h4, h5, h6, h7, h8, h9⟩ := tm_p _ i t p M.2.1 hp
  have GS := gt_p t p G hp
  rw [h3] at GS
  have c1 := GS.1
  rw [cnt_i] at c1
  rw [fX5_leans, h3, l_2, l_3]
  simp (disch := omega) only [m_of2 hi, m_of3 hi, bd_s, h6, h7, sub1, m_size hi l 40 (gt_l GS) h8, m_size hi r 40 (gt_r GS) h9, l_1, l_0, l_100, iI_add, iI_mul, ltm_s, hL, lnB, decide_eq_true_eq]
  rw [show (cnt l : Int) + cnt r + 1 = ((cnt l + 1 + cnt r : Nat) : Int) by omega]
  have m0 : lim * ((cnt l + 1 + cnt r : Nat) : Int) ≤ 90 * ((cnt l + 1 + cnt r : Nat) : Int) := Int.mul_le_mul_of_nonneg_right hl.2 (by omega)
  have m1 : 0 ≤ lim * ((cnt l + 1 + cnt r : Nat) : Int) := Int.mul_nonneg (by omega) (by omega)
  simp (disch := omega) only [iI_le, iI_lt]
  by_cases d1 : lim * ((cnt l + 1 + cnt r : Nat) : Int) < 100 * (cnt l : Int)
  · rw [if_pos d1, if_pos (by omega)]
  · rw [if_neg d1]
    by_cases d2 : 100 * (cnt r : Int) ≤ lim * ((cnt l + 1 + cnt r : Nat) : Int)
    · rw [if_pos d2, if_neg (by omega)]
    · rw [if_neg d2, if_pos (by omega)]
/-- nothing but the list has changed -/
def LF (I J : Mm) : Prop := ∀ a j, a ≠ 176 → (a = 163 → j ≠ 10) → J a j = I a j
theorem lf_rfl (I : Mm) : LF I I := fun _ _ _ _ => rfl
theorem lf_tr {I J K : Mm} (h : LF I J) (h2 : LF J K) : LF I K := fun a j c d => (h2 a j c d).trans (h a j c d)
theorem m_listFrom (hi : i < 3) : ∀ (s : Tr) (m n0 : Nat) (I : Mm), GT s → TM (I 164) i s → cnt s < m → I 163 10 = iI n0 → n0 + cnt s ≤ 90 → ∃ J, fX5_listFrom m (iI i) (iI (rtT s)) I = some ((), J) ∧ LF I J ∧ J 163 10 = iI ((n0 + cnt s : Nat) : Int) ∧ (∀ q, q < cnt s → J 176 (n0 + q) = iI (gs s q)) ∧ (∀ q, q < n0 → J 176 q = I 176 q)
  | .leaf, m, n0, I, G, M, hm, h1, h2 => by
    obtain ⟨m, rfl⟩ : ∃ x, m = x + 1 := ⟨m - 1, by omega⟩
    rw [fX5_listFrom, rtT]
    simp (disch := omega) only [l_0, iI_lt, if_pos]
    exact ⟨I, rfl, lf_rfl I, h1, fun q h => by simp [cnt] at h, fun q _ => rfl⟩
  | .inner s w ld l r, m, n0, I, G, M, hm, h1, h2 => by
    have gm := gt_m G
    have r1 := rt_rng (gt_l G)
    have r2 := rt_rng (gt_r G)
    rw [cnt_i] at hm h2
    obtain ⟨m, rfl⟩ : ∃ x, m = x + 1 := ⟨m - 1, by omega⟩
    obtain ⟨J, e, f, k1, k2, k3⟩ := m_listFrom hi l m n0 I (gt_l G) M.2.2.2.2.1 (by omega) h1 (by omega)
    have f2 : LF I (wr (wr J 176 (n0 + cnt l) (iI s)) 163 10 (iI ((n0 + cnt l + 1 : Nat) : Int))) := fun a j c d => by
      rw [wr_e, if_neg (by omega), wr_e, if_neg (by omega)]; exact f a j c d
    have e164 : (wr (wr J 176 (n0 + cnt l) (iI s)) 163 10 (iI ((n0 + cnt l + 1 : Nat) : Int))) 164 = I 164 := funext fun j => f2 164 j (by omega) (by omega)
    obtain ⟨K, e', f', k1', k2', k3'⟩ := m_listFrom hi r m (n0 + cnt l + 1) (wr (wr J 176 (n0 + cnt l) (iI s)) 163 10 (iI ((n0 + cnt l + 1 : Nat) : Int))) (gt_r G) (by rw [e164]; exact M.2.2.2.2.2) (by omega) (by rw [wr_e, if_pos ⟨rfl, rfl⟩]) (by omega)
    have o3 : fX5_of (iI i) (iI s) (iI 3) (wr (wr J 176 (n0 + cnt l) (iI s)) 163 10 (iI ((n0 + cnt l + 1 : Nat) : Int))) = some (iI (rtT r), wr (wr J 176 (n0 + cnt l) (iI s)) 163 10 (iI ((n0 + cnt l + 1 : Nat) : Int))) := by
      rw [m_of3 hi gm.2.2.2.1, e164, M.2.2.2.1, sub1]
    refine ⟨K, ?_, lf_tr f2 f', ?_, fun q hq => ?_, fun q hq => ?_⟩
    · rw [fX5_listFrom, rtT, l_2, l_3]
      simp (disch := omega) only [l_0, iI_lt, if_neg, m_of2 hi, bd_s, M.2.2.1, sub1, e, k1, iI_cl, tn_n, ltm_s]
      rw [show (wr J 176 (n0 + cnt l) (iI (s : Int))) 163 10 = iI ((n0 + cnt l : Nat) : Int) by rw [wr_e, if_neg (by omega)]; exact k1, l_1, iI_add, show ((n0 + cnt l : Nat) : Int) + 1 = ((n0 + cnt l + 1 : Nat) : Int) by omega, o3, bd_s, e', bd_s]
    · rw [k1', cnt_i]; congr 1; omega
    · rcases pl_3 hq with c | c | ⟨x, c, rfl⟩
      · rw [(@gi_l s w ld l r q c).2.2.1, k3' (n0 + q) (by omega), wr_e, if_neg (by omega), wr_e, if_neg (by omega)]
        exact k2 q c
      · rw [c, (@gi_m s w ld l r).2.2.1, k3' (n0 + cnt l) (by omega), wr_e, if_neg (by omega), wr_e, if_pos ⟨rfl, rfl⟩]
      · rw [(@gi_r s w ld l r x).2.2.1, ← k2' x c]
        congr 1; omega
    · rw [k3' q (by omega), wr_e, if_neg (by omega), wr_e, if_neg (by omega)]
      exact k3 q hq
/-- the list holds a tree's stalls -/
def LsT (J : Mm) (t : Tr) : Prop := J 163 10 = iI (cnt t) ∧ ∀ p, p < cnt t → J 176 p = iI (gs t p)
theorem m_listAll (hi : i < 3) {t : Tr} (G : GT t) (M : MR (I 164) i t) : ∃ J, fX5_listAll (iI i) I = some ((), J) ∧ LF I J ∧ LsT J t := by
  have g := G.1
  have f2 : LF I (wr I 163 10 (iI 0)) := fun a j c d => by rw [wr_e, if_neg (by omega)]
  have e164 : (wr I 163 10 (iI 0)) 164 = I 164 := funext fun j => f2 164 j (by omega) (by omega)
  obtain ⟨J, e, f, k1, k2, k3⟩ := m_listFrom hi t 40 0 (wr I 163 10 (iI 0)) G (by rw [e164]; exact M.2.1) (by omega) (by rw [wr_e, if_pos ⟨rfl, rfl⟩]; rfl) (by omega)
  refine ⟨J, ?_, lf_tr f2 f, by rw [k1, Nat.zero_add], fun p hp => by have := k2 p hp; rw [Nat.zero_add] at this; exact this⟩
  rw [fX5_listAll, l_0, ltm_s, m_top (t := t) hi (by rw [e164]; exact M.1), bd_s, e, bd_s]
end MRd
