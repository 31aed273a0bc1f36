/-! ===== the line ===== -/
abbrev Ls : Type := Nat × (Nat → Int32)
def adL (s : Ls) (c : Int32) : Ls := if s.1 < 60 then (s.1 + 1, up s.2 s.1 c) else s
def nuT (s : Ls) (w : Nat) : Ls := adL (if w < 10 then s else adL s (iI ((48 + w / 10 % 10 : Nat) : Int))) (iI ((48 + w % 10 : Nat) : Int))
def nuL (s : Ls) (w : Nat) : Ls := nuT (if w < 100 then s else adL s (iI ((48 + w / 100 % 10 : Nat) : Int))) w
def wsL (lim : Int) : Tr → Ls → Ls
  | .leaf, s => s
  | .inner k w ld l r, s => adL (wsL lim r (if lnB lim (.inner k w ld l r) = true then adL (nuL (wsL lim l (adL s 40)) w) 33 else nuL (wsL lim l (adL s 40)) w)) 41
def Lp (J : Mm) (a q b : Nat) (s : Ls) : Prop := J a q = iI s.1 ∧ s.1 ≤ 60 ∧ ∀ k, k < s.1 → J b k = s.2 k
def Fc (I J : Mm) : Prop := ∀ a j, a ≠ 32 → a ≠ 33 → J a j = I a j
def Fm (I J : Mm) : Prop := ∀ a j, a ≠ 179 → (a = 163 → j ≠ 21) → J a j = I a j
theorem fc_tr {I J K : Mm} (h : Fc I J) (h2 : Fc J K) : Fc I K := fun a j x y => (h2 a j x y).trans (h a j x y)
theorem fm_tr {I J K : Mm} (h : Fm I J) (h2 : Fm J K) : Fm I K := fun a j x y => (h2 a j x y).trans (h a j x y)
theorem ad_le {s : Ls} (h : s.1 ≤ 60) (c : Int32) : (adL s c).1 ≤ 60 := by
  unfold adL
  split
  · show s.1 + 1 ≤ 60; omega
  · exact h
theorem c_adL {J : Mm} {s : Ls} (h : Lp J 32 1 33 s) (c : Int32) : ∃ v J', fX2_add 32 c J = some (v, J') ∧ Lp J' 32 1 33 (adL s c) ∧ Fc J J' := by
  obtain ⟨a, b, d⟩ := h
  rw [c_add a b]
  unfold adL
  by_cases q : s.1 < 60
  · rw [if_pos q, if_pos q]
    refine ⟨_, _, rfl, ⟨by rw [wr_e, if_pos ⟨rfl, rfl⟩], by show s.1 + 1 ≤ 60; omega, fun k hk => ?_⟩, fun a j x y => by rw [wr_e, if_neg (by omega), wr_e, if_neg (by omega)]⟩
    have hk' : k < s.1 + 1 := hk
    rw [wr_e, if_neg (by omega), wr_e]
    show _ = up s.2 s.1 c k
    by_cases e : k = s.1
    · rw [if_pos ⟨rfl, e⟩, e, up_s]
    · rw [if_neg (by omega), up_n _ _ e]; exact d k (by omega)
  · rw [if_neg q, if_neg q]
    exact ⟨_, _, rfl, ⟨a, b, d⟩, fun _ _ _ _ => rfl⟩
theorem m_adL {J : Mm} {s : Ls} (h : Lp J 163 21 179 s) (c : Int32) : ∃ J', fX5_write c J = some ((), J') ∧ Lp J' 163 21 179 (adL s c) ∧ Fm J J' := by
  obtain ⟨a, b, d⟩ := h
  unfold fX5_write adL
  rw [a]
  by_cases q : s.1 < 60
  · rw [if_pos q, if_neg (by rw [l_60, iI_le (by omega) (by omega) (by omega) (by omega)]; omega)]
    simp (disch := omega) only [l_0, iI_lt, iI_cl, if_neg, tn_n]
    rw [ltm_s, show (wr J 179 s.1 c) 163 21 = iI s.1 by rw [wr_e, if_neg (by omega), a], l_1, iI_add, ltm_s]
    refine ⟨_, rfl, ⟨by rw [wr_e, if_pos ⟨rfl, rfl⟩]; rfl, by show s.1 + 1 ≤ 60; omega, fun k hk => ?_⟩, fun a j x y => by rw [wr_e, if_neg (by omega), wr_e, if_neg (by omega)]⟩
    have hk' : k < s.1 + 1 := hk
    rw [wr_e, if_neg (by omega), wr_e]
    show _ = up s.2 s.1 c k
    by_cases e : k = s.1
    · rw [if_pos ⟨rfl, e⟩, e, up_s]
    · rw [if_neg (by omega), up_n _ _ e]; exact d k (by omega)
  · rw [if_neg q, if_pos (by rw [l_60, iI_le (by omega) (by omega) (by omega) (by omega)]; omega)]
    exact ⟨_, rfl, ⟨a, b, d⟩, fun _ _ _ _ => rfl⟩
/-- a digit -/
theorem dg_i {x : Nat} (h : x < 1000) : (48 + (iI (x : Int) - iI (x : Int) / 10 * 10)) = iI ((48 + x % 10 : Nat) : Int) := by
  rw [l_10, iI_div (by omega) (by omega) (by omega) (by omega), iI_mul, iI_sub, l_48, iI_add]; congr 1; omega
theorem dv_i {x : Nat} (h : x < 1000) {d : Nat} (h2 : 0 < d) (h3 : d < 1000) : iI (x : Int) / iI (d : Int) = iI ((x / d : Nat) : Int) := by
  rw [iI_div (by omega) (by omega) (by omega) (by omega)]; rfl
theorem c_nuT {J : Mm} {s : Ls} (h : Lp J 32 1 33 s) {w : Nat} (hw : w < 1000) : ∃ J', fX2_addNumber_p21 32 (iI w) J = some ((), J') ∧ Lp J' 32 1 33 (nuT s w) ∧ Fc J J' := by
  unfold fX2_addNumber_p21 nuT
  by_cases c : w < 10
  · rw [if_pos c, if_pos (by rw [l_10, iI_lt (by omega) (by omega) (by omega) (by omega)]; omega), dg_i hw]
    obtain ⟨v, J1, e, p, f⟩ := c_adL h (iI ((48 + w % 10 : Nat) : Int))
    exact ⟨J1, by rw [e, bd_s], p, f⟩
  · rw [if_neg c, if_neg (by rw [l_10, iI_lt (by omega) (by omega) (by omega) (by omega)]; omega), dg_i hw]
    have e10 : iI (w : Int) / 10 = iI ((w / 10 : Nat) : Int) := dv_i hw (d := 10) (by omega) (by omega)
    rw [e10, dg_i (x := w / 10) (by omega)]
    obtain ⟨v, J1, e, p, f⟩ := c_adL h (iI ((48 + w / 10 % 10 : Nat) : Int))
    obtain ⟨v2, J2, e2, p2, f2⟩ := c_adL p (iI ((48 + w % 10 : Nat) : Int))
    exact ⟨J2, by rw [e, bd_s, e2, bd_s], p2, fc_tr f f2⟩
theorem c_nuL {J : Mm} {s : Ls} (h : Lp J 32 1 33 s) {w : Nat} (hw : w < 1000) : ∃ J', fX2_addNumber 32 (iI w) J = some ((), J') ∧ Lp J' 32 1 33 (nuL s w) ∧ Fc J J' := by
  unfold fX2_addNumber nuL
  by_cases c : w < 100
  · rw [if_pos c, if_pos (by rw [l_100, iI_lt (by omega) (by omega) (by omega) (by omega)]; omega)]
    exact c_nuT h hw
  · rw [if_neg c, if_neg (by rw [l_100, iI_lt (by omega) (by omega) (by omega) (by omega)]; omega)]
    have e100 : iI (w : Int) / 100 = iI ((w / 100 : Nat) : Int) := dv_i hw (d := 100) (by omega) (by omega)
    rw [e100, dg_i (x := w / 100) (by omega)]
    obtain ⟨v, J1, e, p, f⟩ := c_adL h (iI ((48 + w / 100 % 10 : Nat) : Int))
    obtain ⟨J2, e2, p2, f2⟩ := c_nuT p hw
    exact ⟨J2, by rw [e, bd_s, e2], p2, fc_tr f f2⟩
theorem m_nu1 {J : Mm} {s : Ls} (h : Lp J 163 21 179 s) {w : Nat} (hw : w < 10) (n : Nat) : ∃ J', fX5_writeNumber (n + 1) (iI w) J = some ((), J') ∧ Lp J' 163 21 179 (adL s (iI ((48 + w % 10 : Nat) : Int))) ∧ Fm J J' := by
  obtain ⟨J1, e, p, f⟩ := m_adL h (iI ((48 + w % 10 : Nat) : Int))
  exact ⟨J1, by rw [fX5_writeNumber, if_pos (by rw [l_9, iI_le (by omega) (by omega) (by omega) (by omega)]; omega), dg_i (by omega), e, bd_s], p, f⟩
theorem m_nu2 {J : Mm} {s : Ls} (h : Lp J 163 21 179 s) {w : Nat} (hw : w < 100) (n : Nat) : ∃ J', fX5_writeNumber (n + 2) (iI w) J = some ((), J') ∧ Lp J' 163 21 179 (nuT s w) ∧ Fm J J' := by
  unfold nuT
  by_cases c : w < 10
  · rw [if_pos c]; exact m_nu1 h c (n + 1)
  · rw [if_neg c]
    have e10 : iI (w : Int) / 10 = iI ((w / 10 : Nat) : Int) := dv_i (by omega) (d := 10) (by omega) (by omega)
    obtain ⟨J1, e, p, f⟩ := m_nu1 h (w := w / 10) (by omega) n
    obtain ⟨J2, e2, p2, f2⟩ := m_adL p (iI ((48 + w % 10 : Nat) : Int))
    exact ⟨J2, by rw [fX5_writeNumber, if_neg (by rw [l_9, iI_le (by omega) (by omega) (by omega) (by omega)]; omega), dg_i (by omega), e10, e, bd_s, e2, bd_s], p2, fm_tr f f2⟩
theorem m_nuL {J : Mm} {s : Ls} (h : Lp J 163 21 179 s) {w : Nat} (hw : w < 1000) : ∃ J', fX5_writeNumber 40 (iI w) J = some ((), J') ∧ Lp J' 163 21 179 (nuL s w) ∧ Fm J J' := by
  unfold nuL
  by_cases c : w < 100
  · rw [if_pos c]; exact m_nu2 h c 38
  · rw [if_neg c]
    have e10 : iI (w : Int) / 10 = iI ((w / 10 : Nat) : Int) := dv_i (by omega) (d := 10) (by omega) (by omega)
    obtain ⟨J1, e, p, f⟩ := m_nu2 h (w := w / 10) (by omega) 37
    obtain ⟨J2, e2, p2, f2⟩ := m_adL p (iI ((48 + w % 10 : Nat) : Int))
    refine ⟨J2, by rw [fX5_writeNumber, if_neg (by rw [l_9, iI_le (by omega) (by omega) (by omega) (by omega)]; omega), dg_i (by omega), e10, e, bd_s, e2, bd_s], ?_, fm_tr f f2⟩
    have : nuT (adL s (iI ((48 + w / 100 % 10 : Nat) : Int))) w = adL (nuT s (w / 10)) (iI ((48 + w % 10 : Nat) : Int)) := by
      unfold nuT
      rw [if_neg (by omega), if_neg (by omega), Nat.div_div_eq_div_mul]
    rw [this]; exact p2
theorem c_write {r : Nat} (hr : r + 3 < 32) {t : Tr} (G : GT t) {lim : Int} (hl : 55 ≤ lim ∧ lim ≤ 90) : ∀ (s : Tr) (lo d m : Nat) (J : Mm) (st : Ls), BL t lo d s → cnt s < m → d ≤ 40 → RT J r t → Lp J 32 1 33 st → ∃ J', fX4_write m 32 r (iI lo) (iI ((lo : Int) + cnt s - 1)) (iI lim) (iI d) J = some ((), J') ∧ Lp J' 32 1 33 (wsL lim s st) ∧ Fc J J'
  | .leaf, lo, d, m, J, st, B, hm, hd, Rt, h => by
    have g := G.1
    have b1 := B.1
    obtain ⟨m, rfl⟩ : ∃ x, m = x + 1 := ⟨m - 1, by omega⟩
    refine ⟨J, ?_, h, fun _ _ _ _ => rfl⟩
    simp only [cnt] at b1 ⊢
    rw [fX4_write, t_topNone G Rt (by omega) (by omega) (by omega) (by omega), bd_s, if_pos (show iI (-1) = -1 from rfl)]
  | .inner k w ld l s, lo, d, m, J, st, B, hm, hd, Rt, h => by
    have g := G.1
    have bm := bl_m B
    have hp : lo + cnt l < cnt t := by omega
    have dd := gd_lt t (lo + cnt l) hp
    have gw' := (G.2.1 _ hp).1
    rw [cnt_i] at hm ⊢
    obtain ⟨m, rfl⟩ : ∃ x, m = x + 1 := ⟨m - 1, by omega⟩
    obtain ⟨v1, J1, e1, p1, f1⟩ := c_adL h 40
    have R1 : RT J1 r t := rt_of Rt (fun a j x y => f1 a j (by omega) (by omega))
    obtain ⟨J2, e2, p2, f2⟩ := c_write hr G hl l lo (d + 1) m J1 _ (bl_l B) (by omega) (by omega) R1 p1
    have R2 : RT J2 r t := rt_of R1 (fun a j x y => f2 a j (by omega) (by omega))
    obtain ⟨J3, e3, p3, f3⟩ := c_nuL p2 (w := w) (by rw [← bm.2.1]; exact gw')
    have R3 : RT J3 r t := rt_of R2 (fun a j x y => f3 a j (by omega) (by omega))
    have el := t_leans G R3 hp hl
    rw [bm.2.2.2.2.2.2.2.1] at el
    have ew : fX1_weightAt r (iI ((lo + cnt l : Nat) : Int)) J2 = some (iI w, J2) := by
      rw [t_weightAt G R2 (by omega) (by omega), WZ, if_pos (by omega), tn_n, bm.2.1]
    have tb := t_topB G Rt B (hi := (lo : Int) + (cnt l + 1 + cnt s : Nat) - 1) (by omega)
    have head : fX4_write (m + 1) 32 r (iI lo) (iI ((lo : Int) + (cnt l + 1 + cnt s : Nat) - 1)) (iI lim) (iI d) J = (if (iI (if lnB lim (.inner k w ld l s) = true then 1 else 0)) = 0 then bd (fX4_write m 32 r (iI ((lo + cnt l + 1 : Nat) : Int)) (iI (((lo + cnt l + 1 : Nat) : Int) + cnt s - 1)) (iI lim) (iI ((d + 1 : Nat) : Int)) J3) fun r7 I7 => bd (fX2_add 32 41 I7) fun r8 I8 => some ((), I8) else bd (fX2_add 32 33 J3) fun r7 I7 => bd (fX4_write m 32 r (iI ((lo + cnt l + 1 : Nat) : Int)) (iI (((lo + cnt l + 1 : Nat) : Int) + cnt s - 1)) (iI lim) (iI ((d + 1 : Nat) : Int)) I7) fun r8 I8 => bd (fX2_add 32 41 I8) fun r9 I9 => some ((), I9)) := by
      rw [fX4_write, tb, bd_s, if_neg (by rw [l_m1, iI_eq (by omega) (by omega) (by omega) (by omega)]; omega), if_pos (by rw [l_30, iI_le (by omega) (by omega) (by omega) (by omega)]; omega), e1, bd_s]
      rw [show (iI ((lo + cnt l : Nat) : Int) - 1) = iI ((lo : Int) + cnt l - 1) by rw [l_1, iI_sub]; congr 1, show iI (d : Int) + 1 = iI ((d + 1 : Nat) : Int) by rw [l_1, iI_add]; rfl, e2, bd_s, ew, bd_s, e3, bd_s, el, bd_s]
      rw [show iI ((lo + cnt l : Nat) : Int) + 1 = iI ((lo + cnt l + 1 : Nat) : Int) by rw [l_1, iI_add]; rfl, show (lo : Int) + (cnt l + 1 + cnt s : Nat) - 1 = ((lo + cnt l + 1 : Nat) : Int) + cnt s - 1 by omega]
    rw [head]
    unfold wsL
    by_cases q : lnB lim (.inner k w ld l s) = true
    · rw [if_pos q, if_pos q, if_neg i10]
      obtain ⟨v4, J4, e4, p4, f4⟩ := c_adL p3 33
      have R4 : RT J4 r t := rt_of R3 (fun a j x y => f4 a j (by omega) (by omega))
      obtain ⟨J5, e5, p5, f5⟩ := c_write hr G hl s (lo + cnt l + 1) (d + 1) m J4 _ (bl_r B) (by omega) (by omega) R4 p4
      obtain ⟨v6, J6, e6, p6, f6⟩ := c_adL p5 41
      exact ⟨J6, by rw [e4, bd_s, e5, bd_s, e6, bd_s], p6, fc_tr f1 (fc_tr f2 (fc_tr f3 (fc_tr f4 (fc_tr f5 f6))))⟩
    · rw [if_neg q, if_neg q, if_pos i00]
      obtain ⟨J5, e5, p5, f5⟩ := c_write hr G hl s (lo + cnt l + 1) (d + 1) m J3 _ (bl_r B) (by omega) (by omega) R3 p3
      obtain ⟨v6, J6, e6, p6, f6⟩ := c_adL p5 41
      exact ⟨J6, by rw [e5, bd_s, e6, bd_s], p6, fc_tr f1 (fc_tr f2 (fc_tr f3 (fc_tr f5 f6)))⟩
theorem mr_fm {I J : Mm} {i : Nat} {t : Tr} (L : Fm I J) (M : MR (I 164) i t) : MR (J 164) i t := by
  rw [show J 164 = I 164 from funext fun j => L 164 j (by omega) (by omega)]; exact M
theorem m_writeS {i : Nat} (hi : i < 3) {t : Tr} (G : GT t) {lim : Int} (hl : 55 ≤ lim ∧ lim ≤ 90) : ∀ (s : Tr) (lo d m : Nat) (J : Mm) (st : Ls), BL t lo d s → GT s → TM (J 164) i s → cnt s < m → MR (J 164) i t → J 164 0 = iI lim → Lp J 163 21 179 st → ∃ J', fX5_writeSheaf m (iI i) (iI (rtT s)) J = some ((), J') ∧ Lp J' 163 21 179 (wsL lim s st) ∧ Fm J J'
  | .leaf, lo, d, m, J, st, B, GS, MS, hm, M, hL, h => by
    obtain ⟨m, rfl⟩ : ∃ x, m = x + 1 := ⟨m - 1, by omega⟩
    exact ⟨J, by rw [fX5_writeSheaf, rtT, if_neg (by decide)], h, fun _ _ _ _ => rfl⟩
  | .inner k w ld l s, lo, d, m, J, st, B, GS, MS, hm, M, hL, h => by
    have g := G.1
    have bm := bl_m B
    have hp : lo + cnt l < cnt t := by omega
    have gm := gt_m GS
    rw [cnt_i] at hm
    obtain ⟨m, rfl⟩ : ∃ x, m = x + 1 := ⟨m - 1, by omega⟩
    have r64 : ∀ {A B : Mm}, Fm A B → B 164 = A 164 := fun L => funext fun j => L 164 j (by omega) (by omega)
    obtain ⟨J1, e1, p1, f1⟩ := m_adL h 40
    have q1 := r64 f1
    obtain ⟨J2, e2, p2, f2⟩ := m_writeS hi G hl l lo (d + 1) m J1 _ (bl_l B) (gt_l GS) (by rw [q1]; exact MS.2.2.2.2.1) (by omega) (by rw [q1]; exact M) (by rw [q1]; exact hL) p1
    have q2 : J2 164 = J 164 := (r64 f2).trans q1
    obtain ⟨J3, e3, p3, f3⟩ := m_nuL p2 (w := w) gm.1
    have q3 : J3 164 = J 164 := (r64 f3).trans q2
    have el := m_leans (I := J3) hi G (by rw [q3]; exact M) hp hl (by rw [q3]; exact hL)
    rw [bm.2.2.2.2.2.2.2.1, bm.2.2.2.1] at el
    have o2 : ∀ K : Mm, K 164 = J 164 → fX5_of (iI i) (iI (k : Int)) 2 K = some (iI (rtT l), K) := fun K hK => by rw [l_2, m_of2 hi gm.2.2.2.1, hK, MS.2.2.1, sub1]
    have o3 : ∀ K : Mm, K 164 = J 164 → fX5_of (iI i) (iI (k : Int)) 3 K = some (iI (rtT s), K) := fun K hK => by rw [l_3, m_of3 hi gm.2.2.2.1, hK, MS.2.2.2.1, sub1]
    have o0 : fX5_of (iI i) (iI (k : Int)) 0 J2 = some (iI (w : Int), J2) := by rw [l_0, m_of0 hi gm.2.2.2.1, q2, MS.1, sub1]
    rw [fX5_writeSheaf, rtT, if_pos (by rw [l_0, iI_le (by omega) (by omega) (by omega) (by omega)]; omega), e1, bd_s, o2 J1 q1, bd_s, e2, bd_s, o0, bd_s, e3, bd_s, el, bd_s]
    unfold wsL
    by_cases q : lnB lim (.inner k w ld l s) = true
    · rw [if_pos q, if_pos q, if_neg i10]
      obtain ⟨J4, e4, p4, f4⟩ := m_adL p3 33
      have q4 : J4 164 = J 164 := (r64 f4).trans q3
      obtain ⟨J5, e5, p5, f5⟩ := m_writeS hi G hl s (lo + cnt l + 1) (d + 1) m J4 _ (bl_r B) (gt_r GS) (by rw [q4]; exact MS.2.2.2.2.2) (by omega) (by rw [q4]; exact M) (by rw [q4]; exact hL) p4
      obtain ⟨J6, e6, p6, f6⟩ := m_adL p5 41
      exact ⟨J6, by rw [e4, bd_s, o3 J4 q4, bd_s, e5, bd_s, e6, bd_s], p6, fm_tr f1 (fm_tr f2 (fm_tr f3 (fm_tr f4 (fm_tr f5 f6))))⟩
    · rw [if_neg q, if_neg q, if_pos i00]
      obtain ⟨J5, e5, p5, f5⟩ := m_writeS hi G hl s (lo + cnt l + 1) (d + 1) m J3 _ (bl_r B) (gt_r GS) (by rw [q3]; exact MS.2.2.2.2.2) (by omega) (by rw [q3]; exact M) (by rw [q3]; exact hL) p3
      obtain ⟨J6, e6, p6, f6⟩ := m_adL p5 41
      exact ⟨J6, by rw [o3 J3 q3, bd_s, e5, bd_s, e6, bd_s], p6, fm_tr f1 (fm_tr f2 (fm_tr f3 (fm_tr f5 f6)))⟩
theorem ak_tell (x : Int32) : Ak (fX4_tell x) (fX5_tell x) := by
  intro I R
  rcases rk_c R x with ⟨c, m⟩ | ⟨i, t, mm, lim, rfl, c, k, m, hi, G, Rt, M, D1, D2, hl, D3, D4, D5⟩
  · exact ⟨iI (-11), I, I, by rw [fX4_tell, c, bd_s, on_0]; rfl, by rw [fX5_tell, m, bd_s, if_pos i00]; rfl, R⟩
  · have g := G.1
    obtain ⟨nw, sv, ⟨nx, un, pa⟩, rs, h8, tx, ln⟩ := R
    have Ri : RT (wr I 32 1 0) (3 + 4 * i) t := rt_of Rt (fun a j x y => by rw [wr_e, if_neg (by omega)])
    obtain ⟨J, e, p, f⟩ := c_write (r := 3 + 4 * i) (by omega) G hl t 0 0 40 (wr I 32 1 0) (0, fun _ => 0) (bl_0 t) (by omega) (by omega) Ri ⟨by rw [wr_e, if_pos ⟨rfl, rfl⟩]; rfl, by show 0 ≤ 60; omega, fun k hk => absurd hk (Nat.not_lt_zero k)⟩
    have ji : ∀ a j, a ≠ 32 → a ≠ 33 → J a j = I a j := fun a j x y => by rw [f a j x y, wr_e, if_neg (by omega)]
    have j164 : J 164 = I 164 := funext fun j => ji _ _ (by omega) (by omega)
    have w164 : (wr J 163 21 0) 164 = I 164 := funext fun j => by rw [wr_e, if_neg (by omega), ji _ _ (by omega) (by omega)]
    obtain ⟨L, e2, p2, f2⟩ := m_writeS hi G hl t 0 0 40 (wr J 163 21 0) (0, fun _ => 0) (bl_0 t) G (by rw [w164]; exact M.2.1) (by omega) (by rw [w164]; exact M) (by rw [w164]; exact D4) ⟨by rw [wr_e, if_pos ⟨rfl, rfl⟩]; rfl, by show 0 ≤ 60; omega, fun k hk => absurd hk (Nat.not_lt_zero k)⟩
    have lj : ∀ a j, a ≠ 179 → (a = 163 → j ≠ 21) → L a j = J a j := fun a j x y => by rw [f2 a j x y, wr_e, if_neg (by omega)]
    have li : ∀ a j, a ≠ 179 → (a = 163 → j ≠ 21) → a ≠ 32 → a ≠ 33 → L a j = I a j := fun a j x y z w => by rw [lj a j x y, ji a j z w]
    refine ⟨iI (wsL lim t (0, fun _ => 0)).1, J, L, ?_, ?_, yy_of nw (fun a j _ _ => li a j (by omega) (by omega) (by omega) (by omega)) (fun j _ => li _ _ (by omega) (by omega) (by omega) (by omega)), sv_of sv (fun a j _ _ => li a j (by omega) (by omega) (by omega) (by omega)) (li _ _ (by omega) (by omega) (by omega) (by omega)) (li _ _ (by omega) (by omega) (by omega) (by omega)) (fun j => li _ _ (by omega) (by omega) (by omega) (by omega)), ⟨nx, un, pa_of pa (fun a j _ _ => li a j (by omega) (by omega) (by omega) (by omega)) (li _ _ (by omega) (by omega) (by omega) (by omega)) (li _ _ (by omega) (by omega) (by omega) (by omega)) (li _ _ (by omega) (by omega) (by omega) (by omega)) (fun a j _ _ => li a j (by omega) (by omega) (by omega) (by omega))⟩, rs_of rs (li _ _ (by omega) (by omega) (by omega) (by omega)) (li _ _ (by omega) (by omega) (by omega) (by omega)) (li _ _ (by omega) (by omega) (by omega) (by omega)) (li _ _ (by omega) (by omega) (by omega) (by omega)), by rw [li _ _ (by omega) (by omega) (by omega) (by omega), h8], tx_of tx (fun a j _ _ => li a j (by omega) (by omega) (by omega) (by omega)) (li _ _ (by omega) (by omega) (by omega) (by omega)) (fun j => li _ _ (by omega) (by omega) (by omega) (by omega)), ⟨(wsL lim t (0, fun _ => 0)).1, p.2.1, by rw [lj _ _ (by omega) (by omega)]; exact p.1, p2.1, fun k hk => by rw [lj _ _ (by omega) (by omega), p.2.2 k hk, p2.2.2 k hk]⟩⟩
    · rw [fX4_tell, c, bd_s, on_1, if_pos k, fX2_clear, ltm_s, bd_s]
      rw [show (wr I 32 1 0) (3 + 4 * i) 3 = iI (cnt t) from Ri.1, show (wr I 32 1 0) 1 1 = iI lim by rw [wr_e, if_neg (by omega), D3], l_1, iI_sub]
      rw [show (((0 : Nat) : Int) + cnt t - 1) = (cnt t : Int) - 1 by omega] at e
      refine (congrArg (fun o => bd o fun r3 I3 => some ((I3 32 1), I3)) e).trans ?_
      rw [bd_s, p.1]
    · rw [fX5_tell, m_isRick1 hi, bd_s, if_neg i10, ltm_s, m_top hi (by rw [w164]; exact M.1), bd_s, e2, bd_s, p2.1]
