/-! ===== the line ===== -/
abbrev Ls : Type := Nat × (Nat → Int32)
def adL (s : Ls) (c : Int32) : Ls := if s.1 < 60 then (s.1 + 1, up s.2 s.1 c) else s
def nuT (s : Ls) (w : Nat) : Ls := adL (if w < 10 then s else adL s (iI ((48 + w / 10 % 10 : Nat) : Int))) (iI ((48 + w % 10 : Nat) : Int))
def nuL (s : Ls) (w : Nat) : Ls := nuT (if w < 100 then s else adL s (iI ((48 + w / 100 % 10 : Nat) : Int))) w
def wsL (lim : Int) : Tr → Ls → Ls
  | .leaf, s => s
  | .inner k w ld l r, s => adL (wsL lim r (if lnB lim (.inner k w ld l r) = true then adL (nuL (wsL lim l (adL s 40)) w) 33 else nuL (wsL lim l (adL s 40)) w)) 41
def Lp (J : Mm) (a q b : Nat) (s : Ls) : Prop := J a q = iI s.1 ∧ s.1 ≤ 60 ∧ ∀ k, k < s.1 → J b k = s.2 k
def Fc (I J : Mm) : Prop := ∀ a j, a ≠ 32 → a ≠ 33 → J a j = I a j
def Fm (I J : Mm) : Prop := ∀ a j, a ≠ 179 → (a = 163 → j ≠ 21) → J a j = I a j
theorem fc_tr {I J K : Mm} (h : Fc I J) (h2 : Fc J K) : Fc I K := fun a j x y => (h2 a j x y).trans (h a j x y)
theorem fm_tr {I J K : Mm} (h : Fm I J) (h2 : Fm J K) : Fm I K := fun a j x y => (h2 a j x y).trans (h a j x y)
theorem ad_le {s : Ls} (h : s.1 ≤ 60) (c : Int32) : (adL s c).1 ≤ 60 := by
  unfold adL
  split
  · show s.1 + 1 ≤ 60; omega
  · exact h
theorem c_adL {J : Mm} {s : Ls} (h : Lp J 32 1 33 s) (c : Int32) : ∃ v J', fX2_add 32 c J = some (v, J') ∧ Lp J' 32 1 33 (adL s c) ∧ Fc J J' := by
  obtain ⟨a, b, d⟩ := h
  rw [c_add a b]
  unfold adL
  by_cases q : s.1 < 60
  · rw [if_pos q, if_pos q]
    refine ⟨_, _, rfl, ⟨by rw [wr_e, if_pos ⟨rfl, rfl⟩], by show s.1 + 1 ≤ 60; omega, fun k hk => ?_⟩, fun a j x y => by rw [wr_e, if_neg (by omega), wr_e, if_neg (by omega)]⟩
    have hk' : k < s.1 + 1 := hk
    rw [wr_e, if_neg (by omega), wr_e]
    show _ = up s.2 s.1 c k
    by_cases e : k = s.1
    · rw [if_pos ⟨rfl, e⟩, e, up_s]
    · rw [if_neg (by omega), up_n _ _ e]; exact d k (by omega)
  · rw [if_neg q, if_neg q]
    exact ⟨_, _, rfl, ⟨a, b, d⟩, fun _ _ _ _ => rfl⟩
/-- a digit -/
theorem dg_i {x : Nat} (h : x < 1000) : (48 + (iI (x : Int) - iI (x : Int) / 10 * 10)) = iI ((48 + x % 10 : Nat) : Int) := by
  rw [l_10, iI_div (by omega) (by omega) (by omega) (by omega), iI_mul, iI_sub, l_48, iI_add]; congr 1; omega
theorem dv_i {x : Nat} (h : x < 1000) {d : Nat} (h2 : 0 < d) (h3 : d < 1000) : iI (x : Int) / iI (d : Int) = iI ((x / d : Nat) : Int) := by
  rw [iI_div (by omega) (by omega) (by omega) (by omega)]; rfl
theorem c_nuT {J : Mm} {s : Ls} (h : Lp J 32 1 33 s) {w : Nat} (hw : w < 1000) : ∃ J', fX2_addNumber_p21 32 (iI w) J = some ((), J') ∧ Lp J' 32 1 33 (nuT s w) ∧ Fc J J' := by
  unfold fX2_addNumber_p21 nuT
  by_cases c : w < 10
  · rw [if_pos c, if_pos (by rw [l_10, iI_lt (by omega) (by omega) (by omega) (by omega)]; omega), dg_i hw]
    obtain ⟨v, J1, e, p, f⟩ := c_adL h (iI ((48 + w % 10 : Nat) : Int))
    exact ⟨J1, by rw [e, bd_s], p, f⟩
  · rw [if_neg c, if_neg (by rw [l_10, iI_lt (by omega) (by omega) (by omega) (by omega)]; omega), dg_i hw]
    have e10 : iI (w : Int) / 10 = iI ((w / 10 : Nat) : Int) := dv_i hw (d := 10) (by omega) (by omega)
    rw [e10, dg_i (x := w / 10) (by omega)]
    obtain ⟨v, J1, e, p, f⟩ := c_adL h (iI ((48 + w / 10 % 10 : Nat) : Int))
    obtain ⟨v2, J2, e2, p2, f2⟩ := c_adL p (iI ((48 + w % 10 : Nat) : Int))
    exact ⟨J2, by rw [e, bd_s, e2, bd_s], p2, fc_tr f f2⟩
theorem c_nuL {J : Mm} {s : Ls} (h : Lp J 32 1 33 s) {w : Nat} (hw : w < 1000) : ∃ J', fX2_addNumber 32 (iI w) J = some ((), J') ∧ Lp J' 32 1 33 (nuL s w) ∧ Fc J J' := by
  unfold fX2_addNumber nuL
  by_cases c : w < 100
  · rw [if_pos c, if_pos (by rw [l_100, iI_lt (by omega) (by omega) (by omega) (by omega)]; omega)]
    exact c_nuT h hw
  · rw [if_neg c, if_neg (by rw [l_100, iI_lt (by omega) (by omega) (by omega) (by omega)]; omega)]
    have e100 : iI (w : Int) / 100 = iI ((w / 100 : Nat) : Int) := dv_i hw (d := 100) (by omega) (by omega)
    rw [e100, dg_i (x := w / 100) (by omega)]
    obtain ⟨v, J1, e, p, f⟩ := c_adL h (iI ((48 + w / 100 % 10 : Nat) : Int))
    obtain ⟨J2, e2, p2, f2⟩ := c_nuT p hw
    exact ⟨J2, by rw [e, bd_s, e2], p2, fc_tr f f2⟩
theorem c_write {r : Nat} (hr : r + 3 < 32) {t : Tr} (G : GT t) {lim : Int} (hl : 55 ≤ lim ∧ lim ≤ 90) : ∀ (s : Tr) (lo d m : Nat) (J : Mm) (st : Ls), BL t lo d s → cnt s < m → d ≤ 40 → RT J r t → Lp J 32 1 33 st → ∃ J', fX4_write m 32 r (iI lo) (iI ((lo : Int) + cnt s - 1)) (iI lim) (iI d) J = some ((), J') ∧ Lp J' 32 1 33 (wsL lim s st) ∧ Fc J J'
  | .leaf, lo, d, m, J, st, B, hm, hd, Rt, h => by
    have g := G.1
    have b1 := B.1
    obtain ⟨m, rfl⟩ : ∃ x, m = x + 1 := ⟨m - 1, by omega⟩
    refine ⟨J, ?_, h, fun _ _ _ _ => rfl⟩
    simp only [cnt] at b1 ⊢
    rw [fX4_write, t_topNone G Rt (by omega) (by omega) (by omega) (by omega), bd_s, if_pos (show iI (-1) = -1 from rfl)]
  | .inner k w ld l s, lo, d, m, J, st, B, hm, hd, Rt, h => by
    have g := G.1
    have bm := bl_m B
    have hp : lo + cnt l < cnt t := by omega
    have dd := gd_lt t (lo + cnt l) hp
    have gw' := (G.2.1 _ hp).1
    rw [cnt_i] at hm ⊢
    obtain ⟨m, rfl⟩ : ∃ x, m = x + 1 := ⟨m - 1, by omega⟩
    obtain ⟨v1, J1, e1, p1, f1⟩ := c_adL h 40
    have R1 : RT J1 r t := rt_of Rt (fun a j x y => f1 a j (by omega) (by omega))
    obtain ⟨J2, e2, p2, f2⟩ := c_write hr G hl l lo (d + 1) m J1 _ (bl_l B) (by omega) (by omega) R1 p1
    have R2 : RT J2 r t := rt_of R1 (fun a j x y => f2 a j (by omega) (by omega))
    obtain ⟨J3, e3, p3, f3⟩ := c_nuL p2 (w := w) (by rw [← bm.2.1]; exact gw')
    have R3 : RT J3 r t := rt_of R2 (fun a j x y => f3 a j (by omega) (by omega))
    have el := t_leans G R3 hp hl
    rw [bm.2.2.2.2.2.2.2.1] at el
    have ew : fX1_weightAt r (iI ((lo + cnt l : Nat) : Int)) J2 = some (iI w, J2) := by
      rw [t_weightAt G R2 (by omega) (by omega), WZ, if_pos (by omega), tn_n, bm.2.1]
    have tb := t_topB G Rt B (hi := (lo : Int) + (cnt l + 1 + cnt s : Nat) - 1) (by omega)
    have head : fX4_write (m + 1) 32 r (iI lo) (iI ((lo : Int) + (cnt l + 1 + cnt s : Nat) - 1)) (iI lim) (iI d) J = (if (iI (if lnB lim (.inner k w ld l s) = true then 1 else 0)) = 0 then bd (fX4_write m 32 r (iI ((lo + cnt l + 1 : Nat) : Int)) (iI (((lo + cnt l + 1 : Nat) : Int) + cnt s - 1)) (iI lim) (iI ((d + 1 : Nat) : Int)) J3) fun r7 I7 => bd (fX2_add 32 41 I7) fun r8 I8 => some ((), I8) else bd (fX2_add 32 33 J3) fun r7 I7 => bd (fX4_write m 32 r (iI ((lo + cnt l + 1 : Nat) : Int)) (iI (((lo + cnt l + 1 : Nat) : Int) + cnt s - 1)) (iI lim) (iI ((d + 1 : Nat) : Int)) I7) fun r8 I8 => bd (fX2_add 32 41 I8) fun r9 I9 => some ((), I9)) := by
      rw [fX4_write, tb, bd_s, if_neg (by rw [l_m1, iI_eq (by omega) (by omega) (by omega) (by omega)]; omega), if_pos (by rw [l_30, iI_le (by omega) (by omega) (by omega) (by omega)]; omega), e1, bd_s]
      rw [show (iI ((lo + cnt l : Nat) : Int) - 1) = iI ((lo : Int) + cnt l - 1) by rw [l_1, iI_sub]; congr 1, show iI (d : Int) + 1 = iI ((d + 1 : Nat) : Int) by rw [l_1, iI_add]; rfl, e2, bd_s, ew, bd_s, e3, bd_s, el, bd_s]
      rw [show iI ((lo + cnt l : Nat) : Int) + 1 = iI ((lo + cnt l + 1 : Nat) : Int) by rw [l_1, iI_add]; rfl, show (lo : Int) + (cnt l + 1 + cnt s : Nat) - 1 = ((lo + cnt l + 1 : Nat) : Int) + cnt s - 1 by omega]
    rw [head]
    unfold wsL
    by_cases q : lnB lim (.inner k w ld l s) = true
    · rw [if_pos q, if_pos q, if_neg i10]
      obtain ⟨v4, J4, e4, p4, f4⟩ := c_adL p3 33
      have R4 : RT J4 r t := rt_of R3 (fun a j x y => f4 a j (by omega) (by omega))
      obtain ⟨J5, e5, p5, f5⟩ := c_write hr G hl s (lo + cnt l + 1) (d + 1) m J4 _ (bl_r B) (by omega) (by omega) R4 p4
      obtain ⟨v6, J6, e6, p6, f6⟩ := c_adL p5 41
      exact ⟨J6, by rw [e4, bd_s, e5, bd_s, e6, bd_s], p6, fc_tr f1 (fc_tr f2 (fc_tr f3 (fc_tr f4 (fc_tr f5 f6))))⟩
    · rw [if_neg q, if_neg q, if_pos i00]
      obtain ⟨J5, e5, p5, f5⟩ := c_write hr G hl s (lo + cnt l + 1) (d + 1) m J3 _ (bl_r B) (by omega) (by omega) R3 p3
      obtain ⟨v6, J6, e6, p6, f6⟩ := c_adL p5 41
      exact ⟨J6, by rw [e5, bd_s, e6, bd_s], p6, fc_tr f1 (fc_tr f2 (fc_tr f3 (fc_tr f5 f6)))⟩
