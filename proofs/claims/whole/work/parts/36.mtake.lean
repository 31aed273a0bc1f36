/-! ===== the reference takes a sheaf out ===== -/
section MT
variable {i : Nat}
/-- from a part's top leftwards down to its first -/
theorem m_next (hi : i < 3) {I : Mm} {sh : Int32} : ∀ (r : Tr) (m : Nat), GT r → TM (I 164) i r → 0 < cnt r → cnt r < m → ∃ m', fX5_takeOut_p35 m (iI i) sh (iI (rtT r)) I = fX5_takeOut_p35 (m' + 1) (iI i) sh (iI (gs r 0)) I
  | .leaf, m, G, M, h0, hm => by simp [cnt] at h0
  | .inner s w ld l r, m, G, M, h0, hm => by
    have gm := gt_m G
    have rl := rt_rng (gt_l G)
    rw [cnt_i] at hm
    obtain ⟨m, rfl⟩ : ∃ x, m = x + 1 := ⟨m - 1, by omega⟩
    by_cases c : cnt l = 0
    · have e := @gi_m s w ld l r
      rw [c] at e
      rw [e.2.2.1]
      exact ⟨m, rfl⟩
    · have e := @gi_l s w ld l r 0 (by omega)
      rw [e.2.2.1, rtT, fX5_takeOut_p35, l_2, m_of2 hi gm.2.2.2.1, bd_s, M.2.2.1, sub1, l_0, if_neg (fun q => by
        rw [iI_lt (by omega) (by omega) (by omega) (by omega)] at q
        exact c (by rw [rt_leaf q]; rfl)), m_of2 hi gm.2.2.2.1, bd_s, M.2.2.1, sub1]
      exact m_next hi l m (gt_l G) M.2.2.2.2.1 (by omega) (by omega)
theorem m_takeOut (hi : i < 3) {t : Tr} {I : Mm} (G : GT t) (M : MR (I 164) i t) {p : Nat} (hp : p < cnt t) : ∃ J, fX5_takeOut (iI i) (iI (gs t p)) I = some ((), J) ∧ J 164 (7 + 122 * i) = iI (rtT (delT t p) + 1) ∧ TM (J 164) i (delT t p) ∧ RO i I J ∧ W0 i I J := by
  have g := G.1
  have gp := G.2.1 p hp
  have GS := gt_p t p G hp
  obtain ⟨_, _, l, r, hs, h4, h5, h6, h7, h8, h9⟩ := tm_p _ i t p M.2.1 hp
  have GS' := GS
  rw [hs] at GS'
  have gm := gt_m GS'
  have sd := st_d GS'
  have rl := rt_rng (gt_l GS')
  have rr := rt_rng (gt_r GS')
  have fo := fo_le t p hp
  rw [fX5_takeOut, l_2, m_of2 hi gp.2.2.2, bd_s, h6, sub1, l_0]
  by_cases c : cnt l = 0
  · have e : rtT l < 0 := by
      cases l with
      | leaf => rw [rtT]; omega
      | inner _ _ _ _ _ => rw [cnt_i] at c; omega
    obtain ⟨J, a1, a2⟩ := m_unhang hi G M hp hs (Or.inl c)
    rw [if_pos (by rw [iI_lt (by omega) (by omega) (by omega) (by omega)]; exact e), a1, bd_s]
    exact ⟨J, rfl, a2⟩
  · have e : ¬ rtT l < 0 := fun q => c (by rw [rt_leaf q]; rfl)
    rw [if_neg (by rw [iI_lt (by omega) (by omega) (by omega) (by omega)]; exact e), l_3, m_of3 hi gp.2.2.2, bd_s, h7, sub1]
    by_cases c2 : cnt r = 0
    · have e2 : rtT r < 0 := by
        cases r with
        | leaf => rw [rtT]; omega
        | inner _ _ _ _ _ => rw [cnt_i] at c2; omega
      obtain ⟨J, a1, a2⟩ := m_unhang hi G M hp hs (Or.inr c2)
      rw [if_neg (by rw [iI_le (by omega) (by omega) (by omega) (by omega)]; omega), a1, bd_s]
      exact ⟨J, rfl, a2⟩
    · have e2 : ¬ rtT r < 0 := fun q => c2 (by rw [rt_leaf q]; rfl)
      rw [if_pos (by rw [iI_le (by omega) (by omega) (by omega) (by omega)]; omega), m_of3 hi gp.2.2.2, bd_s, h7, sub1]
      obtain ⟨m', hm'⟩ := @m_next i hi I (iI (gs t p)) r 1000 (gt_r GS') h9 (by omega) (by have := GS'.1; rw [cnt_i] at this; omega)
      rw [hm']
      -- the next one's place
      have B := bl_p t t 0 0 p (bl_0 t) hp
      rw [Nat.zero_add, Nat.zero_add, hs] at B
      have Br := bl_r B
      have bq := Br.2 0 (by omega)
      rw [Nat.add_zero, show foP t p + cnt l + 1 = p + 1 by omega] at bq
      have hp1 : p + 1 < cnt t := by omega
      have gn := G.2.1 (p + 1) hp1
      rw [← bq.2.2.1]
      obtain ⟨_, _, l2, r2, hs2, k4, k5, k6, k7, k8, k9⟩ := tm_p _ i t (p + 1) M.2.1 hp1
      have l20 : cnt l2 = 0 := by
        have f := fo_le r 0 (by omega)
        have := bq.2.2.2.2.1
        omega
      have el2 : rtT l2 < 0 := by
        cases l2 with
        | leaf => rw [rtT]; omega
        | inner _ _ _ _ _ => rw [cnt_i] at l20; omega
      have rl2 := rt_rng (gt_l (by have := gt_p t (p + 1) G hp1; rw [hs2] at this; exact this))
      obtain ⟨J1, u1, u2, u3, u4, u5⟩ := m_unhang hi G M hp1 hs2 (Or.inl l20)
      have G1 := del_gt G hp1
      have dp := del_pos t (p + 1) hp1
      have sdl := st_del G hp1
      have M1 : TM (J1 164) i (delT t (p + 1)) := u3
      have p1 : p < cnt (delT t (p + 1)) := by omega
      obtain ⟨n1, n2, n3⟩ := rpl_next t p hp hs (by omega)
      have g1 : gs (delT t (p + 1)) p = gs t p := by rw [(dp.2 p (by omega)).2.2.1, if_pos (by omega)]
      have GS1 := gt_p _ p G1 p1
      rw [n2] at GS1
      obtain ⟨_, _, l', r', hs1, x4, x5, x6, x7, x8, x9⟩ := tm_p _ i (delT t (p + 1)) p M1 p1
      rw [n2] at hs1
      have hl : l' = l ∧ r' = popM r := by injection hs1 with _ _ _ q1 q2; exact ⟨q1.symm, q2.symm⟩
      obtain ⟨rfl, rfl⟩ := hl
      rw [g1] at x6 x7
      have rp2 := rt_rng (gt_r GS1)
      have hk : gs t (p + 1) ≠ gs t p := fun h => G.2.2.2 p (p + 1) (by omega) hp1 h.symm
      have nst : ¬ St (delT t (p + 1)) (gs t (p + 1)) := fun h => ((sdl _).mp h).2 rfl
      -- the next one's links set
      have w2 : ∀ (K : Mm) (y : Nat) (v : Int32) (k c : Nat), (k ≠ gs t (p + 1) ∨ c ≠ y) → c < 4 → y < 4 → (wr K 164 (ad i (gs t (p + 1)) y) v) 164 (ad i k c) = K 164 (ad i k c) := fun K y v k c h hc hy => by
        rw [wr_e, if_neg (fun e => ad_n hc hy h e.2)]
      have hne : ∀ k, St (delT t (p + 1)) k → k ≠ gs t (p + 1) := fun k h e => nst (e ▸ h)
      have tk : ∀ u : Tr, (∀ k, St u k → St (delT t (p + 1)) k) → TM (J1 164) i u → TM ((wr (wr J1 164 (ad i (gs t (p + 1)) 2) (iI (rtT l' + 1))) 164 (ad i (gs t (p + 1)) 3) (iI (rtT (popM r) + 1))) 164) i u := fun u hu hT => tm_st hT (fun k c hk hc => by
        rw [w2 _ 3 _ k c (Or.inl (hne k (hu k hk))) hc (by omega), w2 _ 2 _ k c (Or.inl (hne k (hu k hk))) hc (by omega)])
      have s1 : ∀ k, St l' k → St (delT t (p + 1)) k := fun k h => st_p _ p k p1 (by rw [n2, st_i]; exact Or.inr (Or.inl h))
      have s2 : ∀ k, St (popM r) k → St (delT t (p + 1)) k := fun k h => st_p _ p k p1 (by rw [n2, st_i]; exact Or.inr (Or.inr h))
      have T1 := tk _ (fun k h => h) M1
      have cw : J1 164 (ad i (gs t (p + 1)) 0) = iI ((gw t (p + 1) : Int) + 1) ∧ J1 164 (ad i (gs t (p + 1)) 1) = iI (gl t (p + 1)) := by
        rw [u5 _ 0 (by omega), u5 _ 1 (by omega)]
        have := tm_p _ i t (p + 1) M.2.1 hp1
        exact ⟨this.1, this.2.1⟩
      have U : TM ((wr (wr J1 164 (ad i (gs t (p + 1)) 2) (iI (rtT l' + 1))) 164 (ad i (gs t (p + 1)) 3) (iI (rtT (popM r) + 1))) 164) i (.inner (gs t (p + 1)) (gw t (p + 1)) (gl t (p + 1)) l' (popM r)) := by
        refine ⟨?_, ?_, ?_, ?_, tk _ s1 x8, tk _ s2 x9⟩
        · rw [w2 _ 3 _ _ 0 (by omega) (by omega) (by omega), w2 _ 2 _ _ 0 (by omega) (by omega) (by omega)]; exact cw.1
        · rw [w2 _ 3 _ _ 1 (by omega) (by omega) (by omega), w2 _ 2 _ _ 1 (by omega) (by omega) (by omega)]; exact cw.2
        · rw [w2 _ 3 _ _ 2 (by omega) (by omega) (by omega), wr_e, if_pos ⟨rfl, rfl⟩]
        · rw [wr_e, if_pos ⟨rfl, rfl⟩]
      have top1 : (wr (wr J1 164 (ad i (gs t (p + 1)) 2) (iI (rtT l' + 1))) 164 (ad i (gs t (p + 1)) 3) (iI (rtT (popM r) + 1))) 164 (7 + 122 * i) = iI (rtT (delT t (p + 1)) + 1) := by
        rw [wr_e, if_neg (by unfold ad; omega), wr_e, if_neg (by unfold ad; omega)]; exact u2
      obtain ⟨J, a1, a2, a3, a4, a5⟩ := m_replace hi G1 p1 (tmx_of _ p G1 p1 T1 (fun _ _ _ _ _ => rfl)) U (fun k hk => by
        rcases st_i.mp hk with h | h | h
        · rw [h]; exact gn.2.2.2
        · exact st_rng G1 (s1 k h)
        · exact st_rng G1 (s2 k h)) (fun h hk => by
        have sa := st_above G1 p1 h
        rcases st_i.mp hk with h2 | h2 | h2
        · have pr := pa_rng (delT t (p + 1)) p p1
          exact nst ⟨_, by omega, h2⟩
        · exact sa (by rw [n2, st_i]; exact Or.inr (Or.inl h2))
        · exact sa (by rw [n2, st_i]; exact Or.inr (Or.inr h2))) top1
      have dr := del_rpl t p hp hs
      rw [jnT, if_neg c, if_neg c2, ← bq.1, ← bq.2.1, ← bq.2.2.1] at dr
      rw [n1, ← dr] at a2 a3
      have MR1 : fX5_above (iI i) (iI (gs t p)) J1 = some (iI (paS (delT t (p + 1)) p (-1)), J1) := by
        have e := m_above_p hi (k := gs t p) (w0 := gw t p) gp.2.2.2 gp.1 (by rw [u5 _ 0 (by omega)]; exact (tm_p _ i t p M.2.1 hp).1) (delT t (p + 1)) p 1000 (-1) G1 M1 p1 g1 (by rw [(dp.2 p (by omega)).1, if_pos (by omega)]) (by omega)
        rw [fX5_above, m_top hi u2, bd_s]
        exact e
      have w3 : (wr J1 164 (ad i (gs t (p + 1)) 2) (iI (rtT l' + 1))) 164 (ad i (gs t p) 3) = iI (rtT (popM r) + 1) := by
        rw [w2 _ 2 _ _ 3 (Or.inl hk.symm) (by omega) (by omega)]; exact x7
      refine ⟨J, ?_, a2, a3, ?_, ?_⟩
      · rw [fX5_takeOut_p35, l_2, m_of2 hi gn.2.2.2, bd_s, k6, sub1, l_0, if_pos (by rw [iI_lt (by omega) (by omega) (by omega) (by omega)]; exact el2), u1, bd_s, MR1, bd_s, m_of2 hi gp.2.2.2, bd_s, x6, sub1, show (iI 2 : Int32) = iI ((2 : Nat) : Int) from rfl, m_put_ hi gn.2.2.2 (by omega) (by omega), bd_s, l_3, m_of3 hi gp.2.2.2, bd_s, w3, sub1, show (iI 3 : Int32) = iI ((3 : Nat) : Int) from rfl, m_put_ hi gn.2.2.2 (by omega) (by omega), bd_s]
        rw [g1] at a1
        rw [show fX5_replace (iI i) (iI (paS (delT t (p + 1)) p (-1))) (iI (gs t p)) (iI (gs t (p + 1))) _ = _ from a1, bd_s]
      · intro a j h
        have i2 := @ad_in i (gs t (p + 1)) 2 gn.2.2.2 (by omega)
        have i3 := @ad_in i (gs t (p + 1)) 3 gn.2.2.2 (by omega)
        rw [a4 a j h, wr_e, if_neg (by omega), wr_e, if_neg (by omega)]
        exact u4 a j h
      · intro k y hy
        rw [a5 k y hy, w2 _ 3 _ k y (by omega) (by omega) (by omega), w2 _ 2 _ k y (by omega) (by omega) (by omega), u5 k y hy]
/-- taken out, and its stall cleared -/
theorem m_takeAll (hi : i < 3) {t : Tr} {I : Mm} (G : GT t) (M : MR (I 164) i t) {p : Nat} (hp : p < cnt t) : ∃ J K, fX5_takeOut (iI i) (iI (gs t p)) I = some ((), J) ∧ fX5_clear (iI i) (iI (gs t p)) J = some ((), K) ∧ MR (K 164) i (delT t p) ∧ RO i I K := by
  have gp := G.2.1 p hp
  obtain ⟨J, e, h1, h2, h3, h4⟩ := m_takeOut hi G M hp
  have sd := st_del G hp
  refine ⟨J, w4 J i (gs t p) 0 0 0 0, e, m_clear hi gp.2.2.2, ⟨?_, ?_, ?_⟩, ro_tr h3 (w4_ro J i _ _ _ _ _ gp.2.2.2)⟩
  · have a0 := @ad_in i (gs t p) 0 gp.2.2.2 (by omega)
    have a1 := @ad_in i (gs t p) 1 gp.2.2.2 (by omega)
    have a2 := @ad_in i (gs t p) 2 gp.2.2.2 (by omega)
    have a3 := @ad_in i (gs t p) 3 gp.2.2.2 (by omega)
    rw [w4_n J i _ _ _ _ _ (fun _ => by omega)]; exact h1
  · exact tm_st h2 (fun k c hk hc => w4_o J i _ _ _ _ _ ((sd k).mp hk).2 hc)
  · intro k hk h
    by_cases c : k = gs t p
    · rw [c]; exact (w4_at J i (gs t p) 0 0 0 0).1
    · rw [w4_o J i _ _ _ _ _ c (by omega), h4 k 0 (by omega)]
      refine M.2.2 k hk (fun q hq e => ?_)
      obtain ⟨x, hx, hx2⟩ := (sd k).mpr ⟨⟨q, hq, e⟩, c⟩
      exact h x hx hx2
end MT
