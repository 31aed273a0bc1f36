set_option maxRecDepth 100000 in
set_option maxHeartbeats 8000000 in
/-- the law's start, out of what the functions answer -/
theorem whole_start {p : Program} {e : Env} {s : State} {m : MethodId} {below : List Frame} {meth : Method} {c : Code} (l : Launch) (hflags : l.flags = flags0) {b L : Nat} {xs : Nat → Int32} (hL : L ≤ 260) (C0 : lw_At p s m meth c b L xs) : W p l e room_1 s m #[Value.ref b] below meth c s.heap [] 0 0 (lw_Z below #[Value.ref b] s) (entryFrame m ([Value.ref b] : List Value).toArray 9) := by
  obtain ⟨hx, hb, hr, hml, hown, hts, hX, hbl, hlocks, hgv⟩ := C0
  have hg : ∀ w ∈ nlC, w.before #[Value.ref b] s = true := flat_of_before _ hgv
  have hgood : ∀ w ∈ lw_good, w.before #[Value.ref b] s = true := fun w hw => hts w (gw_tbl hw)
  obtain ⟨c0, i0, h0⟩ := u_known (C := RX0) (T := TX0) (N := 4) (n := 4) hts inX0 (hgood _ wi_0)
  obtain ⟨c1, i1, h1⟩ := u_known (C := RX1) (T := TX1) (N := 5) (n := 5) hts inX1 (hgood _ wi_1)
  obtain ⟨c2, i2, h2⟩ := u_known (C := RX2) (T := TX2) (N := 2) (n := 2) hts inX2 (hgood _ wi_2)
  obtain ⟨c3, i3, h3⟩ := u_known (C := RX3) (T := TX3) (N := 8) (n := 8) hts inX3 (hgood _ wi_3)
  obtain ⟨c4, i4, h4⟩ := u_known (C := RX4) (T := TX4) (N := 11) (n := 11) hts inX4 (hgood _ wi_4)
  obtain ⟨dC, dI, hKc⟩ : ∃ (dC : Nat → ClassId) (dI : Nat → Nat → Nat), ∀ (k : Nat) (q : vw_C), vwCl[k]? = some q → u_Kn s q.1 q.2.1 q.2.2 (dC k) (dI k) := by
    refine ⟨fun k => match k with | 0 => c0 | 1 => c1 | 2 => c2 | 3 => c3 | _ => c4, fun k => match k with | 0 => i0 | 1 => i1 | 2 => i2 | 3 => i3 | _ => i4, ?_⟩
    intro k q hq
    match k, hq with
    | 0, hq => cases hq; exact h0
    | 1, hq => cases hq; exact h1
    | 2, hq => cases hq; exact h2
    | 3, hq => cases hq; exact h3
    | 4, hq => cases hq; exact h4
    | k + 5, hq => simp [vwCl] at hq
  obtain ⟨cI, kI, ccI, aI1, aI2, aI3⟩ := Cond.arrayClass_spec (hgood _ wa_i)
  have hoR : (Cond.arrayOver (.object "LeaningRicks$Rick")).before #[Value.ref b] s = true := hts _ tb_R
  have hoY : (Cond.arrayOver (.object "LeaningRicks$Yard")).before #[Value.ref b] s = true := hts _ tb_Y
  obtain ⟨pR, cR, kR, r1, -, r3, r4, r5⟩ := Cond.arrayOver_spec hoR
  obtain ⟨pY, cY, kY, y1, -, y3, y4, y5⟩ := Cond.arrayOver_spec hoY
  have hA : ∀ a : Nat, a < s.heap.size → ¬ s.heap.size ≤ a := fun a h1 h2 => by omega
  obtain ⟨adK, adV, hSt, hev⟩ := vk_Sof (args := #[Value.ref b]) (s := s) (N := 20) (tm := tmS) (len := txL) (byt := txB) (A := fun q => s.heap.size ≤ q)
    tx_N (fun i hi => hg _ (tx_ex i hi)) (fun i hi => hg _ (tx_co i hi)) (fun i hi => hg _ (tx_ar i hi)) (fun i hi => hg _ (tx_le i hi))
    (fun i hi j hj => hg _ (tx_el i hi j hj))
    (fun i j hi hj h => by
      rcases Nat.lt_or_gt_of_ne h with q | q
      · exact Or.inl (hg _ (tx_ne i hi j hj q))
      · exact Or.inr (hg _ (tx_ne j hj i hi q))) hA
  have hZ : va_Z "java/lang/String" "COMPACT_STRINGS" "Z" (.int 1) (fun q => s.heap.size ≤ q) s s.heap := va_Zof (args := #[Value.ref b]) (hts _ tb_LS) (hts _ tb_IS) (va_eqt (hg (.eq (.static "java/lang/String" "COMPACT_STRINGS" "Z") (.int 1)) nl_cs)) hA
  obtain ⟨tx, htx, hT⟩ := va_Tof (args := #[Value.ref b]) (s := s) (tm := tmT) (ty := .object "java/lang/String") (N := 20) (f := fun j => .ref (adK j)) (A := fun q => s.heap.size ≤ q) (by decide) (hg _ nl_ta) (va_eqt (hg (.eq (.length tmT) (.int 20)) nl_tl))
    (fun j hj => eq_rf (hg _ (tx_tt j hj)) (hev j hj)) hA
  have hZt : va_Z "LeaningRicksLaw" "TEXTS" "[Ljava/lang/String;" (.ref tx) (fun q => s.heap.size ≤ q) s s.heap := va_Zref (args := #[Value.ref b]) (hts _ tb_LT) (hts _ tb_IL) htx hA
  have hZq : va_Zq "jdk/internal/util/Preconditions" "SIOOBE_FORMATTER" "Ljava/util/function/BiFunction;" (fun q => s.heap.size ≤ q) s s.heap := va_Zqof (args := #[Value.ref b]) (hts _ tb_LP) (hts _ tb_IP) (hg _ nl_si) hA
  obtain ⟨E, hE⟩ : ∃ E : Ev, E = (s.heap, (dC, dI), cI, cR, cY, (tx, b, L, xs), adK, adV) := ⟨_, rfl⟩
  have hK : va_K E.2.1 vwCl (tyl E) s := by
    subst hE
    refine ⟨hKc, fun k q hk => ?_⟩
    match k, hk with
    | 0, hk =>
      cases hk
      exact ⟨fun n z => ⟨fun k h => (by cases h), kI, aI2, ccI, aI3⟩, aI1⟩
    | 1, hk =>
      cases hk
      exact ⟨fun n z => ⟨fun k h => (by cases h), kR, r3, pR, r4⟩, kR, pR, r3, r4, r1, r5⟩
    | 2, hk =>
      cases hk
      exact ⟨fun n z => ⟨fun k h => (by cases h), kY, y3, pY, y4⟩, kY, pY, y3, y4, y1, y5⟩
    | k + 3, hk => simp [tyl] at hk
  have hNW : NW E s := by
    subst hE
    refine ⟨fun w hw => ?_, va_AO.of hoR, va_AO.of hoY, hSt, hZ, hZt, hT, hZq, hX, hL, hbl⟩
    obtain ⟨hw1, hw2⟩ := List.mem_filter.mp hw
    have hb2 := hts w hw1
    cases w <;> first | (cases hw2; done) | exact va_Nw.of rfl hb2
  have hEs : E.1 = s.heap := by rw [hE]
  have hEx : E.2.2.2.2.2.1 = (tx, b, L, xs) := by rw [hE]
  obtain ⟨X, hXX⟩ : ∃ X : Cx, X = (p, l, e, room_1, s, m, #[Value.ref b], below, meth, c, lw_Z below #[Value.ref b] s, E) := ⟨_, rfl⟩
  have C : CtxOK X mL_law := by
    subst hXX
    exact ⟨hx, hb, hml, hown, hgood, hK, hr, hlocks, fun h => absurd h (by decide +kernel), by rw [hEs]; exact Nat.le_refl _, hNW⟩
  have hRG : RG X 2048 600000 7302250 := by
    subst hXX
    exact ⟨Nat.le_of_ble_eq_true rfl, Nat.le_of_ble_eq_true rfl, Nat.le_of_ble_eq_true rfl, Nat.le_of_ble_eq_true rfl⟩
  have hLX : LX X b L xs := by
    subst hXX
    exact ⟨by show E.2.2.2.2.2.1.2.1 = b; rw [hEx], by show E.2.2.2.2.2.1.2.2.1 = L; rw [hEx], by show E.2.2.2.2.2.1.2.2.2 = xs; rw [hEx]⟩
  have hend : ∀ (k n : Nat) (_ : k ≤ 600000) (_ : n ≤ 7302250) (I : Mm) (ls : List (Option Value)), WM X mL_law 441 ls [.int 1] S0 I k n := by
    intro k n hk hn I ls H locs lsa r1 s1 l1
    subst hXX
    refine va_forget (fun q hq => by have := s1.2.2 q hq; have h' : E.1.size ≤ q.base := this; rw [hEs] at h'; exact h') ?_
    refine W.widen (k := 600000) (n := 7302250) hk hn ?_
    exact W.base (lw_ret (Drawn.sameBut.refl s.drawn lw_cs) hx hb hr hlocks dL_law_441)
  have main : WM X mL_law 0 [some (.ref b), none, none, none, none, none, none, none, none] [] E0 Z0 0 0 := by
    refine s_new (c := 4) tyX4 C dL_law_0 rfl (by decide) gX4 tyX4_ok df_4 wk_L4 wi_4 wz_4 fE0 hRG (by decide) (by decide) ?_
    refine s_dup C dL_law_3 rfl ?_
    refine s_cI (st := [rfX X 0]) (d' := 3) (mc := 162) (ms := 3473) C hRG (by decide) rfl rfl wm_4 wz_4 wc_4 ⟨by decide +kernel, by decide +kernel, by decide +kernel⟩ (by decide) (Or.inl wl_L4) dL_law_4 (wX4_init (Nat.le_refl 3)) rfl rfl (Nat.le_of_ble_eq_true rfl) (by decide) (by decide) ?_
    refine s_astore_n (ls' := [some (.ref b), some (rfX X 0), none, none, none, none, none, none, none]) C dL_law_7 rfl (by decide) (Nat.le_of_ble_eq_true rfl) rfl rfl ?_
    refine s_S (S' := S0) (I' := iB9) sB9_is rfl ?_
    obtain ⟨I, h⟩ := fun_ok L xs hL
    exact wL_law (d := 2048) (by decide) ⟨hRG.1, hRG.2.1, Nat.le_trans (by decide) hRG.2.2.1, Nat.le_trans (by decide) hRG.2.2.2⟩ C hLX (hend _ _ (by decide) (by decide)) h
  have hl := lv_entry ([.ref b]) (n := 9) (Nat.le_of_ble_eq_true rfl)
  rw [lg_entry_eq]
  generalize (lg_sl ([.ref b]) ++ List.replicate (9 - (lg_sl ([.ref b])).length) Slot.unset).toArray = lsa at hl ⊢
  have hrep : RepH E E0 Z0 s.heap := ⟨fun k q h => by simp [wsE, E0] at h, by rw [hEs]; rfl, fun q _ => by rw [hEs], fun _ _ => rfl⟩
  subst hXX
  exact main s.heap [] lsa hrep va_S.rf hl
