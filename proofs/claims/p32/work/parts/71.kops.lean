/-! ===== the five changes, as the class makes them ===== -/
def OKZ (T : Nat → Tr) (mo : Nat → Nat) (ct : Nat → Int32) : Prop := OKY T mo ct ∧ ∀ i, i < 3 → cnt (T i) ≤ mo i
def KOp (I : Mm) (cF : Mm → Option (Int32 × Mm)) (T : Nat → Tr) (mo : Nat → Nat) (ct : Nat → Int32) (N : Int32 → Prop) (P : Int32 → (Nat → Tr) → (Nat → Nat) → (Nat → Int32) → Prop) : Prop := (∃ (v : Int32) (rs : Option (Int32 × Int32)) (J : Mm), v < 0 ∧ N v ∧ cF I = some (v, J) ∧ CRes I J T mo ct rs) ∨ ∃ (v : Int32) (T' : Nat → Tr) (mo' : Nat → Nat) (ct' : Nat → Int32) (J : Mm), 0 ≤ v ∧ OKZ T' mo' ct' ∧ cF I = some (v, J) ∧ CRes I J T' mo' ct' none ∧ P v T' mo' ct'
abbrev tr1 : Int32 → Prop := fun _ => True
abbrev tru : Int32 → (Nat → Tr) → (Nat → Nat) → (Nat → Int32) → Prop := fun _ _ _ _ => True
section KOP
variable {I : Mm} {T : Nat → Tr} {mo : Nat → Nat} {ct : Nat → Int32} {N : Int32 → Prop} {P : Int32 → (Nat → Tr) → (Nat → Nat) → (Nat → Int32) → Prop}
theorem k_no {cF : Mm → Option (Int32 × Mm)} (C : CY I 1 T mo ct) {v : Int32} (hv : v < 0) (hv2 : N v) (h1 : cF I = some (v, I)) : KOp I cF T mo ct N P :=
  Or.inl ⟨v, none, I, hv, hv2, h1, C, fun _ _ _ => rfl, fun _ _ _ => rfl, rfl, rfl⟩
theorem k_ref {cF : Mm → Option (Int32 × Mm)} (C : CY I 1 T mo ct) (hN : N (-14)) {a b : Int32} (h1 : cF I = some (-14, wr (wr I 0 9 a) 0 10 b)) : KOp I cF T mo ct N P := by
  refine Or.inl ⟨-14, some (a, b), _, by decide, hN, h1, cy_of C (fun x j h h' => by simp (disch := omega) only [wr_e, if_neg]), fun x j h => by simp (disch := omega) only [wr_e, if_neg], fun j h h' => by simp (disch := omega) only [wr_e, if_neg], ?_, ?_⟩
  · rw [wr_e, if_neg (by omega), wr_e, if_pos ⟨rfl, rfl⟩]; rfl
  · rw [wr_e, if_pos ⟨rfl, rfl⟩]; rfl
theorem okz_up (O : OKZ T mo ct) {i : Nat} (hi : i < 3) {t : Tr} {m : Nat} {c2 : Nat → Int32} (G : GT t) (hm : m ≤ 30) (hc : cnt t ≤ m) (h0 : c2 0 = ct 0) (h12 : c2 1 - c2 2 = (ct 1 - ct 2) + iI ((cnt t : Int) - cnt (T i))) : OKZ (up T i t) (up mo i m) c2 := by
  refine ⟨ok_up O.1 hi G hm h0 h12, fun q hq => ?_⟩
  by_cases c : q = i
  · subst c; rw [up_s, up_s]; exact hc
  · rw [up_n _ _ c, up_n _ _ c]; exact O.2 q hq
theorem k_limit (OZ : OKZ T mo ct) (C : CY I 1 T mo ct) (x : Int32) : KOp I (fX4_limitNow x) T mo ct tr1 tru := by
  have O := OZ.1
  obtain ⟨z, rfl, h1, h2⟩ := iI_ex x
  obtain ⟨lim, hl, hl2, hl3⟩ := O.2.1
  have e1 : I 1 1 = iI lim := by rw [← hl]; exact C.2 0 (by omega)
  by_cases c : 55 ≤ z ∧ z ≤ 90
  · by_cases d : z = lim
    · refine k_ref C trivial (a := 4) (b := iI z) ?_
      unfold fX4_limitNow
      simp (disch := omega) only [l_55, l_90, iI_lt, iI_le, if_neg, if_pos, e1, iI_eq, c_refuse, bd_s]
      rfl
    · right
      refine ⟨iI lim, T, mo, up ct 0 (iI z), wr I 1 1 (iI z), ?_, ⟨⟨O.1, ⟨z, up_s _ _ _, c.1, c.2⟩, ?_⟩, OZ.2⟩, ?_, ⟨⟨fun i hi => ⟨rt_of (C.1 i hi).1 (fun a j h h' => by rw [wr_e, if_neg (by omega)]), by rw [wr_e, if_neg (by omega)]; exact (C.1 i hi).2⟩, fun j hj => ?_⟩, fun a j h => by rw [wr_e, if_neg (by omega)], fun j h h' => by rw [wr_e, if_neg (by omega)], by rw [wr_e, if_neg (by omega)]; rfl, by rw [wr_e, if_neg (by omega)]; rfl⟩, trivial⟩
      · rw [l_0, iI_le (by omega) (by omega) (by omega) (by omega)]; omega
      · rw [up_n _ _ (by omega), up_n _ _ (by omega)]; exact O.2.2
      · unfold fX4_limitNow
        simp (disch := omega) only [l_55, l_90, iI_lt, iI_le, if_neg, if_pos, e1, iI_eq, ltm_s]
      · by_cases q : j = 0
        · subst q; rw [wr_e, if_pos ⟨rfl, rfl⟩, up_s]
        · rw [wr_e, if_neg (by omega), up_n _ _ q]; exact C.2 j hj
  · refine k_no C (v := -12) (by decide) trivial ?_
    unfold fX4_limitNow
    simp (disch := omega) only [l_55, l_90, iI_lt, iI_le]
    by_cases d : z < 55
    · rw [if_pos d]
    · rw [if_neg d, if_neg (by omega)]
theorem k_build (OZ : OKZ T mo ct) (C : CY I 1 T mo ct) (x : Int32) : KOp I (fX4_buildNow x) T mo ct (fun v => v ≠ -12) tru := by
  have O := OZ.1
  obtain ⟨z, rfl, h1, h2⟩ := iI_ex x
  by_cases c : 0 ≤ z ∧ z < 3
  · obtain ⟨i, rfl⟩ : ∃ i : Nat, z = i := ⟨z.toNat, by omega⟩
    have hi : i < 3 := by omega
    have G := (O.1 i hi).1
    have g := G.1
    have R := rc_1 (C := C) hi
    have c1 : ∀ w, fX4_buildNow (iI i) I = w ↔ (if 0 < I (3 + 4 * i) 3 then bd (fX4_buildWhole (3 + 4 * i) I) fun r2 I2 => some (r2, I2) else bd (fX4_refuse 5 (iI i) I) fun r2 I2 => some (r2, I2)) = w := fun w => by
      rw [fX4_buildNow, c_rick hi, bd_s, on_1, if_pos (kd_r (Or.inl rfl) hi), show 1 + 2 + 4 * i = 3 + 4 * i by omega]
    by_cases d : cnt (T i) = 0
    · refine k_ref C (by decide) (a := 5) (b := iI i) ?_
      rw [c1, R.1, l_0, if_neg (by rw [iI_lt (by omega) (by omega) (by omega) (by omega)]; omega), c_refuse, bd_s]; rfl
    · right
      obtain ⟨J, e, j1, j2, j3⟩ := c_bw hi C G
      have mv := mv_rng (T i) (bwT (T i))
      have bp := (bw_pos (T i)).1
      refine ⟨iI (mvT (T i) (bwT (T i))), up T i (bwT (T i)), up mo i (cnt (T i)), _, J, ?_, okz_up OZ hi (bw_gt G) g (by omega) ?_ ?_, ?_, ⟨j1, j2, fun j _ _ => j3 j, j3 9, j3 10⟩, trivial⟩
      · rw [l_0, iI_le (by omega) (by omega) (by omega) (by omega)]; omega
      · rw [up_n _ _ (by omega), up_n _ _ (by omega)]
      · rw [up_n _ _ (by omega), up_n _ _ (by omega), up_n _ _ (by omega), up_n _ _ (by omega), bp, Int.sub_self]
        exact (Int32.add_zero _).symm
      · rw [c1, R.1, l_0, if_pos (by rw [iI_lt (by omega) (by omega) (by omega) (by omega)]; omega), e, bd_s]
  · refine k_no C (v := -11) (by decide) (by decide) ?_
    rw [fX4_buildNow, c_rickAt h1 h2, if_neg c, bd_s, on_0]
theorem k_take (OZ : OKZ T mo ct) (C : CY I 1 T mo ct) (x w : Int32) : KOp I (fX4_takeNow x w) T mo ct tr1 tru := by
  have O := OZ.1
  obtain ⟨z, rfl, h1, h2⟩ := iI_ex x
  obtain ⟨y, rfl, w1, w2⟩ := iI_ex w
  by_cases c : 0 ≤ z ∧ z < 3
  · obtain ⟨i, rfl⟩ : ∃ i : Nat, z = i := ⟨z.toNat, by omega⟩
    have hi : i < 3 := by omega
    have G := (O.1 i hi).1
    have g := G.1
    have R := rc_1 (C := C) hi
    obtain ⟨lim, hl, hl2, hl3⟩ := O.2.1
    have hmo := (O.1 i hi).2
    have hmc := OZ.2 i hi
    by_cases d : fdP (T i) y = -1
    · refine k_no C (v := -11) (by decide) trivial ?_
      rw [fX4_takeNow, c_rick hi, bd_s, on_1, if_pos (kd_r (Or.inl rfl) hi), show 1 + 2 + 4 * i = 3 + 4 * i by omega, t_find G R w1 w2, bd_s, d, if_pos (show iI (-1) = -1 from rfl)]
    · right
      obtain ⟨p, hp, f1, f2, f3⟩ := fd_yes d
      have gp := G.2.1 p hp
      have GD := del_gt G hp
      have dp := del_pos (T i) p hp
      obtain ⟨J, e, j1, j2⟩ := t_lift G R hp
      have cy1 : CY (wr J 1 3 (ct 2 + 1)) 1 (up T i (delT (T i) p)) (up mo i (mo i)) (up ct 2 (ct 2 + 1)) := cy_up hi C (rt_of j1 (fun a j a1 a2 => by rw [wr_e, if_neg (by omega)])) (by rw [wr_e, if_neg (by omega), j2 _ _ (by omega)]; have := (C.1 i hi).2; rw [show 1 + 2 + 4 * i = 3 + 4 * i by omega] at this; exact this) (fun a j a1 a2 a3 => by rw [wr_e, if_neg (by omega)]; exact j2 a j (by omega)) (fun j hj => by
        by_cases c2 : j = 2
        · subst c2; rw [wr_e, if_pos ⟨rfl, rfl⟩, up_s]
        · rw [wr_e, if_neg (by omega), up_n _ _ c2, j2 1 _ (by omega)]; exact C.2 j hj)
      have ok1 : OKZ (up T i (delT (T i) p)) (up mo i (mo i)) (up ct 2 (ct 2 + 1)) := okz_up OZ hi GD hmo (by omega) (up_n _ _ (by omega)) (by
        rw [up_n _ _ (by omega), up_s, show (cnt (delT (T i) p) : Int) - cnt (T i) = -1 by omega]
        exact i_sub1 _ _)
      have b0 : ∀ j, (wr J 1 3 (ct 2 + 1)) 0 j = I 0 j := fun j => by rw [wr_e, if_neg (by omega), j2 0 j (by omega)]
      have b15 : ∀ a j, 15 ≤ a → (wr J 1 3 (ct 2 + 1)) a j = I a j := fun a j h => by rw [wr_e, if_neg (by omega), j2 a j (by omega)]
      have cl : fX1_loadAt (3 + 4 * i) (iI p) I = some (iI (gl (T i) p), I) := by
        rw [t_loadAt G R (by omega) (by omega)]
        simp (disch := omega) only [LZ, if_pos, tn_n]
      have j13 : J 1 3 = ct 2 := by rw [j2 1 3 (by omega)]; exact C.2 2 (by omega)
      have s1 : (wr J 1 3 (ct 2 + 1)) 1 1 = iI lim := by rw [wr_e, if_neg (by omega), j2 1 1 (by omega), ← hl]; exact C.2 0 (by omega)
      have s2 : (wr J 1 3 (ct 2 + 1)) (3 + 4 * i) 4 = iI (mo i) := by have := (cy1.1 i hi).2; rw [up_s, show 1 + 2 + 4 * i = 3 + 4 * i by omega] at this; exact this
      have s3 : (wr J 1 3 (ct 2 + 1)) (3 + 4 * i) 3 = iI (cnt (delT (T i) p)) := by have := (cy1.1 i hi).1.1; rw [up_s, show 1 + 2 + 4 * i = 3 + 4 * i by omega] at this; exact this
      have m0 : 0 ≤ lim * (mo i : Int) := Int.mul_nonneg (by omega) (by omega)
      have m1 : lim * (mo i : Int) ≤ 90 * (mo i : Int) := Int.mul_le_mul_of_nonneg_right hl3 (by omega)
      have cNow : fX4_takeNow (iI i) (iI y) I = if lim * (mo i : Int) ≤ 100 * (cnt (delT (T i) p) : Int) then some (iI (gl (T i) p), wr J 1 3 (ct 2 + 1)) else bd (fX4_buildWhole (3 + 4 * i) (wr J 1 3 (ct 2 + 1))) fun _ I6 => some (iI (gl (T i) p), I6) := by
        rw [fX4_takeNow, c_rick hi, bd_s, on_1, if_pos (kd_r (Or.inl rfl) hi), show 1 + 2 + 4 * i = 3 + 4 * i by omega, t_find G R w1 w2, bd_s, f1, if_neg (by rw [l_m1, iI_eq (by omega) (by omega) (by omega) (by omega)]; omega), cl, bd_s, e, bd_s, ltm_s, j13, s1, s2, s3, iI_mul, l_100, iI_mul]
        by_cases q : lim * (mo i : Int) ≤ 100 * (cnt (delT (T i) p) : Int)
        · rw [if_pos q, if_pos (by rw [iI_le (by omega) (by omega) (by omega) (by omega)]; exact q)]
        · rw [if_neg q, if_neg (by rw [iI_le (by omega) (by omega) (by omega) (by omega)]; exact q)]
      by_cases q : lim * (mo i : Int) ≤ 100 * (cnt (delT (T i) p) : Int)
      · exact ⟨iI (gl (T i) p), _, _, _, _, by rw [l_0, iI_le (by omega) (by omega) (by omega) (by omega)]; omega, ok1, by rw [cNow, if_pos q], ⟨cy1, b15, fun j _ _ => b0 j, b0 9, b0 10⟩, trivial⟩
      · have GU : GT (up T i (delT (T i) p) i) := by rw [up_s]; exact GD
        obtain ⟨J', e', q1, q2, q3⟩ := c_bw hi cy1 GU
        have bp := (bw_pos (up T i (delT (T i) p) i)).1
        refine ⟨iI (gl (T i) p), _, _, _, J', by rw [l_0, iI_le (by omega) (by omega) (by omega) (by omega)]; omega, okz_up ok1 hi (bw_gt GU) GU.1 (by omega) (by rw [up_n _ _ (by omega), up_n _ _ (by omega)]) ?_, by rw [cNow, if_neg q, e', bd_s], ⟨q1, fun a j h => by rw [q2 a j h, b15 a j h], fun j _ _ => by rw [q3, b0], by rw [q3, b0]; rfl, by rw [q3, b0]; rfl⟩, trivial⟩
        rw [up_n _ _ (by omega), up_n _ _ (by omega), up_n (up (up ct 2 (ct 2 + 1)) 4 _) _ (show (2 : Nat) ≠ 5 by omega), up_n (up ct 2 (ct 2 + 1)) _ (show (2 : Nat) ≠ 4 by omega), bp, Int.sub_self]
        exact (Int32.add_zero _).symm
  · refine k_no C (v := -11) (by decide) trivial ?_
    rw [fX4_takeNow, c_rickAt h1 h2, if_neg c, bd_s, on_0]
end KOP
