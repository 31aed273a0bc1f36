/-! ===== one call chosen by a cell ===== -/
theorem rem_n {a b : Nat} (ha : a < 2147483648) (h0 : 0 < b) (hb : b < 2147483648) : iI (a : Int) - iI (a : Int) / iI (b : Int) * iI (b : Int) = iI ((a % b : Nat) : Int) := by
  have h1 : a / b * b ≤ a := Nat.div_mul_le_self a b
  have e1 : (a : Int) / (b : Int) = ((a / b : Nat) : Int) := rfl
  have e2 : ((a / b : Nat) : Int) * (b : Int) = ((a / b * b : Nat) : Int) := (Int.natCast_mul _ _).symm
  have e3 : a % b = a - a / b * b := by
    have := Nat.div_add_mod a b
    rw [Nat.mul_comm] at this; omega
  rw [iI_div (by omega) (by omega) (by omega) (by omega), iI_mul, iI_sub, e1, e2]
  congr 1; omega
def AR (o : Option (Int32 × Mm)) (Y : Yst) : Prop := ∃ (v : Int32) (J : Mm) (Y' : Yst) (ps' : List Yst) (sv' : Option Yst), o = some (v, J) ∧ INV J Y' ps' sv' ∧ (v < 0 → Y' = Y)
theorem ar_ite {c : Prop} [Decidable c] {A B : Option (Int32 × Mm)} {Y : Yst} (h1 : c → AR A Y) (h2 : ¬ c → AR B Y) : AR (if c then A else B) Y := by
  by_cases h : c
  · rw [if_pos h]; exact h1 h
  · rw [if_neg h]; exact h2 h
theorem chg_eq {v : Int32} {Y Y' : Yst} {ps ps' : List Yst} (h : Chg v Y Y' ps ps') : v < 0 → Y' = Y := by
  intro hv
  rcases h with ⟨_, b, _⟩ | ⟨a, _⟩
  · exact b
  · rw [Int32.le_iff_toInt_le] at a; rw [Int32.lt_iff_toInt_lt] at hv; omega
section ACT
variable {I : Mm} {Y : Yst} {ps : List Yst} {sv : Option Yst}
theorem q_r0g (V : INV I Y ps sv) (x : Int32) : ∃ r, fX4_rickOf x 0 I = some (r, I) := by
  obtain ⟨z, rfl, h1, h2⟩ := iI_ex x
  by_cases c : 0 ≤ z ∧ z < 3
  · obtain ⟨i, rfl⟩ : ∃ i : Nat, z = i := ⟨z.toNat, by omega⟩
    obtain ⟨lim, _, Q⟩ := rq_ex V.1 V.2.1 (i := i) (by omega)
    exact ⟨_, q_r0 Q⟩
  · exact ⟨-11, by rw [fX4_rickOf, c_rickAt h1 h2, if_neg c, bd_s, on_0]⟩
theorem q_atg (V : INV I Y ps sv) (x y : Int32) : ∃ r, fX4_at x y I = some (r, I) := by
  obtain ⟨z, rfl, h1, h2⟩ := iI_ex x
  obtain ⟨w, rfl, w1, w2⟩ := iI_ex y
  by_cases c : 0 ≤ z ∧ z < 3
  · obtain ⟨i, rfl⟩ : ∃ i : Nat, z = i := ⟨z.toNat, by omega⟩
    obtain ⟨lim, _, Q⟩ := rq_ex V.1 V.2.1 (i := i) (by omega)
    exact ⟨_, q_at Q w1 w2⟩
  · exact ⟨-11, by rw [fX4_at, c_rickAt h1 h2, if_neg c, bd_s, on_0]⟩
theorem ar_put (V : INV I Y ps sv) (a b c : Int32) : AR (bd (fX4_put a b c I) fun r1 I1 => some (r1, I1)) Y := by
  obtain ⟨v, J, Y', ps', e, V', h⟩ := g_put V a b c
  exact ⟨v, J, Y', ps', sv, by rw [e, bd_s], V', chg_eq h⟩
theorem ar_take (V : INV I Y ps sv) (a b : Int32) : AR (bd (fX4_take a b I) fun r1 I1 => some (r1, I1)) Y := by
  obtain ⟨v, J, Y', ps', e, V', h⟩ := g_take V a b
  exact ⟨v, J, Y', ps', sv, by rw [e, bd_s], V', chg_eq h⟩
theorem ar_build (V : INV I Y ps sv) (a : Int32) : AR (bd (fX4_build a I) fun r1 I1 => some (r1, I1)) Y := by
  obtain ⟨v, J, Y', ps', e, V', h, _⟩ := g_build V a
  exact ⟨v, J, Y', ps', sv, by rw [e, bd_s], V', chg_eq h⟩
theorem ar_pour (V : INV I Y ps sv) (a b : Int32) : AR (bd (fX4_pour a b I) fun r1 I1 => some (r1, I1)) Y := by
  obtain ⟨v, J, Y', ps', e, V', h⟩ := g_pour V a b
  exact ⟨v, J, Y', ps', sv, by rw [e, bd_s], V', chg_eq h⟩
theorem ar_limit (V : INV I Y ps sv) (a : Int32) : AR (bd (fX4_limit a I) fun r1 I1 => some (r1, I1)) Y := by
  obtain ⟨v, J, Y', ps', e, V', h⟩ := g_limit V a
  exact ⟨v, J, Y', ps', sv, by rw [e, bd_s], V', chg_eq h⟩
theorem ar_text (V : INV I Y ps sv) {t : Nat} (ht : t < 20) : AR (bd (fL_write t I) fun _ I1 => bd (fX4_run I1) fun r2 I2 => some (r2, I2)) Y := by
  obtain ⟨I1, v, J, Y', ps', e1, e2, V', h⟩ := g_text V ht
  refine ⟨v, J, Y', ps', sv, by rw [e1, bd_s, e2, bd_s], V', fun hv => ?_⟩
  rcases h with ⟨_, b, _⟩ | ⟨a, _⟩
  · exact b
  · rw [Int32.le_iff_toInt_le] at a; rw [Int32.lt_iff_toInt_lt] at hv; omega
theorem ar_save (V : INV I Y ps sv) : AR (bd (fX4_save I) fun r1 I1 => some (r1, I1)) Y := by
  obtain ⟨J, e, V'⟩ := g_save V
  exact ⟨_, J, Y, ps, some Y, by rw [e, bd_s], V', fun _ => rfl⟩
theorem ar_restore (V : INV I Y ps sv) : AR (bd (fX4_restore I) fun r1 I1 => some (r1, I1)) Y := by
  cases sv with
  | none => exact ⟨-15, I, Y, ps, none, by rw [g_restore0 V, bd_s], V, fun _ => rfl⟩
  | some Y0 =>
    obtain ⟨J, e, V'⟩ := g_restore1 V
    have g0 := (V'.1.1.1 0 (by omega)).1.1
    have g1 := (V'.1.1.1 1 (by omega)).1.1
    have g2 := (V'.1.1.1 2 (by omega)).1.1
    refine ⟨_, J, Y0, [], some Y0, by rw [e, bd_s], V', fun h => ?_⟩
    unfold sumY at h
    rw [l_0, iI_lt (by omega) (by omega) (by omega) (by omega)] at h
    omega
theorem ar_undo (V : INV I Y ps sv) : AR (bd (fX4_undo I) fun r1 I1 => some (r1, I1)) Y := by
  cases ps with
  | nil => exact ⟨-15, I, Y, [], sv, by rw [g_undo0 V, bd_s], V, fun _ => rfl⟩
  | cons Y0 ps =>
    obtain ⟨J, e, V'⟩ := g_undo1 V
    obtain ⟨_, _, p2, _⟩ := V.2.2.1
    rw [List.length_cons] at p2
    refine ⟨_, J, Y0, ps, sv, by rw [e, bd_s], V', fun h => ?_⟩
    rw [l_0, iI_lt (by omega) (by omega) (by omega) (by omega)] at h
    omega
theorem ar_146 (V : INV I Y ps sv) (x y : Int32) : AR (fL_act_p146 x y I) Y := by
  obtain ⟨r, e⟩ := q_r0g V y
  rw [fL_act_p146, e, bd_s]
  exact ar_put V _ _ _
theorem ar_179 (V : INV I Y ps sv) (x y : Int32) : AR (fL_act_p179 x y I) Y := by
  obtain ⟨r, e⟩ := q_r0g V y
  rw [fL_act_p179, e, bd_s]
  by_cases c : r ≤ 0
  · obtain ⟨s, e2⟩ := q_atg V y 0
    rw [if_pos c, e2, bd_s]
    exact ar_take V _ _
  · have h : ¬ r = 0 := fun h => c (by rw [h]; decide)
    rw [if_neg c, e, bd_s, if_neg h]
    obtain ⟨s, e2⟩ := q_atg V y ((x >>> ((4 : Int32) &&& 31)) - (x >>> ((4 : Int32) &&& 31)) / r * r)
    rw [ltm_s, e2, bd_s]
    exact ar_take V _ _
theorem ar_50 (V : INV I Y ps sv) (x : Int32) {z : Nat} (hz : z < 65536) (y w : Int32) : AR (fL_act_p50 x (iI z) y w I) Y := by
  have re : iI (z : Int) - iI (z : Int) / 20 * 20 = iI ((z % 20 : Nat) : Int) := rem_n (b := 20) (by omega) (by decide) (by decide)
  have tn : (iI ((z % 20 : Nat) : Int)).toNatClampNeg = z % 20 := by rw [iI_cl (by omega) (by omega), tn_n]
  have hidx : ¬ (iI ((z % 20 : Nat) : Int) < 0 ∨ 20 ≤ z % 20) := by
    rw [l_0, iI_lt (by omega) (by omega) (by omega) (by omega)]; omega
  unfold fL_act_p50
  rw [re, tn]
  have tx := ar_text V (t := z % 20) (Nat.mod_lt _ (by decide))
  refine ar_ite (fun _ => ar_put V _ _ _) (fun _ => ?_)
  refine ar_ite (fun _ => ar_put V _ _ _) (fun _ => ?_)
  refine ar_ite (fun _ => ar_put V _ _ _) (fun _ => ?_)
  refine ar_ite (fun _ => ar_put V _ _ _) (fun _ => ?_)
  refine ar_ite (fun _ => ar_put V _ _ _) (fun _ => ?_)
  refine ar_ite (fun _ => ar_146 V _ _) (fun _ => ?_)
  refine ar_ite (fun _ => ar_146 V _ _) (fun _ => ?_)
  refine ar_ite (fun _ => ar_179 V _ _) (fun _ => ?_)
  refine ar_ite (fun _ => ar_179 V _ _) (fun _ => ?_)
  refine ar_ite (fun _ => ar_take V _ _) (fun _ => ?_)
  refine ar_ite (fun _ => ar_ite (fun _ => ar_build V _) (fun _ => ar_put V _ _ _)) (fun _ => ?_)
  refine ar_ite (fun _ => ar_ite (fun _ => ar_pour V _ _) (fun _ => ar_put V _ _ _)) (fun _ => ?_)
  refine ar_ite (fun _ => ar_limit V _) (fun _ => ?_)
  refine ar_ite (fun _ => ar_ite (fun q => absurd q hidx) (fun _ => tx)) (fun _ => ?_)
  refine ar_ite (fun _ => ar_ite (fun q => absurd q hidx) (fun _ => tx)) (fun _ => ?_)
  exact ar_ite (fun _ => ar_save V) (fun _ => ar_ite (fun _ => ar_restore V) (fun _ => ar_undo V))
theorem g_act (V : INV I Y ps sv) (x : Int32) : AR (fL_act x I) Y := by
  obtain ⟨a1, a2⟩ := and_65535 (x >>> ((4 : Int32) &&& 31))
  have e := iI_of ((x >>> ((4 : Int32) &&& 31)) &&& 65535)
  generalize ((x >>> ((4 : Int32) &&& 31)) &&& 65535).toInt = q at a1 a2 e
  obtain ⟨z, rfl⟩ : ∃ z : Nat, q = z := ⟨q.toNat, by omega⟩
  rw [fL_act, e, ltm_s]
  by_cases c : iI (z : Int) &&& 3 = 0
  · rw [if_pos c, fL_act_p22]
    exact ar_ite (fun _ => ar_50 V x (by omega) _ _) (fun _ => ar_50 V x (by omega) _ _)
  · rw [if_neg c, fL_act_p22]
    exact ar_ite (fun _ => ar_50 V x (by omega) _ _) (fun _ => ar_50 V x (by omega) _ _)
end ACT
