/-! ===== queries of a rick ===== -/
theorem bd_id {α : Type} (o : Option (α × Mm)) : (bd o fun r J => some (r, J)) = o := by
  cases o <;> rfl
theorem c_isBears {b : Int} (h1 : -2147483648 ≤ b) (h2 : b < 2147483648) (I : Mm) : fX4_isBears (iI b) I = some (iI (if 99 ≤ b ∧ b ≤ 999 then 1 else 0), I) := by
  rw [fX4_isBears, l_99, l_999]
  simp (disch := omega) only [iI_lt]
  by_cases c : b < 99
  · rw [if_pos c, if_neg (by omega)]; rfl
  · rw [if_neg c]
    by_cases d : 999 < b
    · rw [if_pos d, if_neg (by omega)]; rfl
    · rw [if_neg d, if_pos (by omega)]; rfl
/-- the weight on top of a part -/
def tpW : Tr → Int
  | .leaf => -15
  | .inner _ w _ _ _ => w
theorem c_tpW {I : Mm} {r : Nat} {t : Tr} (G : GT t) (Rt : RT I r t) {s : Tr} {lo d : Nat} (B : BL t lo d s) {hi : Int} (hh : hi = (lo : Int) + cnt s - 1) : ∃ z : Int, -2147483648 ≤ z ∧ z < 2147483648 ∧ fX1_topOf r (iI lo) (iI hi) I = some (iI z, I) ∧ WZ t z = tpW s := by
  have g := G.1
  have b := B.1
  cases s with
  | leaf =>
    refine ⟨-1, by omega, by omega, t_topNone G Rt (by omega) (by omega) (by rw [hh]; simp [cnt]; omega) (by omega), ?_⟩
    rw [WZ, if_neg (by omega)]; rfl
  | inner k w ld l s =>
    have m := bl_m B
    refine ⟨((lo + cnt l : Nat) : Int), by omega, by omega, t_topB G Rt B (by rw [hh, cnt_i]; omega), ?_⟩
    rw [WZ, if_pos (by omega), tn_n, m.2.1]; rfl
theorem ld_part {t : Tr} {p : Nat} (hp : p < cnt t) : ldS (sbP t p) = sL t (loP t p + 1) - sL t (foP t p) := by
  have B := bl_p t t 0 0 p (bl_0 t) hp
  rw [Nat.zero_add, Nat.zero_add] at B
  obtain ⟨l, r, e1, e2, e3⟩ := sb_is t p hp
  have n : cnt (sbP t p) = cnt l + 1 + cnt r := by rw [e1, cnt_i]
  rw [ld_is, show loP t p + 1 = foP t p + cnt (sbP t p) by omega]
  unfold sL
  rw [sm_add, sm_congr (f := fun j => ((gl t (foP t p + j) : Nat) : Int)) (g := fun j => ((gl (sbP t p) j : Nat) : Int)) (cnt (sbP t p)) (fun j hj => by rw [(B.2 j hj).2.1])]
  omega
