/-! ===== a change, on both sides ===== -/
def up {α : Type} (f : Nat → α) (i : Nat) (v : α) : Nat → α := fun x => if x = i then v else f x
theorem up_s {α : Type} (f : Nat → α) (i : Nat) (v : α) : up f i v i = v := if_pos rfl
theorem up_n {α : Type} (f : Nat → α) {i x : Nat} (v : α) (h : x ≠ i) : up f i v x = f x := if_neg h
def r1 (rs : Option (Int32 × Int32)) (d : Int32) : Int32 := match rs with | none => d | some x => x.1
def r2 (rs : Option (Int32 × Int32)) (d : Int32) : Int32 := match rs with | none => d | some x => x.2
def CRes (I J : Mm) (T : Nat → Tr) (mo : Nat → Nat) (ct : Nat → Int32) (rs : Option (Int32 × Int32)) : Prop := CY J 1 T mo ct ∧ (∀ a j, 15 ≤ a → J a j = I a j) ∧ (∀ j, j ≠ 9 → j ≠ 10 → J 0 j = I 0 j) ∧ J 0 9 = r1 rs (I 0 9) ∧ J 0 10 = r2 rs (I 0 10)
section OP
variable {I : Mm} {f : Nat → Int32} {T : Nat → Tr} {mo : Nat → Nat} {ct : Nat → Int32}
theorem c_refuse (a b : Int32) (J : Mm) : fX4_refuse a b J = some (iI (-14), wr (wr J 0 9 a) 0 10 b) := by
  unfold fX4_refuse
  rw [ltm_s, ltm_s]; rfl
theorem i10 : ¬ (iI 1 = 0) := by decide
theorem i00 : iI 0 = 0 := rfl
theorem i_sub1 (a b : Int32) : a - (b + 1) = a - b + iI (-1) := by
  obtain ⟨x, rfl, _⟩ := iI_ex a
  obtain ⟨y, rfl, _⟩ := iI_ex b
  rw [l_1, iI_add, iI_sub, iI_sub, iI_add]; congr 1; omega
theorem i_add1 (a b : Int32) : (a + 1) - b = a - b + iI 1 := by
  obtain ⟨x, rfl, _⟩ := iI_ex a
  obtain ⟨y, rfl, _⟩ := iI_ex b
  rw [l_1, iI_add, iI_sub, iI_sub, iI_add]; congr 1; omega
/-- no rick on either side -/
theorem cy_up {J : Mm} {i : Nat} (hi : i < 3) (C : CY I 1 T mo ct) {t : Tr} {m : Nat} {c2 : Nat → Int32} (R : RT J (3 + 4 * i) t) (hm : J (3 + 4 * i) 4 = iI m) (h : ∀ a j, 2 ≤ a → a ≤ 14 → (a < 3 + 4 * i ∨ 3 + 4 * i + 3 < a) → J a j = I a j) (hc : ∀ j, j < 7 → J 1 (j + 1) = c2 j) : CY J 1 (up T i t) (up mo i m) c2 := by
  refine ⟨fun q hq => ?_, hc⟩
  by_cases c : q = i
  · subst c
    rw [up_s, up_s, show 1 + 2 + 4 * q = 3 + 4 * q by omega]
    exact ⟨R, hm⟩
  · rw [up_n _ _ c, up_n _ _ c]
    have := C.1 q hq
    exact ⟨rt_of this.1 (fun a j h1 h2 => h a j (by omega) (by omega) (by omega)), by rw [h _ _ (by omega) (by omega) (by omega)]; exact this.2⟩
theorem up_sum {i : Nat} (hi : i < 3) (t : Tr) : cnt (up T i t 0) + cnt (up T i t 1) + cnt (up T i t 2) + cnt (T i) = cnt (T 0) + cnt (T 1) + cnt (T 2) + cnt t := by
  match i, hi with
  | 0, _ => rw [up_s, up_n _ _ (by omega), up_n _ _ (by omega)]; omega
  | 1, _ => rw [up_s, up_n _ _ (by omega), up_n _ _ (by omega)]; omega
  | 2, _ => rw [up_s, up_n _ _ (by omega), up_n _ _ (by omega)]; omega
theorem ok_up (O : OKY T mo ct) {i : Nat} (hi : i < 3) {t : Tr} {m : Nat} {c2 : Nat → Int32} (G : GT t) (hm : m ≤ 30) (h0 : c2 0 = ct 0) (h12 : c2 1 - c2 2 = (ct 1 - ct 2) + iI ((cnt t : Int) - cnt (T i))) : OKY (up T i t) (up mo i m) c2 := by
  refine ⟨fun q hq => ?_, by rw [h0]; exact O.2.1, ?_⟩
  · by_cases c : q = i
    · subst c; rw [up_s, up_s]; exact ⟨G, hm⟩
    · rw [up_n _ _ c, up_n _ _ c]; exact O.1 q hq
  · have s := up_sum (T := T) hi t
    rw [h12, O.2.2, iI_add]; congr 1; omega
/-- a whole rick built anew, the class's way -/
theorem c_bw {J : Mm} {i : Nat} (hi : i < 3) (C : CY J 1 T mo ct) (G : GT (T i)) : ∃ J', fX4_buildWhole (3 + 4 * i) J = some (iI (mvT (T i) (bwT (T i))), J') ∧ CY J' 1 (up T i (bwT (T i))) (up mo i (cnt (T i))) (up (up ct 4 (ct 4 + 1)) 5 (ct 5 + iI (cnt (T i)))) ∧ (∀ a j, 15 ≤ a → J' a j = J a j) ∧ ∀ j, J' 0 j = J 0 j := by
  have R := (C.1 i hi).1
  rw [show 1 + 2 + 4 * i = 3 + 4 * i by omega] at R
  obtain ⟨K, e, h1, h2, h3⟩ := t_buildWhole G R
  have bp := bw_pos (T i)
  have k5 : K 1 5 = ct 4 := by rw [h3 1 5 (by omega)]; exact C.2 4 (by omega)
  have k6 : K 1 6 = ct 5 := by rw [h3 1 6 (by omega)]; exact C.2 5 (by omega)
  refine ⟨wr (wr K 1 5 (ct 4 + 1)) 1 6 (ct 5 + iI (cnt (T i))), ?_, cy_up hi C (rt_of h1 (fun a j a1 a2 => by simp (disch := omega) only [wr_e, if_neg])) (by simp (disch := omega) only [wr_e, if_neg]; exact h2) (fun a j a1 a2 a3 => by simp (disch := omega) only [wr_e, if_neg]; exact h3 a j (by omega)) (fun j hj => ?_), fun a j h => by simp (disch := omega) only [wr_e, if_neg]; exact h3 a j (by omega), fun j => by simp (disch := omega) only [wr_e, if_neg]; exact h3 0 j (by omega)⟩
  · rw [fX4_buildWhole, e, bd_s, ltm_s, ltm_s, k5]
    have q1 : (wr K 1 5 (ct 4 + 1)) 1 6 = ct 5 := by rw [wr_e, if_neg (by omega)]; exact k6
    have q2 : (wr K 1 5 (ct 4 + 1)) (3 + 4 * i) 3 = iI (cnt (T i)) := by rw [wr_e, if_neg (by omega), h1.1, bp.1]
    rw [q1, q2]
  · by_cases c5 : j = 5
    · subst c5; rw [wr_e, if_pos ⟨rfl, rfl⟩, up_s]
    · rw [wr_e, if_neg (by omega), up_n _ _ c5]
      by_cases c4 : j = 4
      · subst c4; rw [wr_e, if_pos ⟨rfl, rfl⟩, up_s]
      · rw [wr_e, if_neg (by omega), up_n _ _ c4, h3 1 _ (by omega)]; exact C.2 j hj
theorem mv_rng (t u : Tr) : 0 ≤ mvT t u ∧ mvT t u ≤ cnt t := by
  unfold mvT
  have key : ∀ n, 0 ≤ sm (fun j => if (gd t j : Int) = gd u j then 0 else 1) n ∧ sm (fun j => if (gd t j : Int) = gd u j then 0 else 1) n ≤ n := by
    intro n
    induction n with
    | zero => rw [sm]; omega
    | succ n ih => rw [sm]; split <;> omega
  exact key _
end OP
