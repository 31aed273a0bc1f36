/-! ===== what an object holds; the calls that change it ===== -/
abbrev Yst : Type := (Nat → Tr) × (Nat → Nat) × (Nat → Int32)
def OKs (Y : Yst) : Prop := OKZ Y.1 Y.2.1 Y.2.2
def CYs (I : Mm) (y : Nat) (Y : Yst) : Prop := CY I y Y.1 Y.2.1 Y.2.2
def PaC (I : Mm) (ps : List Yst) : Prop := ∃ nx : Nat, nx < 9 ∧ ps.length ≤ 8 ∧ I 0 4 = iI nx ∧ I 0 5 = iI ps.length ∧ ∀ (k : Nat) (Y : Yst), ps[k]? = some Y → OKs Y ∧ CYs I (37 + 14 * ((nx + 8 - k) % 9)) Y
def SvC (I : Mm) : Option Yst → Prop
  | none => I 0 2 = 0
  | some Y => I 0 2 = 1 ∧ OKs Y ∧ CYs I 15 Y
def INV (I : Mm) (Y : Yst) (ps : List Yst) (sv : Option Yst) : Prop := OKs Y ∧ CYs I 1 Y ∧ PaC I ps ∧ SvC I sv ∧ I 30 1 = iI 0
theorem pac_of {I J : Mm} {ps : List Yst} (R : PaC I ps) (h0 : ∀ j, j = 4 ∨ j = 5 → J 0 j = I 0 j) (h2 : ∀ a j, 37 ≤ a → a < 163 → J a j = I a j) : PaC J ps := by
  obtain ⟨nx, a, b, c, d, e⟩ := R
  refine ⟨nx, a, b, by rw [h0 _ (Or.inl rfl), c], by rw [h0 _ (Or.inr rfl), d], fun k Y hk => ⟨(e k Y hk).1, cy_of (e k Y hk).2 (fun x j x1 x2 => h2 x j (by omega) (by omega))⟩⟩
theorem svc_of {I J : Mm} {sv : Option Yst} (R : SvC I sv) (h0 : J 0 2 = I 0 2) (h1 : ∀ a j, 15 ≤ a → a ≤ 28 → J a j = I a j) : SvC J sv := by
  cases sv with
  | none => exact h0.trans R
  | some Y => exact ⟨h0.trans R.1, R.2.1, cy_of R.2.2 (fun a j x1 x2 => h1 a j x1 (by omega))⟩
theorem inv_of {I J : Mm} {Y : Yst} {ps : List Yst} {sv : Option Yst} (V : INV I Y ps sv) (h0 : ∀ j, j = 2 ∨ j = 4 ∨ j = 5 → J 0 j = I 0 j) (h1 : ∀ a j, 1 ≤ a → a ≤ 28 → J a j = I a j) (h2 : ∀ a j, 37 ≤ a → a < 163 → J a j = I a j) (h3 : J 30 1 = I 30 1) : INV J Y ps sv :=
  ⟨V.1, cy_of V.2.1 (fun a j x1 x2 => h1 a j x1 (by omega)), pac_of V.2.2.1 (fun j hj => h0 j (by omega)) h2, svc_of V.2.2.2.1 (h0 2 (Or.inl rfl)) (fun a j x1 x2 => h1 a j (by omega) x2), h3.trans V.2.2.2.2⟩
theorem call_op {cF : Mm → Option (Int32 × Mm)} {N : Int32 → Prop} {PP : (Nat → Tr) → (Nat → Int32) → Int32 → (Nat → Tr) → (Nat → Nat) → (Nat → Int32) → Prop} (h : ∀ I T mo ct, OKZ T mo ct → CY I 1 T mo ct → KOp I cF T mo ct N (PP T ct)) {I : Mm} {Y : Yst} {ps : List Yst} {sv : Option Yst} (V : INV I Y ps sv) : ∃ (v : Int32) (J : Mm) (Y' : Yst) (ps' : List Yst), (bd (fX4_hold I) fun _ I1 => bd (cF I1) fun r2 I2 => bd (fX4_keep r2 I2) fun r3 I3 => some (r3, I3)) = some (v, J) ∧ INV J Y' ps' sv ∧ ((v < 0 ∧ N v ∧ Y' = Y ∧ ps' = ps) ∨ (0 ≤ v ∧ ps' = (Y :: ps).take 8 ∧ PP Y.1 Y.2.2 v Y'.1 Y'.2.1 Y'.2.2)) := by
  obtain ⟨O, C, ⟨nx, p1, p2, p3, p4, p5⟩, S, t0⟩ := id V
  obtain ⟨J1, e1, cp, f1⟩ := c_hold p1 p3 O.1 C
  have C1 : CY J1 1 Y.1 Y.2.1 Y.2.2 := cy_of C (fun a j _ _ => f1 a j (by omega))
  rcases h J1 Y.1 Y.2.1 Y.2.2 O C1 with ⟨v, rs, J2, hv, hN, e2, q1, q2, q3, q4, q5⟩ | ⟨v, T', mo', ct', J2, hv, O', e2, ⟨q1, q2, q3, q4, q5⟩, hP⟩
  · refine ⟨v, J2, Y, ps, by rw [e1, bd_s, e2, bd_s, c_keep0 hv, bd_s], ⟨O, q1, ⟨nx, p1, p2, ?_, ?_, fun k Z hk => ⟨(p5 k Z hk).1, cy_of (p5 k Z hk).2 (fun a j x1 x2 => ?_)⟩⟩, svc_of S ?_ (fun a j x1 x2 => ?_), ?_⟩, Or.inl ⟨hv, hN, rfl, rfl⟩⟩
    · rw [q3 _ (by omega) (by omega), f1 _ _ (by omega), p3]
    · rw [q3 _ (by omega) (by omega), f1 _ _ (by omega), p4]
    · have hkl : k < ps.length := (List.getElem?_eq_some_iff.mp hk).1
      rw [q2 a j (by omega), f1 a j (by omega)]
    · rw [q3 _ (by omega) (by omega), f1 _ _ (by omega)]
    · rw [q2 a j (by omega), f1 a j (by omega)]
    · rw [q2 30 1 (by omega), f1 30 1 (by omega), t0]
  · have ek := @c_keep1 J2 v hv nx ps.length p1 p2 (by rw [q3 _ (by omega) (by omega), f1 _ _ (by omega), p3]) (by rw [q3 _ (by omega) (by omega), f1 _ _ (by omega), p4])
    generalize hJ3 : wr (wr J2 0 4 (iI (((nx + 1) % 9 : Nat) : Int))) 0 5 (iI (min (ps.length + 1) 8 : Nat)) = J3 at ek
    have w0 : ∀ a j, (a ≠ 0 ∨ (j ≠ 4 ∧ j ≠ 5)) → J3 a j = J2 a j := fun a j x => by rw [← hJ3, wr_e, if_neg (by omega), wr_e, if_neg (by omega)]
    have w4 : J3 0 4 = iI (((nx + 1) % 9 : Nat) : Int) := by rw [← hJ3, wr_e, if_neg (by omega), wr_e, if_pos ⟨rfl, rfl⟩]
    have w5 : J3 0 5 = iI (min (ps.length + 1) 8 : Nat) := by rw [← hJ3, wr_e, if_pos ⟨rfl, rfl⟩]
    have ln : ((Y :: ps).take 8).length = min (ps.length + 1) 8 := by rw [List.length_take, List.length_cons]; omega
    refine ⟨v, J3, (T', mo', ct'), (Y :: ps).take 8, by rw [e1, bd_s, e2, bd_s, ek, bd_s], ⟨O', cy_of q1 (fun a j x1 x2 => w0 a j (by omega)), ⟨(nx + 1) % 9, by omega, by omega, w4, by rw [w5, ln], fun k Z hk => ?_⟩, svc_of S ?_ (fun a j x1 x2 => ?_), ?_⟩, Or.inr ⟨hv, rfl, hP⟩⟩
    · have hkl : k < ((Y :: ps).take 8).length := (List.getElem?_eq_some_iff.mp hk).1
      rw [List.getElem?_take, if_pos (by omega)] at hk
      cases k with
      | zero =>
        rw [List.getElem?_cons_zero] at hk
        cases hk
        rw [show ((nx + 1) % 9 + 8 - 0) % 9 = nx by omega]
        exact ⟨O, cy_of cp (fun a j x1 x2 => by rw [w0 a j (by omega), q2 a j (by omega)])⟩
      | succ k =>
        rw [List.getElem?_cons_succ] at hk
        have hq : k < ps.length := (List.getElem?_eq_some_iff.mp hk).1
        rw [show ((nx + 1) % 9 + 8 - (k + 1)) % 9 = (nx + 8 - k) % 9 by omega]
        exact ⟨(p5 k Z hk).1, cy_of (p5 k Z hk).2 (fun a j x1 x2 => by rw [w0 a j (by omega), q2 a j (by omega), f1 a j (by omega)])⟩
    · rw [w0 _ _ (by omega), q3 _ (by omega) (by omega), f1 _ _ (by omega)]
    · rw [w0 a j (by omega), q2 a j (by omega), f1 a j (by omega)]
    · rw [w0 _ _ (by omega), q2 30 1 (by omega), f1 30 1 (by omega), t0]
/-- what a call of a change leaves -/
def Chg (v : Int32) (Y Y' : Yst) (ps ps' : List Yst) : Prop := (v < 0 ∧ Y' = Y ∧ ps' = ps) ∨ (0 ≤ v ∧ ps' = (Y :: ps).take 8)
section CALLS
variable {I : Mm} {Y : Yst} {ps : List Yst} {sv : Option Yst}
theorem op_w {cF : Mm → Option (Int32 × Mm)} {N : Int32 → Prop} (h : ∀ I T mo ct, OKZ T mo ct → CY I 1 T mo ct → KOp I cF T mo ct N tru) (V : INV I Y ps sv) : ∃ (v : Int32) (J : Mm) (Y' : Yst) (ps' : List Yst), (bd (fX4_hold I) fun _ I1 => bd (cF I1) fun r2 I2 => bd (fX4_keep r2 I2) fun r3 I3 => some (r3, I3)) = some (v, J) ∧ INV J Y' ps' sv ∧ Chg v Y Y' ps ps' ∧ (v < 0 → N v) := by
  obtain ⟨v, J, Y', ps', e, V', h⟩ := call_op (PP := fun _ _ => tru) h V
  refine ⟨v, J, Y', ps', e, V', ?_, ?_⟩
  · rcases h with ⟨a, _, b, c⟩ | ⟨a, b, _⟩
    · exact Or.inl ⟨a, b, c⟩
    · exact Or.inr ⟨a, b⟩
  · intro hv
    rcases h with ⟨a, b, _⟩ | ⟨a, b, _⟩
    · exact b
    · rw [Int32.le_iff_toInt_le] at a; rw [Int32.lt_iff_toInt_lt] at hv; omega
theorem g_put (V : INV I Y ps sv) (x w l : Int32) : ∃ (v : Int32) (J : Mm) (Y' : Yst) (ps' : List Yst), fX4_put x w l I = some (v, J) ∧ INV J Y' ps' sv ∧ Chg v Y Y' ps ps' := by
  obtain ⟨v, J, Y', ps', e, a, b, _⟩ := op_w (fun I T mo ct O C => k_put O C x w l) V
  exact ⟨v, J, Y', ps', e, a, b⟩
theorem g_take (V : INV I Y ps sv) (x w : Int32) : ∃ (v : Int32) (J : Mm) (Y' : Yst) (ps' : List Yst), fX4_take x w I = some (v, J) ∧ INV J Y' ps' sv ∧ Chg v Y Y' ps ps' := by
  obtain ⟨v, J, Y', ps', e, a, b, _⟩ := op_w (fun I T mo ct O C => k_take O C x w) V
  exact ⟨v, J, Y', ps', e, a, b⟩
theorem g_build (V : INV I Y ps sv) (x : Int32) : ∃ (v : Int32) (J : Mm) (Y' : Yst) (ps' : List Yst), fX4_build x I = some (v, J) ∧ INV J Y' ps' sv ∧ Chg v Y Y' ps ps' ∧ v ≠ -12 := by
  obtain ⟨v, J, Y', ps', e, a, b, c⟩ := op_w (fun I T mo ct O C => k_build O C x) V
  refine ⟨v, J, Y', ps', e, a, b, fun h => ?_⟩
  exact c (by rw [h]; decide) h
theorem g_pour (V : INV I Y ps sv) (x w : Int32) : ∃ (v : Int32) (J : Mm) (Y' : Yst) (ps' : List Yst), fX4_pour x w I = some (v, J) ∧ INV J Y' ps' sv ∧ Chg v Y Y' ps ps' := by
  obtain ⟨v, J, Y', ps', e, a, b, _⟩ := op_w (fun I T mo ct O C => k_pour O C x w) V
  exact ⟨v, J, Y', ps', e, a, b⟩
theorem g_limit (V : INV I Y ps sv) (x : Int32) : ∃ (v : Int32) (J : Mm) (Y' : Yst) (ps' : List Yst), fX4_limit x I = some (v, J) ∧ INV J Y' ps' sv ∧ Chg v Y Y' ps ps' := by
  obtain ⟨v, J, Y', ps', e, a, b, _⟩ := op_w (fun I T mo ct O C => k_limit O C x) V
  exact ⟨v, J, Y', ps', e, a, b⟩
/-- undo, with nothing to undo -/
theorem g_undo0 (V : INV I Y [] sv) : fX4_undo I = some (-15, I) := by
  obtain ⟨O, C, ⟨nx, p1, p2, p3, p4, p5⟩, S, t0⟩ := V
  rw [fX4_undo, p4]
  exact if_neg (by decide)
theorem g_undo1 {Y0 : Yst} (V : INV I Y (Y0 :: ps) sv) : ∃ J, fX4_undo I = some (iI ps.length, J) ∧ INV J Y0 ps sv := by
  obtain ⟨O, C, ⟨nx, p1, p2, p3, p4, p5⟩, S, t0⟩ := V
  rw [List.length_cons] at p2 p4
  obtain ⟨O', C'⟩ := p5 0 Y0 rfl
  have a : (iI nx + 8 - (iI nx + 8) / 9 * 9) = iI (((nx + 8) % 9 : Nat) : Int) := by
    rw [l_8, l_9, iI_add, iI_div (by omega) (by omega) (by omega) (by omega), iI_mul, iI_sub]; congr 1; omega
  generalize hJ1 : wr (wr I 0 4 (iI (((nx + 8) % 9 : Nat) : Int))) 0 5 (iI (ps.length : Int)) = J1
  have w0 : ∀ a j, (a ≠ 0 ∨ (j ≠ 4 ∧ j ≠ 5)) → J1 a j = I a j := fun a j x => by rw [← hJ1, wr_e, if_neg (by omega), wr_e, if_neg (by omega)]
  have w4 : J1 0 4 = iI (((nx + 8) % 9 : Nat) : Int) := by rw [← hJ1, wr_e, if_neg (by omega), wr_e, if_pos ⟨rfl, rfl⟩]
  have w5 : J1 0 5 = iI (ps.length : Int) := by rw [← hJ1, wr_e, if_pos ⟨rfl, rfl⟩]
  obtain ⟨J, e1, cj, fj⟩ := @c_give J1 ((nx + 8) % 9) (by omega) w4 Y0.1 Y0.2.1 Y0.2.2 O'.1 (cy_of C' (fun a j x y => w0 a j (by omega)))
  have u1 : iI ((ps.length + 1 : Nat) : Int) - 1 = iI (ps.length : Int) := by rw [l_1, iI_sub]; congr 1; omega
  refine ⟨J, ?_, O', cj, ⟨(nx + 8) % 9, by omega, by omega, by rw [fj _ _ (by omega), w4], by rw [fj _ _ (by omega), w5], fun k Z hk => ?_⟩, svc_of S (by rw [fj _ _ (by omega), w0 _ _ (by omega)]) (fun a j x1 x2 => by rw [fj a j (by omega), w0 a j (by omega)]), by rw [fj _ _ (by omega), w0 _ _ (by omega), t0]⟩
  · rw [fX4_undo, p4, if_pos (by rw [l_0, iI_lt (by omega) (by omega) (by omega) (by omega)]; omega), p3, a, ltm_s]
    rw [show (wr I 0 4 (iI (((nx + 8) % 9 : Nat) : Int))) 0 5 = iI ((ps.length + 1 : Nat) : Int) by rw [wr_e, if_neg (by omega), p4], u1, ltm_s, hJ1, e1, bd_s, fj _ _ (by omega), w5]
  · have hq : k < ps.length := (List.getElem?_eq_some_iff.mp hk).1
    have := p5 (k + 1) Z (by rw [List.getElem?_cons_succ]; exact hk)
    rw [show (nx + 8 - (k + 1)) % 9 = ((nx + 8) % 9 + 8 - k) % 9 by omega] at this
    exact ⟨this.1, cy_of this.2 (fun a j x1 x2 => by rw [fj a j (by omega), w0 a j (by omega)])⟩
def sumY (Y : Yst) : Nat := cnt (Y.1 0) + cnt (Y.1 1) + cnt (Y.1 2)
theorem g_save (V : INV I Y ps sv) : ∃ J, fX4_save I = some (iI (sumY Y : Nat), J) ∧ INV J Y ps (some Y) := by
  obtain ⟨O, C, P, S, t0⟩ := V
  obtain ⟨J0, e1, cj, fj⟩ := @c_copyY I 15 1 (Or.inr (Or.inl rfl)) (Or.inl rfl) (by omega) Y.1 Y.2.1 Y.2.2 O.1 C
  generalize hJ : wr J0 0 2 1 = J
  have wj : ∀ a j, (a ≠ 0 ∨ j ≠ 2) → J a j = J0 a j := fun a j x => by rw [← hJ, wr_e, if_neg (by omega)]
  have ji : ∀ a j, (a ≠ 0 ∨ j ≠ 2) → (a < 15 ∨ 28 < a) → J a j = I a j := fun a j x y => by rw [wj a j x, fj a j (by omega)]
  have CJ : CY J 1 Y.1 Y.2.1 Y.2.2 := cy_of C (fun a j _ _ => ji a j (by omega) (by omega))
  refine ⟨J, ?_, O, CJ, pac_of P (fun j hj => ji _ _ (by omega) (by omega)) (fun a j x1 x2 => ji _ _ (by omega) (by omega)), ⟨by rw [← hJ, wr_e, if_pos ⟨rfl, rfl⟩], O, cy_of cj (fun a j _ _ => wj a j (by omega))⟩, by rw [ji _ _ (by omega) (by omega), t0]⟩
  rw [fX4_save, e1, bd_s, ltm_s, hJ, c_sheaves (Or.inl rfl) CJ, bd_s]
  rfl
theorem g_restore0 (V : INV I Y ps none) : fX4_restore I = some (-15, I) := by
  have s : I 0 2 = 0 := V.2.2.2.1
  rw [fX4_restore, s, if_pos rfl]
theorem g_restore1 {Y0 : Yst} (V : INV I Y ps (some Y0)) : ∃ J, fX4_restore I = some (iI (sumY Y0 : Nat), J) ∧ INV J Y0 [] (some Y0) := by
  obtain ⟨O, C, ⟨nx, p1, p2, p3, p4, p5⟩, ⟨s1, O', C'⟩, t0⟩ := V
  obtain ⟨J0, e1, cj, fj⟩ := @c_copyY I 1 15 (Or.inl rfl) (Or.inr (Or.inl rfl)) (by omega) Y0.1 Y0.2.1 Y0.2.2 O'.1 C'
  generalize hJ : wr J0 0 5 0 = J
  have wj : ∀ a j, (a ≠ 0 ∨ j ≠ 5) → J a j = J0 a j := fun a j x => by rw [← hJ, wr_e, if_neg (by omega)]
  have ji : ∀ a j, (a ≠ 0 ∨ j ≠ 5) → (a < 1 ∨ 14 < a) → J a j = I a j := fun a j x y => by rw [wj a j x, fj a j (by omega)]
  have CJ : CY J 1 Y0.1 Y0.2.1 Y0.2.2 := cy_of cj (fun a j _ _ => wj a j (by omega))
  refine ⟨J, ?_, O', CJ, ⟨nx, p1, by simp, by rw [ji _ _ (by omega) (by omega), p3], by rw [← hJ, wr_e, if_pos ⟨rfl, rfl⟩]; rfl, fun k Z hk => by simp at hk⟩, ⟨by rw [ji _ _ (by omega) (by omega), s1], O', cy_of C' (fun a j x1 x2 => ji a j (by omega) (by omega))⟩, by rw [ji _ _ (by omega) (by omega), t0]⟩
  rw [fX4_restore, s1, if_neg (by decide), e1, bd_s, ltm_s, hJ, c_sheaves (Or.inl rfl) CJ, bd_s]
  rfl
end CALLS
