/-! ===== a change, on both sides ===== -/
def up {α : Type} (f : Nat → α) (i : Nat) (v : α) : Nat → α := fun x => if x = i then v else f x
theorem up_s {α : Type} (f : Nat → α) (i : Nat) (v : α) : up f i v i = v := if_pos rfl
theorem up_n {α : Type} (f : Nat → α) {i x : Nat} (v : α) (h : x ≠ i) : up f i v x = f x := if_neg h
def r1 (rs : Option (Int32 × Int32)) (d : Int32) : Int32 := match rs with | none => d | some x => x.1
def r2 (rs : Option (Int32 × Int32)) (d : Int32) : Int32 := match rs with | none => d | some x => x.2
def CRes (I J : Mm) (T : Nat → Tr) (mo : Nat → Nat) (ct : Nat → Int32) (rs : Option (Int32 × Int32)) : Prop := CY J 1 T mo ct ∧ (∀ a j, 15 ≤ a → J a j = I a j) ∧ (∀ j, j ≠ 9 → j ≠ 10 → J 0 j = I 0 j) ∧ J 0 9 = r1 rs (I 0 9) ∧ J 0 10 = r2 rs (I 0 10)
def MNo (K L : Mm) (rs : Option (Int32 × Int32)) : Prop := (∀ a j, a ≠ 176 → (a = 163 → j ≠ 10 ∧ j ≠ 5 ∧ j ≠ 6) → L a j = K a j) ∧ L 163 5 = r1 rs (K 163 5) ∧ L 163 6 = r2 rs (K 163 6)
def EQx (A B : Mm) : Prop := ∀ a j, a ≠ 164 → a ≠ 176 → a ≠ 177 → (a = 163 → j ≠ 10) → B a j = A a j
theorem eq_tr {A B C : Mm} (h : EQx A B) (h2 : EQx B C) : EQx A C := fun a j c d e f => (h2 a j c d e f).trans (h a j c d e f)
def ChgOK (K KC : Mm) : Prop := ∀ K0, LF K K0 → ∃ K1, fX5_change K0 = some ((), K1) ∧ K1 164 = K0 164 ∧ EQx KC K1
def OpNo (I : Mm) (f : Nat → Int32) (cF mF : Mm → Option (Int32 × Mm)) (T : Nat → Tr) (mo : Nat → Nat) (ct : Nat → Int32) : Prop := ∃ (v : Int32) (rs : Option (Int32 × Int32)), v < 0 ∧ (∀ x, rs = some x → x.1 ≠ 0) ∧ (∃ J, cF I = some (v, J) ∧ CRes I J T mo ct rs) ∧ ∀ K : Mm, K 164 = f → ∃ L, mF K = some (v, L) ∧ MNo K L rs
def OpYes (I : Mm) (f : Nat → Int32) (cF mF : Mm → Option (Int32 × Mm)) : Prop := ∃ (v : Int32) (T : Nat → Tr) (mo : Nat → Nat) (ct : Nat → Int32), 0 ≤ v ∧ OKY T mo ct ∧ (∃ J, cF I = some (v, J) ∧ CRes I J T mo ct none) ∧ ∀ K KC : Mm, K 164 = f → ChgOK K KC → ∃ L, mF K = some (v, L) ∧ MY (L 164) T mo ct ∧ EQx KC L
/-- now, on both sides -/
def NwS (I : Mm) (f : Nat → Int32) (T : Nat → Tr) (mo : Nat → Nat) (ct : Nat → Int32) : Prop := OKY T mo ct ∧ CY I 1 T mo ct ∧ MY (f) T mo ct
theorem lf_eq {A B : Mm} (h : LF A B) : EQx A B := fun a j _ c _ d => h a j c d
theorem no_no {I : Mm} {f : Nat → Int32} {cF mF : Mm → Option (Int32 × Mm)} {T : Nat → Tr} {mo : Nat → Nat} {ct : Nat → Int32} (C : CY I 1 T mo ct) {v : Int32} (hv : v < 0) (h1 : cF I = some (v, I)) (h2 : ∀ K : Mm, K 164 = f → mF K = some (v, K)) : OpNo I f cF mF T mo ct :=
  ⟨v, none, hv, fun x h => (by cases h), ⟨I, h1, C, fun _ _ _ => rfl, fun _ _ _ => rfl, rfl, rfl⟩, fun K hK => ⟨K, h2 K hK, fun _ _ _ _ => rfl, rfl, rfl⟩⟩
theorem no_ref {I : Mm} {f : Nat → Int32} {cF mF : Mm → Option (Int32 × Mm)} {T : Nat → Tr} {mo : Nat → Nat} {ct : Nat → Int32} (C : CY I 1 T mo ct) {a b : Int32} (ha : a ≠ 0) (h1 : cF I = some (-14, wr (wr I 0 9 a) 0 10 b)) (h2 : ∀ K : Mm, K 164 = f → ∃ L, mF K = some (-14, wr (wr L 163 5 a) 163 6 b) ∧ LF K L) : OpNo I f cF mF T mo ct := by
  refine ⟨-14, some (a, b), by decide, fun x h => by cases h; exact ha, ⟨_, h1, cy_of C (fun x j h h' => by simp (disch := omega) only [wr_e, if_neg]), fun x j h => by simp (disch := omega) only [wr_e, if_neg], fun j h h' => by simp (disch := omega) only [wr_e, if_neg], ?_, ?_⟩, fun K hK => ?_⟩
  · rw [wr_e, if_neg (by omega), wr_e, if_pos ⟨rfl, rfl⟩]; rfl
  · rw [wr_e, if_pos ⟨rfl, rfl⟩]; rfl
  · obtain ⟨L, e, l⟩ := h2 K hK
    refine ⟨_, e, fun x j h h' => ?_, ?_, ?_⟩
    · by_cases c : x = 163
      · have := h' c
        rw [wr_e, if_neg (by omega), wr_e, if_neg (by omega)]; exact l x j h (by omega)
      · rw [wr_e, if_neg (by omega), wr_e, if_neg (by omega)]; exact l x j h (by omega)
    · rw [wr_e, if_neg (by omega), wr_e, if_pos ⟨rfl, rfl⟩]; rfl
    · rw [wr_e, if_pos ⟨rfl, rfl⟩]; rfl
section OP
variable {I : Mm} {f : Nat → Int32} {T : Nat → Tr} {mo : Nat → Nat} {ct : Nat → Int32}
theorem m_ref0 (a b : Int32) (K : Mm) : fX5_refuse (iI 0) a b K = some (iI 0, K) := by
  unfold fX5_refuse
  rw [if_pos (show iI 0 = 0 from rfl), if_pos (show iI 0 = 0 ∨ iI 0 = 1 from Or.inl rfl)]
theorem m_ref1 (a b : Int32) (K : Mm) : fX5_refuse (iI 1) a b K = some (iI 1, wr (wr K 163 5 a) 163 6 b) := by
  unfold fX5_refuse
  rw [if_neg (by decide), ltm_s, ltm_s, if_pos (show iI 1 = 0 ∨ iI 1 = 1 from Or.inr rfl)]
theorem c_refuse (a b : Int32) (J : Mm) : fX4_refuse a b J = some (iI (-14), wr (wr J 0 9 a) 0 10 b) := by
  unfold fX4_refuse
  rw [ltm_s, ltm_s]; rfl
theorem m_isRick {z : Int} (h1 : -2147483648 ≤ z) (h2 : z < 2147483648) (K : Mm) : fX5_isRick (iI z) K = some (iI (if 0 ≤ z ∧ z ≤ 2 then 1 else 0), K) := by
  unfold fX5_isRick
  rw [l_0, l_2, m_isBetween h1 h2 (by omega) (by omega) (by omega) (by omega), bd_s]
  by_cases c : 0 ≤ z ∧ z ≤ 2
  · rw [if_pos c, if_pos (show iI 1 = iI 0 ∨ iI 1 = 1 from Or.inr rfl)]
  · rw [if_neg c, if_pos (show iI 0 = iI 0 ∨ iI 0 = 1 from Or.inl rfl)]
theorem m_isRick1 {i : Nat} (hi : i < 3) (K : Mm) : fX5_isRick (iI i) K = some (iI 1, K) := by
  rw [m_isRick (by omega) (by omega), if_pos (by omega)]
theorem m_isRick0 {z : Int} (h1 : -2147483648 ≤ z) (h2 : z < 2147483648) (h : ¬ (0 ≤ z ∧ z < 3)) (K : Mm) : fX5_isRick (iI z) K = some (iI 0, K) := by
  rw [m_isRick h1 h2, if_neg (by omega)]
theorem i10 : ¬ (iI 1 = 0) := by decide
theorem i00 : iI 0 = 0 := rfl
theorem i_sub1 (a b : Int32) : a - (b + 1) = a - b + iI (-1) := by
  obtain ⟨x, rfl, _⟩ := iI_ex a
  obtain ⟨y, rfl, _⟩ := iI_ex b
  rw [l_1, iI_add, iI_sub, iI_sub, iI_add]; congr 1; omega
theorem i_add1 (a b : Int32) : (a + 1) - b = a - b + iI 1 := by
  obtain ⟨x, rfl, _⟩ := iI_ex a
  obtain ⟨y, rfl, _⟩ := iI_ex b
  rw [l_1, iI_add, iI_sub, iI_sub, iI_add]; congr 1; omega
theorem op_limit (N : NwS I f T mo ct) (x : Int32) : OpNo I f (fX4_limitNow x) (fX5_limit x) T mo ct ∨ OpYes I f (fX4_limitNow x) (fX5_limit x) := by
  obtain ⟨O, C, M⟩ := N
  obtain ⟨z, rfl, h1, h2⟩ := iI_ex x
  obtain ⟨lim, hl, hl2, hl3⟩ := O.2.1
  have e1 : I 1 1 = iI lim := by rw [← hl]; exact C.2 0 (by omega)
  have e2 : ∀ K : Mm, K 164 = f → K 164 0 = iI lim := fun K hK => by rw [hK, ← hl]; exact M.2 0 (by omega)
  by_cases c : 55 ≤ z ∧ z ≤ 90
  · by_cases d : z = lim
    · left
      refine no_ref C (a := 4) (b := iI z) (by decide) ?_ (fun K hK => ⟨K, ?_, lf_rfl K⟩)
      · unfold fX4_limitNow
        simp (disch := omega) only [l_55, l_90, iI_lt, iI_le, if_neg, if_pos, e1, iI_eq, c_refuse, bd_s]
        rfl
      · rw [fX5_limit, l_55, l_90, m_isBetween h1 h2 (by omega) (by omega) (by omega) (by omega), bd_s, if_pos c, l_0, if_neg (by rw [iI_eq (by omega) (by omega) (by omega) (by omega)]; omega), e2 K hK, if_pos (by rw [d]), fX5_limit_p30, l_1, m_ref1, bd_s, l_0, if_neg (by rw [iI_eq (by omega) (by omega) (by omega) (by omega)]; omega)]
    · right
      refine ⟨iI lim, T, mo, up ct 0 (iI z), ?_, ⟨O.1, ⟨z, up_s _ _ _, c.1, c.2⟩, ?_⟩, ⟨wr I 1 1 (iI z), ?_, ⟨⟨fun i hi => ⟨rt_of (C.1 i hi).1 (fun a j h h' => by rw [wr_e, if_neg (by omega)]), by rw [wr_e, if_neg (by omega)]; exact (C.1 i hi).2⟩, fun j hj => ?_⟩, fun a j h => by rw [wr_e, if_neg (by omega)], fun j h h' => by rw [wr_e, if_neg (by omega)], by rw [wr_e, if_neg (by omega)]; rfl, by rw [wr_e, if_neg (by omega)]; rfl⟩⟩, fun K KC hK hC => ?_⟩
      · rw [l_0, iI_le (by omega) (by omega) (by omega) (by omega)]; omega
      · rw [up_n _ _ (by omega), up_n _ _ (by omega)]; exact O.2.2
      · unfold fX4_limitNow
        simp (disch := omega) only [l_55, l_90, iI_lt, iI_le, if_neg, if_pos, e1, iI_eq, ltm_s]
      · by_cases q : j = 0
        · subst q; rw [wr_e, if_pos ⟨rfl, rfl⟩, up_s]
        · rw [wr_e, if_neg (by omega), up_n _ _ q]; exact C.2 j hj
      · obtain ⟨K1, k1, k2, k3⟩ := hC K (lf_rfl K)
        refine ⟨wr K1 164 0 (iI z), ?_, ⟨fun i hi => ⟨mr_of (O.1 i hi).1 (M.1 i hi).1 (fun j a b => by rw [wr_e, if_neg (by omega), k2, hK]), by rw [wr_e, if_neg (by omega), k2, hK]; exact (M.1 i hi).2⟩, fun j hj => ?_⟩, fun a j a1 a2 a3 a4 => by rw [wr_e, if_neg (by omega)]; exact k3 a j a1 a2 a3 a4⟩
        · rw [fX5_limit, l_55, l_90, m_isBetween h1 h2 (by omega) (by omega) (by omega) (by omega), bd_s, if_pos c, l_0, if_neg (by rw [iI_eq (by omega) (by omega) (by omega) (by omega)]; omega), e2 K hK, if_neg (by rw [iI_eq (by omega) (by omega) (by omega) (by omega)]; omega), fX5_limit_p30, m_ref0, bd_s, l_0, if_pos rfl, k1, bd_s, ltm_s, ltm_s, k2, e2 K hK]
        · by_cases q : j = 0
          · subst q; rw [wr_e, if_pos ⟨rfl, rfl⟩, up_s]
          · rw [wr_e, if_neg (by omega), up_n _ _ q, k2, hK]; exact M.2 j hj
  · left
    refine no_no C (v := -12) (by decide) ?_ (fun K hK => ?_)
    · unfold fX4_limitNow
      simp (disch := omega) only [l_55, l_90, iI_lt, iI_le]
      by_cases d : z < 55
      · rw [if_pos d]
      · rw [if_neg d, if_neg (by omega)]
    · rw [fX5_limit, l_55, l_90, m_isBetween h1 h2 (by omega) (by omega) (by omega) (by omega), bd_s, if_neg c, if_pos (show iI 0 = 0 from rfl)]
/-- no rick on either side -/
theorem cy_up {J : Mm} {i : Nat} (hi : i < 3) (C : CY I 1 T mo ct) {t : Tr} {m : Nat} {c2 : Nat → Int32} (R : RT J (3 + 4 * i) t) (hm : J (3 + 4 * i) 4 = iI m) (h : ∀ a j, 2 ≤ a → a ≤ 14 → (a < 3 + 4 * i ∨ 3 + 4 * i + 3 < a) → J a j = I a j) (hc : ∀ j, j < 7 → J 1 (j + 1) = c2 j) : CY J 1 (up T i t) (up mo i m) c2 := by
  refine ⟨fun q hq => ?_, hc⟩
  by_cases c : q = i
  · subst c
    rw [up_s, up_s, show 1 + 2 + 4 * q = 3 + 4 * q by omega]
    exact ⟨R, hm⟩
  · rw [up_n _ _ c, up_n _ _ c]
    have := C.1 q hq
    exact ⟨rt_of this.1 (fun a j h1 h2 => h a j (by omega) (by omega) (by omega)), by rw [h _ _ (by omega) (by omega) (by omega)]; exact this.2⟩
theorem my_up {f g : Nat → Int32} {i : Nat} (hi : i < 3) (O : ∀ i, i < 3 → GT (T i)) (M : MY f T mo ct) {t : Tr} {m : Nat} {c2 : Nat → Int32} (R : MR g i t) (hm : g (7 + 122 * i + 1) = iI m) (h : ∀ j, 7 ≤ j → j < 373 → (j < 7 + 122 * i ∨ 7 + 122 * i + 122 ≤ j) → g j = f j) (hc : ∀ j, j < 7 → g j = c2 j) : MY g (up T i t) (up mo i m) c2 := by
  refine ⟨fun q hq => ?_, hc⟩
  by_cases c : q = i
  · subst c
    rw [up_s, up_s]
    exact ⟨R, hm⟩
  · rw [up_n _ _ c, up_n _ _ c]
    have := M.1 q hq
    exact ⟨mr_of (O q hq) this.1 (fun j h1 h2 => h j (by omega) (by omega) (by omega)), by rw [h _ (by omega) (by omega) (by omega)]; exact this.2⟩
theorem up_sum {i : Nat} (hi : i < 3) (t : Tr) : cnt (up T i t 0) + cnt (up T i t 1) + cnt (up T i t 2) + cnt (T i) = cnt (T 0) + cnt (T 1) + cnt (T 2) + cnt t := by
  match i, hi with
  | 0, _ => rw [up_s, up_n _ _ (by omega), up_n _ _ (by omega)]; omega
  | 1, _ => rw [up_s, up_n _ _ (by omega), up_n _ _ (by omega)]; omega
  | 2, _ => rw [up_s, up_n _ _ (by omega), up_n _ _ (by omega)]; omega
theorem ok_up (O : OKY T mo ct) {i : Nat} (hi : i < 3) {t : Tr} {m : Nat} {c2 : Nat → Int32} (G : GT t) (hm : m ≤ 30) (h0 : c2 0 = ct 0) (h12 : c2 1 - c2 2 = (ct 1 - ct 2) + iI ((cnt t : Int) - cnt (T i))) : OKY (up T i t) (up mo i m) c2 := by
  refine ⟨fun q hq => ?_, by rw [h0]; exact O.2.1, ?_⟩
  · by_cases c : q = i
    · subst c; rw [up_s, up_s]; exact ⟨G, hm⟩
    · rw [up_n _ _ c, up_n _ _ c]; exact O.1 q hq
  · have s := up_sum (T := T) hi t
    rw [h12, O.2.2, iI_add]; congr 1; omega
/-- a whole rick built anew, the class's way -/
theorem c_bw {J : Mm} {i : Nat} (hi : i < 3) (C : CY J 1 T mo ct) (G : GT (T i)) : ∃ J', fX4_buildWhole (3 + 4 * i) J = some (iI (mvT (T i) (bwT (T i))), J') ∧ CY J' 1 (up T i (bwT (T i))) (up mo i (cnt (T i))) (up (up ct 4 (ct 4 + 1)) 5 (ct 5 + iI (cnt (T i)))) ∧ (∀ a j, 15 ≤ a → J' a j = J a j) ∧ ∀ j, J' 0 j = J 0 j := by
  have R := (C.1 i hi).1
  rw [show 1 + 2 + 4 * i = 3 + 4 * i by omega] at R
  obtain ⟨K, e, h1, h2, h3⟩ := t_buildWhole G R
  have bp := bw_pos (T i)
  have k5 : K 1 5 = ct 4 := by rw [h3 1 5 (by omega)]; exact C.2 4 (by omega)
  have k6 : K 1 6 = ct 5 := by rw [h3 1 6 (by omega)]; exact C.2 5 (by omega)
  refine ⟨wr (wr K 1 5 (ct 4 + 1)) 1 6 (ct 5 + iI (cnt (T i))), ?_, cy_up hi C (rt_of h1 (fun a j a1 a2 => by simp (disch := omega) only [wr_e, if_neg])) (by simp (disch := omega) only [wr_e, if_neg]; exact h2) (fun a j a1 a2 a3 => by simp (disch := omega) only [wr_e, if_neg]; exact h3 a j (by omega)) (fun j hj => ?_), fun a j h => by simp (disch := omega) only [wr_e, if_neg]; exact h3 a j (by omega), fun j => by simp (disch := omega) only [wr_e, if_neg]; exact h3 0 j (by omega)⟩
  · rw [fX4_buildWhole, e, bd_s, ltm_s, ltm_s, k5]
    have q1 : (wr K 1 5 (ct 4 + 1)) 1 6 = ct 5 := by rw [wr_e, if_neg (by omega)]; exact k6
    have q2 : (wr K 1 5 (ct 4 + 1)) (3 + 4 * i) 3 = iI (cnt (T i)) := by rw [wr_e, if_neg (by omega), h1.1, bp.1]
    rw [q1, q2]
  · by_cases c5 : j = 5
    · subst c5; rw [wr_e, if_pos ⟨rfl, rfl⟩, up_s]
    · rw [wr_e, if_neg (by omega), up_n _ _ c5]
      by_cases c4 : j = 4
      · subst c4; rw [wr_e, if_pos ⟨rfl, rfl⟩, up_s]
      · rw [wr_e, if_neg (by omega), up_n _ _ c4, h3 1 _ (by omega)]; exact C.2 j hj
/-- and the reference's -/
theorem m_bw {K : Mm} {i : Nat} (hi : i < 3) (O : ∀ i, i < 3 → GT (T i)) (M : MY (K 164) T mo ct) : ∃ L, fX5_buildWhole (iI i) K = some ((), L) ∧ MY (L 164) (up T i (bwT (T i))) (up mo i (cnt (T i))) (up (up ct 4 (ct 4 + 1)) 5 (ct 5 + iI (cnt (T i)))) ∧ LsT L (T i) ∧ ∀ a j, a ≠ 164 → a ≠ 176 → (a = 163 → j ≠ 10) → L a j = K a j := by
  obtain ⟨L, e, h1, h2, h3, h4, h5, h6, h7⟩ := m_buildWhole hi (O i hi) (M.1 i hi).1
  have g := (O i hi).1
  refine ⟨L, e, my_up hi O M h1 h2 (fun j a b c => h7 j (by omega) (by omega) c) (fun j hj => ?_), h5, h6⟩
  by_cases c5 : j = 5
  · subst c5; rw [up_s, h4, M.2 5 (by omega)]
  · rw [up_n _ _ c5]
    by_cases c4 : j = 4
    · subst c4; rw [up_s, h3, M.2 4 (by omega)]
    · rw [up_n _ _ c4, h7 j c4 c5 (by omega)]; exact M.2 j hj
theorem mv_rng (t u : Tr) : 0 ≤ mvT t u ∧ mvT t u ≤ cnt t := by
  unfold mvT
  have key : ∀ n, 0 ≤ sm (fun j => if (gd t j : Int) = gd u j then 0 else 1) n ∧ sm (fun j => if (gd t j : Int) = gd u j then 0 else 1) n ≤ n := by
    intro n
    induction n with
    | zero => rw [sm]; omega
    | succ n ih => rw [sm]; split <;> omega
  exact key _
end OP
