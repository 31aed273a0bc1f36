/-! ===== the law, from the finished object on ===== -/
section LAW
variable {L : Nat} {xz : Nat → Int32}
theorem i_ok (j : Nat) : iI (j : Int) + 1 = iI ((j + 1 : Nat) : Int) := by rw [l_1, iI_add]; rfl
/-- what is built at the end, and restored -/
theorem l_387 {I : Mm} {Y Y0 : Yst} {ps : List Yst} (V : INV I Y ps (some Y0)) (O0 : OKs Y0) {D : Int64} (hD : ∀ I, CYs I 1 Y0 → fL_digest I = some (D, I)) : ∃ I', fL_law_p387 L xz 1 D (iI (sumY Y0 : Nat)) I = some (1, I') := by
  obtain ⟨v, J, Y', ps', e, V1, _, hv⟩ := g_build V 0
  obtain ⟨J2, e2, V2⟩ := g_fit V1
  obtain ⟨J3, e3, V3⟩ := g_restore1 V2
  refine ⟨J3, ?_⟩
  rw [fL_law_p387, if_neg (by decide), e, bd_s, if_neg hv, e2, bd_s, if_neg (by decide), e3, bd_s, if_pos rfl, hD J3 V3.2.1, bd_s, if_pos (lg_self D), g_undo0 V3, bd_s, if_pos rfl]
theorem l_287 {x4 : Int64} {x6 x7 : Int32} {sv : Option Yst} : ∀ (k j n : Nat) (I : Mm) (Y : Yst) (ps : List Yst), j + k = 5 → k < n → INV I Y ps sv → ∃ (J : Mm) (Y' : Yst) (ps' : List Yst), fL_law_p287 L xz n x4 x6 x7 (iI j) I = some ((), J) ∧ INV J Y' ps' sv
  | 0, j, n, I, Y, ps, hj, hn, V => by
    obtain ⟨n, rfl⟩ : ∃ y, n = y + 1 := ⟨n - 1, by omega⟩
    exact ⟨I, Y, ps, by rw [fL_law_p287, if_pos (by rw [l_5, iI_le (by omega) (by omega) (by omega) (by omega)]; omega)], V⟩
  | k + 1, j, n, I, Y, ps, hj, hn, V => by
    obtain ⟨n, rfl⟩ : ∃ y, n = y + 1 := ⟨n - 1, by omega⟩
    obtain ⟨v, J, Y', ps', e, V1, _⟩ := g_put V (x7 - x7 / 3 * 3) ((700 + (10 * x7)) + (2 * iI (j : Int))) (3 + x7)
    obtain ⟨J2, Y2, ps2, e2, V2⟩ := l_287 k (j + 1) n J Y' ps' (by omega) (by omega) V1
    refine ⟨J2, Y2, ps2, ?_, V2⟩
    rw [fL_law_p287, if_neg (by rw [l_5, iI_le (by omega) (by omega) (by omega) (by omega)]; omega), e, bd_s, i_ok, ltm_s]
    exact e2
theorem l_274 {Y0 : Yst} (O0 : OKs Y0) {D : Int64} (hD : ∀ I, CYs I 1 Y0 → fL_digest I = some (D, I)) : ∀ (k j n : Nat) (I : Mm) (Y : Yst) (ps : List Yst), j + k = 4 → k < n → INV I Y ps (some Y0) → ∃ I', fL_law_p274 L xz n 1 D (iI (sumY Y0 : Nat)) (iI j) I = some (1, I')
  | 0, j, n, I, Y, ps, hj, hn, V => by
    obtain ⟨n, rfl⟩ : ∃ y, n = y + 1 := ⟨n - 1, by omega⟩
    obtain ⟨I', e⟩ := l_387 (L := L) (xz := xz) V O0 hD
    exact ⟨I', by rw [fL_law_p274, if_neg (by decide), if_pos (by rw [l_4, iI_le (by omega) (by omega) (by omega) (by omega)]; omega)]; exact e⟩
  | k + 1, j, n, I, Y, ps, hj, hn, V => by
    obtain ⟨n, rfl⟩ : ∃ y, n = y + 1 := ⟨n - 1, by omega⟩
    obtain ⟨J1, Y1, ps1, e1, V1⟩ := l_287 (L := L) (xz := xz) (x4 := D) (x6 := iI (sumY Y0 : Nat)) (x7 := iI (j : Int)) 5 0 1000 I Y ps (by omega) (by omega) V
    obtain ⟨r1, a1⟩ := q_atg V1 (iI (j : Int) - iI (j : Int) / 3 * 3) (iI (j : Int))
    obtain ⟨v2, J2, Y2, ps2, e2, V2, _⟩ := g_take V1 (iI (j : Int) - iI (j : Int) / 3 * 3) r1
    obtain ⟨r3, a3⟩ := q_atg V2 (iI (j : Int) - iI (j : Int) / 3 * 3) 0
    obtain ⟨v4, J4, Y4, ps4, e4, V4, _⟩ := g_take V2 (iI (j : Int) - iI (j : Int) / 3 * 3) r3
    obtain ⟨v5, J5, Y5, ps5, e5, V5, _⟩ := g_limit V4 (56 + 9 * iI (j : Int))
    obtain ⟨J6, e6, V6⟩ := g_fit V5
    obtain ⟨I', e7⟩ := l_274 O0 hD k (j + 1) n J6 Y5 ps5 (by omega) (by omega) V6
    refine ⟨I', ?_⟩
    rw [fL_law_p274, if_neg (by decide), if_neg (by rw [l_4, iI_le (by omega) (by omega) (by omega) (by omega)]; omega), show fL_law_p287 L xz 1000 D (iI (sumY Y0 : Nat)) (iI (j : Int)) 0 I = some ((), J1) from e1, bd_s, a1, bd_s, e2, bd_s, a3, bd_s, e4, bd_s, e5, bd_s, e6, bd_s, i_ok, ltm_s]
    exact e7
theorem l_181 {Y : Yst} (O0 : OKs Y) {D : Int64} (hD : ∀ I, CYs I 1 Y → fL_digest I = some (D, I)) : ∀ (k t n : Nat) (I : Mm) (ps : List Yst), t + k = 20 → k < n → INV I Y ps (some Y) → ∃ I', fL_law_p181 L xz n 1 D (iI (sumY Y : Nat)) (iI t) I = some (1, I')
  | 0, t, n, I, ps, ht, hn, V => by
    obtain ⟨n, rfl⟩ : ∃ y, n = y + 1 := ⟨n - 1, by omega⟩
    obtain ⟨I', e⟩ := l_274 (L := L) (xz := xz) O0 hD 4 0 1000 I Y ps (by omega) (by omega) V
    refine ⟨I', ?_⟩
    rw [fL_law_p181, if_neg (by decide), if_pos (by rw [l_20, iI_le (by omega) (by omega) (by omega) (by omega)]; omega), fL_law_p271]
    exact e
  | k + 1, t, n, I, ps, ht, hn, V => by
    obtain ⟨n, rfl⟩ : ∃ y, n = y + 1 := ⟨n - 1, by omega⟩
    obtain ⟨I1, v, J, Y', ps', e1, e2, V1, h⟩ := g_text V (t := t) (by omega)
    have hd : fL_law_p181 L xz (n + 1) 1 D (iI (sumY Y : Nat)) (iI t) I = bd (fX4_run I1) fun r2 I2 => (if 0 ≤ r2 then bd (fL_isFit I2) fun r3 I3 => (if r3 = 0 then ltm (iI t + 1) fun v1 => fL_law_p181 L xz n 0 D (iI (sumY Y : Nat)) v1 I3 else bd (fX4_undo I3) fun r4 I4 => (if r4 < 0 then ltm (iI t + 1) fun v1 => fL_law_p181 L xz n 0 D (iI (sumY Y : Nat)) v1 I4 else bd (fL_digest I4) fun r5 I5 => (if (lg_cmp r5 D) = 0 then ltm (iI t + 1) fun v1 => fL_law_p181 L xz n 1 D (iI (sumY Y : Nat)) v1 I5 else ltm (iI t + 1) fun v1 => fL_law_p181 L xz n 0 D (iI (sumY Y : Nat)) v1 I5))) else bd (fX4_reason 0 I2) fun r3 I3 => (if r3 = 6 then bd (fX4_reason 1 I3) fun r4 I4 => (if r4 < 0 then ltm (iI t + 1) fun v1 => fL_law_p181 L xz n 0 D (iI (sumY Y : Nat)) v1 I4 else bd (fL_digest I4) fun r5 I5 => (if (lg_cmp r5 D) = 0 then ltm (iI t + 1) fun v1 => fL_law_p181 L xz n 1 D (iI (sumY Y : Nat)) v1 I5 else ltm (iI t + 1) fun v1 => fL_law_p181 L xz n 0 D (iI (sumY Y : Nat)) v1 I5)) else ltm (iI t + 1) fun v1 => fL_law_p181 L xz n 0 D (iI (sumY Y : Nat)) v1 I3)) := by
      rw [fL_law_p181, if_neg (by decide), if_neg (by rw [l_20, iI_le (by omega) (by omega) (by omega) (by omega)]; omega), iI_cl (by omega) (by omega), tn_n, if_neg (by rw [l_0, iI_lt (by omega) (by omega) (by omega) (by omega)]; omega), e1, bd_s]
    rw [hd, e2, bd_s]
    rcases h with ⟨hv, rfl, rfl, r9, q, hq, r10⟩ | ⟨hv, rfl⟩
    · have nv : ¬ 0 ≤ v := by rw [Int32.le_iff_toInt_le]; rw [Int32.lt_iff_toInt_lt] at hv; omega
      obtain ⟨I', e3⟩ := l_181 O0 hD k (t + 1) n J ps' (by omega) (by omega) V1
      refine ⟨I', ?_⟩
      rw [if_neg nv, fX4_reason, if_pos rfl, bd_s, r9, if_pos rfl, fX4_reason, if_neg (by decide), bd_s, r10, if_neg (by rw [l_0, iI_lt (by omega) (by omega) (by omega) (by omega)]; omega), hD J V1.2.1, bd_s, if_pos (lg_self D), i_ok, ltm_s]
      exact e3
    · obtain ⟨J2, e3, V2⟩ := g_fit V1
      rw [show (Y :: ps).take 8 = Y :: ps.take 7 from rfl] at V2
      obtain ⟨J3, e4, V3⟩ := g_undo1 V2
      have ln : (ps.take 7).length ≤ 7 := by rw [List.length_take]; omega
      obtain ⟨I', e5⟩ := l_181 O0 hD k (t + 1) n J3 (ps.take 7) (by omega) (by omega) V3
      refine ⟨I', ?_⟩
      rw [if_pos hv, e3, bd_s, if_neg (by decide), e4, bd_s, if_neg (by rw [l_0, iI_lt (by omega) (by omega) (by omega) (by omega)]; omega), hD J3 V3.2.1, bd_s, if_pos (lg_self D), i_ok, ltm_s]
      exact e5
theorem l_161 {I : Mm} {Y : Yst} {ps : List Yst} {sv : Option Yst} (V : INV I Y ps sv) : ∃ I', fL_law_p161 L xz 1 I = some (1, I') := by
  obtain ⟨D, hD⟩ := dg_all V.1
  obtain ⟨v, J, e1, V1⟩ := g_run0 V
  obtain ⟨J2, e2, V2⟩ := g_save V1
  obtain ⟨I', e3⟩ := l_181 (L := L) (xz := xz) V.1 (fun I C => hD I C) 20 0 1000 J2 ps (by omega) (by omega) V2
  refine ⟨I', ?_⟩
  rw [fL_law_p161, e1, bd_s, hD J V1.2.1, bd_s, e2, bd_s]
  exact e3
theorem l_126 : ∀ (k j n : Nat) (I : Mm) (Y : Yst) (ps : List Yst) (sv : Option Yst), j + k = 14 → k < n → INV I Y ps sv → ∃ I', fL_law_p126 L xz n 1 (iI j) I = some (1, I')
  | 0, j, n, I, Y, ps, sv, hj, hn, V => by
    obtain ⟨n, rfl⟩ : ∃ y, n = y + 1 := ⟨n - 1, by omega⟩
    obtain ⟨I', e⟩ := l_161 (L := L) (xz := xz) V
    exact ⟨I', by rw [fL_law_p126, if_neg (by decide), if_pos (by rw [show (14 : Int32) = iI 14 from rfl, iI_le (by omega) (by omega) (by omega) (by omega)]; omega)]; exact e⟩
  | k + 1, j, n, I, Y, ps, sv, hj, hn, V => by
    obtain ⟨n, rfl⟩ : ∃ y, n = y + 1 := ⟨n - 1, by omega⟩
    have a1 : iI (j : Int) - iI (j : Int) / 3 * 3 = iI ((j % 3 : Nat) : Int) := rem_n (b := 3) (by omega) (by decide) (by decide)
    have a2 : (71 : Int32) * iI (j : Int) = iI ((71 * j : Nat) : Int) := by rw [show (71 : Int32) = iI 71 from rfl, iI_mul]; congr 1
    have a3 : iI ((71 * j : Nat) : Int) - iI ((71 * j : Nat) : Int) / 1000 * 1000 = iI ((71 * j % 1000 : Nat) : Int) := rem_n (b := 1000) (by omega) (by decide) (by decide)
    obtain ⟨J, ps', e, V1⟩ := g_isPut V (i := j % 3) (Nat.mod_lt _ (by decide)) (w := ((71 * j % 1000 : Nat) : Int)) (by omega) (by omega)
    obtain ⟨I', e2⟩ := l_126 k (j + 1) n J Y ps' sv (by omega) (by omega) V1
    refine ⟨I', ?_⟩
    rw [fL_law_p126, if_neg (by decide), if_neg (by rw [show (14 : Int32) = iI 14 from rfl, iI_le (by omega) (by omega) (by omega) (by omega)]; omega), a1, a2, a3, e, bd_s, i_ok, ltm_s]
    exact e2
theorem l_77 {a : Nat} (ha : a ≤ 44) : ∀ (k j n : Nat) (I : Mm) (Y : Yst) (ps : List Yst) (sv : Option Yst), j + k = a → k < n → INV I Y ps sv → ∃ I', fL_law_p77 L xz n (iI a) (iI j) I = some (1, I')
  | 0, j, n, I, Y, ps, sv, hj, hn, V => by
    obtain ⟨n, rfl⟩ : ∃ y, n = y + 1 := ⟨n - 1, by omega⟩
    obtain ⟨J, e, V1⟩ := g_fit V
    obtain ⟨I', e2⟩ := l_126 (L := L) (xz := xz) 14 0 1000 J Y ps sv (by omega) (by omega) V1
    refine ⟨I', ?_⟩
    rw [fL_law_p77, if_pos (by rw [iI_le (by omega) (by omega) (by omega) (by omega)]; omega), e, bd_s]
    exact e2
  | k + 1, j, n, I, Y, ps, sv, hj, hn, V => by
    obtain ⟨n, rfl⟩ : ∃ y, n = y + 1 := ⟨n - 1, by omega⟩
    obtain ⟨D, hD⟩ := dg_all V.1
    obtain ⟨v, J, Y', ps', sv', e, V1, hv⟩ := g_act V (celF L xz (iI (j : Int)))
    obtain ⟨I', e2⟩ := l_77 ha k (j + 1) n J Y' ps' sv' (by omega) (by omega) V1
    refine ⟨I', ?_⟩
    rw [fL_law_p77, if_neg (by rw [iI_le (by omega) (by omega) (by omega) (by omega)]; omega), hD I V.2.1, bd_s, e, bd_s, i_ok]
    by_cases c : 0 ≤ v
    · rw [if_pos c, ltm_s]; exact e2
    · have c2 : v < 0 := by rw [Int32.lt_iff_toInt_lt]; rw [Int32.le_iff_toInt_le] at c; omega
      have eY := hv c2
      subst eY
      rw [if_neg c, hD J V1.2.1, bd_s, if_pos (lg_self D), ltm_s]
      exact e2
theorem lw_10p (hL : L ≤ 260) : ∀ (k j n : Nat) (I : Mm) (Y : Yst) (ps : List Yst) (sv : Option Yst), j + k = 9 → k < n → INV I Y ps sv → ∃ I', fL_law_p10 L xz n (iI j) I = some (1, I')
  | 0, j, n, I, Y, ps, sv, hj, hn, V => by
    obtain ⟨n, rfl⟩ : ∃ y, n = y + 1 := ⟨n - 1, by omega⟩
    have eL : Int32.ofNat L = iI (L : Int) := rfl
    rw [fL_law_p10, if_pos (by rw [l_9, iI_le (by omega) (by omega) (by omega) (by omega)]; omega), eL]
    by_cases c : 44 ≤ L
    · obtain ⟨I', e⟩ := l_77 (L := L) (xz := xz) (a := 44) (by omega) 44 0 1000 I Y ps sv (by omega) (by omega) V
      refine ⟨I', ?_⟩
      rw [if_pos (by rw [show (44 : Int32) = iI 44 from rfl, iI_le (by omega) (by omega) (by omega) (by omega)]; omega), fL_law_p74]
      exact e
    · obtain ⟨I', e⟩ := l_77 (L := L) (xz := xz) (a := L) (by omega) L 0 1000 I Y ps sv (by omega) (by omega) V
      refine ⟨I', ?_⟩
      rw [if_neg (by rw [show (44 : Int32) = iI 44 from rfl, iI_le (by omega) (by omega) (by omega) (by omega)]; omega), fL_law_p74]
      exact e
  | k + 1, j, n, I, Y, ps, sv, hj, hn, V => by
    obtain ⟨n, rfl⟩ : ∃ y, n = y + 1 := ⟨n - 1, by omega⟩
    obtain ⟨v, J, Y', ps', e, V1, _⟩ := g_put V 0 ((37 * iI (j : Int)) - (37 * iI (j : Int)) / 200 * 200) (1 + ((11 * iI (j : Int)) - (11 * iI (j : Int)) / 99 * 99))
    obtain ⟨v2, J2, Y2, ps2, e2, V2, _⟩ := g_put V1 1 (300 + (5 * iI (j : Int))) 20
    obtain ⟨I', e3⟩ := lw_10p hL k (j + 1) n J2 Y2 ps2 sv (by omega) (by omega) V2
    refine ⟨I', ?_⟩
    rw [fL_law_p10, if_neg (by rw [l_9, iI_le (by omega) (by omega) (by omega) (by omega)]; omega), e, bd_s, e2, bd_s, i_ok, ltm_s]
    exact e3
theorem l_law (hL : L ≤ 260) {I : Mm} {Y : Yst} {ps : List Yst} {sv : Option Yst} (V : INV I Y ps sv) : ∃ I', fL_law L xz I = some (1, I') := lw_10p hL 9 0 1000 I Y ps sv (by omega) (by omega) V
end LAW
/-! the finished object -/
def t9 : Nat → Int32 := fun j => if j = 0 then 70 else 0
theorem iB_cy : ∀ i, i < 3 → iB9 (1 + 2 + 4 * i) 3 = iI 0 ∧ iB9 (1 + 2 + 4 * i) 4 = iI 0 := by decide +kernel
theorem iB_c1 : ∀ j, j < 7 → iB9 1 (j + 1) = t9 j := by decide +kernel
theorem iB_x : iB9 0 2 = 0 ∧ iB9 0 4 = iI 0 ∧ iB9 0 5 = iI 0 ∧ iB9 30 1 = iI 0 := by decide +kernel
theorem inv_0 : INV iB9 (fun _ => .leaf, fun _ => 0, t9) [] none := by
  obtain ⟨a1, a2, a3, a4⟩ := iB_x
  exact ⟨⟨⟨fun i hi => ⟨gtz_leaf, Nat.zero_le 30⟩, ⟨70, rfl, by omega, by omega⟩, by decide⟩, fun i hi => Nat.le_refl 0⟩, ⟨fun i hi => ⟨⟨(iB_cy i hi).1, fun p hp => by simp [cnt] at hp⟩, (iB_cy i hi).2⟩, iB_c1⟩, ⟨0, by omega, by simp, a2, a3, fun k Y hk => by simp at hk⟩, a1, a4⟩
theorem fun_ok (L : Nat) (xz : Nat → Int32) (hL : L ≤ 260) : ∃ I : Mm, fL_law L xz iB9 = some (1, I) := l_law hL inv_0
