/-! ===== the reference's rick that holds a tree ===== -/
def rtT : Tr → Int
  | .leaf => -1
  | .inner s _ _ _ _ => s
def ad (i k c : Nat) : Nat := 7 + 122 * i + 2 + 4 * k + c
theorem rt_rng {t : Tr} (G : GT t) : -1 ≤ rtT t ∧ rtT t < 30 := by
  cases t with
  | leaf => rw [rtT]; omega
  | inner s w ld l r => have := (gt_m G).2.2.2.1; rw [rtT]; omega
theorem rt_leaf {t : Tr} (h : rtT t < 0) : t = .leaf := by
  cases t with
  | leaf => rfl
  | inner s w ld l r => rw [rtT] at h; omega
section MRd
variable {I : Mm} {i : Nat}
theorem ad_0 (hi : i < 3) {k : Int} (h1 : 0 ≤ k) (h2 : k < 30) {c : Int} (h3 : 0 ≤ c) (h4 : c < 4) : (7 + 122 * iI i + 2 + 4 * iI k + iI c) = iI (ad i k.toNat c.toNat) := by
  rw [l_7, l_122, l_2, l_4, iI_mul, iI_mul, iI_add, iI_add, iI_add, iI_add]
  congr 1
  unfold ad
  omega
theorem sub1 (z : Int) : iI (z + 1) - iI 1 = iI z := by rw [iI_sub]; congr 1; omega
/-- the loads of a tree -/
def ldS : Tr → Int
  | .leaf => 0
  | .inner _ _ ld l r => ld + ldS l + ldS r
theorem sm_add (f : Nat → Int) : ∀ (n m : Nat), sm f (n + m) = sm f n + sm (fun j => f (n + j)) m
  | n, 0 => by simp [sm]
  | n, m + 1 => by rw [← Nat.add_assoc, sm, sm_add f n m, sm]; omega
theorem ld_is : ∀ (t : Tr), ldS t = sL t (cnt t)
  | .leaf => rfl
  | .inner s w ld l r => by
    rw [ldS, ld_is l, ld_is r, cnt_i, show sL (.inner s w ld l r) (cnt l + 1 + cnt r) = sm (fun i => (gl (.inner s w ld l r) i : Int)) (cnt l + 1 + cnt r) from rfl, sm_add, sm, (@gi_m s w ld l r).2.1]
    have a : sm (fun i => (gl (.inner s w ld l r) i : Int)) (cnt l) = sL l (cnt l) := sm_congr _ (fun j hj => by rw [(@gi_l s w ld l r j hj).2.1])
    have b : sm (fun j => (gl (.inner s w ld l r) (cnt l + 1 + j) : Int)) (cnt r) = sL r (cnt r) := sm_congr _ (fun j hj => by rw [(@gi_r s w ld l r j).2.1])
    rw [a, b]; omega
/-- the stall of a weight, -1 if it isn't there -/
def fdS (t : Tr) (x : Int) : Int := if fdP t x = -1 then -1 else gs t (fdP t x).toNat
theorem fd_l {s w ld : Nat} {l r : Tr} {x : Int} (G : GT (.inner s w ld l r)) (h : x < w) : fdS (.inner s w ld l r) x = fdS l x := by
  have k := rk_le x l
  have q : rkQ x (.inner s w ld l r) = rkQ x l := by rw [rkQ, if_neg (by omega)]
  have gm := gt_m G
  by_cases c : rkQ x l < cnt l
  · have e := @gi_l s w ld l r _ c
    unfold fdS fdP
    rw [q, cnt_i, e.1]
    by_cases d : (gw l (rkQ x l) : Int) = x
    · simp (disch := omega) only [if_pos, if_neg, tn_n]
      rw [e.2.2.1]
    · simp (disch := omega) only [if_neg, if_true]
  · have e := @gi_m s w ld l r
    unfold fdS fdP
    rw [q, show rkQ x l = cnt l by omega, e.1]
    simp (disch := omega) only [if_neg, if_true]
theorem fd_r {s w ld : Nat} {l r : Tr} {x : Int} (G : GT (.inner s w ld l r)) (h : w < x) : fdS (.inner s w ld l r) x = fdS r x := by
  have k := rk_le x r
  have q : rkQ x (.inner s w ld l r) = cnt l + 1 + rkQ x r := by rw [rkQ, if_pos (by omega)]
  have e := @gi_r s w ld l r (rkQ x r)
  unfold fdS fdP
  rw [q, cnt_i, e.1]
  by_cases d : rkQ x r < cnt r ∧ (gw r (rkQ x r) : Int) = x
  · simp (disch := omega) only [if_pos, if_neg, tn_n]
    rw [e.2.2.1]
  · simp (disch := omega) only [if_neg, if_true]
theorem fd_m {s w ld : Nat} {l r : Tr} (G : GT (.inner s w ld l r)) : fdS (.inner s w ld l r) w = s := by
  unfold fdS
  have e := @gi_m s w ld l r
  have h := fd_at G (p := cnt l) (by rw [cnt_i]; omega)
  rw [e.1] at h
  rw [h, if_neg (by omega), tn_n, e.2.2.1]
/-- the stall above a place, `e` if there is none -/
def paS (t : Tr) (p : Nat) (e : Int) : Int := if paP t p = -1 then e else gs t (paP t p).toNat
/-- nothing but the list has changed -/
def LF (I J : Mm) : Prop := ∀ a j, a ≠ 176 → (a = 163 → j ≠ 10) → J a j = I a j
theorem lf_rfl (I : Mm) : LF I I := fun _ _ _ _ => rfl
theorem lf_tr {I J K : Mm} (h : LF I J) (h2 : LF J K) : LF I K := fun a j c d => (h2 a j c d).trans (h a j c d)
/-- the list holds a tree's stalls -/
def LsT (J : Mm) (t : Tr) : Prop := J 163 10 = iI (cnt t) ∧ ∀ p, p < cnt t → J 176 p = iI (gs t p)
end MRd
