/-! ===== the finished world is alike on both sides ===== -/
def t9 : Nat → Int32 := fun j => if j = 0 then 70 else 0
theorem gt_leaf : GT .leaf := ⟨by rw [show cnt .leaf = 0 from rfl]; omega, fun p hp => by simp [cnt] at hp, fun p q _ hp => by simp [cnt] at hp, fun p q _ hp => by simp [cnt] at hp⟩
theorem iM_cy : ∀ i, i < 3 → iM (1 + 2 + 4 * i) 3 = iI 0 ∧ iM (1 + 2 + 4 * i) 4 = iI 0 := by decide +kernel
theorem iM_c1 : ∀ j, j < 7 → iM 1 (j + 1) = t9 j := by decide +kernel
theorem iM_mr : ∀ i, i < 3 → iM 164 (7 + 122 * i) = iI 0 ∧ iM 164 (7 + 122 * i + 1) = iI 0 ∧ ∀ k, k < 30 → iM 164 (ad i k 0) = iI 0 := by decide +kernel
theorem iM_m1 : ∀ j, j < 7 → iM 164 j = t9 j := by decide +kernel
theorem iM_x : iM 0 2 = 0 ∧ iM 163 7 = 0 ∧ iM 0 4 = iI 0 ∧ iM 0 5 = iI 0 ∧ iM 163 4 = iI 0 ∧ iM 163 5 = 0 ∧ iM 0 9 = -15 ∧ iM 0 10 = -15 ∧ iM 163 8 = 0 ∧ iM 30 1 = iI 0 ∧ iM 163 13 = iI 0 ∧ iM 32 1 = iI 0 ∧ iM 163 21 = iI 0 := by decide +kernel
theorem rr_iM : RR iM := by
  obtain ⟨a1, a2, a3, a4, a5, a6, a7, a8, a9, b1, b2, b3, b4⟩ := iM_x
  refine ⟨⟨fun _ => .leaf, fun _ => 0, t9, ⟨fun i hi => ⟨gt_leaf, Nat.zero_le 30⟩, ⟨70, rfl, by omega, by omega⟩, by decide⟩, ⟨fun i hi => ⟨⟨(iM_cy i hi).1, fun p hp => by simp [cnt] at hp⟩, (iM_cy i hi).2⟩, iM_c1⟩, ⟨fun i hi => ⟨⟨(iM_mr i hi).1, trivial, fun k hk _ => (iM_mr i hi).2.2 k hk⟩, (iM_mr i hi).2.1⟩, iM_m1⟩⟩, Or.inl ⟨a1, a2⟩, ⟨0, 0, by omega, by omega, a3, a4, a5, fun k hk => by omega⟩, Or.inl ⟨a6, a7, a8⟩, a9, ⟨0, by omega, b1, b2, fun k hk => by omega⟩, ⟨0, by omega, b3, b4, fun k hk => by omega⟩⟩
theorem fun_ok (L : Nat) (xs : Nat → Int32) (hL : L ≤ 2048) : ∃ (n : Nat) (I : Mm), fL_law L xs n 0 iM = some (1, I) := by
  obtain ⟨I', e⟩ := law_loop hL (xs := xs) (L / 4) 0 1000 iM (by omega) (by omega) (by omega) rr_iM
  exact ⟨1000, I', e⟩
theorem whole_start {p : Program} {e : Env} {s : State} {m : MethodId} {below : List Frame} {meth : Method} {c : Code} (l : Launch) (hflags : l.flags = flags0) {b L : Nat} {xs : Nat → Int32} (hL : L ≤ 2048) (C0 : lw_At p s m meth c b L xs) : W p l e room_1 s m #[Value.ref b] below meth c s.heap [] 0 0 (lw_Z below #[Value.ref b] s) (entryFrame m ([Value.ref b] : List Value).toArray 4) := law_start fun_ok l hflags hL C0
