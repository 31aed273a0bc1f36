/-! ===== bits of longs (the first rows are the kit's starting text, family lN) ===== -/
theorem wb_tb (n : Nat) : (lN n).toBitVec = BitVec.ofNat 64 n := rfl
theorem wb_inj {a b : Int64} (h : a.toBitVec = b.toBitVec) : a = b := Int64.toBitVec_inj.mp h
theorem wb_tn {n : Nat} (h : n < 2 ^ 64) : (lN n).toBitVec.toNat = n := by rw [wb_tb, BitVec.toNat_ofNat, Nat.mod_eq_of_lt h]
theorem wb_of (x : Int64) : ∃ n, n < 2 ^ 64 ∧ x = lN n := ⟨x.toBitVec.toNat, x.toBitVec.isLt, wb_inj (by rw [wb_tb]; simp)⟩
theorem wb_of32 (x : Int32) : ∃ n, n < 2 ^ 32 ∧ x = nI n := ⟨x.toBitVec.toNat, x.toBitVec.isLt, Int32.toBitVec_inj.mp (by show _ = BitVec.ofNat 32 _; simp)⟩
theorem wb_c : ∀ k, k < 64 → ((nI k).toInt64 &&& 63) = lN k := by decide +kernel
theorem wb_cu : ∀ k, k < 64 → ((nI k).toInt64.toUInt64 &&& Int64.toUInt64 63) = UInt64.ofNat k := by decide +kernel
theorem wb_sm : ∀ k, k < 64 → (BitVec.ofNat 64 k).smod 64 = BitVec.ofNat 64 k := by decide +kernel
theorem wb_pw {a b : Nat} (h : a ≤ b) : 2 ^ b = 2 ^ a * 2 ^ (b - a) := by rw [← Nat.pow_add]; congr 1; omega
theorem wb_lt2 {a b : Nat} (h : a < b) : 2 ^ a < 2 ^ b := Nat.pow_lt_pow_right (by decide) h
theorem wb_mod (n : Nat) : lN n = lN (n % 2 ^ 64) := wb_inj (by rw [wb_tb, wb_tb]; apply BitVec.eq_of_toNat_eq; rw [BitVec.toNat_ofNat, BitVec.toNat_ofNat, Nat.mod_mod])
theorem wb_shr {n k : Nat} (hn : n < 2 ^ 64) (hk : k < 64) : ((lN n).toUInt64 >>> ((nI k).toInt64.toUInt64 &&& Int64.toUInt64 63)).toInt64 = lN (n / 2 ^ k) := by
  rw [wb_cu k hk]
  apply wb_inj
  apply BitVec.eq_of_toNat_eq
  show ((lN n).toUInt64 >>> UInt64.ofNat k).toNat = (BitVec.ofNat 64 _).toNat
  have h1 : (UInt64.ofNat k).toNat = k := by
    show (BitVec.ofNat 64 k).toNat = k
    rw [BitVec.toNat_ofNat, Nat.mod_eq_of_lt (by omega)]
  have h2 : (lN n).toUInt64.toNat = n := wb_tn hn
  rw [UInt64.toNat_shiftRight, h1, h2, Nat.mod_eq_of_lt hk, Nat.shiftRight_eq_div_pow, BitVec.toNat_ofNat, Nat.mod_eq_of_lt (Nat.lt_of_le_of_lt (Nat.div_le_self _ _) hn)]
theorem wb_shl (n : Nat) {k : Nat} (hk : k < 64) : lN n <<< ((nI k).toInt64 &&& 63) = lN (n * 2 ^ k) := by
  rw [wb_c k hk]
  apply wb_inj
  rw [Int64.toBitVec_shiftLeft, wb_tb, wb_tb, wb_tb, wb_sm k hk]
  apply BitVec.eq_of_toNat_eq
  rw [BitVec.shiftLeft_eq', BitVec.toNat_shiftLeft, BitVec.toNat_ofNat, BitVec.toNat_ofNat, BitVec.toNat_ofNat, Nat.mod_eq_of_lt (show k < 2 ^ 64 by omega), Nat.shiftLeft_eq, Nat.mul_mod, Nat.mod_mod, ← Nat.mul_mod]
theorem wb_and {a b : Nat} (ha : a < 2 ^ 64) (hb : b < 2 ^ 64) : lN a &&& lN b = lN (a &&& b) := by
  apply wb_inj
  rw [Int64.toBitVec_and, wb_tb, wb_tb, wb_tb]
  apply BitVec.eq_of_toNat_eq
  rw [BitVec.toNat_and, BitVec.toNat_ofNat, BitVec.toNat_ofNat, BitVec.toNat_ofNat, Nat.mod_eq_of_lt ha, Nat.mod_eq_of_lt hb, Nat.mod_eq_of_lt (Nat.and_lt_two_pow _ hb)]
theorem wb_or {a b : Nat} (ha : a < 2 ^ 64) (hb : b < 2 ^ 64) : lN a ||| lN b = lN (a ||| b) := by
  apply wb_inj
  rw [Int64.toBitVec_or, wb_tb, wb_tb, wb_tb]
  apply BitVec.eq_of_toNat_eq
  rw [BitVec.toNat_or, BitVec.toNat_ofNat, BitVec.toNat_ofNat, BitVec.toNat_ofNat, Nat.mod_eq_of_lt ha, Nat.mod_eq_of_lt hb, Nat.mod_eq_of_lt (Nat.or_lt_two_pow ha hb)]
theorem wb_mask {n k : Nat} (hn : n < 2 ^ 64) (hk : k < 64) : lN n &&& lN (2 ^ k - 1) = lN (n % 2 ^ k) := by
  rw [wb_and hn (by have := wb_lt2 hk; omega), Nat.and_two_pow_sub_one_eq_mod]
theorem wb_a1 {n : Nat} (hn : n < 2 ^ 64) : lN n &&& 1 = lN (n % 2) := wb_mask (k := 1) hn (by decide)
theorem u_tn {n : Nat} (h : n < 2 ^ 64) : (UInt64.ofNat n).toNat = n := Nat.mod_eq_of_lt h
theorem g_or {k p a b : Nat} (hp : 2 ^ k = p) (ha : a < p) (h : b * p + a < 2 ^ 64) : lN (b * p) ||| lN a = lN (b * p + a) := by
  subst hp
  have h1 : b * 2 ^ k ||| a = b * 2 ^ k + a := by rw [← Nat.shiftLeft_eq, Nat.shiftLeft_add_eq_or_of_lt ha]
  have h3 : UInt64.ofNat (b * 2 ^ k) ||| UInt64.ofNat a = UInt64.ofNat (b * 2 ^ k + a) := UInt64.toNat_inj.mp (by rw [UInt64.toNat_or, u_tn (by omega), u_tn (by omega), u_tn h, h1])
  have h2 := congrArg UInt64.toInt64 h3
  exact h2
theorem nx_and (a b : Nat) : nI a &&& nI b = nI (a &&& b) := by
  apply Int32.toBitVec_inj.1
  show BitVec.ofNat 32 a &&& BitVec.ofNat 32 b = BitVec.ofNat 32 (a &&& b)
  apply BitVec.eq_of_getLsbD_eq
  intro i hi
  simp [hi]
/-! ===== how many bits are 1 ===== -/
def pcF : Nat → Nat → Nat
  | 0, _ => 0
  | n + 1, x => x % 2 + pcF n (x / 2)
theorem pc_more : ∀ (n x : Nat), x < 2 ^ n → pcF n x = pcF (n + 1) x
  | 0, x, h => by
    have : x = 0 := by simp at h; exact h
    subst this; rfl
  | n + 1, x, h => by
    have e := pc_more n (x / 2) (by rw [Nat.pow_succ] at h; omega)
    rw [pcF, pcF, e]
def shN : Tr → Nat → Nat
  | .leaf, b => b * 2
  | .inner _ _ _ l r, b => shN r (shN l (b * 2 + 1))
theorem shn_ge : ∀ (t : Tr) (b : Nat), b ≤ shN t b
  | .leaf, b => by rw [shN]; omega
  | .inner _ _ _ l r, b => by
    have h1 := shn_ge l (b * 2 + 1)
    have h2 := shn_ge r (shN l (b * 2 + 1))
    rw [shN]; omega
theorem shn_lt : ∀ (t : Tr) (b k : Nat), b < 2 ^ k → shN t b < 2 ^ (k + 2 * cnt t + 1)
  | .leaf, b, k, h => by
    rw [shN, show k + 2 * cnt .leaf + 1 = k + 1 from rfl, Nat.pow_succ]; omega
  | .inner _ _ _ l r, b, k, h => by
    have h1 := shn_lt l (b * 2 + 1) (k + 1) (by rw [Nat.pow_succ]; omega)
    have h2 := shn_lt r _ _ h1
    rw [shN, cnt_i, show k + 2 * (cnt l + 1 + cnt r) + 1 = k + 1 + 2 * cnt l + 1 + 2 * cnt r + 1 by omega]
    exact h2
theorem shn_is : ∀ (t : Tr) (b : Nat), shN t b < 2 ^ 64 → shT t (lN b) = lN (shN t b)
  | .leaf, b, h => wb_shl b (k := 1) (by decide)
  | .inner _ _ _ l r, b, h => by
    rw [shN] at h
    have h2 := shn_ge r (shN l (b * 2 + 1))
    have h1 := shn_ge l (b * 2 + 1)
    have e : (lN b <<< ((1 : Int32).toInt64 &&& 63)) ||| 1 = lN (b * 2 + 1) := by
      rw [show lN b <<< ((1 : Int32).toInt64 &&& 63) = lN (b * 2) from wb_shl b (k := 1) (by decide)]
      exact g_or (k := 1) (p := 2) (a := 1) (b := b) rfl (by decide) (by omega)
    rw [shT, e, shn_is l _ (by omega), shn_is r _ h, shN]
theorem shn_pc : ∀ (t : Tr) (b : Nat), shN t b < 2 ^ 64 → pcF 64 (shN t b) = pcF 64 b + cnt t
  | .leaf, b, h => by
    rw [shN] at h ⊢
    rw [show pcF 64 (b * 2) = (b * 2) % 2 + pcF 63 (b * 2 / 2) from rfl, show b * 2 / 2 = b by omega, show pcF 63 b = pcF 64 b from pc_more 63 b (by omega), show cnt .leaf = 0 from rfl]
    omega
  | .inner _ _ _ l r, b, h => by
    rw [shN] at h ⊢
    have h2 := shn_ge r (shN l (b * 2 + 1))
    have h1 := shn_ge l (b * 2 + 1)
    rw [shn_pc r _ h, shn_pc l _ (by omega), cnt_i]
    rw [show pcF 64 (b * 2 + 1) = (b * 2 + 1) % 2 + pcF 63 ((b * 2 + 1) / 2) from rfl, show (b * 2 + 1) / 2 = b by omega, show pcF 63 b = pcF 64 b from pc_more 63 b (by omega)]
    omega
/-! Long.bitCount, byte by byte -/
def s1B (b : Nat) : Nat := b - (b / 2 &&& 85)
def s2B (c : Nat) : Nat := (c &&& 51) + (c / 4 &&& 51)
def s3B (d : Nat) : Nat := (d + d / 16) &&& 15
def pc8 (b : Nat) : Nat := s3B (s2B (s1B b))
def Mk (m : Nat) : Nat → Nat
  | 0 => 0
  | n + 1 => m + 256 * Mk m n
theorem and_by {a m : Nat} (h M : Nat) (ha : a < 256) (hm : m < 256) : (a + 256 * h) &&& (m + 256 * M) = (a &&& m) + 256 * (h &&& M) := by
  have e1 : ((a + 256 * h) &&& (m + 256 * M)) % 256 = a &&& m := by
    rw [show (256 : Nat) = 2 ^ 8 from rfl, Nat.and_mod_two_pow, show (a + 2 ^ 8 * h) % 2 ^ 8 = a by omega, show (m + 2 ^ 8 * M) % 2 ^ 8 = m by omega]
  have e2 : ((a + 256 * h) &&& (m + 256 * M)) / 256 = h &&& M := by
    rw [show (256 : Nat) = 2 ^ 8 from rfl, Nat.and_div_two_pow, show (a + 2 ^ 8 * h) / 2 ^ 8 = h by omega, show (m + 2 ^ 8 * M) / 2 ^ 8 = M by omega]
  omega
theorem b1_all : ∀ b, b < 256 → ∀ e, e < 2 → (b / 2 + 128 * e) &&& 85 = b / 2 &&& 85 := by decide +kernel
theorem b2_all : ∀ c, c < 256 → ∀ e, e < 4 → (c / 4 + 64 * e) &&& 51 = c / 4 &&& 51 := by decide +kernel
theorem b3_all : ∀ b, b < 256 → ∀ e, e < 5 → (s2B (s1B b) + s2B (s1B b) / 16 + 16 * e) &&& 15 = s3B (s2B (s1B b)) := by decide +kernel
theorem b4_all : ∀ b, b < 256 → (b / 2 &&& 85) ≤ b ∧ s1B b < 256 ∧ s2B (s1B b) < 103 ∧ s2B (s1B b) % 16 ≤ 4 ∧ s2B (s1B b) + s2B (s1B b) / 16 ≤ 100 ∧ pc8 b ≤ 8 := by decide +kernel
theorem b5_all : ∀ b, b < 256 → pc8 b = b % 2 + (b / 2 % 2 + (b / 2 / 2 % 2 + (b / 2 / 2 / 2 % 2 + (b / 2 / 2 / 2 / 2 % 2 + (b / 2 / 2 / 2 / 2 / 2 % 2 + (b / 2 / 2 / 2 / 2 / 2 / 2 % 2 + b / 2 / 2 / 2 / 2 / 2 / 2 / 2 % 2)))))) := by decide +kernel
def S1 (n x : Nat) : Nat := x - (x / 2 &&& Mk 85 n)
def S2 (n y : Nat) : Nat := (y &&& Mk 51 n) + (y / 4 &&& Mk 51 n)
def S3 (n z : Nat) : Nat := (z + z / 16) &&& Mk 15 n
theorem S1_s {n b h : Nat} (hb : b < 256) : S1 (n + 1) (b + 256 * h) = s1B b + 256 * S1 n h := by
  have e : (b + 256 * h) / 2 = (b / 2 + 128 * (h % 2)) + 256 * (h / 2) := by omega
  have k := b1_all b hb (h % 2) (by omega)
  have q := (b4_all b hb).1
  have r : (h / 2 &&& Mk 85 n) ≤ h / 2 := Nat.and_le_left
  unfold S1 s1B
  rw [e, Mk, and_by _ _ (by omega) (by omega), k]
  omega
theorem S2_s {n c h : Nat} (hc : c < 256) : S2 (n + 1) (c + 256 * h) = s2B c + 256 * S2 n h := by
  have e : (c + 256 * h) / 4 = (c / 4 + 64 * (h % 4)) + 256 * (h / 4) := by omega
  have k := b2_all c hc (h % 4) (by omega)
  unfold S2 s2B
  rw [e, Mk, and_by _ _ (by omega) (by omega), and_by _ _ (by omega) (by omega), k]
  omega
theorem S3_s {n b h : Nat} (hb : b < 256) (hh : h % 16 ≤ 4) : S3 (n + 1) (s2B (s1B b) + 256 * h) = pc8 b + 256 * S3 n h := by
  obtain ⟨-, -, q1, q2, q3, -⟩ := b4_all b hb
  have k := b3_all b hb (h % 16) (by omega)
  have e : s2B (s1B b) + 256 * h + (s2B (s1B b) + 256 * h) / 16 = (s2B (s1B b) + s2B (s1B b) / 16 + 16 * (h % 16)) + 256 * (h + h / 16) := by omega
  unfold S3 pc8
  rw [e, Mk, and_by _ _ (by omega) (by omega), k]
def FF (n x : Nat) : Nat := S3 n (S2 n (S1 n x))
theorem low_4 : ∀ (n h : Nat), S2 n (S1 n h) % 16 ≤ 4
  | 0, h => by
    have : S2 0 (S1 0 h) = 0 := by
      unfold S2
      rw [show Mk 51 0 = 0 from rfl, Nat.and_zero, Nat.and_zero]
    omega
  | n + 1, h => by
    have hb : h % 256 < 256 := by omega
    obtain ⟨-, q0, -, q2, -, -⟩ := b4_all (h % 256) hb
    have e : S2 (n + 1) (S1 (n + 1) h) = s2B (s1B (h % 256)) + 256 * S2 n (S1 n (h / 256)) := by
      have := S1_s (n := n) (h := h / 256) hb
      rw [show h % 256 + 256 * (h / 256) = h by omega] at this
      rw [this, S2_s q0]
    omega
theorem FF_s {n b h : Nat} (hb : b < 256) : FF (n + 1) (b + 256 * h) = pc8 b + 256 * FF n h := by
  unfold FF
  rw [S1_s hb, S2_s (b4_all b hb).2.1, S3_s hb (low_4 n h)]
theorem FF_0 (h : Nat) : FF 0 h = 0 := by
  unfold FF S3
  rw [show Mk 15 0 = 0 from rfl, Nat.and_zero]
theorem pc_s {n b h : Nat} (hb : b < 256) : pcF (n + 8) (b + 256 * h) = pc8 b + pcF n h := by
  rw [b5_all b hb]
  simp only [pcF]
  rw [show (b + 256 * h) / 2 / 2 / 2 / 2 / 2 / 2 / 2 / 2 = h by omega]
  omega
/-- bytes of a number -/
def byT : Nat → Nat → Nat
  | 0, _ => 0
  | n + 1, x => pc8 (x % 256) + byT n (x / 256)
theorem pc_by : ∀ (n x : Nat), x < 256 ^ n → pcF (8 * n) x = byT n x
  | 0, x, h => rfl
  | n + 1, x, h => by
    have e := pc_s (n := 8 * n) (h := x / 256) (show x % 256 < 256 by omega)
    rw [show x % 256 + 256 * (x / 256) = x by omega] at e
    rw [show 8 * (n + 1) = 8 * n + 8 by omega, e, byT, pc_by n _ (by rw [Nat.pow_succ] at h; omega)]
def dgs : Nat → Nat → Nat
  | 0, _ => 0
  | n + 1, x => pc8 (x % 256) + 256 * dgs n (x / 256)
theorem FF_dg : ∀ (n x : Nat), FF n x = dgs n x
  | 0, x => FF_0 x
  | n + 1, x => by
    have e := FF_s (n := n) (h := x / 256) (show x % 256 < 256 by omega)
    rw [show x % 256 + 256 * (x / 256) = x by omega] at e
    rw [e, dgs, FF_dg n]
/-- eight bytes, none above 8, added up -/
theorem sum8 (a b c d e f g h X1 X2 X3 X4 X5 X6 w : Nat) (ha : a ≤ 8) (hb : b ≤ 8) (hc : c ≤ 8) (hd : d ≤ 8) (he : e ≤ 8) (hf : f ≤ 8) (hg : g ≤ 8) (hh : h ≤ 8) (hw : w = a + 256 * X1) (h1 : X1 = b + 256 * X2) (h2 : X2 = c + 256 * X3) (h3 : X3 = d + 256 * X4) (h4 : X4 = e + 256 * X5) (h5 : X5 = f + 256 * X6) (h6 : X6 = g + 256 * h) : w < 2 ^ 60 ∧ ((w + w / 256 + (w + w / 256) / 65536 + (w + w / 256 + (w + w / 256) / 65536) / 4294967296) % 128 = a + b + c + d + e + f + g + h) := by
  have b6 : X6 ≤ 2056 := by omega
  have b5 : X5 ≤ 526344 := by clear hw h1 h2 h3 h4 h6; omega
  have b4 : X4 ≤ 134744072 := by clear hw h1 h2 h3 h5 h6; omega
  have b3 : X3 ≤ 34494482440 := by clear hw h1 h2 h4 h5 h6; omega
  have b2 : X2 ≤ 8830587504648 := by clear hw h1 h3 h4 h5 h6; omega
  have b1 : X1 ≤ 2260630401189896 := by clear hw h2 h3 h4 h5 h6; omega
  have w1 : w / 256 = X1 := by clear h1 h2 h3 h4 h5 h6; omega
  have u0 : w + X1 = (a + b) + 256 * (X1 + X2) := by clear h2 h3 h4 h5 h6; omega
  have u1 : X1 + X2 = (b + c) + 256 * (X2 + X3) := by clear hw h3 h4 h5 h6 u0; omega
  have u2 : X2 + X3 = (c + d) + 256 * (X3 + X4) := by clear hw h1 h4 h5 h6 u0 u1; omega
  have u3 : X3 + X4 = (d + e) + 256 * (X4 + X5) := by clear hw h1 h2 h5 h6 u0 u1 u2; omega
  have u4 : X4 + X5 = (e + f) + 256 * (X5 + X6) := by clear hw h1 h2 h3 h6 u0 u1 u2 u3; omega
  have u5 : X5 + X6 = (f + g) + 256 * (X6 + h) := by clear hw h1 h2 h3 h4 u0 u1 u2 u3 u4; omega
  have u6 : X6 + h = (g + h) + 256 * h := by omega
  have wb : w < 2 ^ 60 := by clear h1 h2 h3 h4 h5 h6 u0 u1 u2 u3 u4 u5 u6; omega
  rw [w1]
  clear hw h1 h2 h3 h4 h5 h6
  generalize w + X1 = u at *
  generalize X1 + X2 = U1 at *
  generalize X2 + X3 = U2 at *
  generalize X3 + X4 = U3 at *
  generalize X4 + X5 = U4 at *
  generalize X5 + X6 = U5 at *
  generalize X6 + h = U6 at *
  have d1 : u / 65536 = U2 := by clear u2 u3 u4 u5 u6; omega
  rw [d1]
  have v0 : u + U2 = (a + b + c + d) + 256 * (b + c + d + e) + 65536 * (U2 + U4) := by clear u4 u5 u6; omega
  have v1 : U2 + U4 = (c + d + e + f) + 256 * (d + e + f + g) + 65536 * (U4 + U6) := by clear u0 u1 u6; omega
  have v2 : U4 + U6 = (e + f + g + h) + 256 * ((f + g + h) + 256 * U6) := by clear u0 u1 u2 u3; omega
  refine ⟨wb, ?_⟩
  clear u0 u1 u2 u3 u4 u5 u6 d1
  generalize u + U2 = v at *
  generalize U2 + U4 = V2 at *
  generalize U4 + U6 = V4 at *
  have d2 : v / 4294967296 = V4 := by clear v2; omega
  rw [d2]
  omega
theorem mk_le (m : Nat) (hm : m < 256) : Mk m 8 < 2 ^ 64 := by
  simp only [Mk]; omega
theorem mk_51 : Mk 51 8 < 2 ^ 62 := by decide +kernel
theorem usr_n {n k : Nat} (hn : n < 2 ^ 64) (hk : k < 64) : usr (lN n) (nI k) = lN (n / 2 ^ k) := wb_shr hn hk
theorem m_85 : (6148914691236517205 : Int64) = lN (Mk 85 8) := by decide +kernel
theorem m_51 : (3689348814741910323 : Int64) = lN (Mk 51 8) := by decide +kernel
theorem m_15 : (1085102592571150095 : Int64) = lN (Mk 15 8) := by decide +kernel
theorem bc_e1 {x : Nat} (h : x < 2 ^ 64) : bc1 (lN x) = lN (S1 8 x) ∧ S1 8 x < 2 ^ 64 := by
  have k1 := mk_le 85 (by decide)
  have r1 : (x / 2 &&& Mk 85 8) ≤ x / 2 := Nat.and_le_left
  have hx : x / 2 ≤ x := Nat.div_le_self _ _
  constructor
  · unfold bc1 S1
    rw [show usr (lN x) 1 = lN (x / 2) from usr_n (k := 1) h (by decide), m_85, wb_and (Nat.lt_of_le_of_lt hx h) k1, lN_sub (Nat.le_trans r1 hx)]
  · exact Nat.lt_of_le_of_lt (Nat.sub_le _ _) h
theorem bc_e2 {y : Nat} (h : y < 2 ^ 64) : bc2 (lN y) = lN (S2 8 y) ∧ S2 8 y < 2 ^ 63 := by
  have k2 := mk_le 51 (by decide)
  have r2 : (y &&& Mk 51 8) ≤ Mk 51 8 := Nat.and_le_right
  have r3 : (y / 4 &&& Mk 51 8) ≤ Mk 51 8 := Nat.and_le_right
  have k3 := mk_51
  constructor
  · unfold bc2 S2
    rw [show usr (lN y) 2 = lN (y / 4) from usr_n (k := 2) h (by decide), m_51, wb_and h k2, wb_and (Nat.lt_of_le_of_lt (Nat.div_le_self _ _) h) k2, lN_add]
  · unfold S2
    generalize (y &&& Mk 51 8) = p at *
    generalize (y / 4 &&& Mk 51 8) = q at *
    generalize Mk 51 8 = m at *
    omega
theorem bc_e3 {z : Nat} (h : z < 2 ^ 63) : bc3 (lN z) = lN (S3 8 z) := by
  have k3 := mk_le 15 (by decide)
  unfold bc3 S3
  rw [show usr (lN z) 4 = lN (z / 16) from usr_n (k := 4) (by omega) (by decide), lN_add, m_15, wb_and (by omega) k3]
theorem bc_e4 {w : Nat} (h : w < 2 ^ 60) : bc6 (bc5 (bc4 (lN w))) = lN (w + w / 256 + (w + w / 256) / 65536 + (w + w / 256 + (w + w / 256) / 65536) / 4294967296) := by
  have e4 : bc4 (lN w) = lN (w + w / 256) := by
    unfold bc4
    rw [show usr (lN w) 8 = lN (w / 256) from usr_n (k := 8) (by omega) (by decide), lN_add]
  have hu : w + w / 256 < 2 ^ 61 := by omega
  rw [e4]
  generalize w + w / 256 = u at *
  have e5 : bc5 (lN u) = lN (u + u / 65536) := by
    unfold bc5
    rw [show usr (lN u) 16 = lN (u / 65536) from usr_n (k := 16) (by omega) (by decide), lN_add]
  have hv : u + u / 65536 < 2 ^ 62 := by omega
  rw [e5]
  generalize u + u / 65536 = v at *
  unfold bc6
  rw [show usr (lN v) 32 = lN (v / 4294967296) from usr_n (k := 32) (by omega) (by decide), lN_add]
theorem bc_e5 (q : Nat) : (lN q).toInt32 &&& 127 = nI (q % 128) := by
  rw [show (lN q).toInt32 = nI q from Int64.toInt32_ofNat', show (127 : Int32) = nI 127 from rfl, nx_and, show (127 : Nat) = 2 ^ 7 - 1 from rfl, Nat.and_two_pow_sub_one_eq_mod]
theorem byT8 (x : Nat) : byT 8 x = pc8 (x % 256) + (pc8 (x / 256 % 256) + (pc8 (x / 256 / 256 % 256) + (pc8 (x / 256 / 256 / 256 % 256) + (pc8 (x / 256 / 256 / 256 / 256 % 256) + (pc8 (x / 256 / 256 / 256 / 256 / 256 % 256) + (pc8 (x / 256 / 256 / 256 / 256 / 256 / 256 % 256) + (pc8 (x / 256 / 256 / 256 / 256 / 256 / 256 / 256 % 256) + 0))))))) := rfl
theorem dgs_s (n x : Nat) : dgs (n + 1) x = pc8 (x % 256) + 256 * dgs n (x / 256) := rfl
theorem dgs_2 (y : Nat) : dgs 2 y = pc8 (y % 256) + 256 * pc8 (y / 256 % 256) := by
  rw [dgs_s, dgs_s, dgs, Nat.mul_zero, Nat.add_zero]
theorem bc_is {x : Nat} (h : x < 2 ^ 64) : bcF (lN x) = nI (pcF 64 x) := by
  obtain ⟨e1, y1⟩ := bc_e1 h
  obtain ⟨e2, y2⟩ := bc_e2 y1
  have e3 := bc_e3 y2
  have p8 : ∀ y : Nat, pc8 (y % 256) ≤ 8 := fun y => (b4_all (y % 256) (Nat.mod_lt _ (by decide))).2.2.2.2.2
  have fd : S3 8 (S2 8 (S1 8 x)) = dgs 8 x := FF_dg 8 x
  have s8 := sum8 _ _ _ _ _ _ _ _ _ _ _ _ _ _ _ (p8 x) (p8 (x / 256)) (p8 (x / 256 / 256)) (p8 (x / 256 / 256 / 256)) (p8 (x / 256 / 256 / 256 / 256)) (p8 (x / 256 / 256 / 256 / 256 / 256)) (p8 (x / 256 / 256 / 256 / 256 / 256 / 256)) (p8 (x / 256 / 256 / 256 / 256 / 256 / 256 / 256)) (dgs_s 7 x) (dgs_s 6 _) (dgs_s 5 _) (dgs_s 4 _) (dgs_s 3 _) (dgs_s 2 _) (dgs_2 _)
  have pb : pcF 64 x = byT 8 x := pc_by 8 x h
  unfold bcF
  rw [e1, e2, e3, fd, bc_e4 s8.1, bc_e5, s8.2, pb, byT8]
  simp only [Nat.add_zero, Nat.add_assoc]
theorem bc_shape {t : Tr} (h : cnt t ≤ 30) : bcF (shT t 0) = iI (cnt t) := by
  have l := shn_lt t 0 0 (by decide)
  have l2 : shN t 0 < 2 ^ 64 := Nat.lt_of_lt_of_le l (Nat.pow_le_pow_right (by decide) (by omega))
  rw [show shT t 0 = shT t (lN 0) from rfl, shn_is t 0 l2, bc_is l2, shn_pc t 0 l2, show pcF 64 0 = 0 by decide +kernel, Nat.zero_add]
  rfl
/-! ===== one weight among 64 as a bit ===== -/
theorem one_bit : ∀ k : Nat, k < 64 → ((1 : Int64) <<< ((iI (k : Int)).toInt64 &&& 63)).toBitVec = BitVec.twoPow 64 k := by decide +kernel
theorem bF_bit (t : Tr) (f : Int) : ∀ (n j : Nat), n ≤ 64 → j < 64 → (bF t f n).toBitVec.getLsbD j = decide (j < n ∧ fdP t (f + j) ≠ -1)
  | 0, j, hn, hj => by
    rw [bF, show ((0 : Int64).toBitVec) = 0#64 from rfl, BitVec.getLsbD_zero]
    simp
  | n + 1, j, hn, hj => by
    have ih := bF_bit t f n j (by omega) hj
    rw [bF]
    by_cases c : fdP t (f + n) = -1
    · rw [if_pos c, i64_or0, ih]
      by_cases e : j = n
      · subst e; simp [c]
      · congr 1
        apply propext
        constructor
        · rintro ⟨a, b⟩; exact ⟨by omega, b⟩
        · rintro ⟨a, b⟩; exact ⟨by omega, b⟩
    · rw [if_neg c, Int64.toBitVec_or, BitVec.getLsbD_or, ih, one_bit n (by omega), BitVec.getLsbD_twoPow]
      by_cases e : j = n
      · subst e; simp [c, hj]
      · have e2 : ¬ n = j := fun q => e q.symm
        simp only [e2, decide_false, Bool.and_false, Bool.or_false]
        congr 1
        apply propext
        constructor
        · rintro ⟨a, b⟩; exact ⟨by omega, b⟩
        · rintro ⟨a, b⟩; exact ⟨by omega, b⟩
theorem sh_amt : ∀ k : Nat, k < 64 → (((iI (k : Int)).toInt64 &&& 63).toBitVec.smod 64).toNat = k := by decide +kernel
theorem bit_at {x : Int64} {k : Nat} (hk : k < 64) (h : x.toBitVec.getLsbD k = true) : (x >>> ((iI (k : Int)).toInt64 &&& 63)) &&& 1 = 1 := by
  apply Int64.toBitVec_inj.mp
  rw [Int64.toBitVec_and, Int64.toBitVec_shiftRight, BitVec.sshiftRight_eq', sh_amt k hk]
  apply BitVec.eq_of_getLsbD_eq
  intro i hi
  rw [BitVec.getLsbD_and, show ((1 : Int64).toBitVec) = 1#64 from rfl, BitVec.getLsbD_one]
  by_cases e : i = 0
  · subst e
    rw [BitVec.getLsbD_sshiftRight]
    simp [h, hk]
  · simp [e]
theorem w_bit {t : Tr} (G : GT t) {p : Nat} (hp : p < cnt t) {f : Int} (h1 : f ≤ gw t p) (h2 : (gw t p : Int) < f + 64) : (bF t f 64 >>> ((iI ((gw t p : Int) - f)).toInt64 &&& 63)) &&& 1 = 1 := by
  obtain ⟨k, hk⟩ : ∃ k : Nat, (gw t p : Int) - f = k := ⟨((gw t p : Int) - f).toNat, by omega⟩
  rw [hk]
  refine bit_at (by omega) ?_
  rw [bF_bit t f 64 k (Nat.le_refl _) (by omega), show f + (k : Int) = gw t p by omega, fd_at G hp]
  exact decide_eq_true ⟨by omega, by omega⟩
