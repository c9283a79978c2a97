/-! the number of bits -/
theorem and_cut (k a b : Nat) : a &&& b = (a % 2 ^ k &&& b % 2 ^ k) + 2 ^ k * (a / 2 ^ k &&& b / 2 ^ k) := by
  have h1 : (a &&& b) % 2 ^ k = (a % 2 ^ k &&& b % 2 ^ k) := Nat.and_mod_two_pow
  have h2 : (a &&& b) / 2 ^ k = (a / 2 ^ k &&& b / 2 ^ k) := Nat.and_div_two_pow
  have h3 := Nat.div_add_mod (a &&& b) (2 ^ k)
  rw [h1, h2] at h3
  omega
def c1N : Nat → Nat → Nat
  | 0, _ => 0
  | n + 1, X => (X % 2 + X / 2 % 2) + 4 * c1N n (X / 4)
def c2N : Nat → Nat → Nat
  | 0, _ => 0
  | n + 1, X => (X % 2 + X / 2 % 2 + X / 4 % 2 + X / 8 % 2) + 16 * c2N n (X / 16)
def b8N (X : Nat) : Nat := X % 2 + X / 2 % 2 + X / 4 % 2 + X / 8 % 2 + X / 16 % 2 + X / 32 % 2 + X / 64 % 2 + X / 128 % 2
def c3N : Nat → Nat → Nat
  | 0, _ => 0
  | n + 1, X => b8N X + 256 * c3N n (X / 256)
def m5N : Nat → Nat
  | 0 => 0
  | n + 1 => 1 + 4 * m5N n
def m3N : Nat → Nat
  | 0 => 0
  | n + 1 => 3 + 16 * m3N n
def mFN : Nat → Nat
  | 0 => 0
  | n + 1 => 15 + 256 * mFN n
theorem d256 {c Y : Nat} (h : c < 256) : (c + 256 * Y) / 256 = Y := by omega
theorem c1_ok : ∀ (n X : Nat), X < 4 ^ n → X - (X / 2 &&& m5N n) = c1N n X ∧ (X / 2 &&& m5N n) ≤ X := by
  intro n
  induction n with
  | zero =>
    intro X h
    have : X = 0 := by simpa using h
    subst this
    exact ⟨rfl, by decide⟩
  | succ n ih =>
    intro X h
    have h4 : X / 4 < 4 ^ n := by rw [Nat.pow_succ] at h; omega
    obtain ⟨i1, i2⟩ := ih (X / 4) h4
    have e : X / 2 &&& m5N (n + 1) = X / 2 % 2 + 4 * (X / 4 / 2 &&& m5N n) := by
      rw [and_cut 2 (X / 2) (m5N (n + 1)), m5N]
      have e1 : (1 + 4 * m5N n) % 2 ^ 2 = 1 := by omega
      have e2 : (1 + 4 * m5N n) / 2 ^ 2 = m5N n := by omega
      have e3 : X / 2 / 2 ^ 2 = X / 4 / 2 := by omega
      have e4 : (X / 2 % 2 ^ 2 &&& 1) = X / 2 % 2 := by
        rw [Nat.and_one_is_mod]; omega
      rw [e1, e2, e3, e4]
    rw [e, c1N, ← i1]
    generalize (X / 4 / 2 &&& m5N n) = T at i2 ⊢
    omega
theorem c2_ok : ∀ (n X : Nat), (c1N (2 * n) X &&& m3N n) + (c1N (2 * n) X / 4 &&& m3N n) = c2N n X := by
  intro n
  induction n with
  | zero => intro X; simp [c1N, m3N, c2N]
  | succ n ih =>
    intro X
    have i1 := ih (X / 4 / 4)
    have eY : c1N (2 * (n + 1)) X = (X % 2 + X / 2 % 2) + 4 * ((X / 4 % 2 + X / 4 / 2 % 2) + 4 * c1N (2 * n) (X / 4 / 4)) := rfl
    have e16 : X / 4 / 4 = X / 16 := by omega
    rw [eY, c2N, ← e16, ← i1]
    generalize c1N (2 * n) (X / 4 / 4) = Z
    have g1 : X / 4 / 2 = X / 8 := by omega
    rw [g1, show X % 2 + X / 2 % 2 + X / 4 % 2 + X / 8 % 2 = (X % 2 + X / 2 % 2) + (X / 4 % 2 + X / 8 % 2) by omega]
    have ha : X % 2 + X / 2 % 2 ≤ 2 := by omega
    have hb : X / 4 % 2 + X / 8 % 2 ≤ 2 := by omega
    generalize X % 2 + X / 2 % 2 = a at ha ⊢
    generalize X / 4 % 2 + X / 8 % 2 = b at hb ⊢
    rw [and_cut 4 _ (m3N (n + 1)), and_cut 4 (_ / 4) (m3N (n + 1)), m3N]
    have f1 : (3 + 16 * m3N n) % 2 ^ 4 = 2 ^ 2 - 1 := by omega
    have f2 : (3 + 16 * m3N n) / 2 ^ 4 = m3N n := by omega
    have f3 : (a + 4 * (b + 4 * Z)) / 2 ^ 4 = Z := by omega
    have f4 : (a + 4 * (b + 4 * Z)) / 4 / 2 ^ 4 = Z / 4 := by omega
    have f5 : (a + 4 * (b + 4 * Z)) % 2 ^ 4 % 2 ^ 2 = a := by omega
    have f6 : (a + 4 * (b + 4 * Z)) / 4 % 2 ^ 4 % 2 ^ 2 = b := by omega
    rw [f1, f2, f3, f4, Nat.and_two_pow_sub_one_eq_mod, Nat.and_two_pow_sub_one_eq_mod, f5, f6]
    generalize (Z &&& m3N n) = T1
    generalize (Z / 4 &&& m3N n) = T2
    clear f1 f2 f3 f4 f5 f6 g1 i1 eY e16 ih
    omega
theorem bits4 (a b c d : Nat) : a % 2 + b % 2 + c % 2 + d % 2 ≤ 4 := by omega
theorem c2_mod (n X : Nat) : c2N n X % 16 ≤ 4 := by
  cases n with
  | zero => simp [c2N]
  | succ n =>
    rw [c2N]
    have h : X % 2 + X / 2 % 2 + X / 4 % 2 + X / 8 % 2 ≤ 4 := bits4 _ _ _ _
    generalize X % 2 + X / 2 % 2 + X / 4 % 2 + X / 8 % 2 = a at h ⊢
    generalize c2N n (X / 16) = Y
    omega
theorem c3_ok : ∀ (n X : Nat), ((c2N (2 * n) X + c2N (2 * n) X / 16) &&& mFN n) = c3N n X := by
  intro n
  induction n with
  | zero => intro X; simp [c2N, mFN, c3N]
  | succ n ih =>
    intro X
    have i1 := ih (X / 16 / 16)
    have hm := c2_mod (2 * n) (X / 16 / 16)
    have eY : c2N (2 * (n + 1)) X = (X % 2 + X / 2 % 2 + X / 4 % 2 + X / 8 % 2) + 16 * ((X / 16 % 2 + X / 16 / 2 % 2 + X / 16 / 4 % 2 + X / 16 / 8 % 2) + 16 * c2N (2 * n) (X / 16 / 16)) := rfl
    have e16 : X / 16 / 16 = X / 256 := by omega
    have g1 : X / 16 / 2 = X / 32 := by omega
    have g2 : X / 16 / 4 = X / 64 := by omega
    have g3 : X / 16 / 8 = X / 128 := by omega
    rw [g1, g2, g3] at eY
    rw [eY, c3N, ← e16, ← i1, b8N]
    generalize c2N (2 * n) (X / 16 / 16) = Z at hm ⊢
    have ha : X % 2 + X / 2 % 2 + X / 4 % 2 + X / 8 % 2 ≤ 4 := bits4 _ _ _ _
    have hb : X / 16 % 2 + X / 32 % 2 + X / 64 % 2 + X / 128 % 2 ≤ 4 := bits4 _ _ _ _
    have hab : X % 2 + X / 2 % 2 + X / 4 % 2 + X / 8 % 2 + X / 16 % 2 + X / 32 % 2 + X / 64 % 2 + X / 128 % 2 = (X % 2 + X / 2 % 2 + X / 4 % 2 + X / 8 % 2) + (X / 16 % 2 + X / 32 % 2 + X / 64 % 2 + X / 128 % 2) := by simp only [Nat.add_assoc]
    rw [hab]
    generalize X % 2 + X / 2 % 2 + X / 4 % 2 + X / 8 % 2 = a at ha ⊢
    generalize X / 16 % 2 + X / 32 % 2 + X / 64 % 2 + X / 128 % 2 = b at hb ⊢
    rw [and_cut 8 _ (mFN (n + 1)), mFN]
    have f1 : (15 + 256 * mFN n) % 2 ^ 8 = 2 ^ 4 - 1 := by omega
    have f2 : (15 + 256 * mFN n) / 2 ^ 8 = mFN n := by omega
    clear i1 eY e16 g1 g2 g3 ih hab
    have f0 : (a + 16 * (b + 16 * Z)) / 16 = b + 16 * Z := by omega
    have f4 : Z = 16 * (Z / 16) + Z % 16 := by omega
    generalize hq : Z / 16 = Zq at f4 ⊢
    generalize hr : Z % 16 = Zr at f4 hm
    have f3 : a + 16 * (b + 16 * Z) + (b + 16 * Z) = (a + b + 16 * (b + Zr)) + 256 * (Z + Zq) := by clear hq hr f0 f1 f2; omega
    have f5 : ((a + b + 16 * (b + Zr)) + 256 * (Z + Zq)) / 2 ^ 8 = Z + Zq := d256 (by clear hq hr f0 f1 f2 f3 f4; omega)
    have f6 : ((a + b + 16 * (b + Zr)) + 256 * (Z + Zq)) % 2 ^ 8 % 2 ^ 4 = a + b := by
      generalize Z + Zq = W
      clear hq hr f0 f1 f2 f3 f4 f5
      omega
    rw [f0, f1, f2, f3, Nat.and_two_pow_sub_one_eq_mod, f5, f6]
def cntN (X : Nat) : Nat → Nat
  | 0 => 0
  | i + 1 => cntN X i + X / 2 ^ i % 2
theorem cnt_8 (X : Nat) : ∀ m, cntN X (8 + m) = b8N X + cntN (X / 256) m
  | 0 => by
    show 0 + X / 1 % 2 + X / 2 % 2 + X / 4 % 2 + X / 8 % 2 + X / 16 % 2 + X / 32 % 2 + X / 64 % 2 + X / 128 % 2 = _ + 0
    rw [Nat.div_one, Nat.zero_add, Nat.add_zero, b8N]
  | m + 1 => by
    show cntN X (8 + m) + X / 2 ^ (8 + m) % 2 = _
    rw [cnt_8 X m, cntN, Nat.pow_add, ← Nat.div_div_eq_div_mul, Nat.add_assoc]
theorem cnt_top {X i : Nat} (h : X < 2 ^ i) : ∀ j, cntN X (i + j) = cntN X i
  | 0 => rfl
  | j + 1 => by
    show cntN X (i + j) + X / 2 ^ (i + j) % 2 = _
    rw [cnt_top h j, Nat.div_eq_of_lt (Nat.lt_of_lt_of_le h (Nat.pow_le_pow_right (by decide) (by omega)))]
    rfl
theorem m128 {s W : Nat} (h : s < 128) : (s + 256 * W) % 128 = s := by omega
theorem fold_8 {c0 c1 c2 c3 c4 c5 c6 c7 X3 X4 X5 : Nat} (h0 : c0 ≤ 8) (h1 : c1 ≤ 8) (h2 : c2 ≤ 8) (h3 : c3 ≤ 8) (h4 : c4 ≤ 8) (h5 : c5 ≤ 8) (h6 : c6 ≤ 8) (h7 : c7 ≤ 8)
    (e3 : X3 = c0 + 256 * (c1 + 256 * (c2 + 256 * (c3 + 256 * (c4 + 256 * (c5 + 256 * (c6 + 256 * c7))))))) (e4 : X4 = X3 + X3 / 256) (e5 : X5 = X4 + X4 / 65536) : (X5 + X5 / 4294967296) % 128 = c0 + c1 + c2 + c3 + c4 + c5 + c6 + c7 := by
  have a4 : X3 / 256 = c1 + 256 * (c2 + 256 * (c3 + 256 * (c4 + 256 * (c5 + 256 * (c6 + 256 * c7))))) := by rw [e3]; exact d256 (by omega)
  have b4 : X4 = (c0 + c1) + 256 * ((c1 + c2) + 256 * ((c2 + c3) + 256 * ((c3 + c4) + 256 * ((c4 + c5) + 256 * ((c5 + c6) + 256 * ((c6 + c7) + 256 * c7)))))) := by rw [e4, a4, e3]; clear a4 e3 e4 e5; omega
  have a5 : X4 / 65536 = (c2 + c3) + 256 * ((c3 + c4) + 256 * ((c4 + c5) + 256 * ((c5 + c6) + 256 * ((c6 + c7) + 256 * c7)))) := by
    rw [show X4 / 65536 = X4 / 256 / 256 by rw [Nat.div_div_eq_div_mul], b4, d256 (by clear b4 a4 e3 e4 e5; omega), d256 (by clear b4 a4 e3 e4 e5; omega)]
  have b5 : X5 = (c0 + c1 + c2 + c3) + 256 * ((c1 + c2 + c3 + c4) + 256 * ((c2 + c3 + c4 + c5) + 256 * ((c3 + c4 + c5 + c6) + 256 * ((c4 + c5 + c6 + c7) + 256 * ((c5 + c6 + c7) + 256 * ((c6 + c7) + 256 * c7)))))) := by rw [e5, a5, b4]; clear a4 a5 b4 e3 e4 e5; omega
  have a6 : X5 / 4294967296 = (c4 + c5 + c6 + c7) + 256 * ((c5 + c6 + c7) + 256 * ((c6 + c7) + 256 * c7)) := by
    rw [show X5 / 4294967296 = X5 / 256 / 256 / 256 / 256 by rw [Nat.div_div_eq_div_mul, Nat.div_div_eq_div_mul, Nat.div_div_eq_div_mul], b5, d256 (by clear b5 a5 b4 a4 e3 e4 e5; omega), d256 (by clear b5 a5 b4 a4 e3 e4 e5; omega), d256 (by clear b5 a5 b4 a4 e3 e4 e5; omega), d256 (by clear b5 a5 b4 a4 e3 e4 e5; omega)]
  rw [a6, b5, show c0 + c1 + c2 + c3 + 256 * (c1 + c2 + c3 + c4 + 256 * (c2 + c3 + c4 + c5 + 256 * (c3 + c4 + c5 + c6 + 256 * (c4 + c5 + c6 + c7 + 256 * (c5 + c6 + c7 + 256 * (c6 + c7 + 256 * c7)))))) + (c4 + c5 + c6 + c7 + 256 * (c5 + c6 + c7 + 256 * (c6 + c7 + 256 * c7))) = (c0 + c1 + c2 + c3 + c4 + c5 + c6 + c7) + 256 * ((c1 + c2 + c3 + c4 + 256 * (c2 + c3 + c4 + c5 + 256 * (c3 + c4 + c5 + c6 + 256 * (c4 + c5 + c6 + c7 + 256 * (c5 + c6 + c7 + 256 * (c6 + c7 + 256 * c7)))))) + (c5 + c6 + c7 + 256 * (c6 + c7 + 256 * c7))) by clear b5 a5 b4 a4 a6 e3 e4 e5; omega]
  exact m128 (by clear b5 a5 b4 a4 a6 e3 e4 e5; omega)
theorem bits8 (a b c d e f g h : Nat) : a % 2 + b % 2 + c % 2 + d % 2 + e % 2 + f % 2 + g % 2 + h % 2 ≤ 8 := by
  have h1 := bits4 a b c d
  have h2 := bits4 e f g h
  generalize a % 2 + b % 2 + c % 2 + d % 2 = A at h1 ⊢
  omega
theorem nI_127 (a : Nat) : nI a &&& 127 = nI (a % 128) := by
  apply Int32.toBitVec_inj.mp
  apply BitVec.eq_of_toNat_eq
  have e1 : (nI a).toBitVec.toNat = a % 2 ^ 32 := by show (BitVec.ofNat 32 a).toNat = _; rw [BitVec.toNat_ofNat]
  have e2 : (nI (a % 128)).toBitVec.toNat = a % 128 % 2 ^ 32 := by show (BitVec.ofNat 32 (a % 128)).toNat = _; rw [BitVec.toNat_ofNat]
  have e3 : (127 : Int32).toBitVec.toNat = 2 ^ 7 - 1 := by decide
  rw [Int32.toBitVec_and, BitVec.toNat_and, e1, e2, e3, Nat.and_two_pow_sub_one_eq_mod]
  omega
theorem k5 : (6148914691236517205 : Int64) = lN (m5N 32) := by decide +kernel
theorem k3 : (3689348814741910323 : Int64) = lN (m3N 16) := by decide +kernel
theorem kF : (1085102592571150095 : Int64) = lN (mFN 8) := by decide +kernel
theorem sh_1 {n : Nat} (hn : n < 2 ^ 64) : ((lN n).toUInt64 >>> ((1 : Int32).toInt64.toUInt64 &&& Int64.toUInt64 63)).toInt64 = lN (n / 2) := wb_shr (k := 1) hn (by decide)
theorem sh_2 {n : Nat} (hn : n < 2 ^ 64) : ((lN n).toUInt64 >>> ((2 : Int32).toInt64.toUInt64 &&& Int64.toUInt64 63)).toInt64 = lN (n / 4) := wb_shr (k := 2) hn (by decide)
theorem sh_4 {n : Nat} (hn : n < 2 ^ 64) : ((lN n).toUInt64 >>> ((4 : Int32).toInt64.toUInt64 &&& Int64.toUInt64 63)).toInt64 = lN (n / 16) := wb_shr (k := 4) hn (by decide)
theorem sh_8 {n : Nat} (hn : n < 2 ^ 64) : ((lN n).toUInt64 >>> ((8 : Int32).toInt64.toUInt64 &&& Int64.toUInt64 63)).toInt64 = lN (n / 256) := wb_shr (k := 8) hn (by decide)
theorem sh_16 {n : Nat} (hn : n < 2 ^ 64) : ((lN n).toUInt64 >>> ((16 : Int32).toInt64.toUInt64 &&& Int64.toUInt64 63)).toInt64 = lN (n / 65536) := wb_shr (k := 16) hn (by decide)
theorem sh_32 {n : Nat} (hn : n < 2 ^ 64) : ((lN n).toUInt64 >>> ((32 : Int32).toInt64.toUInt64 &&& Int64.toUInt64 63)).toInt64 = lN (n / 4294967296) := wb_shr (k := 32) hn (by decide)
theorem b8_le (X : Nat) : b8N X ≤ 8 := bits8 _ _ _ _ _ _ _ _
theorem cnt_sum {X : Nat} : ∃ c0 c1 c2 c3 c4 c5 c6 c7, c0 ≤ 8 ∧ c1 ≤ 8 ∧ c2 ≤ 8 ∧ c3 ≤ 8 ∧ c4 ≤ 8 ∧ c5 ≤ 8 ∧ c6 ≤ 8 ∧ c7 ≤ 8 ∧ c3N 8 X = c0 + 256 * (c1 + 256 * (c2 + 256 * (c3 + 256 * (c4 + 256 * (c5 + 256 * (c6 + 256 * c7)))))) ∧ cntN X 64 = c0 + c1 + c2 + c3 + c4 + c5 + c6 + c7 := by
  refine ⟨b8N X, b8N (X / 256), b8N (X / 256 / 256), b8N (X / 256 / 256 / 256), b8N (X / 256 / 256 / 256 / 256), b8N (X / 256 / 256 / 256 / 256 / 256), b8N (X / 256 / 256 / 256 / 256 / 256 / 256), b8N (X / 256 / 256 / 256 / 256 / 256 / 256 / 256), b8_le _, b8_le _, b8_le _, b8_le _, b8_le _, b8_le _, b8_le _, b8_le _, rfl, ?_⟩
  rw [show 64 = 8 + (8 + (8 + (8 + (8 + (8 + (8 + (8 + 0))))))) from rfl, cnt_8, cnt_8, cnt_8, cnt_8, cnt_8, cnt_8, cnt_8, cnt_8, cntN]
  simp only [Nat.add_assoc, Nat.add_zero]
theorem bitCount_ok {X : Nat} (hX : X < 2 ^ 45) : f_J13_bitCount_95d88 (lN X) = some (nI (cntN X 45)) := by
  obtain ⟨a1, a2⟩ := c1_ok 32 X (Nat.lt_of_lt_of_le hX (by decide))
  have b1 : c1N 32 X < 2 ^ 45 := by rw [← a1]; omega
  have a3 := c2_ok 16 X
  have b2 : c2N 16 X < 2 ^ 47 := by
    rw [← a3]
    have h1 : (c1N (2 * 16) X &&& m3N 16) ≤ c1N 32 X := Nat.and_le_left
    have h2 : (c1N (2 * 16) X / 4 &&& m3N 16) ≤ c1N 32 X / 4 := Nat.and_le_left
    omega
  have a4 := c3_ok 8 X
  have b3 : c3N 8 X < 2 ^ 48 := by
    rw [← a4]
    have h1 : ((c2N (2 * 8) X + c2N (2 * 8) X / 16) &&& mFN 8) ≤ c2N 16 X + c2N 16 X / 16 := Nat.and_le_left
    omega
  change (c1N 32 X &&& m3N 16) + (c1N 32 X / 4 &&& m3N 16) = c2N 16 X at a3
  change ((c2N 16 X + c2N 16 X / 16) &&& mFN 8) = c3N 8 X at a4
  obtain ⟨c0, c1, c2, c3, c4, c5, c6, c7, h0, h1, h2, h3, h4, h5, h6, h7, e3, ec⟩ := cnt_sum (X := X)
  have hf := fold_8 h0 h1 h2 h3 h4 h5 h6 h7 e3 rfl rfl
  have e45 : cntN X 64 = cntN X 45 := cnt_top hX 19
  unfold f_J13_bitCount_95d88
  simp only [bnd]
  rw [sh_1 (Nat.lt_trans hX (by decide)), k5, fb_andL, lN_sub a2, a1]
  rw [k3, sh_2 (Nat.lt_trans b1 (by decide)), fb_andL, fb_andL, lN_add, a3]
  rw [kF, sh_4 (Nat.lt_trans b2 (by decide)), lN_add, fb_andL, a4]
  rw [sh_8 (Nat.lt_trans b3 (by decide)), lN_add, sh_16 (by omega), lN_add, sh_32 (by omega), lN_add, lN_i, nI_127, hf, ← ec, e45]
