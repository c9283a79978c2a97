/-! the taken cells as bits; a ball's cell -/
def tb (tk : Int64) (q : Nat) : Bool := tk.toBitVec.getLsbD q
theorem tb_test (tk : Int64) {q : Nat} (hq : q < 45) : (lg_cmp (((tk.toUInt64 >>> ((nI q).toInt64.toUInt64 &&& Int64.toUInt64 63)).toInt64) &&& 1) 0) = 0 ↔ tb tk q = false := by
  rw [lg_cmp_eq]
  exact ts_bit (by omega) (by rw [wb_cu q (by omega)]; exact u_tn (by omega))
theorem sh_bits {q : Nat} (hq : q < 64) (j : Nat) (hj : j < 64) : ((1 : Int64) <<< ((nI q).toInt64 &&& 63)).toBitVec.getLsbD j = decide (j = q) := by
  have e : (1 : Int64) <<< ((nI q).toInt64 &&& 63) = lN (1 * 2 ^ q) := wb_shl 1 hq
  rw [e, wb_tb, BitVec.getLsbD_ofNat, Nat.one_mul, Nat.testBit_two_pow]
  by_cases h : q = j
  · subst h; simp [hj]
  · have h' : ¬ j = q := fun z => h z.symm
    simp [h, h']
theorem tb_or (tk : Int64) {q j : Nat} (hq : q < 45) (hj : j < 64) : tb (tk ||| (1 <<< ((nI q).toInt64 &&& 63))) j = (tb tk j || decide (j = q)) := by
  unfold tb
  rw [Int64.toBitVec_or, BitVec.getLsbD_or, sh_bits (by omega) j hj]
theorem tb_clr (tk : Int64) {q j : Nat} (hq : q < 45) (hj : j < 64) : tb (tk &&& ((1 <<< ((nI q).toInt64 &&& 63)) ^^^ (-1))) j = (tb tk j && !decide (j = q)) := by
  unfold tb
  rw [Int64.toBitVec_and, BitVec.getLsbD_and, Int64.toBitVec_xor, BitVec.getLsbD_xor, sh_bits (by omega) j hj]
  have hm : ((-1 : Int64).toBitVec).getLsbD j = true := by
    have : (-1 : Int64).toBitVec = BitVec.allOnes 64 := by decide
    rw [this, BitVec.getLsbD_allOnes]
    simp [hj]
  rw [hm]
  cases decide (j = q) <;> rfl
/-- a ball's place: off the table or a cell that is no pocket -/
def okc (x : Int32) : Prop := x = -1 ∨ ∃ q, q < 45 ∧ pkt q = false ∧ x = nI q
/-- the class's table: every ball's place, apart, the bits -/
def TabC (tk : Int64) (c : Nat → Int32) : Prop :=
  (∀ b, b < 7 → okc (c b)) ∧ (∀ b, b < 7 → ∀ d, d < 7 → c b = c d → c b ≠ -1 → b = d) ∧ (∀ q, q < 45 → (tb tk q = true ↔ ∃ b, b < 7 ∧ c b = nI q))
theorem nI_ne_m1 {q : Nat} (hq : q < 45) : ¬ nI q = -1 := by
  have h : ∀ q, q < 45 → ¬ nI q = -1 := by decide +kernel
  exact h q hq
theorem nI_inj45 {a b : Nat} (ha : a < 45) (hb : b < 45) (h : nI a = nI b) : a = b := (nI_eq (by omega) (by omega)).mp h
