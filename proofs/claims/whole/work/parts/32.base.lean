/-! the table's cells and directions, as numbers -/
def pkt (q : Nat) : Bool := (q / 9 == 0 || q / 9 == 4) && (q % 9 % 4 == 0)
def oR (q w : Nat) : Bool := (rowS w == -1 && q / 9 == 0) || (rowS w == 1 && q / 9 == 4)
def oC (q w : Nat) : Bool := (colS w == -1 && q % 9 == 0) || (colS w == 1 && q % 9 == 8)
def nx (q w : Nat) : Nat := (((q : Int) / 9 + (rowS w).toInt) * 9 + ((q : Int) % 9 + (colS w).toInt)).toNat
def tw (w : Nat) (r c : Bool) : Nat := if c then (8 - (if r then (12 - w) % 8 else w)) % 8 else (if r then (12 - w) % 8 else w)
def ah (q w : Nat) : Nat := Nat.min (if rowS w = -1 then q / 9 else if rowS w = 1 then 4 - q / 9 else 8) (if colS w = -1 then q % 9 else if colS w = 1 then 8 - q % 9 else 8)
def b2 (x : Bool) : Int32 := if x then 1 else 0
theorem t_pocket : ∀ q, q < 45 → f_X11_isPocket (nI q) = some (b2 (pkt q)) ∧ f_X12_isPocket (nI q) = some (b2 (pkt q)) := by decide +kernel
theorem t_row : ∀ q, q < 45 → ∀ w, w < 8 → f_X11_isRow (nI q / 9 + rowS w) = some (b2 (!oR q w)) := by decide +kernel
theorem t_col : ∀ q, q < 45 → ∀ w, w < 8 → f_X11_isColumn (nI q - nI q / 9 * 9 + colS w) = some (b2 (!oC q w)) := by decide +kernel
theorem t_rowM : ∀ q, q < 45 → ∀ w, w < 8 → f_X12_in (nI q / 9 + rowS w).toInt64 0 4 = some (b2 (!oR q w)) := by decide +kernel
theorem t_colM : ∀ q, q < 45 → ∀ w, w < 8 → f_X12_in (nI q - nI q / 9 * 9 + colS w).toInt64 0 8 = some (b2 (!oC q w)) := by decide +kernel
theorem t_next0 : ∀ q, q < 45 → ∀ w, w < 8 → (oR q w = true ∨ oC q w = true ∨ (9 * (nI q / 9 + rowS w) + (nI q - nI q / 9 * 9 + colS w) = nI (nx q w) ∧ nx q w < 45 ∧ ah (nx q w) w + 1 ≤ ah q w ∧ nx q w ≠ q)) := by decide +kernel
theorem t_next {q w : Nat} (hq : q < 45) (hw : w < 8) (h1 : oR q w = false) (h2 : oC q w = false) : 9 * (nI q / 9 + rowS w) + (nI q - nI q / 9 * 9 + colS w) = nI (nx q w) ∧ nx q w < 45 ∧ ah (nx q w) w + 1 ≤ ah q w ∧ nx q w ≠ q := by
  rcases t_next0 q hq w hw with h | h | h
  · rw [h1] at h; cases h
  · rw [h2] at h; cases h
  · exact h
theorem t_ah : ∀ q, q < 45 → ∀ w, w < 8 → ah q w ≤ 8 := by decide +kernel
theorem t_turn : ∀ w, w < 8 → ∀ r c : Bool, f_X9_turned (nI w) (b2 r) (b2 c) = some (nI (tw w r c)) ∧ tw w r c < 8 ∧ rowS (tw w r c) = (if r then - rowS w else rowS w) ∧ colS (tw w r c) = (if c then - colS w else colS w) := by decide +kernel
theorem t_step : ∀ w, w < 8 → f_X10_rowStep (nI w) = some (rowS w) ∧ f_X10_columnStep (nI w) = some (colS w) ∧ f_X12_downBy (nI w) = some (rowS w) ∧ f_X12_rightBy (nI w) = some (colS w) := by decide +kernel
theorem t_back : ∀ w, w < 8 → (nI w + 4) &&& 7 = nI ((w + 4) % 8) ∧ rowS ((w + 4) % 8) = -1 * rowS w ∧ colS ((w + 4) % 8) = -1 * colS w ∧ 1 * rowS w = rowS w ∧ 1 * colS w = colS w := by decide +kernel
def pwN (j p : Nat) : Nat := if j = 1 then p / 2 else if j = 2 then p + 1 else if j = 4 then p / 4 else p
theorem t_pow : ∀ j, j < 5 → ∀ p, p < 11 → powerF j (nI p) = nI (pwN j p) ∧ f_X12_rollsBy (nI j) (nI p) = some (nI (pwN j p)) ∧ pwN j p ≤ p + 1 := by decide +kernel
theorem t_stop : ∀ j, j < 5 → stopsF j = b2 (j == 3) ∧ f_X9_kind (nI j) = some j ∧ (nI j = 3 ↔ j = 3) := by decide +kernel
theorem t_half : ∀ p, p < 11 → nI p / 2 = nI (p / 2) := by decide +kernel
theorem t_cell (c : Nat → Int32) {b : Nat} (hb : b < 7) : f_X10_cellOf c (nI b) = some (c b) ∧ f_X10_kindOf c (nI b) = some (c b) ∧ f_X10_worthOf c (nI b) = some (c b) := by
  have h0 : ¬ nI b < 0 := nI_pos (by omega)
  have h7 : ¬ 7 ≤ nI b := nI_ge hb (by decide)
  have hi : inb (nI b) 7 = true := by
    simp only [inb, Bool.and_eq_true, decide_eq_true_eq, nI_toInt (show b < 2 ^ 31 by omega)]
    omega
  have hc : (nI b).toNatClampNeg = b := nI_clamp (by omega)
  refine ⟨?_, ?_, ?_⟩
  · simp only [f_X10_cellOf, jn, gd, if_neg h0, if_neg h7, hi, if_true, hc]
  · simp only [f_X10_kindOf, jn, gd, if_neg h0, if_neg h7, hi, if_true, hc]
  · simp only [f_X10_worthOf, jn, gd, if_neg h0, if_neg h7, hi, if_true, hc]
