/-! what the white sees -/
theorem t_nx0 : ∀ q, q < 45 → ∀ w, w < 8 → (oR q w = true ∨ oC q w = true ∨ (nI q / 9 + rowS w = nI (nx q w) / 9 ∧ nI q - nI q / 9 * 9 + colS w = nI (nx q w) - nI (nx q w) / 9 * 9)) := by decide +kernel
theorem t_nx {q w : Nat} (hq : q < 45) (hw : w < 8) (h1 : oR q w = false) (h2 : oC q w = false) : nI q / 9 + rowS w = nI (nx q w) / 9 ∧ nI q - nI q / 9 * 9 + colS w = nI (nx q w) - nI (nx q w) / 9 * 9 := by
  rcases t_nx0 q hq w hw with h | h | h
  · rw [h1] at h; cases h
  · rw [h2] at h; cases h
  · exact h
def seF (bl : Nat) (c : Nat → Int32) (w : Nat) : Nat → Nat → Int32
  | 0, _ => -1
  | F + 1, q => if (oR q w || oC q w) = true then -1 else if whoF c (nI (nx q w)) (bl + 1) = -1 then seF bl c w F (nx q w) else whoF c (nI (nx q w)) (bl + 1)
def seP (bl : Nat) (c : Nat → Int32) (M w : Nat) : Int32 := seF bl c w M (c 0).toNatClampNeg
theorem first_ok {bl : Nat} {tk : Int64} {c : Nat → Int32} (h6 : bl ≤ 6) (hT : TW bl tk c) {n : Nat} (hn : 1000 ≤ n) {w M : Nat} (hM : M = 9) (hw : w < 8) : ∃ r, f_X10_firstInSight n tk c (nI w) = some r ∧ r = seP bl c M w := by
  obtain ⟨q0, hq0, -, hc⟩ := (hT.1.1 0 (by decide)).resolve_left hT.2.2
  have hcl : (c 0).toNatClampNeg = q0 := by rw [hc]; exact nI_clamp (by omega)
  have ht := t_step w hw
  have hc0 : f_X10_cellOf c 0 = some (c 0) := (t_cell c (b := 0) (by decide)).1
  unfold f_X10_firstInSight
  rw [hc0, Option.bind_some, ht.1, Option.bind_some]
  simp only [bnd, Option.bind_some, ht.2.1, hc]
  unfold f_X10_firstInSight_L31
  refine lp_r (fun j s => ∃ q t, j + t = M ∧ ah q w < j ∧ q < 45 ∧ s.1 = nI q / 9 + rowS w ∧ s.2.1 = nI q - nI q / 9 * 9 + colS w ∧ s.2.2 = nI t ∧ seP bl c M w = seF bl c w j q) M ⟨q0, 0, by omega, by have := t_ah q0 hq0 w hw; omega, hq0, rfl, rfl, nI_0.symm, by rw [seP, hcl]⟩ (by omega) ?_ ?_
  · rintro g s ⟨q, t, -, h, -⟩; omega
  · rintro g j ⟨x, y, z⟩ ⟨q, t, hj, ha, hq, h1, h2, h3, hR⟩
    dsimp only at h1 h2 h3 ⊢
    unfold b_X10_firstInSight_L31
    rw [h1, h2, h3, if_neg (show ¬ (9 : Int32) ≤ nI t from nI_ge (b := 9) (by omega) (by decide)), t_row q hq w hw, Option.bind_some, t_col q hq w hw, Option.bind_some]
    rw [seF] at hR
    cases hr : oR q w
    · cases hcc : oC q w
      · rw [hr, hcc, if_neg (by decide)] at hR
        obtain ⟨e1, hx45, hah, -⟩ := t_next hq hw hr hcc
        have e2 := t_nx hq hw hr hcc
        rw [if_neg (by rw [b2_nf]; decide), if_neg (by rw [b2_nf]; decide), e1, ballIn_ok hT.1 hx45 (by omega), Option.bind_some, who_short h6 (nI_ne_m1 hx45) hT.2.1]
        simp only [ht.1, ht.2.1, Option.bind_some, bnd, nI_1, e2.1, e2.2]
        by_cases h : whoF c (nI (nx q w)) (bl + 1) = -1
        · rw [if_pos h] at hR ⊢
          refine Or.inl ⟨_, ?_, rfl⟩
          exact ⟨nx q w, t + 1, by omega, by omega, hx45, rfl, rfl, rfl, hR⟩
        · rw [if_neg h] at hR ⊢
          exact Or.inr ⟨_, rfl, hR.symm⟩
      · rw [hr, hcc, if_pos (by decide)] at hR
        rw [if_neg (by rw [b2_nf]; decide), if_pos b2_nt]
        exact Or.inr ⟨_, rfl, hR.symm⟩
    · rw [hr, Bool.true_or, if_pos rfl] at hR
      rw [if_pos b2_nt]
      exact Or.inr ⟨_, rfl, hR.symm⟩
theorem sees_ok {bl : Nat} {tk : Int64} {c : Nat → Int32} (hb1 : 1 ≤ bl) (h6 : bl ≤ 6) (hT : TW bl tk c) {n : Nat} (hn : 1000 ≤ n) {w M : Nat} (hM : M = 9) (hw : w < 8) {mc : Nat → Int32} (hv : ∀ d, d ≤ bl → mc d = c d) : ∃ r, f_X12_seesBy n (nI bl) mc (nI w) = some r ∧ r = seP bl c M w := by
  obtain ⟨q0, hq0, -, hc⟩ := (hT.1.1 0 (by decide)).resolve_left hT.2.2
  have hcl : (c 0).toNatClampNeg = q0 := by rw [hc]; exact nI_clamp (by omega)
  have hmc : mc 0 = nI q0 := (hv 0 (by omega)).trans hc
  have ht := t_step w hw
  have hz0 : (0 : Int32).toNatClampNeg = 0 := rfl
  have hi0 : inb 0 7 = true := by decide
  unfold f_X12_seesBy
  simp only [gd, hi0, if_true, ht.2.2.1, ht.2.2.2, Option.bind_some, bnd, hz0, hmc]
  unfold f_X12_seesBy_L33
  refine lp_r (fun j s => (s.2.2 = -1 ∧ ∃ q, ah q w < j ∧ q < 45 ∧ s.1 = nI q / 9 + rowS w ∧ s.2.1 = nI q - nI q / 9 * 9 + colS w ∧ seP bl c M w = seF bl c w j q) ∨ (¬ s.2.2 = -1 ∧ s.2.2 = seP bl c M w)) M (Or.inl ⟨rfl, q0, by have := t_ah q0 hq0 w hw; omega, hq0, rfl, rfl, by rw [seP, hcl]⟩) (by omega) ?_ ?_
  · rintro g ⟨x, y, z⟩ (⟨-, q, h, -⟩ | ⟨h1, h2⟩)
    · omega
    · dsimp only at h1 h2 ⊢
      unfold b_X12_seesBy_L33
      rw [if_neg h1]
      exact ⟨_, rfl, h2⟩
  · rintro g j ⟨x, y, z⟩ (⟨h0, q, ha, hq, h1, h2, hR⟩ | ⟨h1, h2⟩)
    · dsimp only at h0 h1 h2 ⊢
      unfold b_X12_seesBy_L33
      rw [if_pos h0, h1, h2, t_rowM q hq w hw, Option.bind_some, t_colM q hq w hw, Option.bind_some]
      rw [seF] at hR
      cases hr : oR q w
      · cases hcc : oC q w
        · rw [hr, hcc, if_neg (by decide)] at hR
          obtain ⟨e1, hx45, hah, -⟩ := t_next hq hw hr hcc
          have e2 := t_nx hq hw hr hcc
          rw [if_neg (by rw [b2_nf]; decide), if_neg (by rw [b2_nf]; decide), e1, lies_ok hb1 h6 (by omega), Option.bind_some, who_congr (fun d hd => hv d (by omega) : ∀ d, d < bl + 1 → mc d = c d)]
          simp only [ht.2.2.1, ht.2.2.2, Option.bind_some, bnd, e2.1, e2.2]
          refine Or.inl ⟨_, ?_, rfl⟩
          by_cases h : whoF c (nI (nx q w)) (bl + 1) = -1
          · rw [if_pos h] at hR
            exact Or.inl ⟨h, nx q w, by omega, hx45, rfl, rfl, hR⟩
          · rw [if_neg h] at hR
            exact Or.inr ⟨h, hR.symm⟩
        · rw [hr, hcc, if_pos (by decide)] at hR
          rw [if_neg (by rw [b2_nf]; decide), if_pos b2_nt]
          exact Or.inr ⟨_, rfl, h0.trans hR.symm⟩
      · rw [hr, Bool.true_or, if_pos rfl] at hR
        rw [if_pos b2_nt]
        exact Or.inr ⟨_, rfl, h0.trans hR.symm⟩
    · dsimp only at h1 h2 ⊢
      unfold b_X12_seesBy_L33
      rw [if_neg h1]
      exact Or.inr ⟨_, rfl, h2⟩
/-! a ball is seen in one direction alone -/
def dirN (a b : Nat) : Nat := if b / 9 < a / 9 then (if b % 9 < a % 9 then 7 else if b % 9 = a % 9 then 0 else 1) else if b / 9 = a / 9 then (if b % 9 < a % 9 then 6 else 2) else (if b % 9 < a % 9 then 5 else if b % 9 = a % 9 then 4 else 3)
def chkR (a w : Nat) : Nat → Nat → Bool
  | 0, _ => true
  | F + 1, q => if (oR q w || oC q w) = true then true else (dirN a (nx q w) == w) && chkR a w F (nx q w)
theorem chk_all : ∀ a, a < 45 → ∀ w, w < 8 → chkR a w 9 a = true := by decide +kernel
theorem se_cell {bl : Nat} {c : Nat → Int32} {w a b : Nat} (hw : w < 8) (h6 : bl ≤ 6) : ∀ (F q : Nat), q < 45 → chkR a w F q = true → seF bl c w F q = nI b → b < 7 → ∃ x, x < 45 ∧ c b = nI x ∧ dirN a x = w
  | 0, q, _, _, h, hb => absurd h.symm (nI_ne_m1 (by omega))
  | F + 1, q, hq, hk, h, hb => by
    rw [seF] at h
    rw [chkR] at hk
    by_cases ho : (oR q w || oC q w) = true
    · rw [if_pos ho] at h
      exact absurd h.symm (nI_ne_m1 (by omega))
    · rw [if_neg ho] at h hk
      rw [Bool.and_eq_true] at hk
      have h1 : oR q w = false := by cases h : oR q w <;> simp_all
      have h2 : oC q w = false := by cases h : oC q w <;> simp_all
      obtain ⟨-, hx45, -, -⟩ := t_next hq hw h1 h2
      rcases who_cases c (nI (nx q w)) (bl + 1) with ⟨hx, -⟩ | ⟨j, hj, hx, hcj⟩
      · rw [if_pos hx] at h
        exact se_cell hw h6 F (nx q w) hx45 hk.2 h hb
      · rw [if_neg (by rw [hx]; exact nI_ne_m1 (by omega)), hx] at h
        have hjb : j = b := nI_inj45 (by omega) (by omega) h
        subst hjb
        exact ⟨nx q w, hx45, hcj, by simpa using hk.1⟩
theorem se_one {bl : Nat} {tk : Int64} {c : Nat → Int32} (h6 : bl ≤ 6) (hT : TW bl tk c) {M w w' b : Nat} (hM : M = 9) (hw : w < 8) (hw' : w' < 8) (hb : b < 7) (h1 : seP bl c M w = nI b) (h2 : seP bl c M w' = nI b) : w = w' := by
  obtain ⟨q0, hq0, -, hc⟩ := (hT.1.1 0 (by decide)).resolve_left hT.2.2
  have hcl : (c 0).toNatClampNeg = q0 := by rw [hc]; exact nI_clamp (by omega)
  rw [seP, hcl, hM] at h1 h2
  obtain ⟨x, hx, e1, d1⟩ := se_cell hw h6 9 q0 hq0 (chk_all q0 hq0 w hw) h1 hb
  obtain ⟨y, hy, e2, d2⟩ := se_cell hw' h6 9 q0 hq0 (chk_all q0 hq0 w' hw') h2 hb
  have : x = y := nI_inj45 hx hy (e1.symm.trans e2)
  rw [← d1, ← d2, this]
theorem se_ball {bl : Nat} {c : Nat → Int32} {w : Nat} : ∀ (F q : Nat), seF bl c w F q = -1 ∨ ∃ b, b ≤ bl ∧ seF bl c w F q = nI b
  | 0, q => Or.inl rfl
  | F + 1, q => by
    rw [seF]
    split
    · exact Or.inl rfl
    · split
      · exact se_ball F (nx q w)
      · rename_i h
        rcases who_cases c (nI (nx q w)) (bl + 1) with ⟨hx, -⟩ | ⟨j, hj, hx, -⟩
        · exact absurd hx h
        · exact Or.inr ⟨j, by omega, hx⟩
def sgF (bl : Nat) (c : Nat → Int32) (M : Nat) : Nat → Nat
  | 0 => 0
  | i + 1 => sgF bl c M i + (if seP bl c M i = -1 then 0 else 1)
theorem inSight_ok {bl : Nat} {tk : Int64} {c : Nat → Int32} (h6 : bl ≤ 6) (hT : TW bl tk c) {n : Nat} (hn : 1000 ≤ n) {M N : Nat} (hM : M = 9) (hN : N = 8) {tr : Int32} (htr : f_X11_hasTable tr = some 1) : ∃ r, f_X11_ballsInSight n tr tk c = some r ∧ r = nI (sgF bl c M N) := by
  unfold f_X11_ballsInSight f_X11_ballsInSight_L4
  refine lp_r (fun j s => ∃ i, j + i = N ∧ s.2 = nI i ∧ s.1 = nI (sgF bl c M i)) N ⟨0, by omega, nI_0.symm, rfl⟩ (by omega) ?_ ?_
  · rintro g ⟨x, y⟩ ⟨i, hi, hx, hR⟩
    have hi : i = N := by omega
    dsimp only at hx hR ⊢
    unfold b_X11_ballsInSight_L4
    rw [hx, if_pos (show (8 : Int32) ≤ nI i by rw [hi, hN]; decide)]
    exact ⟨_, rfl, by rw [hR, hi]⟩
  · rintro g j ⟨x, y⟩ ⟨i, hi, hx, hR⟩
    left
    dsimp only at hx hR ⊢
    unfold b_X11_ballsInSight_L4
    rw [hx, if_neg (show ¬ (8 : Int32) ≤ nI i from nI_ge (b := 8) (by omega) (by decide)), htr, Option.bind_some, if_neg (by decide)]
    refine bind_l (first_ok h6 hT hn hM (show i < 8 by omega)) (fun r hr => ?_)
    simp only [jn, bnd, nI_1, hr]
    by_cases h : seP bl c M i = -1
    · rw [if_pos h]
      refine ⟨_, ?_, rfl⟩
      exact ⟨i + 1, by omega, rfl, by rw [sgF, if_pos h]; exact hR⟩
    · rw [if_neg h]
      refine ⟨_, ?_, rfl⟩
      refine ⟨i + 1, by omega, rfl, ?_⟩
      dsimp only
      rw [sgF, if_neg h, hR, nI_1]
theorem byWhite_ok {bl : Nat} {tk : Int64} {c : Nat → Int32} (hb1 : 1 ≤ bl) (h6 : bl ≤ 6) (hT : TW bl tk c) {n : Nat} (hn : 1000 ≤ n) {M N : Nat} (hM : M = 9) (hN : N = 8) {mc : Nat → Int32} (hv : ∀ d, d ≤ bl → mc d = c d) : ∃ r, f_X12_seenByWhite n (nI bl) mc = some r ∧ r = nI (sgF bl c M N) := by
  unfold f_X12_seenByWhite f_X12_seenByWhite_L6
  refine lp_r (fun j s => ∃ i, j + i = N ∧ s.2.2 = nI i ∧ s.2.1 = nI (sgF bl c M i) ∧ ∀ b, b < 7 → bt s.1 b = true → ∃ w, w < i ∧ seP bl c M w = nI b) N ⟨0, by omega, nI_0.symm, rfl, fun b _ h => by rw [b_0] at h; cases h⟩ (by omega) ?_ ?_
  · rintro g ⟨x, y, z⟩ ⟨i, hi, hx, hR, -⟩
    have hi : i = N := by omega
    dsimp only at hx hR ⊢
    unfold b_X12_seenByWhite_L6
    rw [hx, if_pos (show (8 : Int32) ≤ nI i by rw [hi, hN]; decide)]
    exact ⟨_, rfl, by rw [hR, hi]⟩
  · rintro g j ⟨x, y, z⟩ ⟨i, hi, hx, hR, hB⟩
    left
    dsimp only at hx hR hB ⊢
    have hlk : f_X12_lacks (nI bl) = some 0 := by
      unfold f_X12_lacks
      rw [if_neg (nI_ne0 (by omega) (by omega))]
    unfold b_X12_seenByWhite_L6
    rw [hx, if_neg (show ¬ (8 : Int32) ≤ nI i from nI_ge (b := 8) (by omega) (by decide)), hlk, Option.bind_some, if_pos rfl]
    refine bind_l (sees_ok hb1 h6 hT hn hM (show i < 8 by omega) hv) (fun r hr => ?_)
    simp only [jn, bnd, nI_1, hr]
    by_cases h : seP bl c M i = -1
    · rw [if_pos h, if_pos h, Int32.add_zero, Int32.or_zero]
      refine ⟨_, ?_, rfl⟩
      refine ⟨i + 1, by omega, rfl, by rw [sgF, if_pos h]; exact hR, fun b hb h1 => ?_⟩
      obtain ⟨w, hw, e⟩ := hB b hb h1
      exact ⟨w, by omega, e⟩
    · rw [if_neg h, if_neg h]
      obtain ⟨b, hb, e⟩ := (se_ball (bl := bl) (c := c) (w := i) M (c 0).toNatClampNeg).resolve_left h
      change seP bl c M i = nI b at e
      have hbit : bt x b = false := by
        cases hx2 : bt x b
        · rfl
        · obtain ⟨w, hw, e2⟩ := hB b (by omega) hx2
          have := se_one h6 hT hM (show w < 8 by omega) (show i < 8 by omega) (show b < 7 by omega) e2 e
          omega
      rw [e, bit_at x (by omega), hbit, b2_f]
      refine ⟨_, ?_, rfl⟩
      refine ⟨i + 1, by omega, rfl, ?_, fun b2 hb2 h1 => ?_⟩
      · dsimp only
        rw [sgF, if_neg h, hR, show (1 : Int32) - 0 = 1 by decide, nI_1]
      · dsimp only at h1
        rw [bt_pot x (by omega) (by omega)] at h1
        by_cases hbb : b2 = b
        · rw [hbb]; exact ⟨i, by omega, e⟩
        · have h1' : bt x b2 = true := by simpa [hbb] using h1
          obtain ⟨w, hw, e2⟩ := hB b2 hb2 h1'
          exact ⟨w, by omega, e2⟩
