/-! the page -/
def kxI (a : Nat) : Int32 := if a = 98 then 0 else if a = 104 then 1 else if a = 108 then 2 else if a = 100 then 3 else if a = 115 then 4 else -1
theorem t_let : ∀ a, a < 127 → f_X11_isRow (nI a - 48) = some (b2 (decide (48 ≤ a) && decide (a ≤ 52))) ∧ f_X11_isColumn (nI a - 48) = some (b2 (decide (48 ≤ a) && decide (a ≤ 56))) ∧ f_X11_within (nI a - 48) 1 7 = some (b2 (decide (49 ≤ a) && decide (a ≤ 55))) ∧ f_X12_in (nI a).toInt64 48 52 = some (b2 (decide (48 ≤ a) && decide (a ≤ 52))) ∧ f_X12_in (nI a).toInt64 48 56 = some (b2 (decide (48 ≤ a) && decide (a ≤ 56))) ∧ f_X12_in (nI a).toInt64 49 55 = some (b2 (decide (49 ≤ a) && decide (a ≤ 55))) ∧ f_X12_kindBy (nI a) = some (kxI a) ∧ ((nI a).toUInt32 % 65536).toInt32 = nI a ∧ (nI a).toInt8.toInt32 = nI a ∧ f_J1_canEncode_9a6ad (nI a) = some 1 := by decide +kernel
theorem t_kx : ∀ a, a < 127 → (∀ i, i < 5 → ltr i = nI a → kxI a = nI i) ∧ ((∀ i, i < 5 → ¬ ltr i = nI a) → kxI a = -1) ∧ (kxI a = -1 ∨ ∃ j, j < 5 ∧ kxI a = nI j) := by decide +kernel
theorem index_ok {n : Nat} (hn : 1000 ≤ n) {a : Nat} (ha : a < 127) : f_J0_indexOf_0f7a4 n (((nI a).toUInt32 % 65536).toInt32) = some (kxI a) := by
  have ht := t_let a ha
  have hk := t_kx a ha
  have hl : f_J0_isLatin1_aae02 = some 1 := by decide
  have h5 : f_J0_length_8abf5 = some 5 := by decide
  have key : ∃ r, f_J1_indexOfChar_4cfef n (nI a) 0 5 = some r ∧ r = kxI a := by
    unfold f_J1_indexOfChar_4cfef f_J1_indexOfChar_4cfef_L7
    refine lp_r (fun j s => ∃ i, j + i = 5 ∧ s = nI i ∧ ∀ k, k < i → ¬ ltr k = nI a) 5 ⟨0, by omega, nI_0.symm, fun k hk => absurd hk (Nat.not_lt_zero _)⟩ (by omega) ?_ ?_
    · rintro g s ⟨i, hi, hx, hR⟩
      have hi : i = 5 := by omega
      subst hi
      unfold b_J1_indexOfChar_4cfef_L7
      rw [hx, if_pos (show (5 : Int32) ≤ nI 5 by decide)]
      exact ⟨_, rfl, (hk.2.1 hR).symm⟩
    · rintro g j s ⟨i, hi, hx, hR⟩
      unfold b_J1_indexOfChar_4cfef_L7
      rw [hx, if_neg (show ¬ (5 : Int32) ≤ nI i from nI_ge (b := 5) (by omega) (by decide))]
      simp only [gd, inb_nI (show i < 5 by omega) (by decide), if_true, bnd, nI_1, nI_clamp (show i < 2 ^ 31 by omega), ht.2.2.2.2.2.2.2.2.1]
      by_cases h : ltr i = nI a
      · rw [if_pos h]
        exact Or.inr ⟨_, rfl, (hk.1 i (by omega) h).symm⟩
      · rw [if_neg h]
        refine Or.inl ⟨_, ⟨i + 1, by omega, rfl, fun k hk => ?_⟩, rfl⟩
        by_cases e : k = i
        · rw [e]; exact h
        · exact hR k (by omega)
  obtain ⟨r, e, hr⟩ := key
  unfold f_J0_indexOf_0f7a4 f_J0_indexOf_7cf53 f_J1_indexOf_4cfef
  rw [hl, h5, ht.2.2.2.2.2.2.2.1, ht.2.2.2.2.2.2.2.2.2]
  simp only [Option.bind_some, bnd]
  have i0 : (if (0 : Int32) < 0 then (0 : Int32) else 0) = 0 := by decide
  have i5 : (if (5 : Int32) < 5 then (5 : Int32) else 5) = 5 := by decide
  have h1 : ¬ (1 : Int32) = 0 := by decide
  have h2 : (0 : Int32) < 5 := by decide
  simp only [i0, i5, h1, h2, if_true, if_false, e, hr, Option.bind_some]
def clA (A : Nat → Nat) (m : Nat) : Nat := 9 * (A (5 * m) - 48) + (A (5 * m + 1) - 48)
def frA (A : Nat → Nat) (q : Nat) : Nat → Bool
  | 0 => true
  | m + 1 => frA A q m && !decide (clA A m = clA A q)
def gdP (A : Nat → Nat) (i : Nat) : Bool :=
  if 32 ≤ i then false
  else if i % 5 = 0 then decide (48 ≤ A i) && decide (A i ≤ 52)
  else if i % 5 = 1 then (decide (48 ≤ A i) && decide (A i ≤ 56)) && (frA A (i / 5) (i / 5) && !pkt (clA A (i / 5)))
  else if i % 5 = 2 then decide (A i = if i = 2 then 59 else 44)
  else if i % 5 = 3 then !decide (kxI (A i) = -1)
  else decide (49 ≤ A i) && decide (A i ≤ 55)
/-- the letters, as numbers -/
def LtR (A : Nat → Nat) (v : Nat → Int32) : Prop := ∀ i, i < 34 → A i < 127 ∧ v i = nI (A i)
theorem at_ok {A : Nat → Nat} {v : Nat → Int32} (hL : LtR A v) {i : Nat} (hi : i < 34) : f_X7_at v (nI i) = some (nI (A i)) := by
  unfold f_X7_at
  simp only [jn, gd]
  rw [if_neg (nI_pos (by omega)), if_neg (show ¬ (34 : Int32) ≤ nI i from nI_ge (b := 34) hi (by decide)), inb_nI hi (by decide), if_pos rfl, nI_clamp (by omega), (hL i hi).2]
theorem digit_ok {A : Nat → Nat} {v : Nat → Int32} (hL : LtR A v) {i : Nat} (hi : i < 34) : f_X7_digitAt v (nI i) = some (nI (A i) - 48) := by
  unfold f_X7_digitAt
  rw [at_ok hL hi]; rfl
theorem t_dig : ∀ a, a < 53 → 48 ≤ a → ∀ b, b < 57 → 48 ≤ b → 9 * (nI a - 48) + (nI b - 48) = nI (9 * (a - 48) + (b - 48)) ∧ 9 * (nI a - 48) + nI b - 48 = nI (9 * (a - 48) + (b - 48)) ∧ 9 * (a - 48) + (b - 48) < 45 := by decide +kernel
theorem t_p5 : ∀ m, m < 7 → nI (5 * m + 1) - 1 = nI (5 * m) ∧ nI (5 * m) + 1 = nI (5 * m + 1) ∧ nI (5 * m + 1) + 5 = nI (5 * (m + 1) + 1) ∧ nI (5 * m) + 5 = nI (5 * (m + 1)) := by decide +kernel
/-- the two digits of a cell are good -/
def dgA (A : Nat → Nat) (m : Nat) : Prop := 48 ≤ A (5 * m) ∧ A (5 * m) < 53 ∧ 48 ≤ A (5 * m + 1) ∧ A (5 * m + 1) < 57
theorem cellC_ok {A : Nat → Nat} {v : Nat → Int32} (hL : LtR A v) {m : Nat} (hm : m < 7) (hd : dgA A m) (h34 : 5 * m + 1 < 34) : f_X7_cellAt v (nI (5 * m + 1)) = some (nI (clA A m)) ∧ clA A m < 45 := by
  have ht := t_dig _ hd.2.1 hd.1 _ hd.2.2.2 hd.2.2.1
  refine ⟨?_, ht.2.2⟩
  unfold f_X7_cellAt
  rw [(t_p5 m hm).1, digit_ok hL (by omega), digit_ok hL h34]
  simp only [Option.bind_some]
  rw [ht.1]; rfl
theorem cellM_ok {A : Nat → Nat} {v : Nat → Int32} (hL : LtR A v) {m : Nat} (hm : m < 7) (hd : dgA A m) (h34 : 5 * m + 1 < 34) : f_X12_cellAt v (nI (5 * m)) = some (nI (clA A m)) := by
  have ht := t_dig _ hd.2.1 hd.1 _ hd.2.2.2 hd.2.2.1
  unfold f_X12_cellAt
  rw [(t_p5 m hm).2.1]
  simp only [gd, inb_nI (show 5 * m < 34 by omega) (by decide), inb_nI h34 (by decide), if_true, nI_clamp (show 5 * m < 2 ^ 31 by omega), nI_clamp (show 5 * m + 1 < 2 ^ 31 by omega), (hL (5 * m) (by omega)).2, (hL (5 * m + 1) h34).2]
  rw [ht.2.1]; rfl
theorem free_ok {A : Nat → Nat} {v : Nat → Int32} (hL : LtR A v) {n q : Nat} (hn : 1000 ≤ n) (hq : q < 7) (hd : ∀ m, m ≤ q → dgA A m) (h34 : 5 * q + 1 < 34) : ∃ r, f_X7_isFreeCell n v (nI (5 * q + 1)) = some r ∧ r = b2 (frA A q q && !pkt (clA A q)) := by
  have hc := cellC_ok hL hq (hd q (Nat.le_refl _)) h34
  unfold f_X7_isFreeCell
  rw [hc.1, Option.bind_some, (t_pocket _ hc.2).1]
  simp only [jn, Option.bind_some]
  unfold f_X7_isFreeCell_L8
  refine lp_r (fun j s => ∃ m, j + m = q ∧ s = nI (5 * m + 1) ∧ frA A q m = true) q ⟨0, by omega, by show (1 : Int32) = nI (5 * 0 + 1); decide, rfl⟩ (by omega) ?_ ?_
  · rintro g s ⟨m, hm, hx, hR⟩
    have hm : m = q := by omega
    subst hm
    unfold b_X7_isFreeCell_L8
    rw [hx, if_pos (nI_le (Nat.le_refl _) (by omega)), hR]
    cases pkt (clA A m)
    · exact ⟨_, rfl, rfl⟩
    · exact ⟨_, rfl, rfl⟩
  · rintro g j s ⟨m, hm, hx, hR⟩
    have hcm := cellC_ok hL (show m < 7 by omega) (hd m (by omega)) (by omega)
    unfold b_X7_isFreeCell_L8
    rw [hx, if_neg (nI_ge (show 5 * m + 1 < 5 * q + 1 by omega) (by omega)), hcm.1, Option.bind_some]
    simp only [bnd, (t_p5 m (by omega)).2.2.1]
    by_cases h : clA A m = clA A q
    · rw [if_pos (by rw [h])]
      refine Or.inr ⟨_, rfl, ?_⟩
      have hfq : ∀ k, m < k → frA A q k = false := by
        intro k
        induction k with
        | zero => intro hk; omega
        | succ k ih =>
          intro hk
          rw [frA]
          by_cases e : k = m
          · rw [e]; simp [h]
          · rw [ih (by omega)]; rfl
      rw [hfq q (by omega)]; rfl
    · rw [if_neg (fun z => h (nI_inj45 hcm.2 hc.2 z))]
      refine Or.inl ⟨_, ⟨m + 1, by omega, rfl, ?_⟩, rfl⟩
      rw [frA, hR]; simp [h]
theorem told_ok {A : Nat → Nat} {v : Nat → Int32} (hL : LtR A v) {n q : Nat} (hn : 1000 ≤ n) (hq : q < 7) (hd : ∀ m, m ≤ q → dgA A m) (h34 : 5 * q + 1 < 34) : ∃ r, f_X12_isToldAhead n v (nI (5 * q)) = some r ∧ r = b2 (!frA A q q) := by
  have hc := cellM_ok hL hq (hd q (Nat.le_refl _)) h34
  have hcl := (cellC_ok hL hq (hd q (Nat.le_refl _)) h34).2
  have hc0 : f_X12_cellAt v 0 = some (nI (clA A 0)) := cellM_ok hL (m := 0) (by decide) (hd 0 (by omega)) (by decide)
  have hcl0 := (cellC_ok hL (m := 0) (by decide) (hd 0 (by omega)) (by decide)).2
  have key : ∀ x : Bool, x = !frA A q (Nat.min q 1) → ∃ r, f_X12_isToldAhead_L25 v (nI (5 * q)) n (b2 x) 5 = some r ∧ r = b2 (!frA A q q) := by
    intro x hx0
    unfold f_X12_isToldAhead_L25
    refine lp_r (fun j s => ∃ m, j + m = (q - 1) + 1 ∧ 1 ≤ m ∧ s.2 = nI (5 * m) ∧ s.1 = b2 (!frA A q (Nat.min q m))) (q - 1) ⟨1, by omega, by omega, by show (5 : Int32) = nI (5 * 1); decide, by rw [← hx0]⟩ (by omega) ?_ ?_
    · rintro g ⟨s1, s2⟩ ⟨m, hm, hm1, hx, hR⟩
      have hm : q ≤ m := by omega
      dsimp only at hx hR ⊢
      unfold b_X12_isToldAhead_L25
      rw [hx, if_pos (nI_le (show 5 * q ≤ 5 * m by omega) (by omega)), hR, gd, isb_b2, if_pos rfl]
      refine ⟨_, rfl, ?_⟩
      rw [show Nat.min q m = q from Nat.min_eq_left hm]
    · rintro g j ⟨s1, s2⟩ ⟨m, hm, hm1, hx, hR⟩
      left
      dsimp only at hx hR ⊢
      have hcm := cellM_ok hL (show m < 7 by omega) (hd m (by omega)) (by omega)
      have hcml := (cellC_ok hL (show m < 7 by omega) (hd m (by omega)) (by omega)).2
      unfold b_X12_isToldAhead_L25
      rw [hx, if_neg (nI_ge (show 5 * m < 5 * q by omega) (by omega)), hcm, hc, hR]
      simp only [jn, bnd, (t_p5 m (by omega)).2.2.2, Option.bind_some]
      rw [show Nat.min q m = m from Nat.min_eq_right (by omega)]
      have e : frA A q (m + 1) = (frA A q m && !decide (clA A m = clA A q)) := rfl
      cases hfm : frA A q m
      · rw [if_neg (by decide)]
        refine ⟨_, ⟨m + 1, by omega, by omega, rfl, ?_⟩, rfl⟩
        rw [show Nat.min q (m + 1) = m + 1 from Nat.min_eq_right (by omega), e, hfm]; rfl
      · rw [if_pos (by decide)]
        by_cases h : clA A m = clA A q
        · rw [if_pos (by rw [h])]
          refine ⟨_, ⟨m + 1, by omega, by omega, rfl, ?_⟩, rfl⟩
          rw [show Nat.min q (m + 1) = m + 1 from Nat.min_eq_right (by omega), e, hfm]; simp [h, b2]
        · rw [if_neg (fun z => h (nI_inj45 hcml hcl z))]
          refine ⟨_, ⟨m + 1, by omega, by omega, rfl, ?_⟩, rfl⟩
          rw [show Nat.min q (m + 1) = m + 1 from Nat.min_eq_right (by omega), e, hfm]; simp [h, b2]
  unfold f_X12_isToldAhead
  rw [hc0, hc]
  simp only [jn, Option.bind_some]
  by_cases hq0 : q = 0
  · subst hq0
    rw [if_pos (show nI (5 * 0) ≤ 0 by decide)]
    exact key false rfl
  · rw [if_neg (nI_nle (by omega) (by omega))]
    have hm1 : Nat.min q 1 = 1 := Nat.min_eq_right (by omega)
    have e : frA A q 1 = !decide (clA A 0 = clA A q) := rfl
    by_cases h : clA A 0 = clA A q
    · rw [if_pos (by rw [h])]
      exact key true (by rw [hm1, e]; simp [h])
    · rw [if_neg (fun z => h (nI_inj45 hcl0 hcl z))]
      exact key false (by rw [hm1, e]; simp [h])
