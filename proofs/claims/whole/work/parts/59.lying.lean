/-! how many lie, and their worth -/
def lyF (c : Nat → Int32) : Nat → Nat
  | 0 => 0
  | i + 1 => lyF c i + (if c (i + 1) = -1 then 0 else 1)
def wlF (c : Nat → Int32) (wd : Nat → Nat) : Nat → Nat
  | 0 => 0
  | i + 1 => wlF c wd i + (if c (i + 1) = -1 then 0 else wd (i + 1))
theorem ly_off {c : Nat → Int32} {bl : Nat} (h : ∀ d, bl < d → d < 7 → c d = -1) : ∀ j, bl + j ≤ 6 → lyF c (bl + j) = lyF c bl
  | 0, _ => rfl
  | j + 1, hj => by
    show lyF c (bl + j) + (if c (bl + j + 1) = -1 then 0 else 1) = _
    rw [ly_off h j (by omega), if_pos (h _ (by omega) (by omega)), Nat.add_zero]
theorem wl_off {c : Nat → Int32} {wd : Nat → Nat} {bl : Nat} (h : ∀ d, bl < d → d < 7 → c d = -1) : ∀ j, bl + j ≤ 6 → wlF c wd (bl + j) = wlF c wd bl
  | 0, _ => rfl
  | j + 1, hj => by
    show wlF c wd (bl + j) + (if c (bl + j + 1) = -1 then 0 else wd (bl + j + 1)) = _
    rw [wl_off h j (by omega), if_pos (h _ (by omega) (by omega)), Nat.add_zero]
theorem lying_ok {bl : Nat} {c : Nat → Int32} (h6 : bl ≤ 6) (hoff : ∀ d, bl < d → d < 7 → c d = -1) {n : Nat} (hn : 1000 ≤ n) : ∃ r, f_X10_lying n c = some r ∧ r = nI (lyF c bl) := by
  unfold f_X10_lying f_X10_lying_L4
  refine lp_r (fun j s => ∃ i, j + i = 6 ∧ s.2 = nI (i + 1) ∧ s.1 = nI (lyF c i)) 6 ⟨0, by omega, by show (1 : Int32) = nI (0 + 1); decide, rfl⟩ (by omega) ?_ ?_
  · rintro g ⟨x, y⟩ ⟨i, hi, hx, hR⟩
    have hi : i = 6 := by omega
    dsimp only at hx hR ⊢
    unfold b_X10_lying_L4
    rw [hx, if_pos (show (7 : Int32) ≤ nI (i + 1) by rw [hi]; decide)]
    refine ⟨_, rfl, ?_⟩
    have := ly_off hoff (6 - bl) (by omega)
    rw [show bl + (6 - bl) = i by omega] at this
    rw [hR, this]
  · rintro g j ⟨x, y⟩ ⟨i, hi, hx, hR⟩
    left
    dsimp only at hx hR ⊢
    unfold b_X10_lying_L4
    rw [hx, if_neg (show ¬ (7 : Int32) ≤ nI (i + 1) from nI_ge (b := 7) (by omega) (by decide))]
    simp only [gd, inb_nI (show i + 1 < 7 by omega) (by decide), if_true, jn, bnd, nI_1, nI_clamp (show i + 1 < 2 ^ 31 by omega)]
    by_cases h : c (i + 1) = -1
    · rw [if_pos h]
      exact ⟨_, ⟨i + 1, by omega, rfl, by rw [lyF, if_pos h]; exact hR⟩, rfl⟩
    · rw [if_neg h]
      refine ⟨_, ?_, rfl⟩
      refine ⟨i + 1, by omega, rfl, ?_⟩
      dsimp only
      rw [lyF, if_neg h, hR, nI_1]
theorem worthLying_ok {bl : Nat} {c wv : Nat → Int32} {wd : Nat → Nat} (h6 : bl ≤ 6) (hoff : ∀ d, bl < d → d < 7 → c d = -1) (hw : ∀ d, d < 7 → wv d = nI (wd d)) {n : Nat} (hn : 1000 ≤ n) : ∃ r, f_X10_worthLying n c wv = some r ∧ r = nI (wlF c wd bl) := by
  unfold f_X10_worthLying f_X10_worthLying_L4
  refine lp_r (fun j s => ∃ i, j + i = 6 ∧ s.2 = nI (i + 1) ∧ s.1 = nI (wlF c wd i)) 6 ⟨0, by omega, by show (1 : Int32) = nI (0 + 1); decide, rfl⟩ (by omega) ?_ ?_
  · rintro g ⟨x, y⟩ ⟨i, hi, hx, hR⟩
    have hi : i = 6 := by omega
    dsimp only at hx hR ⊢
    unfold b_X10_worthLying_L4
    rw [hx, if_pos (show (7 : Int32) ≤ nI (i + 1) by rw [hi]; decide)]
    refine ⟨_, rfl, ?_⟩
    have := wl_off (wd := wd) hoff (6 - bl) (by omega)
    rw [show bl + (6 - bl) = i by omega] at this
    rw [hR, this]
  · rintro g j ⟨x, y⟩ ⟨i, hi, hx, hR⟩
    left
    dsimp only at hx hR ⊢
    unfold b_X10_worthLying_L4
    rw [hx, if_neg (show ¬ (7 : Int32) ≤ nI (i + 1) from nI_ge (b := 7) (by omega) (by decide))]
    simp only [gd, inb_nI (show i + 1 < 7 by omega) (by decide), if_true, jn, bnd, nI_1, nI_clamp (show i + 1 < 2 ^ 31 by omega), (t_cell wv (show i + 1 < 7 by omega)).2.2, Option.bind_some, hw (i + 1) (by omega)]
    by_cases h : c (i + 1) = -1
    · rw [if_pos h]
      exact ⟨_, ⟨i + 1, by omega, rfl, by rw [wlF, if_pos h]; exact hR⟩, rfl⟩
    · rw [if_neg h]
      refine ⟨_, ?_, rfl⟩
      refine ⟨i + 1, by omega, rfl, ?_⟩
      dsimp only
      rw [wlF, if_neg h, hR, nI_add]
theorem onTable_ok {bl : Nat} {c v : Nat → Int32} (h6 : bl ≤ 6) (hv : ∀ d, 1 ≤ d → d ≤ bl → v d = c d) {n : Nat} (hn : 1000 ≤ n) : ∃ r, f_X12_onTable n (nI bl) v = some r ∧ r = nI (lyF c bl) := by
  unfold f_X12_onTable f_X12_onTable_L4
  refine lp_r (fun j s => ∃ i, j + i = bl ∧ s.2 = nI (i + 1) ∧ s.1 = nI (lyF c i)) bl ⟨0, by omega, by show (1 : Int32) = nI (0 + 1); decide, rfl⟩ (by omega) ?_ ?_
  · rintro g ⟨x, y⟩ ⟨i, hi, hx, hR⟩
    have hi : i = bl := by omega
    subst hi
    dsimp only at hx hR ⊢
    unfold b_X12_onTable_L4
    rw [hx, if_pos (nI_lt (show i < i + 1 by omega) (by omega))]
    exact ⟨_, rfl, hR⟩
  · rintro g j ⟨x, y⟩ ⟨i, hi, hx, hR⟩
    left
    dsimp only at hx hR ⊢
    unfold b_X12_onTable_L4
    rw [hx, if_neg (nI_nlt (show i + 1 ≤ bl by omega) (by omega))]
    simp only [gd, inb_nI (show i + 1 < 7 by omega) (by decide), if_true, jn, bnd, nI_1, nI_clamp (show i + 1 < 2 ^ 31 by omega), hv (i + 1) (by omega) (by omega)]
    by_cases h : c (i + 1) = -1
    · rw [if_pos h, Int32.add_zero]
      exact ⟨_, ⟨i + 1, by omega, rfl, by rw [lyF, if_pos h]; exact hR⟩, rfl⟩
    · rw [if_neg h]
      refine ⟨_, ?_, rfl⟩
      refine ⟨i + 1, by omega, rfl, ?_⟩
      dsimp only
      rw [lyF, if_neg h, hR, nI_1]
theorem worthAll_ok {bl : Nat} {c v mw : Nat → Int32} {wd : Nat → Nat} (h6 : bl ≤ 6) (hv : ∀ d, 1 ≤ d → d ≤ bl → v d = c d) (hw : ∀ d, 1 ≤ d → d ≤ bl → mw d = nI (wd d)) {n : Nat} (hn : 1000 ≤ n) : ∃ r, f_X12_worthAll n (nI bl) mw v = some r ∧ r = nI (wlF c wd bl) := by
  unfold f_X12_worthAll f_X12_worthAll_L4
  refine lp_r (fun j s => ∃ i, j + i = bl ∧ s.2 = nI (i + 1) ∧ s.1 = nI (wlF c wd i)) bl ⟨0, by omega, by show (1 : Int32) = nI (0 + 1); decide, rfl⟩ (by omega) ?_ ?_
  · rintro g ⟨x, y⟩ ⟨i, hi, hx, hR⟩
    have hi : i = bl := by omega
    subst hi
    dsimp only at hx hR ⊢
    unfold b_X12_worthAll_L4
    rw [hx, if_pos (nI_lt (show i < i + 1 by omega) (by omega))]
    exact ⟨_, rfl, hR⟩
  · rintro g j ⟨x, y⟩ ⟨i, hi, hx, hR⟩
    left
    dsimp only at hx hR ⊢
    unfold b_X12_worthAll_L4
    rw [hx, if_neg (nI_nlt (show i + 1 ≤ bl by omega) (by omega))]
    simp only [gd, inb_nI (show i + 1 < 7 by omega) (by decide), if_true, jn, bnd, nI_1, nI_clamp (show i + 1 < 2 ^ 31 by omega), hv (i + 1) (by omega) (by omega), hw (i + 1) (by omega) (by omega)]
    by_cases h : c (i + 1) = -1
    · rw [if_pos h, Int32.add_zero]
      exact ⟨_, ⟨i + 1, by omega, rfl, by rw [wlF, if_pos h]; exact hR⟩, rfl⟩
    · rw [if_neg h]
      refine ⟨_, ?_, rfl⟩
      refine ⟨i + 1, by omega, rfl, ?_⟩
      dsimp only
      rw [wlF, if_neg h, hR, nI_add]
