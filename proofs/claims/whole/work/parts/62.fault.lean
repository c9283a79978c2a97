def pfx (A : Nat → Nat) (i : Nat) : Prop := ∀ k, k < i → gdP A k = true
theorem gd_row {A : Nat → Nat} {m : Nat} (h : gdP A (5 * m) = true) : 5 * m < 32 ∧ 48 ≤ A (5 * m) ∧ A (5 * m) < 53 := by
  unfold gdP at h
  by_cases h32 : 32 ≤ 5 * m
  · rw [if_pos h32] at h; cases h
  · rw [if_neg h32, if_pos (by omega), Bool.and_eq_true, decide_eq_true_eq, decide_eq_true_eq] at h
    omega
theorem gd_col {A : Nat → Nat} {m : Nat} (h : gdP A (5 * m + 1) = true) : 5 * m + 1 < 32 ∧ 48 ≤ A (5 * m + 1) ∧ A (5 * m + 1) < 57 ∧ frA A m m = true ∧ pkt (clA A m) = false := by
  unfold gdP at h
  by_cases h32 : 32 ≤ 5 * m + 1
  · rw [if_pos h32] at h; cases h
  · rw [if_neg h32, if_neg (by omega), if_pos (by omega), show (5 * m + 1) / 5 = m by omega] at h
    simp only [Bool.and_eq_true, decide_eq_true_eq, Bool.not_eq_true'] at h
    obtain ⟨⟨h1, h2⟩, h3, h4⟩ := h
    exact ⟨by omega, h1, by omega, h3, h4⟩
theorem dg_of {A : Nat → Nat} {i m : Nat} (h : pfx A i) (hm : 5 * m + 1 < i) : dgA A m := by
  have h1 := gd_row (h (5 * m) (by omega))
  have h2 := gd_col (h (5 * m + 1) hm)
  exact ⟨h1.2.1, h1.2.2, h2.2.1, h2.2.2.1⟩
theorem t_m5 : ∀ i, i < 35 → nI i - nI i / 5 * 5 = nI (i % 5) := by decide +kernel
theorem t_m53 : ∀ i, i < 34 → 3 ≤ i → (nI i - 3) - (nI i - 3) / 5 * 5 = nI ((i - 3) % 5) := by decide +kernel
theorem fits_ok {A : Nat → Nat} {v : Nat → Int32} (hL : LtR A v) {n i : Nat} (hn : 1000 ≤ n) (hi : i < 34) (hp : pfx A i) : ∃ r, f_X7_fits n v (nI i) = some r ∧ r = b2 (gdP A i) := by
  unfold f_X7_fits gdP
  by_cases h32 : 32 ≤ i
  · rw [if_neg (show ¬ nI i < 32 from nI_nlt (b := 32) h32 (by omega)), if_pos h32]
    exact ⟨_, rfl, rfl⟩
  · have ht := t_let (A i) (hL i hi).1
    rw [if_pos (show nI i < 32 from nI_lt (b := 32) (by omega) (by decide)), if_neg h32, t_m5 i (by omega)]
    simp only [bnd]
    have h5 : i % 5 = 0 ∨ i % 5 = 1 ∨ i % 5 = 2 ∨ i % 5 = 3 ∨ i % 5 = 4 := by omega
    rcases h5 with h | h | h | h | h
    · rw [h, if_pos (show nI 0 = 0 by decide), if_pos rfl, digit_ok hL hi, Option.bind_some, ht.1, Option.bind_some, gd, isb_b2, if_pos rfl]
      exact ⟨_, rfl, rfl⟩
    · rw [h, if_neg (show ¬ nI 1 = 0 by decide), if_pos (show nI 1 = 1 by decide), if_neg (by decide), if_pos rfl, digit_ok hL hi, Option.bind_some, ht.2.1, Option.bind_some]
      simp only [jn]
      cases hcol : (decide (48 ≤ A i) && decide (A i ≤ 56))
      · rw [if_pos b2_f]; exact ⟨_, rfl, rfl⟩
      · rw [if_neg (by rw [b2_t]; decide)]
        obtain ⟨q, rfl⟩ : ∃ q, i = 5 * q + 1 := ⟨i / 5, by omega⟩
        rw [Bool.and_eq_true, decide_eq_true_eq, decide_eq_true_eq] at hcol
        have hd : ∀ m, m ≤ q → dgA A m := fun m hm => by
          by_cases e : m = q
          · rw [e]
            have h1 := gd_row (hp (5 * q) (by omega))
            exact ⟨h1.2.1, h1.2.2, hcol.1, by omega⟩
          · exact dg_of hp (by omega)
        refine bind_r (free_ok hL hn (show q < 7 by omega) hd hi) (fun r hr => ?_)
        rw [hr, show (5 * q + 1) / 5 = q by omega]
        cases (frA A q q && !pkt (clA A q))
        · rw [if_pos b2_f]; exact ⟨_, rfl, rfl⟩
        · rw [if_neg (by rw [b2_t]; decide)]; exact ⟨_, rfl, rfl⟩
    · rw [h, if_neg (show ¬ nI 2 = 0 by decide), if_neg (show ¬ nI 2 = 1 by decide), if_pos (show nI 2 = 2 by decide), if_neg (by decide), if_neg (by decide), if_pos rfl, at_ok hL hi, Option.bind_some]
      simp only [jn]
      by_cases h2 : i = 2
      · rw [if_pos (by rw [h2]; decide), if_pos h2]
        by_cases h59 : A i = 59
        · rw [if_pos (by rw [h59]; decide)]; exact ⟨_, rfl, by simp [h59, b2]⟩
        · rw [if_neg (fun z => h59 ((nI_eq (by have := (hL i hi).1; omega) (by decide)).mp (z.trans (show (59 : Int32) = nI 59 by decide))))]; exact ⟨_, rfl, by simp [h59, b2]⟩
      · rw [if_neg (fun z => h2 ((nI_eq (by omega) (by decide)).mp (z.trans (show (2 : Int32) = nI 2 by decide)))), if_neg h2]
        by_cases h59 : A i = 44
        · rw [if_pos (by rw [h59]; decide)]; exact ⟨_, rfl, by simp [h59, b2]⟩
        · rw [if_neg (fun z => h59 ((nI_eq (by have := (hL i hi).1; omega) (by decide)).mp (z.trans (show (44 : Int32) = nI 44 by decide))))]; exact ⟨_, rfl, by simp [h59, b2]⟩
    · rw [h, if_neg (show ¬ nI 3 = 0 by decide), if_neg (show ¬ nI 3 = 1 by decide), if_neg (show ¬ nI 3 = 2 by decide), if_pos (show nI 3 = 3 by decide), if_neg (by decide), if_neg (by decide), if_neg (by decide), if_pos rfl, at_ok hL hi, Option.bind_some, index_ok hn (hL i hi).1, Option.bind_some]
      rcases (t_kx (A i) (hL i hi).1).2.2 with e | ⟨j, hj, e⟩
      · rw [e, if_pos (by decide)]; exact ⟨_, rfl, by simp [b2]⟩
      · rw [e, if_neg (nI_pos (by omega))]; exact ⟨_, rfl, by simp [nI_m1' (show j < 1000 by omega), b2]⟩
    · rw [h, if_neg (show ¬ nI 4 = 0 by decide), if_neg (show ¬ nI 4 = 1 by decide), if_neg (show ¬ nI 4 = 2 by decide), if_neg (show ¬ nI 4 = 3 by decide), if_neg (by decide), if_neg (by decide), if_neg (by decide), if_neg (by decide), digit_ok hL hi, Option.bind_some, ht.2.2.1, Option.bind_some, gd, isb_b2, if_pos rfl]
      exact ⟨_, rfl, rfl⟩
theorem colM_ok {A : Nat → Nat} {v : Nat → Int32} (hL : LtR A v) {n q : Nat} (hn : 1000 ≤ n) (hi : 5 * q + 1 < 32) (hp : pfx A (5 * q + 1)) : ∃ r, f_X12_isColumn n v (nI (5 * q + 1)) = some r ∧ r = b2 (gdP A (5 * q + 1)) := by
  have ht := t_let (A (5 * q + 1)) (hL _ (by omega)).1
  unfold f_X12_isColumn gdP
  simp only [gd, inb_nI (show 5 * q + 1 < 34 by omega) (by decide), if_true, nI_clamp (show 5 * q + 1 < 2 ^ 31 by omega), (hL (5 * q + 1) (by omega)).2]
  rw [ht.2.2.2.2.1, Option.bind_some, if_neg (by omega), if_neg (by omega), if_pos (by omega), show (5 * q + 1) / 5 = q by omega, (t_p5 q (by omega)).1]
  simp only [jn]
  cases hcol : (decide (48 ≤ A (5 * q + 1)) && decide (A (5 * q + 1) ≤ 56))
  · rw [if_pos b2_f]; exact ⟨_, rfl, rfl⟩
  · rw [if_neg (by rw [b2_t]; decide)]
    rw [Bool.and_eq_true, decide_eq_true_eq, decide_eq_true_eq] at hcol
    have hd : ∀ m, m ≤ q → dgA A m := fun m hm => by
      by_cases e : m = q
      · rw [e]
        have h1 := gd_row (hp (5 * q) (by omega))
        exact ⟨h1.2.1, h1.2.2, hcol.1, by omega⟩
      · exact dg_of hp (by omega)
    have hcl := (cellC_ok hL (show q < 7 by omega) (hd q (Nat.le_refl _)) (by omega)).2
    rw [cellM_ok hL (show q < 7 by omega) (hd q (Nat.le_refl _)) (by omega), Option.bind_some, (t_pocket _ hcl).2, Option.bind_some]
    cases hpk : pkt (clA A q)
    · rw [if_pos b2_f]
      refine bind_r (told_ok hL hn (show q < 7 by omega) hd (by omega)) (fun r hr => ?_)
      rw [hr]
      cases frA A q q
      · rw [if_neg (by decide)]; exact ⟨_, rfl, rfl⟩
      · rw [if_pos (by decide)]; exact ⟨_, rfl, rfl⟩
    · rw [if_neg (by rw [b2_t]; decide)]; exact ⟨_, rfl, by simp [b2]⟩
theorem isGood_ok {A : Nat → Nat} {v : Nat → Int32} (hL : LtR A v) {n i : Nat} (hn : 1000 ≤ n) (hi : i < 34) (hp : pfx A i) : ∃ r, f_X12_isGood n v (nI i) = some r ∧ r = b2 (gdP A i) := by
  have ht := t_let (A i) (hL i hi).1
  have h33 : i ≤ 32 := by
    by_cases h : i ≤ 32
    · exact h
    · have := hp 32 (by omega)
      rw [gdP, if_pos (by decide)] at this; cases this
  unfold f_X12_isGood
  simp only [gd, inb_nI hi (by decide), if_true, bnd, nI_clamp (show i < 2 ^ 31 by omega), (hL i hi).2]
  by_cases h3 : 3 ≤ i
  · rw [if_pos (show (3 : Int32) ≤ nI i from nI_le (a := 3) h3 (by omega)), t_m53 i hi h3]
    have h5 : i % 5 = 3 ∨ i % 5 = 4 ∨ i % 5 = 0 ∨ i % 5 = 1 ∨ i % 5 = 2 := by omega
    rcases h5 with h | h | h | h | h
    · rw [show (i - 3) % 5 = 0 by omega, if_pos (show nI 0 = 0 by decide), ht.2.2.2.2.2.2.1, Option.bind_some]
      have eg : gdP A i = !decide (kxI (A i) = -1) := by rw [gdP, if_neg (by omega), h, if_neg (by decide), if_neg (by decide), if_neg (by decide), if_pos rfl]
      rw [eg]
      by_cases e : kxI (A i) = -1
      · rw [if_pos e]; exact ⟨_, rfl, by simp [e, b2]⟩
      · rw [if_neg e]; exact ⟨_, rfl, by simp [e, b2]⟩
    · rw [show (i - 3) % 5 = 1 by omega, if_neg (show ¬ nI 1 = 0 by decide), if_pos (show nI 1 = 1 by decide), ht.2.2.2.2.2.1, Option.bind_some, isb_b2, if_pos rfl]
      rw [gdP, if_neg (by omega), h, if_neg (by decide), if_neg (by decide), if_neg (by decide), if_neg (by decide)]
      exact ⟨_, rfl, rfl⟩
    · rw [show (i - 3) % 5 = 2 by omega, if_neg (show ¬ nI 2 = 0 by decide), if_neg (show ¬ nI 2 = 1 by decide), if_pos (show nI 2 = 2 by decide), ht.2.2.2.1, Option.bind_some, isb_b2, if_pos rfl]
      rw [gdP, if_neg (by omega), h, if_pos rfl]
      exact ⟨_, rfl, rfl⟩
    · rw [show (i - 3) % 5 = 3 by omega, if_neg (show ¬ nI 3 = 0 by decide), if_neg (show ¬ nI 3 = 1 by decide), if_neg (show ¬ nI 3 = 2 by decide), if_pos (show nI 3 = 3 by decide)]
      obtain ⟨q, rfl⟩ : ∃ q, i = 5 * q + 1 := ⟨i / 5, by omega⟩
      refine bind_r (colM_ok hL hn (by omega) hp) (fun r hr => ?_)
      rw [hr, isb_b2, if_pos rfl]
      exact ⟨_, rfl, rfl⟩
    · rw [show (i - 3) % 5 = 4 by omega, if_neg (show ¬ nI 4 = 0 by decide), if_neg (show ¬ nI 4 = 1 by decide), if_neg (show ¬ nI 4 = 2 by decide), if_neg (show ¬ nI 4 = 3 by decide)]
      simp only [jn]
      by_cases h44 : A i = 44
      · rw [if_pos (by rw [h44]; decide)]
        by_cases h32 : 32 ≤ i
        · rw [if_pos (show (32 : Int32) ≤ nI i from nI_le (a := 32) h32 (by omega)), gdP, if_pos h32]
          exact ⟨_, rfl, rfl⟩
        · rw [if_neg (show ¬ (32 : Int32) ≤ nI i from nI_ge (b := 32) (by omega) (by decide)), gdP, if_neg h32, h, if_neg (by decide), if_neg (by decide), if_pos rfl, if_neg (by omega)]
          exact ⟨_, rfl, by simp [h44, b2]⟩
      · rw [if_neg (fun z => h44 ((nI_eq (by have := (hL i hi).1; omega) (by decide)).mp (z.trans (show (44 : Int32) = nI 44 by decide))))]
        refine ⟨_, rfl, ?_⟩
        unfold gdP
        by_cases h32 : 32 ≤ i
        · rw [if_pos h32]; rfl
        · rw [if_neg h32, h, if_neg (by decide), if_neg (by decide), if_pos rfl, if_neg (by omega)]; simp [h44, b2]
  · rw [if_neg (show ¬ (3 : Int32) ≤ nI i from nI_ge (b := 3) (by omega) (by decide))]
    have h5 : i = 0 ∨ i = 1 ∨ i = 2 := by omega
    rcases h5 with h | h | h
    · rw [if_pos (by rw [h]; decide), ht.2.2.2.1, Option.bind_some, isb_b2, if_pos rfl]
      rw [gdP, if_neg (by omega), if_pos (by omega)]
      exact ⟨_, rfl, rfl⟩
    · subst h
      rw [if_neg (by decide), if_pos (by decide)]
      refine bind_r (colM_ok (q := 0) hL hn (by decide) hp) (fun r hr => ?_)
      rw [hr, isb_b2, if_pos rfl]
      exact ⟨_, rfl, rfl⟩
    · subst h
      have eg : gdP A 2 = decide (A 2 = 59) := by rw [gdP, if_neg (by decide), if_neg (by decide), if_neg (by decide), if_pos (by decide), if_pos rfl]
      rw [if_neg (by decide), if_neg (by decide), eg]
      by_cases h59 : A 2 = 59
      · rw [if_pos (by rw [h59]; decide)]; exact ⟨_, rfl, by simp [h59, b2]⟩
      · rw [if_neg (fun z => h59 ((nI_eq (by have := (hL 2 hi).1; omega) (by decide)).mp (z.trans (show (59 : Int32) = nI 59 by decide))))]; exact ⟨_, rfl, by simp [h59, b2]⟩
def ffF (A : Nat → Nat) : Nat → Nat → Nat
  | 0, i => i
  | j + 1, i => if gdP A i = true then ffF A j (i + 1) else i
theorem ff_le (A : Nat → Nat) : ∀ j i, ffF A j i ≤ i + j
  | 0, i => Nat.le_refl _
  | j + 1, i => by
    rw [ffF]
    have := ff_le A j (i + 1)
    split <;> omega
theorem ff_all (A : Nat → Nat) : ∀ j i, ffF A j i = i + j → ∀ k, i ≤ k → k < i + j → gdP A k = true
  | 0, i, _, k, h1, h2 => by omega
  | j + 1, i, h, k, h1, h2 => by
    rw [ffF] at h
    by_cases hg : gdP A i = true
    · rw [if_pos hg] at h
      by_cases e : k = i
      · rw [e]; exact hg
      · exact ff_all A j (i + 1) (by omega) k (by omega) (by omega)
    · rw [if_neg hg] at h; omega
theorem faultC_ok {A : Nat → Nat} {v : Nat → Int32} (hL : LtR A v) {n z : Nat} (hn : 1000 ≤ n) (hz : z ≤ 34) : ∃ r, f_X7_firstFault n (nI z) v = some r ∧ r = nI (ffF A z 0) := by
  unfold f_X7_firstFault
  simp only [jn]
  unfold f_X7_firstFault_L2
  refine lp_r (fun j s => ∃ i, j + i = z ∧ s = nI i ∧ pfx A i ∧ ffF A z 0 = ffF A j i) z ⟨0, by omega, nI_0.symm, fun k hk => absurd hk (Nat.not_lt_zero _), rfl⟩ (by omega) ?_ ?_
  · rintro g s ⟨i, hi, hx, hp, hR⟩
    have hi : i = z := by omega
    subst hi
    unfold b_X7_firstFault_L2
    rw [hx, if_pos (nI_le (Nat.le_refl i) (by omega))]
    exact ⟨_, rfl, by rw [hR]; rfl⟩
  · rintro g j s ⟨i, hi, hx, hp, hR⟩
    unfold b_X7_firstFault_L2
    rw [hx, if_neg (nI_ge (show i < z by omega) (by omega))]
    refine bind_p (fits_ok hL hn (show i < 34 by omega) hp) (fun r hr => ?_)
    rw [hr]
    rw [ffF] at hR
    simp only [bnd, nI_1]
    cases hg : gdP A i
    · rw [if_pos b2_f]
      rw [hg, if_neg (by decide)] at hR
      exact Or.inr ⟨_, rfl, by rw [hR]⟩
    · rw [if_neg (by rw [b2_t]; decide)]
      rw [hg, if_pos rfl] at hR
      refine Or.inl ⟨_, ⟨i + 1, by omega, rfl, fun k hk => ?_, hR⟩, rfl⟩
      by_cases e : k = i
      · rw [e]; exact hg
      · exact hp k (by omega)
theorem faultM_ok {A : Nat → Nat} {v : Nat → Int32} (hL : LtR A v) {n z : Nat} (hn : 1000 ≤ n) (hz : z ≤ 34) : ∃ r, f_X12_faultOf n (nI z) v = some r ∧ r = nI (ffF A z 0) := by
  unfold f_X12_faultOf f_X12_faultOf_L2
  refine lp_r (fun j s => ∃ i, j + i = z ∧ s = nI i ∧ pfx A i ∧ ffF A z 0 = ffF A j i) z ⟨0, by omega, nI_0.symm, fun k hk => absurd hk (Nat.not_lt_zero _), rfl⟩ (by omega) ?_ ?_
  · rintro g s ⟨i, hi, hx, hp, hR⟩
    have hi : i = z := by omega
    subst hi
    unfold b_X12_faultOf_L2
    rw [hx, if_pos (nI_le (Nat.le_refl i) (by omega))]
    exact ⟨_, rfl, by rw [hR]; rfl⟩
  · rintro g j s ⟨i, hi, hx, hp, hR⟩
    unfold b_X12_faultOf_L2
    rw [hx, if_neg (nI_ge (show i < z by omega) (by omega))]
    refine bind_p (isGood_ok hL hn (show i < 34 by omega) hp) (fun r hr => ?_)
    rw [hr]
    rw [ffF] at hR
    simp only [bnd, nI_1]
    cases hg : gdP A i
    · rw [if_pos b2_f]
      rw [hg, if_neg (by decide)] at hR
      exact Or.inr ⟨_, rfl, by rw [hR]⟩
    · rw [if_neg (by rw [b2_t]; decide)]
      rw [hg, if_pos rfl] at hR
      refine Or.inl ⟨_, ⟨i + 1, by omega, rfl, fun k hk => ?_, hR⟩, rfl⟩
      by_cases e : k = i
      · rw [e]; exact hg
      · exact hp k (by omega)
