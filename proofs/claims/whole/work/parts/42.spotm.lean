theorem upd_same {v : Nat → Int32} {k : Nat} {x : Int32} (h : v k = x) : upd v k x = v := by
  funext j
  by_cases e : j = k
  · rw [e, upd_s, h]
  · rw [upd_n e]
theorem gdc_congr {bl : Nat} {c v : Nat → Int32} (hv : ∀ d, d ≤ bl → v d = c d) (q : Nat) : gdc bl v q = gdc bl c q := by
  unfold gdc
  rw [who_congr (fun d hd => hv d (by omega) : ∀ d, d < bl + 1 → v d = c d)]
theorem spot_done {v : Nat → Int32} {bl n k i : Nat} {y : Int32} (hi : i ≤ 45) (hy : ¬ y = -1) (hv : v 0 = y) : f_X12_spotWhite_L22 (nI bl) n (k + 1) (nI i) v = some v := by
  show b_X12_spotWhite_L22 (nI bl) n (fun a b => f_X12_spotWhite_L22 (nI bl) n k a b) (nI i) v = _
  unfold b_X12_spotWhite_L22
  have h0 : (0 : Int32).toNatClampNeg = 0 := rfl
  have hi0 : inb 0 7 = true := by decide
  simp only [gd, hi0, if_true, h0, hv, hy, if_false]
  split <;> rfl
theorem spot_loop {v : Nat → Int32} {bl n : Nat} (h1 : 1 ≤ bl) (h6 : bl ≤ 6) (hn : 9 ≤ n) (hv0 : v 0 = -1) : ∀ (m k i : Nat), m + i = 45 → m + 1 < k → (∃ q0, i ≤ q0 ∧ q0 < 45 ∧ gdc bl v q0 = true) → f_X12_spotWhite_L22 (nI bl) n k (nI i) v = some (upd v 0 (nI (lgF bl v m i))) := by
  intro m
  induction m with
  | zero => intro k i hi hk ⟨q0, a, b, _⟩; omega
  | succ m ih =>
    intro k i hi hk ⟨q0, hq1, hq2, hq3⟩
    obtain ⟨k, rfl⟩ : ∃ k', k = k' + 1 := ⟨k - 1, by omega⟩
    have hi45 : i < 45 := by omega
    have hge : ¬ (45 : Int32) ≤ nI i := nI_ge (a := i) (b := 45) hi45 (by decide)
    have h0 : (0 : Int32).toNatClampNeg = 0 := rfl
    have hi0 : inb 0 7 = true := by decide
    show b_X12_spotWhite_L22 (nI bl) n (fun a b => f_X12_spotWhite_L22 (nI bl) n k a b) (nI i) v = _
    unfold b_X12_spotWhite_L22
    simp only [if_neg hge, gd, hi0, if_true, h0, hv0, (t_pocket i hi45).2, Option.bind_some, jn, bnd, nI_1, lies_ok h1 h6 hn, upd_same hv0]
    have hih : ¬ gdc bl v i = true → f_X12_spotWhite_L22 (nI bl) n k (nI (i + 1)) v = some (upd v 0 (nI (lgF bl v (m + 1) i))) := fun hg => by
      have hq : i + 1 ≤ q0 := by
        rcases Nat.lt_or_ge i q0 with h | h
        · exact h
        · exact absurd ((show i = q0 by omega) ▸ hq3) hg
      rw [lgF, if_neg hg]
      exact ih k (i + 1) (by omega) (by omega) ⟨q0, hq, hq2, hq3⟩
    cases hpk : pkt i
    · simp only [b2_f, if_true]
      by_cases hfi : whoF v (nI i) (bl + 1) = -1
      · have hg : gdc bl v i = true := by simp [gdc, hpk, hfi]
        simp only [hfi, if_true]
        obtain ⟨k, rfl⟩ : ∃ k', k = k' + 1 := ⟨k - 1, by omega⟩
        rw [spot_done (y := nI i) (by omega) (nI_ne_m1 hi45) (upd_s _ _ _), lgF, if_pos hg]
      · simp only [hfi, if_false]
        exact hih (by simp [gdc, hpk, hfi])
    · simp only [b2_t, one_ne, if_false]
      exact hih (by simp [gdc, hpk])
theorem lg_congr {bl : Nat} {c v : Nat → Int32} (hv : ∀ d, d ≤ bl → v d = c d) : ∀ m i, lgF bl v m i = lgF bl c m i := by
  intro m
  induction m with
  | zero => intro i; rfl
  | succ m ih => intro i; rw [lgF, lgF, gdc_congr hv, ih]
theorem spot_ok {c v : Nat → Int32} {bl n sp : Nat} (h1 : 1 ≤ bl) (h6 : bl ≤ 6) (hn : 48 ≤ n) (hv : ∀ d, d ≤ bl → v d = c d) (h0 : c 0 = -1) (hsp : sp < 45) : f_X12_spotWhite n (nI bl) (nI sp) v = some (upd v 0 (nI (spotP bl c sp))) := by
  have hv0 : v 0 = -1 := (hv 0 (by omega)).trans h0
  have hw : whoF v (nI sp) (bl + 1) = whoF c (nI sp) (bl + 1) := who_congr (fun d hd => hv d (by omega))
  have hz : (0 : Int32).toNatClampNeg = 0 := rfl
  have hi0 : inb 0 7 = true := by decide
  unfold f_X12_spotWhite spotP
  rw [lies_ok h1 h6 (by omega), hw]
  simp only [Option.bind_some, jn, gd, hi0, if_true, hz]
  obtain ⟨n, rfl⟩ : ∃ n', n = n' + 1 := ⟨n - 1, by omega⟩
  by_cases hf : whoF c (nI sp) (bl + 1) = -1
  · rw [if_pos hf, if_pos hf]
    exact spot_done (i := 0) (y := nI sp) (by omega) (nI_ne_m1 hsp) (upd_s _ _ _)
  · rw [if_neg hf, if_neg hf]
    obtain ⟨q0, hq0, hg0⟩ := good_ex h6 h0
    rw [← lg_congr hv]
    exact spot_loop h1 h6 (by omega) hv0 45 (n + 1) 0 rfl (by omega) ⟨q0, Nat.zero_le _, hq0, by rw [gdc_congr hv]; exact hg0⟩
