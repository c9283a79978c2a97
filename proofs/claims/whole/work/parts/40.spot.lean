/-! the white's new cell -/
def gdc (bl : Nat) (c : Nat → Int32) (q : Nat) : Bool := !pkt q && decide (whoF c (nI q) (bl + 1) = -1)
def lgF (bl : Nat) (c : Nat → Int32) : Nat → Nat → Nat
  | 0, i => i
  | m + 1, i => if gdc bl c i = true then i else lgF bl c m (i + 1)
def spotP (bl : Nat) (c : Nat → Int32) (sp : Nat) : Nat := if whoF c (nI sp) (bl + 1) = -1 then sp else lgF bl c 45 0
def sevC (i : Nat) : Nat := [1, 2, 3, 5, 6, 7, 10].getD i 0
theorem sev_ok : ∀ i, i < 7 → sevC i < 45 ∧ pkt (sevC i) = false := by decide +kernel
theorem sev_ne : ∀ i, i < 7 → ∀ j, j < 7 → (sevC i = sevC j → i = j) := by decide +kernel
theorem good_ex {bl : Nat} {c : Nat → Int32} (h6 : bl ≤ 6) (h0 : c 0 = -1) : ∃ q, q < 45 ∧ gdc bl c q = true := by
  by_cases h : ∃ i, i < 7 ∧ gdc bl c (sevC i) = true
  · obtain ⟨i, hi, hg⟩ := h
    exact ⟨sevC i, (sev_ok i hi).1, hg⟩
  · exfalso
    have key : ∀ i, i < 7 → ∃ b, b < 6 ∧ c (b + 1) = nI (sevC i) := by
      intro i hi
      have hng : ¬ gdc bl c (sevC i) = true := fun z => h ⟨i, hi, z⟩
      unfold gdc at hng
      rw [(sev_ok i hi).2] at hng
      rcases who_cases c (nI (sevC i)) (bl + 1) with ⟨hx, -⟩ | ⟨b, hb, hx, hc⟩
      · exact absurd (by simp [hx]) hng
      · have hb0 : b ≠ 0 := fun e => nI_ne_m1 (sev_ok i hi).1 (by rw [← hc, e, h0])
        exact ⟨b - 1, by omega, by rw [show b - 1 + 1 = b by omega]; exact hc⟩
    obtain ⟨f, hf⟩ : ∃ f : Nat → Nat, ∀ i, i < 7 → f i < 6 ∧ c (f i + 1) = nI (sevC i) :=
      ⟨fun i => if hi : i < 7 then (key i hi).choose else 0, fun i hi => by
        simp only [dif_pos hi]
        exact (key i hi).choose_spec⟩
    obtain ⟨i, j, hij, hj, he⟩ := fb_twice (m := 6) (n := 7) (f := f) (fun i hi => (hf i hi).1) (by decide)
    have h1 := (hf i (by omega)).2
    have h2 := (hf j hj).2
    rw [he, h2] at h1
    have := sev_ne j hj i (by omega) (nI_inj45 (sev_ok j hj).1 (sev_ok i (by omega)).1 h1)
    omega
theorem lg_good {bl : Nat} {c : Nat → Int32} : ∀ (m i q0 : Nat), i ≤ q0 → q0 < i + m → gdc bl c q0 = true → gdc bl c (lgF bl c m i) = true ∧ lgF bl c m i ≤ q0 := by
  intro m
  induction m with
  | zero => intro i q0 h1 h2 _; omega
  | succ m ih =>
    intro i q0 h1 h2 hg
    unfold lgF
    by_cases h : gdc bl c i = true
    · rw [if_pos h]; exact ⟨h, h1⟩
    · rw [if_neg h]
      refine ih (i + 1) q0 ?_ (by omega) hg
      rcases Nat.lt_or_ge i q0 with h3 | h3
      · exact h3
      · have : i = q0 := by omega
        exact absurd (this ▸ hg) h
