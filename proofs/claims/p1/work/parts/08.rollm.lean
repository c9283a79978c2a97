def HitR (hd : Int32) (hp : Nat) (hf hpm dn rt : Int32) : Prop := (hd = -1 ∧ hf = -1) ∨ (hf ≠ -1 ∧ ∃ w0, w0 < 8 ∧ hd = nI w0 ∧ dn = rowS w0 ∧ rt = colS w0 ∧ hpm = nI hp)
theorem upd_uu (f : Nat → Int32) (k : Nat) (x y : Int32) : upd (upd f k x) k y = upd f k y := by
  funext j
  by_cases h : j = k <;> simp [upd, h]
theorem rollM {mk : Nat → Int32} {kd : Nat → Nat} {bl n : Nat} (h1 : 1 ≤ bl) (h6 : bl ≤ 6) (hn : 9 ≤ n) (hk : ∀ d, d ≤ bl → kd d < 5 ∧ mk d = nI (kd d)) :
    ∀ (F k b w pw hp : Nat) (c v : Nat → Int32) (mv bo po hd hf hpm dn rt : Int32), (∀ d, d ≤ bl → okc (c d)) → (∀ d, d ≤ bl → v d = c d) → b ≤ bl → w < 8 → pw ≤ 9 → (pw ≠ 0 → ∃ q, q < 45 ∧ c b = nI q ∧ pw * 10 + ah q w < F) → F < k → HitR hd hp hf hpm dn rt →
    ∃ (v' : Nat → Int32) (hf' hpm' dn' rt' : Int32), f_X12_roll_L14 (nI bl) mk n k (nI b) (rowS w) (colS w) (nI pw) po mv bo hf hpm dn rt v = some ((rollP kd bl F c b w pw mv bo po hd hp).2.2.2.1, (rollP kd bl F c b w pw mv bo po hd hp).2.1, (rollP kd bl F c b w pw mv bo po hd hp).2.2.1, hf', hpm', dn', rt', v') ∧ (∀ d, d ≤ bl → v' d = (rollP kd bl F c b w pw mv bo po hd hp).1 d) ∧ HitR (rollP kd bl F c b w pw mv bo po hd hp).2.2.2.2.1 (rollP kd bl F c b w pw mv bo po hd hp).2.2.2.2.2 hf' hpm' dn' rt' := by
  intro F
  induction F with
  | zero =>
    intro k b w pw hp c v mv bo po hd hf hpm dn rt hT hv hb hw hpw hq hk1 hH
    have h0 : pw = 0 := by
      by_cases h : pw = 0
      · exact h
      · obtain ⟨q, -, -, h⟩ := hq h; omega
    subst h0
    obtain ⟨k, rfl⟩ : ∃ k', k = k' + 1 := ⟨k - 1, by omega⟩
    refine ⟨v, hf, hpm, dn, rt, ?_, hv, hH⟩
    show b_X12_roll_L14 (nI bl) mk n (fun a1 a2 a3 a4 a5 a6 a7 a8 a9 a10 a11 a12 => f_X12_roll_L14 (nI bl) mk n k a1 a2 a3 a4 a5 a6 a7 a8 a9 a10 a11 a12) (nI b) (rowS w) (colS w) (nI 0) po mv bo hf hpm dn rt v = _
    unfold b_X12_roll_L14
    rw [if_pos (show nI 0 ≤ 0 by decide)]
    rfl
  | succ F ih =>
    intro k b w pw hp c v mv bo po hd hf hpm dn rt hT hv hb hw hpw hq hk1 hH
    obtain ⟨k, rfl⟩ : ∃ k', k = k' + 1 := ⟨k - 1, by omega⟩
    by_cases hp0 : pw = 0
    · subst hp0
      refine ⟨v, hf, hpm, dn, rt, ?_, by rw [roll_0]; exact hv, by rw [roll_0]; exact hH⟩
      show b_X12_roll_L14 (nI bl) mk n (fun a1 a2 a3 a4 a5 a6 a7 a8 a9 a10 a11 a12 => f_X12_roll_L14 (nI bl) mk n k a1 a2 a3 a4 a5 a6 a7 a8 a9 a10 a11 a12) (nI b) (rowS w) (colS w) (nI 0) po mv bo hf hpm dn rt v = _
      unfold b_X12_roll_L14
      rw [if_pos (show nI 0 ≤ 0 by decide), roll_0]
    · obtain ⟨q, hq45, hcb, hmu⟩ := hq hp0
      have hb7 : b < 7 := by omega
      have hcl : (nI q).toNatClampNeg = q := nI_clamp (by omega)
      have hbc : (nI b).toNatClampNeg = b := nI_clamp (by omega)
      have hvb : v b = nI q := (hv b hb).trans hcb
      have hle : ¬ nI pw ≤ 0 := fun z => hp0 ((nI_le0 (by omega)).mp z)
      have hib : inb (nI b) 7 = true := inb_nI hb7 (by decide)
      show ∃ (v' : Nat → Int32) (hf' hpm' dn' rt' : Int32), b_X12_roll_L14 (nI bl) mk n (fun a1 a2 a3 a4 a5 a6 a7 a8 a9 a10 a11 a12 => f_X12_roll_L14 (nI bl) mk n k a1 a2 a3 a4 a5 a6 a7 a8 a9 a10 a11 a12) (nI b) (rowS w) (colS w) (nI pw) po mv bo hf hpm dn rt v = _ ∧ _
      unfold b_X12_roll_L14
      simp only [if_neg hle, gd, hib, if_true, hbc, hvb, bnd, jn, t_rowM q hq45 w hw, t_colM q hq45 w hw, Option.bind_some, (nI_m1 (show pw < 11 by omega) hp0).2, (nI_m1 (show pw < 11 by omega) hp0).1]
      cases hr : oR q w <;> cases hc : oC q w
      · obtain ⟨e1, hx45, hah, hne⟩ := t_next hq45 hw hr hc
        have hn1 : ¬ nI (nx q w) = -1 := nI_ne_m1 hx45
        simp only [e1, b2_nf, one_ne, if_false, if_true, lies_ok h1 h6 hn, Option.bind_some, hn1, who_congr (fun d hd => hv d (by omega) : ∀ d, d < bl + 1 → v d = c d)]
        trace_state
        sorry
      · simp only [b2_nf, b2_nt, one_ne, if_false, if_true]
        trace_state
        sorry
      · sorry
      · sorry
