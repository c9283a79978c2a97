theorem wb_nat {kd : Nat → Nat} {bl : Nat} {c : Nat → Int32} {b N : Nat} : ∀ i, i ≤ 45 → ∃ X, X < 2 ^ i ∧ wbP kd bl c b N i = lN X
  | 0, _ => ⟨0, by decide, rfl⟩
  | i + 1, hi => by
    obtain ⟨X, hX, e⟩ := wb_nat (kd := kd) (bl := bl) (c := c) (b := b) (N := N) i (by omega)
    have h2 : 2 ^ (i + 1) = 2 ^ i + 2 ^ i := by rw [Nat.pow_succ]; omega
    have h3 : 2 ^ (i + 1) ≤ 2 ^ 45 := Nat.pow_le_pow_right (by decide) hi
    have h4 : (2 : Nat) ^ 45 < 2 ^ 64 := by decide
    unfold wbP
    rw [e]
    split
    · refine ⟨X + 2 ^ i, by omega, ?_⟩
      have e1 : (1 : Int64) <<< ((nI i).toInt64 &&& 63) = lN (1 * 2 ^ i) := wb_shl 1 (by omega)
      rw [e1]
      have e2 := g_or' (k := i) (p := 2 ^ i) (a := X) (b := 1) rfl hX (by omega)
      rw [e2, Nat.one_mul]
    · exact ⟨X, by omega, rfl⟩
theorem l_bit {X i : Nat} (hX : X < 2 ^ 45) (hi : i < 45) : (lg_cmp ((lN X >>> ((nI i).toInt64 &&& 63)) &&& 1) 1) = 0 ↔ X / 2 ^ i % 2 = 1 := by
  have h4 : (2 : Nat) ^ 45 < 2 ^ 62 := by decide
  have hd : X / 2 ^ i ≤ X := Nat.div_le_self _ _
  have h5 : (2 : Nat) ^ 62 < 2 ^ 64 := by decide
  rw [lg_cmp_eq, wb_c i (by omega), pf_shr (d := i) (by
    rw [wb_tb]
    have := wb_sm i (by omega)
    rw [this, BitVec.toNat_ofNat]
    omega) (by omega), wb_a1 (by omega)]
  rcases Nat.mod_two_eq_zero_or_one (X / 2 ^ i) with h | h
  · rw [h]; decide
  · rw [h]; decide
theorem wantedMany_ok {bl sp : Nat} {kd wd : Nat → Nat} {kv wv : Nat → Int32} (hF : TF bl sp kd wd kv wv) {tk : Int64} {c : Nat → Int32} (hT : TW bl tk c) {N : Nat} (hN : N = 72) {n : Nat} (hn : 1000 ≤ n) {b Q : Nat} (hQ : Q = 45) (hb : b ≤ bl) {mk mw mc mo : Nat → Int32} (hMF : MF bl kv wv mk mw) (hv : ∀ d, d ≤ bl → mc d = c d) {X : Nat} (hX : X < 2 ^ 45) (hw : wbP kd bl c b N Q = lN X) {a1 a2 a3 a4 a5 a6 a7 a8 : Int32} :
    ∃ r, f_X12_wantedMany n (nI bl) (nI sp) a1 a2 a3 a4 a5 a6 a7 a8 mk mw mc mo (nI b) = some r ∧ r.1 = nI (cntN X 45) := by
  unfold f_X12_wantedMany
  refine bind_r (wantedOf_ok hF hT hN hn hQ hb hMF hv) (fun u hu => ?_)
  rw [hw] at hu
  unfold f_X12_wantedMany_L12
  refine lp_r (fun j s => ∃ i, j + i = 45 ∧ s.2 = nI i ∧ s.1 = nI (cntN X i)) 45 ⟨0, by omega, nI_0.symm, rfl⟩ (by omega) ?_ ?_
  · rintro g ⟨x, y⟩ ⟨i, hi, hx, hR⟩
    have hi : i = 45 := by omega
    subst hi
    dsimp only at hx hR ⊢
    unfold b_X12_wantedMany_L12
    rw [hx, if_pos (show (45 : Int32) ≤ nI 45 by decide)]
    exact ⟨_, rfl, hR⟩
  · rintro g j ⟨x, y⟩ ⟨i, hi, hx, hR⟩
    left
    dsimp only at hx hR ⊢
    unfold b_X12_wantedMany_L12
    rw [hx, if_neg (show ¬ (45 : Int32) ≤ nI i from nI_ge (b := 45) (by omega) (by decide)), hu]
    simp only [jn, bnd, nI_1]
    have e : cntN X (i + 1) = cntN X i + X / 2 ^ i % 2 := rfl
    by_cases h : X / 2 ^ i % 2 = 1
    · rw [if_pos ((l_bit hX (by omega)).mpr h)]
      refine ⟨_, ?_, rfl⟩
      refine ⟨i + 1, by omega, rfl, ?_⟩
      dsimp only
      rw [hR, e, h, nI_1]
    · rw [if_neg (fun z => h ((l_bit hX (by omega)).mp z))]
      refine ⟨_, ?_, rfl⟩
      refine ⟨i + 1, by omega, rfl, ?_⟩
      dsimp only
      rw [hR, e, show X / 2 ^ i % 2 = 0 by omega, Int32.add_zero]; rfl
