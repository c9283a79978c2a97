def frC (bl : Nat) (c : Nat → Int32) (q : Nat) : Bool := !pkt q && (decide (whoF c (nI q) (bl + 1) = -1) || decide (whoF c (nI q) (bl + 1) = 0))
def wbP (kd : Nat → Nat) (bl : Nat) (c : Nat → Int32) (b N : Nat) : Nat → Int64
  | 0 => 0
  | i + 1 => if (frC bl c i && orF (potF kd bl (upd c 0 (nI i)) b) N) = true then wbP kd bl c b N i ||| (1 <<< ((nI i).toInt64 &&& 63)) else wbP kd bl c b N i
theorem fr_free {bl : Nat} {tk : Int64} {c : Nat → Int32} (h6 : bl ≤ 6) (hT : TW bl tk c) {q : Nat} (hq : q < 45) (h : frC bl c q = true) : pkt q = false ∧ ∀ d, d < 7 → d ≠ 0 → c d ≠ nI q := by
  unfold frC at h
  rw [Bool.and_eq_true, Bool.or_eq_true, decide_eq_true_eq, decide_eq_true_eq] at h
  refine ⟨by simpa using h.1, fun d hd h0 hc => ?_⟩
  have hdb : d < bl + 1 := by
    by_cases hdb : d < bl + 1
    · exact hdb
    · exact absurd ((hT.2.1 d (by omega) hd).symm.trans hc) (fun z => nI_ne_m1 hq z.symm)
  rcases who_cases c (nI q) (bl + 1) with ⟨-, hno⟩ | ⟨j, hj, hx, hcj⟩
  · exact hno d hdb hc
  · have hj0 : j = 0 := by
      rcases h.2 with h | h
      · exact absurd (hx.symm.trans h) (nI_ne_m1 (by omega))
      · exact (nI_is0 (by omega)).mp (hx.symm.trans h)
    rw [hj0] at hcj
    exact h0 (hT.1.2.1 d hd 0 (by decide) (hc.trans hcj.symm) (by rw [hc]; exact nI_ne_m1 hq))
theorem cells_ok {bl sp : Nat} {kd wd : Nat → Nat} {kv wv : Nat → Int32} (hF : TF bl sp kd wd kv wv) {tk : Int64} {c : Nat → Int32} (hT : TW bl tk c) {N : Nat} (hN : N = 72) {n : Nat} (hn : 1000 ≤ n) {b Q : Nat} (hQ : Q = 45) (hb : b ≤ bl) {m0 b0 p0 br0 h0 hp0 fo0 sz sq : Int32} {t0 : Int64} {v1 v2 v3 : Nat → Int32} :
    ∃ r, f_X0_cellsToPotFrom n m0 b0 p0 br0 h0 hp0 fo0 t0 sz sq v1 v2 v3 tk (nI bl) (nI sp) c kv wv (nI b) = some r ∧ r.1 = wbP kd bl c b N Q := by
  have h6 := hF.2.1
  unfold f_X0_cellsToPotFrom f_X0_cellsToPotFrom_L5
  refine lp_r (fun j s => ∃ i, j + i = Q ∧ s.2.1 = nI i ∧ s.1 = wbP kd bl c b N i) Q ⟨0, by omega, nI_0.symm, rfl⟩ (by omega) ?_ ?_
  · rintro g ⟨x, y, r⟩ ⟨i, hi, hx, hR⟩
    have hi : i = Q := by omega
    dsimp only at hx hR ⊢
    unfold b_X0_cellsToPotFrom_L5
    rw [hx, if_pos (show (45 : Int32) ≤ nI i by rw [hi, hQ]; decide)]
    refine ⟨_, rfl, ?_⟩
    dsimp only
    rw [hR, hi]
  · rintro g j ⟨x, y, r⟩ ⟨i, hi, hx, hR⟩
    left
    dsimp only at hx hR ⊢
    have hi45 : i < 45 := by omega
    unfold b_X0_cellsToPotFrom_L5
    rw [hx, if_neg (show ¬ (45 : Int32) ≤ nI i from nI_ge (b := 45) (by omega) (by decide)), ballIn_ok hT.1 hi45 (by omega), Option.bind_some, (t_pocket i hi45).1, Option.bind_some, who_short h6 (nI_ne_m1 hi45) hT.2.1]
    simp only [jn, bnd, nI_1, one_ne, if_true, if_false]
    have key : ∀ z : Bool, frC bl c i = z → (z = false → ∃ a' : Int64 × Int32 × Int32 × Int32 × Int32 × Int32 × Int32 × Int32 × Int32 × Int64 × Int32 × Int32 × (Nat → Int32) × (Nat → Int32) × (Nat → Int32), (∃ i, j + i = Q ∧ a'.2.1 = nI i ∧ a'.1 = wbP kd bl c b N i) ∧ a' = (x, nI (i + 1), r)) := by
      intro z hz hz0
      refine ⟨_, ?_, rfl⟩
      refine ⟨i + 1, by omega, rfl, ?_⟩
      dsimp only
      rw [hR, wbP, hz, hz0, Bool.false_and, if_neg (by decide)]
    cases hfr : frC bl c i
    · obtain ⟨a', ha, e⟩ := key false hfr rfl
      refine ⟨a', ha, ?_⟩
      rw [e]
      unfold frC at hfr
      cases hpk : pkt i
      · rw [hpk] at hfr
        have h1 : ¬ whoF c (nI i) (bl + 1) = -1 := fun h => by simp [h] at hfr
        have h2 : ¬ whoF c (nI i) (bl + 1) = 0 := fun h => by simp [h] at hfr
        rw [if_pos b2_f, if_neg h1, if_neg h2]
      · rw [if_neg (by rw [b2_t]; decide)]
    · obtain ⟨hpk, hfree⟩ := fr_free h6 hT hi45 hfr
      have hpot := fun (m0 b0 p0 br0 h0 hp0 fo0 sz sq : Int32) (t0 : Int64) (v1 v2 v3 : Nat → Int32) => canPot_ok hF hT hN hn hb hi45 hpk hfree (m0 := m0) (b0 := b0) (p0 := p0) (br0 := br0) (h0 := h0) (hp0 := hp0) (fo0 := fo0) (sz := sz) (sq := sq) (t0 := t0) (v1 := v1) (v2 := v2) (v3 := v3)
      rw [hpk, if_pos b2_f]
      have hor : ∀ {α : Type} (A B : α), (if whoF c (nI i) (bl + 1) = -1 then A else if whoF c (nI i) (bl + 1) = 0 then A else B) = A := by
        intro α A B
        unfold frC at hfr
        rw [hpk] at hfr
        by_cases h1 : whoF c (nI i) (bl + 1) = -1
        · rw [if_pos h1]
        · rw [if_neg h1, if_pos (by simpa [h1] using hfr)]
      rw [hor]
      refine bind_l (hpot _ _ _ _ _ _ _ _ _ _ _ _ _) (fun r1 hr1 => ?_)
      rw [hr1]
      cases hor1 : orF (potF kd bl (upd c 0 (nI i)) b) N
      · rw [if_pos b2_f]
        refine ⟨_, ?_, rfl⟩
        refine ⟨i + 1, by omega, rfl, ?_⟩
        dsimp only
        rw [hR, wbP, hfr, hor1, Bool.and_false, if_neg (by decide)]
      · rw [if_neg (by rw [b2_t]; decide)]
        refine ⟨_, ?_, rfl⟩
        refine ⟨i + 1, by omega, rfl, ?_⟩
        dsimp only
        rw [hR, wbP, hfr, hor1, Bool.and_true, if_pos rfl]
theorem wantedOf_ok {bl sp : Nat} {kd wd : Nat → Nat} {kv wv : Nat → Int32} (hF : TF bl sp kd wd kv wv) {tk : Int64} {c : Nat → Int32} (hT : TW bl tk c) {N : Nat} (hN : N = 72) {n : Nat} (hn : 1000 ≤ n) {b Q : Nat} (hQ : Q = 45) (hb : b ≤ bl) {mk mw mc mo : Nat → Int32} (hMF : MF bl kv wv mk mw) (hv : ∀ d, d ≤ bl → mc d = c d) {a1 a2 a3 a4 a5 a6 a7 a8 : Int32} :
    ∃ r, f_X12_wantedOf n (nI bl) (nI sp) a1 a2 a3 a4 a5 a6 a7 a8 mk mw mc mo (nI b) = some r ∧ r.1 = wbP kd bl c b N Q := by
  have h6 := hF.2.1
  unfold f_X12_wantedOf f_X12_wantedOf_L5
  refine lp_r (fun j s => ∃ i, j + i = Q ∧ s.2.1 = nI i ∧ s.1 = wbP kd bl c b N i) Q ⟨0, by omega, nI_0.symm, rfl⟩ (by omega) ?_ ?_
  · rintro g ⟨x, y, r⟩ ⟨i, hi, hx, hR⟩
    have hi : i = Q := by omega
    dsimp only at hx hR ⊢
    unfold b_X12_wantedOf_L5
    rw [hx, if_pos (show (45 : Int32) ≤ nI i by rw [hi, hQ]; decide)]
    refine ⟨_, rfl, ?_⟩
    dsimp only
    rw [hR, hi]
  · rintro g j ⟨x, y, r⟩ ⟨i, hi, hx, hR⟩
    left
    dsimp only at hx hR ⊢
    have hi45 : i < 45 := by omega
    unfold b_X12_wantedOf_L5
    rw [hx, if_neg (show ¬ (45 : Int32) ≤ nI i from nI_ge (b := 45) (by omega) (by decide)), (t_pocket i hi45).2, Option.bind_some, lies_ok hF.1 h6 (by omega), who_congr (fun d hd => hv d (by omega) : ∀ d, d < bl + 1 → mc d = c d)]
    simp only [jn, bnd, nI_1, one_ne, if_true, if_false, Int64.or_zero, Option.bind_some]
    have key : frC bl c i = false → ∃ a' : Int64 × Int32 × Int32 × Int32 × Int32 × Int32 × Int32 × Int32 × Int32 × Int32 × (Nat → Int32), (∃ i, j + i = Q ∧ a'.2.1 = nI i ∧ a'.1 = wbP kd bl c b N i) ∧ a' = (x, nI (i + 1), r) := by
      intro hz
      refine ⟨_, ?_, rfl⟩
      refine ⟨i + 1, by omega, rfl, ?_⟩
      dsimp only
      rw [hR, wbP, hz, Bool.false_and, if_neg (by decide)]
    cases hfr : frC bl c i
    · obtain ⟨a', ha, e⟩ := key hfr
      refine ⟨a', ha, ?_⟩
      rw [e]
      unfold frC at hfr
      cases hpk : pkt i
      · rw [hpk] at hfr
        have h1 : ¬ whoF c (nI i) (bl + 1) = -1 := fun h => by simp [h] at hfr
        have h2 : ¬ whoF c (nI i) (bl + 1) = 0 := fun h => by simp [h] at hfr
        have h3 : (1 : Int32) ≤ whoF c (nI i) (bl + 1) := by
          rcases who_cases c (nI i) (bl + 1) with ⟨hx, -⟩ | ⟨j, hj, hx, -⟩
          · exact absurd hx h1
          · rw [hx] at h2 ⊢
            have hj0 : j ≠ 0 := fun z => h2 (by rw [z]; decide)
            exact nI_le (a := 1) (by omega) (by omega)
        rw [if_pos b2_f, if_pos h3]
      · rw [if_neg (by rw [b2_t]; decide)]
    · obtain ⟨hpk, hfree⟩ := fr_free h6 hT hi45 hfr
      have hpot := fun (a1 a2 a3 a4 a5 a6 a7 a8 : Int32) (mo : Nat → Int32) => isWanted_ok hF hT hN hn hb hi45 hpk hfree hMF hv (a1 := a1) (a2 := a2) (a3 := a3) (a4 := a4) (a5 := a5) (a6 := a6) (a7 := a7) (a8 := a8) (mo := mo)
      have h3 : ¬ (1 : Int32) ≤ whoF c (nI i) (bl + 1) := by
        unfold frC at hfr
        rw [hpk] at hfr
        by_cases h1 : whoF c (nI i) (bl + 1) = -1
        · rw [h1]; decide
        · have h2 : whoF c (nI i) (bl + 1) = 0 := by simpa [h1] using hfr
          rw [h2]; decide
      rw [hpk, if_pos b2_f, if_neg h3]
      refine bind_l (hpot _ _ _ _ _ _ _ _ _) (fun r1 hr1 => ?_)
      rw [hr1]
      cases hor1 : orF (potF kd bl (upd c 0 (nI i)) b) N
      · rw [if_pos b2_f]
        refine ⟨_, ?_, rfl⟩
        refine ⟨i + 1, by omega, rfl, ?_⟩
        dsimp only
        rw [hR, wbP, hfr, hor1, Bool.and_false, if_neg (by decide)]
      · rw [if_neg (by rw [b2_t]; decide)]
        refine ⟨_, ?_, rfl⟩
        refine ⟨i + 1, by omega, rfl, ?_⟩
        dsimp only
        rw [hR, wbP, hfr, hor1, Bool.and_true, if_pos rfl]
