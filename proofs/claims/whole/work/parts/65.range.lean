/-! ranges, both ways -/
theorem rng {p : Int32} {lo hi : Nat} (hh : hi < 2 ^ 31) (hl : lo < 2 ^ 31) : (∃ j, lo ≤ j ∧ j ≤ hi ∧ p = nI j ∧ f_X11_within p (nI lo) (nI hi) = some 1 ∧ f_X12_in p.toInt64 (lN lo) (lN hi) = some 1) ∨ (f_X11_within p (nI lo) (nI hi) = some 0 ∧ f_X12_in p.toInt64 (lN lo) (lN hi) = some 0 ∧ ¬ ∃ j, lo ≤ j ∧ j ≤ hi ∧ p = nI j) := by
  have e1 : (p < nI lo) ↔ p.toInt < (lo : Int) := by rw [Int32.lt_iff_toInt_lt, nI_toInt hl]
  have e2 : (nI hi < p) ↔ (hi : Int) < p.toInt := by rw [Int32.lt_iff_toInt_lt, nI_toInt hh]
  have e3 : (lg_cmp p.toInt64 (lN lo) < 0) ↔ p.toInt < (lo : Int) := by rw [lg_cmp_lt, Int64.lt_iff_toInt_lt, Int32.toInt_toInt64, lN_toInt hl]
  have e4 : (0 < lg_cmp p.toInt64 (lN hi)) ↔ (hi : Int) < p.toInt := by rw [lg_cmp_gt, Int64.lt_iff_toInt_lt, Int32.toInt_toInt64, lN_toInt hh]
  unfold f_X11_within f_X12_in
  simp only [jn]
  by_cases h1 : p.toInt < (lo : Int)
  · right
    rw [if_pos (e1.mpr h1), if_pos (e3.mpr h1)]
    refine ⟨rfl, rfl, ?_⟩
    rintro ⟨j, hj1, hj2, rfl⟩
    rw [nI_toInt (by omega)] at h1; omega
  · by_cases h2 : (hi : Int) < p.toInt
    · right
      rw [if_neg (fun z => h1 (e1.mp z)), if_neg (fun z => h1 (e3.mp z)), if_pos (e2.mpr h2), if_pos (e4.mpr h2)]
      refine ⟨rfl, rfl, ?_⟩
      rintro ⟨j, hj1, hj2, rfl⟩
      rw [nI_toInt (by omega)] at h2; omega
    · left
      have h0 : ¬ p < 0 := by
        rw [Int32.lt_iff_toInt_lt]
        have : (0 : Int32).toInt = 0 := by decide
        omega
      obtain ⟨j, hj, rfl⟩ := nI_of h0
      rw [nI_toInt hj] at h1 h2
      refine ⟨j, by omega, by omega, rfl, ?_, ?_⟩
      · rw [if_neg (fun z => by have := e1.mp z; rw [nI_toInt hj] at this; omega), if_neg (fun z => by have := e2.mp z; rw [nI_toInt hj] at this; omega)]
      · rw [if_neg (fun z => by have := e3.mp z; rw [nI_toInt hj] at this; omega), if_neg (fun z => by have := e4.mp z; rw [nI_toInt hj] at this; omega)]
/-- a table that is there -/
def T1 (bl sp : Nat) (tk : Int64) (sz sq : Int32) (c k w : Nat → Int32) (mb mq : Int32) (mk mw mc : Nat → Int32) : Prop :=
  1 ≤ bl ∧ bl ≤ 6 ∧ sp < 45 ∧ pkt sp = false ∧ sz = nI bl ∧ sq = nI sp ∧ mb = nI bl ∧ mq = nI sp ∧ TW bl tk c ∧ MF bl k w mk mw ∧ ∀ d, d ≤ bl → mc d = c d
/-- no table yet -/
def T0 (sz sq : Int32) (c : Nat → Int32) (mb mq : Int32) (mc : Nat → Int32) : Prop := sz = 0 ∧ sq = 0 ∧ mb = 0 ∧ mq = 0 ∧ (∀ d, d < 7 → c d = -1) ∧ mc 0 = 0
def TbR (t : Nat) (tk : Int64) (sz sq : Int32) (c k w : Nat → Int32) (mb mq : Int32) (mk mw mc : Nat → Int32) : Prop :=
  (t = 0 ∧ T0 sz sq c mb mq mc) ∨ (0 < t ∧ ∃ bl sp, T1 bl sp tk sz sq c k w mb mq mk mw mc)
theorem has_0 : f_X11_hasTable (nI 0) = some 0 := by decide
theorem has_1 {t : Nat} (h : 0 < t) (ht : t < 1000) : f_X11_hasTable (nI t) = some 1 := by
  unfold f_X11_hasTable
  rw [if_neg (nI_nle h (by omega))]
theorem lk_0 : f_X12_lacks 0 = some 1 := by decide
theorem lk_1 {bl : Nat} (h : 1 ≤ bl) (h6 : bl ≤ 6) : f_X12_lacks (nI bl) = some 0 := by
  unfold f_X12_lacks
  rw [if_neg (nI_ne0 h (by omega))]
section
variable {t : Nat} {tk : Int64} {sz sq : Int32} {c k w : Nat → Int32} {mb mq : Int32} {mk mw mc : Nat → Int32}
theorem b_ball (ht : t < 1000) (hT : TbR t tk sz sq c k w mb mq mk mw mc) (p : Int32) : (∃ bl sp b, 0 < t ∧ T1 bl sp tk sz sq c k w mb mq mk mw mc ∧ b ≤ bl ∧ p = nI b ∧ f_X11_isBall (nI t) sz p = some 1 ∧ f_X12_isBall mb p = some 1) ∨ (f_X11_isBall (nI t) sz p = some 0 ∧ f_X12_isBall mb p = some 0) := by
  unfold f_X11_isBall f_X12_isBall
  simp only [jn]
  rcases hT with ⟨h0, h⟩ | ⟨h0, bl, sp, h⟩
  · subst h0
    rw [has_0, h.2.2.1, lk_0]
    exact Or.inr ⟨rfl, rfl⟩
  · obtain ⟨g1, g2, g3, g4, rfl, rfl, rfl, rfl, g9⟩ := h
    rw [has_1 h0 ht, lk_1 g1 g2]
    rcases rng (p := p) (lo := 0) (hi := bl) (by omega) (by decide) with ⟨j, -, hj, e, r1, r2⟩ | ⟨r1, r2, -⟩
    · refine Or.inl ⟨bl, sp, j, h0, ⟨g1, g2, g3, g4, rfl, rfl, rfl, rfl, g9⟩, hj, e, ?_, ?_⟩
      · rw [Option.bind_some, if_neg (by decide), show (0 : Int32) = nI 0 from rfl, r1]; rfl
      · rw [Option.bind_some, if_pos rfl, nI_l (by omega), show (0 : Int64) = lN 0 from rfl, r2]; rfl
    · refine Or.inr ⟨?_, ?_⟩
      · rw [Option.bind_some, if_neg (by decide), show (0 : Int32) = nI 0 from rfl, r1]; rfl
      · rw [Option.bind_some, if_pos rfl, nI_l (by omega), show (0 : Int64) = lN 0 from rfl, r2]; rfl
theorem b_obj (ht : t < 1000) (hT : TbR t tk sz sq c k w mb mq mk mw mc) (p : Int32) : (∃ bl sp b, 0 < t ∧ T1 bl sp tk sz sq c k w mb mq mk mw mc ∧ 1 ≤ b ∧ b ≤ bl ∧ p = nI b ∧ f_X11_isObjectBall (nI t) sz p = some 1 ∧ f_X12_isColoured mb p = some 1) ∨ (f_X11_isObjectBall (nI t) sz p = some 0 ∧ f_X12_isColoured mb p = some 0) := by
  have hcol : ∀ bl : Nat, bl ≤ 6 → mb = nI bl → (∃ j, 1 ≤ j ∧ j ≤ bl ∧ p = nI j ∧ f_X12_isColoured mb p = some 1) ∨ (f_X12_isColoured mb p = some 0 ∧ ¬ ∃ j, 1 ≤ j ∧ j ≤ bl ∧ p = nI j) := by
    intro bl h6 e
    unfold f_X12_isColoured
    rw [e, nI_l (by omega), show (1 : Int64) = lN 1 from rfl]
    rcases rng (p := p) (lo := 1) (hi := bl) (by omega) (by decide) with ⟨j, h1, hj, e, r1, r2⟩ | ⟨r1, r2, hno⟩
    · exact Or.inl ⟨j, h1, hj, e, by rw [r2]; rfl⟩
    · exact Or.inr ⟨by rw [r2]; rfl, hno⟩
  have hb := b_ball ht hT p
  rcases hT with ⟨h0, h⟩ | ⟨h0, bl, sp, h⟩
  · right
    refine ⟨?_, ?_⟩
    · unfold f_X11_isObjectBall
      simp only [jn]
      rcases hb with ⟨_, _, _, h1, _⟩ | ⟨r, -⟩
      · omega
      · split
        · rfl
        · rw [r]; rfl
    · rcases hcol 0 (by omega) h.2.2.1 with ⟨j, h1, h2, _⟩ | ⟨r, -⟩
      · omega
      · exact r
  · have hinj : ∀ bl', T1 bl' sp tk sz sq c k w mb mq mk mw mc → True := fun _ _ => trivial
    rcases hcol bl h.2.1 h.2.2.2.2.2.2.1 with ⟨j, h1, h2, e, r⟩ | ⟨r, hno⟩
    · refine Or.inl ⟨bl, sp, j, h0, h, h1, h2, e, ?_, r⟩
      unfold f_X11_isObjectBall
      simp only [jn]
      rw [if_neg (by rw [e]; exact nI_ne0 (by omega) (by have := h.2.1; omega))]
      rcases hb with ⟨_, _, _, _, _, _, _, r1, _⟩ | ⟨r1, r2⟩
      · rw [r1]; rfl
      · exfalso
        unfold f_X12_isBall at r2
        rw [h.2.2.2.2.2.2.1, lk_1 h.1 h.2.1, Option.bind_some] at r2
        simp only [jn, if_true] at r2
        rw [nI_l (by have := h.2.1; omega), show (0 : Int64) = lN 0 from rfl] at r2
        rcases rng (p := p) (lo := 0) (hi := bl) (by have := h.2.1; omega) (by decide) with ⟨_, _, _, _, _, r3⟩ | ⟨_, _, hno⟩
        · rw [r3] at r2; cases r2
        · exact hno ⟨j, by omega, h2, e⟩
    · right
      refine ⟨?_, r⟩
      unfold f_X11_isObjectBall
      simp only [jn]
      by_cases hp0 : p = 0
      · rw [if_pos hp0]
      · rw [if_neg hp0]
        rcases hb with ⟨bl', sp', b, _, h', hb', e, _, _⟩ | ⟨r1, _⟩
        · exfalso
          have e1 : bl' = bl := (nI_eq (by have := h'.2.1; omega) (by have := h.2.1; omega)).mp (h'.2.2.2.2.1.symm.trans h.2.2.2.2.1)
          rw [e1] at hb'
          refine hno ⟨b, ?_, hb', e⟩
          by_cases hb0 : b = 0
          · exact absurd (by rw [e, hb0]; decide) hp0
          · omega
        · rw [r1]; rfl
end
theorem b_stroke (p1 p2 p3 : Int32) : (∃ w st s, w < 8 ∧ 1 ≤ st ∧ st ≤ 9 ∧ s < 3 ∧ p1 = nI w ∧ p2 = nI st ∧ p3 = nI s ∧ f_X11_isStroke p1 p2 p3 = some 1 ∧ f_X12_isStroke p1 p2 p3 = some 1) ∨ (f_X11_isStroke p1 p2 p3 = some 0 ∧ f_X12_isStroke p1 p2 p3 = some 0) := by
  have q1 := rng (p := p1) (lo := 0) (hi := 7) (by decide) (by decide)
  have q2 := rng (p := p2) (lo := 1) (hi := 9) (by decide) (by decide)
  have q3 := rng (p := p3) (lo := 0) (hi := 2) (by decide) (by decide)
  have i01 : isb 0 = true := by decide
  have i11 : isb 1 = true := by decide
  have n10 : ¬ (1 : Int32) = 0 := by decide
  unfold f_X11_isStroke f_X11_isDirection f_X12_isStroke
  simp only [jn]
  rw [show (0 : Int32) = nI 0 from rfl, show (7 : Int32) = nI 7 from rfl, show (9 : Int32) = nI 9 from rfl, show (2 : Int32) = nI 2 from rfl, show (0 : Int64) = lN 0 from rfl, show (7 : Int64) = lN 7 from rfl, show (1 : Int64) = lN 1 from rfl, show (9 : Int64) = lN 9 from rfl, show (2 : Int64) = lN 2 from rfl]
  rw [show nI 1 = (1 : Int32) from rfl] at q2
  rcases q1 with ⟨w, -, hw, e1, a1, a2⟩ | ⟨a1, a2, -⟩
  · rw [a1, a2]
    rcases q2 with ⟨st, hs1, hs, e2, b1, b2⟩ | ⟨b1, b2, -⟩
    · rw [b1, b2]
      rcases q3 with ⟨s, -, hs3, e3, c1, c2⟩ | ⟨c1, c2, -⟩
      · rw [c1, c2]
        exact Or.inl ⟨w, st, s, by omega, hs1, hs, by omega, e1, e2, e3, rfl, rfl⟩
      · rw [c1, c2]
        exact Or.inr ⟨rfl, rfl⟩
    · rw [b1, b2]
      exact Or.inr ⟨rfl, rfl⟩
  · rw [a1, a2]
    exact Or.inr ⟨rfl, rfl⟩
