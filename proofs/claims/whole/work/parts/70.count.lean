section
variable {t : Nat} {tk : Int64} {sz sq : Int32} {c k w : Nat → Int32} {mb mq : Int32} {mk mw mc : Nat → Int32}
theorem tb_low (hT : TbR t tk sz sq c k w mb mq mk mw mc) : sz = mb ∧ sq = mq ∧ ∃ bl, bl ≤ 6 ∧ mb = nI bl ∧ (∀ d, bl < d → d < 7 → c d = -1) ∧ (∀ d, 1 ≤ d → d ≤ bl → mc d = c d) ∧ (∀ d, 1 ≤ d → d ≤ bl → mw d = w d) := by
  rcases hT with ⟨-, h⟩ | ⟨-, bl, sp, h⟩
  · obtain ⟨rfl, rfl, rfl, rfl, h5, h6⟩ := h
    exact ⟨rfl, rfl, 0, by omega, rfl, fun d _ hd => h5 d hd, fun d h1 h2 => by omega, fun d h1 h2 => by omega⟩
  · obtain ⟨g1, g2, g3, g4, rfl, rfl, rfl, rfl, g9, g10, g11⟩ := h
    exact ⟨rfl, rfl, bl, g2, rfl, g9.2.1, fun d _ hd => g11 d hd, fun d _ hd => (g10 d hd).2⟩
theorem cnt_both {n : Nat} (hn : 1000 ≤ n) (ht : t < 1000) (hT : TbR t tk sz sq c k w mb mq mk mw mc) (hK : KW k w) {pd sd ps sn sc st fo : Int32} (p : Int32) :
    ∃ y, f_X11_count n (nI t) pd sd ps sn sc st fo tk sz sq c w p = some y ∧ f_X12_countOf n ps mb mq sc st fo (nI t) pd sd sn mw mc p = some y := by
  have hT0 := hT
  obtain ⟨e1, e2, bl, h6, e3, hoff, hv, hw⟩ := tb_low hT
  have hwd : ∀ d, d < 7 → w d = nI (clN w d) := fun d hd => by
    obtain ⟨j, hj, e⟩ := hK.2.1 d hd
    rw [clN, e, nI_clamp (by omega)]
  unfold f_X11_count f_X12_countOf
  by_cases h0 : p = 0
  · rw [if_pos h0, if_pos h0]
    exact ⟨_, rfl, by rw [e1]⟩
  rw [if_neg h0, if_neg h0]
  by_cases h1 : p = 1
  · rw [if_pos h1, if_pos h1]
    obtain ⟨r, e, hr⟩ := lying_ok h6 hoff hn
    obtain ⟨r', e', hr'⟩ := onTable_ok h6 hv hn
    rw [e3, e, e', hr, hr']
    exact ⟨_, rfl, rfl⟩
  rw [if_neg h1, if_neg h1]
  by_cases h2 : p = 2
  · rw [if_pos h2, if_pos h2]
    obtain ⟨r, e, hr⟩ := worthLying_ok h6 hoff hwd hn
    obtain ⟨r', e', hr'⟩ := worthAll_ok (wd := clN w) h6 hv (fun d h1 h2 => (hw d h1 h2).trans (hwd d (by omega))) hn
    rw [e3, e, e', hr, hr']
    exact ⟨_, rfl, rfl⟩
  rw [if_neg h2, if_neg h2]
  by_cases h3 : p = 3
  · rw [if_pos h3, if_pos h3]
    exact ⟨_, rfl, rfl⟩
  rw [if_neg h3, if_neg h3]
  by_cases h4 : p = 4
  · rw [if_pos h4, if_pos h4]
    exact ⟨_, rfl, rfl⟩
  rw [if_neg h4, if_neg h4]
  by_cases h5 : p = 5
  · rw [if_pos h5, if_pos h5]
    exact ⟨_, rfl, rfl⟩
  rw [if_neg h5, if_neg h5]
  by_cases h6 : p = 6
  · rw [if_pos h6, if_pos h6]
    rcases hT with ⟨rfl, h⟩ | ⟨h0, bl, sp, h⟩
    · rw [h.2.2.1]
      obtain ⟨n, rfl⟩ : ∃ n', n = n' + 1 := ⟨n - 1, by omega⟩
      have a1 : f_X11_ballsInSight (n + 1) (nI 0) tk c = some 0 := by
        unfold f_X11_ballsInSight f_X11_ballsInSight_L4
        rw [lpF]
        dsimp only
        unfold b_X11_ballsInSight_L4
        rw [if_neg (by decide), has_0]
        rfl
      have a2 : f_X12_seenByWhite (n + 1) 0 mc = some 0 := by
        unfold f_X12_seenByWhite f_X12_seenByWhite_L6
        rw [lpF]
        dsimp only
        unfold b_X12_seenByWhite_L6
        rw [if_neg (by decide), lk_0]
        rfl
      rw [a1, a2]
      exact ⟨_, rfl, rfl⟩
    · obtain ⟨g1, g2, g3, g4, rfl, rfl, rfl, rfl, g9, g10, g11⟩ := id h
      obtain ⟨M, hM⟩ : ∃ M : Nat, M = 9 := ⟨_, rfl⟩
      obtain ⟨N, hN⟩ : ∃ N : Nat, N = 8 := ⟨_, rfl⟩
      obtain ⟨r, e, hr⟩ := inSight_ok g2 g9 hn hM hN (has_1 h0 ht)
      obtain ⟨r', e', hr'⟩ := byWhite_ok g1 g2 g9 hn hM hN g11
      rw [e, e', hr, hr']
      exact ⟨_, rfl, rfl⟩
  rw [if_neg h6, if_neg h6]
  by_cases h7 : p = 7
  · rw [if_pos h7, if_pos h7]
    have hz0 : (0 : Int32).toNatClampNeg = 0 := rfl
    have hi0 : inb 0 7 = true := by decide
    simp only [gd, hi0, if_true, hz0]
    rcases hT with ⟨rfl, h⟩ | ⟨h0, bl, sp, h⟩
    · rw [has_0, h.2.2.2.2.2]
      exact ⟨_, rfl, rfl⟩
    · obtain ⟨g1, g2, g3, g4, rfl, rfl, rfl, rfl, g9, g10, g11⟩ := id h
      have hc0 : f_X10_cellOf c 0 = some (c 0) := (t_cell c (b := 0) (by decide)).1
      rw [has_1 h0 ht, hc0, g11 0 (by omega)]
      exact ⟨_, rfl, rfl⟩
  rw [if_neg h7, if_neg h7]
  by_cases h8 : p = 8
  · rw [if_pos h8, if_pos h8]
    exact ⟨_, rfl, by rw [e2]⟩
  rw [if_neg h8, if_neg h8]
  by_cases h9 : p = 9
  · rw [if_pos h9]
    exact ⟨_, rfl, rfl⟩
  rw [if_neg h9]
  by_cases h10 : p = 10
  · rw [if_pos h10]
    exact ⟨_, rfl, rfl⟩
  rw [if_neg h10]
  by_cases h11 : p = 11
  · rw [if_pos h11]
    exact ⟨_, rfl, rfl⟩
  rw [if_neg h11]
  by_cases h12 : p = 12
  · rw [if_pos h12]
    exact ⟨_, rfl, rfl⟩
  rw [if_neg h12]
  by_cases h13 : p = 13
  · rw [if_pos h13]
    exact ⟨_, rfl, rfl⟩
  rw [if_neg h13]
  exact ⟨_, rfl, rfl⟩
theorem m_count {n : Nat} (hn : 1000 ≤ n) (ht : t < 1000) (hT : TbR t tk sz sq c k w mb mq mk mw mc) (hK : KW k w) {ps pm : Int32} {pl mP : Nat → Int32} (hPg : PgR ps pl pm mP) {pd mpd sd msd : Int32} (hC1 : CnR pd mpd) (hC2 : CnR sd msd) {sn mn sc st fo : Int32} {sb sdd se sf ms : Nat → Int32} (hS : SnR sn sb sdd se sf mn ms) (p : Int32) :
    Two (f_X11_count n (nI t) pd sd ps sn sc st fo tk sz sq c w p) (f_X12_count n pm mb mq sc st fo (nI t) mpd msd mn mw mc p) (fun r r' => r = r') := by
  obtain ⟨z, A, hz, rfl, rfl, -⟩ := hPg
  obtain ⟨q1, -, rfl, rfl⟩ := hC1
  obtain ⟨q2, -, rfl, rfl⟩ := hC2
  obtain ⟨q3, rfl, rfl, -⟩ := hS
  obtain ⟨y, e, e'⟩ := cnt_both hn ht hT hK (pd := nI q1) (sd := nI q2) (ps := nI z) (sn := nI q3) (sc := sc) (st := st) (fo := fo) p
  unfold f_X12_count
  rw [e, e']
  exact ⟨_, _, rfl, rfl, rfl⟩
end
