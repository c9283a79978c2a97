section
variable {t : Nat} {tk : Int64} {sz sq : Int32} {c k w : Nat → Int32} {mb mq : Int32} {mk mw mc : Nat → Int32}
theorem wantedC_ok {bl sp : Nat} {kd wd : Nat → Nat} {kv wv : Nat → Int32} (hF : TF bl sp kd wd kv wv) {tk : Int64} {c : Nat → Int32} (hT : TW bl tk c) {N Q : Nat} (hN : N = 72) (hQ : Q = 45) {n : Nat} (hn : 1000 ≤ n) {b : Nat} (hb : b ≤ bl) {m0 b0 p0 br0 h0 hp0 fo0 sz sq : Int32} {t0 : Int64} {v1 v2 v3 : Nat → Int32} :
    ∃ r, f_X11_wantedCells n tk (nI bl) (nI sp) c kv wv m0 b0 p0 br0 h0 hp0 fo0 t0 sz sq v1 v2 v3 (nI b) = some r ∧ r.1 = (if b = 0 ∨ c b = -1 then 0 else wbP kd bl c b N Q) := by
  have hb7 : b < 7 := by have := hF.2.1; omega
  unfold f_X11_wantedCells
  simp only [jn, if_true, one_ne, if_false]
  by_cases hb0 : b = 0
  · rw [if_pos ((nI_is0 hb7).mpr hb0), if_pos (Or.inl hb0)]
    exact ⟨_, rfl, rfl⟩
  · rw [if_neg (fun z => hb0 ((nI_is0 hb7).mp z)), (t_cell c hb7).1, Option.bind_some]
    by_cases hc : c b = -1
    · rw [if_pos hc, if_pos (Or.inr hc)]
      exact ⟨_, rfl, rfl⟩
    · rw [if_neg hc, if_neg (fun z => z.elim hb0 hc)]
      refine bind_r (cells_ok hF hT hN hn hQ hb) (fun r hr => ?_)
      exact ⟨_, rfl, hr⟩
theorem m_wanted {n : Nat} (hn : 1000 ≤ n) (ht : t < 1000) (hT : TbR t tk sz sq c k w mb mq mk mw mc) (hK : KW k w) {x1 x2 x3 x4 x5 x6 x7 x8 x9 : Int32} {t0 : Int64} {v1 v2 v3 mo : Nat → Int32} {a1 a2 a3 a4 a5 a6 a7 a8 : Int32} (p : Int32) :
    Two (f_X11_wanted n (nI t) tk sz sq c k w x1 x2 x3 x4 x5 x6 x7 t0 x8 x9 v1 v2 v3 p) (f_X12_wanted n mb mq a1 a2 a3 a4 a5 a6 a7 a8 mk mw mc mo p) (fun r r' => r.1 = r'.1) := by
  unfold f_X11_wanted f_X12_wanted
  rcases b_obj ht hT p with ⟨bl, sp, b, h0, h1, hb1, hb, rfl, r1, r2⟩ | ⟨r1, r2⟩
  · rw [r1, r2, Option.bind_some, Option.bind_some]
    obtain ⟨g1, g2, g3, g4, rfl, rfl, rfl, rfl, g9, g10, g11⟩ := id h1
    have hF := TF_of hK g1 g2 g3 g4
    have hb7 : b < 7 := by omega
    simp only [jn, gd, inb_nI hb7 (by decide), if_true, nI_clamp (show b < 2 ^ 31 by omega), g11 b hb, one_ne, if_false, (t_cell c hb7).1, Option.bind_some]
    by_cases hc : c b = -1
    · rw [if_pos hc, if_pos hc]
      exact ⟨_, _, rfl, rfl, rfl⟩
    · rw [if_neg hc, if_neg hc]
      obtain ⟨N, hN⟩ : ∃ N : Nat, N = 72 := ⟨_, rfl⟩
      obtain ⟨Q, hQ⟩ : ∃ Q : Nat, Q = 45 := ⟨_, rfl⟩
      obtain ⟨r, e, hr⟩ := wantedC_ok (n := n) (m0 := x1) (b0 := x2) (p0 := x3) (br0 := x4) (h0 := x5) (hp0 := x6) (fo0 := x7) (sz := x8) (sq := x9) (t0 := t0) (v1 := v1) (v2 := v2) (v3 := v3) hF g9 hN hQ hn hb
      obtain ⟨r', e', hr'⟩ := wantedOf_ok (n := n) (mo := mo) (a1 := a1) (a2 := a2) (a3 := a3) (a4 := a4) (a5 := a5) (a6 := a6) (a7 := a7) (a8 := a8) hF g9 hN hn hQ hb g10 g11
      rw [if_neg (fun z => z.elim (by omega) hc)] at hr
      rw [e, e', Option.bind_some, Option.bind_some]
      exact ⟨_, _, rfl, rfl, hr.trans hr'.symm⟩
  · rw [r1, r2]
    exact ⟨_, _, rfl, rfl, rfl⟩
theorem m_frames {n : Nat} (hn : 1000 ≤ n) (ht : t < 1000) (hT : TbR t tk sz sq c k w mb mq mk mw mc) (hK : KW k w) {x1 x2 x3 x4 x5 x6 x7 x8 x9 : Int32} {t0 : Int64} {v1 v2 v3 mo : Nat → Int32} {a1 a2 a3 a4 a5 a6 a7 a8 a9 : Int32} (p1 p2 p3 : Int32) :
    Two (f_X11_frames n (nI t) tk sz sq c k w x1 x2 x3 x4 x5 x6 x7 t0 x8 x9 v1 v2 v3 p1 p2 p3) (f_X12_frames n mb mq a1 a2 a3 a4 a5 a6 a7 a8 a9 mk mw mc mo p1 p2 p3) (fun r r' => r.1 = r'.1) := by
  rcases rngL (p := p1) (lo := 1) (hi := 60) (l := 1) (h := 60) (l' := 1) (h' := 60) rfl rfl rfl rfl (by decide) (by decide) with ⟨j, hj1, hj, rfl, u1, u2⟩ | ⟨u1, u2, -⟩
  · by_cases h2 : p2 < 0
    · unfold f_X11_frames f_X12_frames
      rw [u1, u2, Option.bind_some, Option.bind_some, if_neg n10, if_neg n10, if_pos h2, if_pos h2]
      exact ⟨_, _, rfl, rfl, rfl⟩
    · rcases rngL (p := p3) (lo := 0) (hi := 2) (l := 0) (h := 2) (l' := 0) (h' := 2) rfl rfl rfl rfl (by decide) (by decide) with ⟨j3, -, -, -, s1, s2⟩ | ⟨s1, s2, -⟩
      · rcases hT with ⟨rfl, h⟩ | ⟨h0, bl, sp, h⟩
        · unfold f_X11_frames f_X12_frames
          rw [u1, u2, Option.bind_some, Option.bind_some, if_neg n10, if_neg n10, if_neg h2, if_neg h2, s1, s2, Option.bind_some, Option.bind_some, if_neg n10, if_neg n10, has_0, h.2.2.1, lk_0]
          exact ⟨_, _, rfl, rfl, rfl⟩
        · obtain ⟨g1, g2, g3, g4, rfl, rfl, rfl, rfl, g9, g10, g11⟩ := id h
          have hF := TF_of hK g1 g2 g3 g4
          exact two_i (framesC_ok hF g9 hn hj u1 h2 s1 (has_1 h0 ht)) (framesM_ok hF g9 hn hj g10 g11 u2 h2 s2) (fun r r' e e' => e.trans e'.symm)
      · unfold f_X11_frames f_X12_frames
        rw [u1, u2, Option.bind_some, Option.bind_some, if_neg n10, if_neg n10, if_neg h2, if_neg h2, s1, s2]
        exact ⟨_, _, rfl, rfl, rfl⟩
  · unfold f_X11_frames f_X12_frames
    rw [u1, u2]
    exact ⟨_, _, rfl, rfl, rfl⟩
theorem m_ball {n : Nat} (hn : 1000 ≤ n) (ht : t < 1000) (hT : TbR t tk sz sq c k w mb mq mk mw mc) (hK : KW k w) {sn mn : Int32} {sb sd se sf ms : Nat → Int32} (hS : SnR sn sb sd se sf mn ms) {x1 x2 x3 x4 x5 x6 x7 x8 x9 : Int32} {t0 : Int64} {v1 v2 v3 un mo mbh : Nat → Int32} {a1 a2 a3 a4 a5 a6 a7 a8 : Int32} (p p2 : Int32) :
    Two (f_X11_ball n (nI t) sn tk sz sq c k w sb sd se sf x1 x2 x3 x4 x5 x6 x7 t0 x8 x9 v1 v2 v3 un p p2) (f_X12_ball n mb mq a1 a2 a3 a4 a5 a6 a7 a8 mn mk mw mc mo ms mbh p p2) (fun r r' => r.1 = r'.1 ∧ r'.2.2.2.2.2.2.2.2.2.1 = mk) := by
  unfold f_X11_ball f_X12_ball
  rcases b_ball ht hT p with ⟨bl, sp, b, h0, h1, hb, rfl, r1, r2⟩ | ⟨r1, r2⟩
  · rw [r1, r2, Option.bind_some, Option.bind_some, if_neg n10, if_neg n10]
    obtain ⟨g1, g2, g3, g4, rfl, rfl, rfl, rfl, g9, g10, g11⟩ := id h1
    have hF := TF_of hK g1 g2 g3 g4
    have hb7 : b < 7 := by omega
    obtain ⟨q, rfl, rfl, hq⟩ := hS
    unfold f_X12_tellBall
    rcases rngL (p := p2) (lo := 0) (hi := 5) (l := 0) (h := 5) (l' := 0) (h' := 5) rfl rfl rfl rfl (by decide) (by decide) with ⟨j, -, hj, rfl, u1, -⟩ | ⟨u1, -, hno⟩
    · rw [u1, Option.bind_some, if_neg n10]
      have hj' : j = 0 ∨ j = 1 ∨ j = 2 ∨ j = 3 ∨ j = 4 ∨ j = 5 := by omega
      rcases hj' with rfl | rfl | rfl | rfl | rfl | rfl
      · simp only [eq_true (show nI 0 = 0 by decide), if_true, if_false, gd, inb_nI hb7 (by decide), nI_clamp (show b < 2 ^ 31 by omega), (t_cell c hb7).1, (t_cell k hb7).2.1, (t_cell w hb7).2.2, Option.bind_some]
        exact ⟨_, _, rfl, rfl, (g10 b hb).1.symm, rfl⟩
      · simp only [eq_false (show ¬ nI 1 = 0 by decide), eq_true (show nI 1 = 1 by decide), if_true, if_false, gd, inb_nI hb7 (by decide), nI_clamp (show b < 2 ^ 31 by omega), (t_cell c hb7).1, (t_cell k hb7).2.1, (t_cell w hb7).2.2, Option.bind_some]
        exact ⟨_, _, rfl, rfl, (g10 b hb).2.symm, rfl⟩
      · simp only [eq_false (show ¬ nI 2 = 0 by decide), eq_false (show ¬ nI 2 = 1 by decide), eq_true (show nI 2 = 2 by decide), if_true, if_false, gd, inb_nI hb7 (by decide), nI_clamp (show b < 2 ^ 31 by omega), (t_cell c hb7).1, (t_cell k hb7).2.1, (t_cell w hb7).2.2, Option.bind_some]
        exact ⟨_, _, rfl, rfl, (g11 b hb).symm, rfl⟩
      · simp only [eq_false (show ¬ nI 3 = 0 by decide), eq_false (show ¬ nI 3 = 1 by decide), eq_false (show ¬ nI 3 = 2 by decide), eq_true (show nI 3 = 3 by decide), if_true, if_false]
        by_cases hb0 : b = 0
        · rw [if_pos ((nI_is0 hb7).mpr hb0), if_pos ((nI_is0 hb7).mpr hb0)]
          exact ⟨_, _, rfl, rfl, rfl, rfl⟩
        · rw [if_neg (fun z => hb0 ((nI_is0 hb7).mp z)), if_neg (fun z => hb0 ((nI_is0 hb7).mp z))]
          obtain ⟨r, e, hr⟩ := possible_ok (n := n) (m0 := x1) (b0 := x2) (p0 := x3) (br0 := x4) (h0 := x5) (hp0 := x6) (fo0 := x7) (sz := x8) (sq := x9) (t0 := t0) (v1 := v1) (v2 := v2) (v3 := v3) (sz1 := nI bl) hF g9 hn hb hq
          obtain ⟨r', e', hr'⟩ := kindsOf_ok (n := n) (mo := mo) (a1 := a1) (a2 := a2) (a3 := a3) (a4 := a4) (a5 := a5) (a6 := a6) (a7 := a7) (a8 := a8) hF g9 hn hb hq g10 g11
          rw [e, e']
          exact ⟨_, _, rfl, rfl, hr.trans hr'.1.symm, hr'.2⟩
      · simp only [eq_false (show ¬ nI 4 = 0 by decide), eq_false (show ¬ nI 4 = 1 by decide), eq_false (show ¬ nI 4 = 2 by decide), eq_false (show ¬ nI 4 = 3 by decide), eq_true (show nI 4 = 4 by decide), if_true, if_false]
        by_cases hb0 : b = 0
        · rw [if_pos ((nI_is0 hb7).mpr hb0), if_pos ((nI_is0 hb7).mpr hb0)]
          exact ⟨_, _, rfl, rfl, rfl, rfl⟩
        · rw [if_neg (fun z => hb0 ((nI_is0 hb7).mp z)), if_neg (fun z => hb0 ((nI_is0 hb7).mp z))]
          obtain ⟨M, hM⟩ : ∃ M : Nat, M = 8 := ⟨_, rfl⟩
          obtain ⟨r, e, hr⟩ := telling_ok (n := n) (m0 := x1) (b0 := x2) (p0 := x3) (br0 := x4) (h0 := x5) (hp0 := x6) (fo0 := x7) (sz := x8) (sq := x9) (t0 := t0) (v1 := v1) (v2 := v2) (v3 := v3) (un := un) (sz1 := nI bl) hF g9 hn hM hb hq
          obtain ⟨r', e', hr'⟩ := tryOf_ok (n := n) (mo := mo) (mb := mbh) (a1 := a1) (a2 := a2) (a3 := a3) (a4 := a4) (a5 := a5) (a6 := a6) (a7 := a7) (a8 := a8) hF g9 hn hM hb hq g10 g11
          rw [e, e']
          exact ⟨_, _, rfl, rfl, hr.trans hr'.1.symm, hr'.2⟩
      · simp only [eq_false (show ¬ nI 5 = 0 by decide), eq_false (show ¬ nI 5 = 1 by decide), eq_false (show ¬ nI 5 = 2 by decide), eq_false (show ¬ nI 5 = 3 by decide), eq_false (show ¬ nI 5 = 4 by decide), eq_true (show nI 5 = 5 by decide), if_true, if_false, jn, gd, inb_nI hb7 (by decide), nI_clamp (show b < 2 ^ 31 by omega), g11 b hb]
        obtain ⟨N, hN⟩ : ∃ N : Nat, N = 72 := ⟨_, rfl⟩
        obtain ⟨Q, hQ⟩ : ∃ Q : Nat, Q = 45 := ⟨_, rfl⟩
        obtain ⟨r, e, hr⟩ := wantedC_ok (n := n) (m0 := x1) (b0 := x2) (p0 := x3) (br0 := x4) (h0 := x5) (hp0 := x6) (fo0 := x7) (sz := x8) (sq := x9) (t0 := t0) (v1 := v1) (v2 := v2) (v3 := v3) hF g9 hN hQ hn hb
        rw [e, Option.bind_some]
        have hb00 : f_J13_bitCount_95d88 0 = some 0 := by decide
        by_cases hb0 : b = 0
        · rw [if_pos (Or.inl hb0)] at hr
          rw [if_pos ((nI_is0 hb7).mpr hb0), hr, hb00]
          exact ⟨_, _, rfl, rfl, rfl, rfl⟩
        · rw [if_neg (fun z => hb0 ((nI_is0 hb7).mp z))]
          by_cases hc : c b = -1
          · rw [if_pos (Or.inr hc)] at hr
            rw [if_pos hc, hr, hb00]
            exact ⟨_, _, rfl, rfl, rfl, rfl⟩
          · rw [if_neg (fun z => z.elim hb0 hc)] at hr
            rw [if_neg hc, hr]
            obtain ⟨X, hX, eX⟩ := wb_nat (kd := clN k) (bl := bl) (c := c) (b := b) (N := N) Q (by omega)
            have hX' : X < 2 ^ 45 := by rw [hQ] at hX; exact hX
            obtain ⟨r', e', hr'⟩ := wantedMany_ok (n := n) (mo := mo) (a1 := a1) (a2 := a2) (a3 := a3) (a4 := a4) (a5 := a5) (a6 := a6) (a7 := a7) (a8 := a8) hF g9 hN hn hQ hb g10 g11 hX' eX
            rw [eX, bitCount_ok hX', e']
            exact ⟨_, _, rfl, rfl, hr'.symm, rfl⟩
    · have hne : ∀ m, m < 6 → ¬ p2 = nI m := fun m hm z => hno ⟨m, by omega, by omega, z⟩
      rw [u1, Option.bind_some, if_pos rfl]
      simp only [eq_false (show ¬ p2 = 0 from hne 0 (by decide)), eq_false (show ¬ p2 = 1 from hne 1 (by decide)), eq_false (show ¬ p2 = 2 from hne 2 (by decide)), eq_false (show ¬ p2 = 3 from hne 3 (by decide)), eq_false (show ¬ p2 = 4 from hne 4 (by decide)), eq_false (show ¬ p2 = 5 from hne 5 (by decide)), if_false]
      exact ⟨_, _, rfl, rfl, rfl, rfl⟩
  · rw [r1, r2]
    exact ⟨_, _, rfl, rfl, rfl, rfl⟩
end
