/-! the calls that play strokes -/
theorem n10 : ¬ (1 : Int32) = 0 := by decide
section
variable {t : Nat} {tk : Int64} {sz sq : Int32} {c k w : Nat → Int32} {mb mq : Int32} {mk mw mc : Nat → Int32}
theorem m_stroke {n : Nat} (hn : 1000 ≤ n) (ht : t < 1000) (hT : TbR t tk sz sq c k w mb mq mk mw mc) (hK : KW k w) {sc st fo : Int32} {x1 x2 x3 x4 x5 x6 x7 x8 x9 : Int32} {t0 : Int64} {v1 v2 v3 : Nat → Int32} {a1 a2 a3 a4 a5 a6 a7 a8 : Int32} (p1 p2 p3 : Int32) :
    Two (f_X11_stroke n (nI t) sc st fo tk sz sq c k w x1 x2 x3 x4 x5 x6 x7 t0 x8 x9 v1 v2 v3 p1 p2 p3) (f_X12_stroke n mb mq sc st fo a1 a2 a3 a4 a5 a6 a7 a8 mk mw mc p1 p2 p3) (fun r r' => r.1 = r'.1 ∧ r.2.1 = r'.2.1 ∧ r.2.2.1 = r'.2.2.1 ∧ r.2.2.2.1 = r'.2.2.2.1 ∧ TbR t r.2.2.2.2.1 r.2.2.2.2.2.1 r.2.2.2.2.2.2.1 r.2.2.2.2.2.2.2.1 r.2.2.2.2.2.2.2.2.1 r.2.2.2.2.2.2.2.2.2.1 mb mq mk mw r'.2.2.2.2.2.2.2.2.2.2.2.2 ∧ KW r.2.2.2.2.2.2.2.2.1 r.2.2.2.2.2.2.2.2.2.1) := by
  unfold f_X11_stroke f_X12_stroke
  rcases b_stroke p1 p2 p3 with ⟨d, s, q, hd, hs1, hs, hq, rfl, rfl, rfl, r1, r2⟩ | ⟨r1, r2⟩
  · rw [r1, r2, Option.bind_some, Option.bind_some, if_neg n10, if_neg n10]
    have hT0 := hT
    rcases hT with ⟨rfl, h⟩ | ⟨h0, bl, sp, h⟩
    · rw [has_0, h.2.2.1, lk_0]
      exact ⟨_, _, rfl, rfl, rfl, rfl, rfl, rfl, by rw [← h.2.2.1]; exact hT0, hK⟩
    · obtain ⟨g1, g2, g3, g4, rfl, rfl, rfl, rfl, g9, g10, g11⟩ := id h
      have hF := TF_of hK g1 g2 g3 g4
      rw [has_1 h0 ht, lk_1 g1 g2, Option.bind_some, Option.bind_some, if_neg n10, if_pos rfl]
      simp only [f_X9_begin, f_X10_copy, Option.bind_some]
      obtain ⟨r, e, hr⟩ := shoot_r (n := n) (m0 := x1) (b0 := x2) (p0 := x3) (br0 := x4) (h0 := x5) (hp0 := x6) (fo0 := x7) hF g9 hd hs hq (by omega)
      obtain ⟨r', e', hr'⟩ := strike_r (n := n) (a1 := a1) (a2 := a2) (a3 := a3) (a4 := a4) (a5 := a5) (a6 := a6) (a7 := a7) (a8 := a8) hF g9 hd hs hq (by omega) g10 g11
      rw [e, e']
      simp only [Option.bind_some, f_X3_take, f_X10_copy, jn]
      rw [hr.2.2.2.2.1, hr'.2.2.2.2.1, hr.2.2.2.1, hr'.1]
      have hTn : TbR t r.2.2.2.2.2.2.2.1 (nI bl) (nI sp) r.2.2.2.2.2.2.2.2 k w (nI bl) (nI sp) mk mw r'.2.2.2.2.2.2.2.2.2 := Or.inr ⟨h0, bl, sp, T1_cells h (by rw [hr.2.2.2.2.2.1]; exact hr.2.2.2.2.2.2) (fun d hd => by rw [hr.2.2.2.2.2.1]; exact hr'.2.2.2.2.2 d hd)⟩
      cases sFo (clN k) bl c d s q
      · rw [if_pos b2_f, if_pos b2_f]
        exact ⟨_, _, rfl, rfl, rfl, rfl, rfl, by rw [Int32.add_zero], hTn, hK⟩
      · rw [if_neg (by rw [b2_t]; decide), if_neg (by rw [b2_t]; decide)]
        exact ⟨_, _, rfl, rfl, rfl, rfl, rfl, rfl, hTn, hK⟩
  · rw [r1, r2]
    exact ⟨_, _, rfl, rfl, rfl, rfl, rfl, rfl, hT, hK⟩
theorem t_w9 : ∀ j, j < 16 → 10 ≤ j → nI j - 9 = nI (j - 9) := by decide +kernel
theorem m_would {n : Nat} (hn : 1000 ≤ n) (ht : t < 1000) (hT : TbR t tk sz sq c k w mb mq mk mw mc) (hK : KW k w) {x1 x2 x3 x4 x5 x6 x7 x8 x9 : Int32} {t0 : Int64} {v1 v2 v3 mo : Nat → Int32} {a1 a2 a3 a4 a5 a6 a7 a8 : Int32} (p1 p2 p3 p4 : Int32) :
    Two (f_X11_would n (nI t) tk sz sq c k w x1 x2 x3 x4 x5 x6 x7 t0 x8 x9 v1 v2 v3 p1 p2 p3 p4) (f_X12_would n mb mq a1 a2 a3 a4 a5 a6 a7 a8 mk mw mc mo p1 p2 p3 p4) (fun r r' => r.1 = r'.1) := by
  unfold f_X11_would f_X12_would
  rcases b_stroke p1 p2 p3 with ⟨d, s, q, hd, hs1, hs, hq, rfl, rfl, rfl, r1, r2⟩ | ⟨r1, r2⟩
  · rw [r1, r2, Option.bind_some, Option.bind_some, if_neg n10, if_neg n10]
    simp only [jn]
    have key : (∃ j, (j ≤ 5 ∨ (10 ≤ j ∧ j ≤ 15)) ∧ p4 = nI j) → Two ((f_X11_hasTable (nI t)).bind (fun u_5 => (if u_5 = 0 then (some ((-103 : Int32), x1, x2, x3, x4, x5, x6, x7, t0, x8, x9, v1, v2, v3)) else ((f_X9_begin t0 x8 x9 v1 v2 v3 tk sz sq c k w).bind (fun u_7 => ((f_X9_shoot n x1 x2 x3 x4 x5 x6 x7 u_7.1 u_7.2.2.1 u_7.2.2.2.1 u_7.2.2.2.2.1 u_7.2.2.2.2.2 (nI d) (nI s) (nI q)).bind (fun u_8 => ((f_X9_tell u_8.1 u_8.2.1 u_8.2.2.1 u_8.2.2.2.1 u_8.2.2.2.2.2.2.1 u_8.2.2.2.2.2.2.2.2 p4).bind (fun u_9 => (some (u_9, u_8.1, u_8.2.1, u_8.2.2.1, u_8.2.2.2.1, u_8.2.2.2.2.1, u_8.2.2.2.2.2.1, u_8.2.2.2.2.2.2.1, u_8.2.2.2.2.2.2.2.1, u_7.2.1, u_7.2.2.1, u_8.2.2.2.2.2.2.2.2, u_7.2.2.2.2.1, u_7.2.2.2.2.2))))))))))) ((f_X12_lacks mb).bind (fun u_5 => (if u_5 = 0 then ((f_X12_wouldBe n mb mq a1 a2 a3 a4 a5 a6 a7 a8 mk mw mc mo (nI d) (nI s) (nI q) p4).bind (fun u_7 => (some (u_7.1, u_7.2.1, u_7.2.2.1, u_7.2.2.2.1, u_7.2.2.2.2.1, u_7.2.2.2.2.2.1, u_7.2.2.2.2.2.2.1, u_7.2.2.2.2.2.2.2.1, u_7.2.2.2.2.2.2.2.2.1, u_7.2.2.2.2.2.2.2.2.2)))) else (some ((-103 : Int32), a1, a2, a3, a4, a5, a6, a7, a8, mo))))) (fun r r' => r.1 = r'.1) := by
      rintro ⟨j, hj, rfl⟩
      rcases hT with ⟨rfl, h⟩ | ⟨h0, bl, sp, h⟩
      · rw [has_0, h.2.2.1, lk_0]
        exact ⟨_, _, rfl, rfl, rfl⟩
      · obtain ⟨g1, g2, g3, g4, rfl, rfl, rfl, rfl, g9, g10, g11⟩ := id h
        have hF := TF_of hK g1 g2 g3 g4
        rw [has_1 h0 ht, lk_1 g1 g2, Option.bind_some, Option.bind_some, if_neg n10, if_pos rfl]
        simp only [f_X9_begin, f_X10_copy, Option.bind_some]
        unfold f_X12_wouldBe
        obtain ⟨u3, e3, c3⟩ := copy_ok (N := 7) (by decide) (show 50 ≤ n by omega) mc mo
        obtain ⟨r, e, hr⟩ := shoot_r (n := n) (m0 := x1) (b0 := x2) (p0 := x3) (br0 := x4) (h0 := x5) (hp0 := x6) (fo0 := x7) hF g9 hd hs hq (by omega)
        obtain ⟨r', e', hr'⟩ := strike_r (n := n) (v := u3) (a1 := a1) (a2 := a2) (a3 := a3) (a4 := a4) (a5 := a5) (a6 := a6) (a7 := a7) (a8 := a8) hF g9 hd hs hq (by omega) g10 (fun d hd => (c3 d (by omega)).trans (g11 d hd))
        rw [e, e3, Option.bind_some, Option.bind_some, e', Option.bind_some]
        obtain ⟨z1, z2, z3, z4, z5, z6, z7⟩ := hr
        obtain ⟨y1, y2, y3, y4, y5, y6⟩ := hr'
        unfold f_X9_tell
        rw [z1, z2, z3, z4, z5, z6, y1, y2, y3, y4, y5]
        have hz0 : (0 : Int32).toNatClampNeg = 0 := rfl
        have hi0 : inb 0 7 = true := by decide
        have hc0 : f_X10_cellOf (sC (clN k) bl sp c d s q) 0 = some (sC (clN k) bl sp c d s q 0) := (t_cell _ (b := 0) (by decide)).1
        simp only [gd, hi0, if_true, hz0, y6 0 (by omega), hc0, Option.bind_some]
        have hj' : j = 0 ∨ j = 1 ∨ j = 2 ∨ j = 3 ∨ j = 4 ∨ j = 5 ∨ (10 ≤ j ∧ j ≤ 15) := by omega
        rcases hj' with rfl | rfl | rfl | rfl | rfl | rfl | hj'
        · simp only [eq_true (show nI 0 = 0 by decide), if_true, if_false, Option.bind_some]; exact ⟨_, _, rfl, rfl, rfl⟩
        · simp only [eq_false (show ¬ nI 1 = 0 by decide), eq_true (show nI 1 = 1 by decide), if_true, if_false, Option.bind_some]; exact ⟨_, _, rfl, rfl, rfl⟩
        · simp only [eq_false (show ¬ nI 2 = 0 by decide), eq_false (show ¬ nI 2 = 1 by decide), eq_true (show nI 2 = 2 by decide), if_true, if_false, Option.bind_some]; exact ⟨_, _, rfl, rfl, rfl⟩
        · simp only [eq_false (show ¬ nI 3 = 0 by decide), eq_false (show ¬ nI 3 = 1 by decide), eq_false (show ¬ nI 3 = 2 by decide), eq_true (show nI 3 = 3 by decide), if_true, if_false]
          cases sFo (clN k) bl c d s q
          · simp only [b2_f, if_true]; exact ⟨_, _, rfl, rfl, rfl⟩
          · simp only [b2_t, one_ne, if_false]; exact ⟨_, _, rfl, rfl, rfl⟩
        · simp only [eq_false (show ¬ nI 4 = 0 by decide), eq_false (show ¬ nI 4 = 1 by decide), eq_false (show ¬ nI 4 = 2 by decide), eq_false (show ¬ nI 4 = 3 by decide), eq_true (show nI 4 = 4 by decide), if_true, if_false, Option.bind_some]; exact ⟨_, _, rfl, rfl, rfl⟩
        · simp only [eq_false (show ¬ nI 5 = 0 by decide), eq_false (show ¬ nI 5 = 1 by decide), eq_false (show ¬ nI 5 = 2 by decide), eq_false (show ¬ nI 5 = 3 by decide), eq_false (show ¬ nI 5 = 4 by decide), eq_true (show nI 5 = 5 by decide), if_true, if_false, Option.bind_some]; exact ⟨_, _, rfl, rfl, rfl⟩
        · have hne : ∀ m, m < 6 → ¬ nI j = nI m := fun m hm z => by have := (nI_eq (by omega) (by omega)).mp z; omega
          simp only [eq_false (show ¬ nI j = 0 from hne 0 (by decide)), eq_false (show ¬ nI j = 1 from hne 1 (by decide)), eq_false (show ¬ nI j = 2 from hne 2 (by decide)), eq_false (show ¬ nI j = 3 from hne 3 (by decide)), eq_false (show ¬ nI j = 4 from hne 4 (by decide)), eq_false (show ¬ nI j = 5 from hne 5 (by decide)), if_false, t_w9 j (by omega) hj'.1, inb_nI (show j - 9 < 7 by omega) (by decide), if_true, nI_clamp (show j - 9 < 2 ^ 31 by omega), (t_cell (sC (clN k) bl sp c d s q) (show j - 9 < 7 by omega)).1, Option.bind_some]
          by_cases hb : bl < j - 9
          · rw [if_pos (nI_lt hb (by omega))]
            exact ⟨_, _, rfl, rfl, z7.2.1 (j - 9) hb (by omega)⟩
          · rw [if_neg (nI_nlt (by omega) (by omega))]
            exact ⟨_, _, rfl, rfl, (y6 (j - 9) (by omega)).symm⟩
    rcases rngL (p := p4) (lo := 0) (hi := 5) (l := 0) (h := 5) (l' := 0) (h' := 5) rfl rfl rfl rfl (by decide) (by decide) with ⟨j, -, hj, e, u1, u2⟩ | ⟨u1, u2, -⟩
    · rw [u1, u2, Option.bind_some, Option.bind_some, if_neg n10, if_neg n10]
      exact key ⟨j, Or.inl hj, e⟩
    · rw [u1, u2, Option.bind_some, Option.bind_some, if_pos rfl, if_pos rfl]
      rcases rngL (p := p4) (lo := 10) (hi := 15) (l := 10) (h := 15) (l' := 10) (h' := 15) rfl rfl rfl rfl (by decide) (by decide) with ⟨j, hj1, hj, e, u1, u2⟩ | ⟨u1, u2, -⟩
      · rw [u1, u2, Option.bind_some, Option.bind_some, if_neg n10, if_neg n10]
        exact key ⟨j, Or.inr ⟨hj1, hj⟩, e⟩
      · rw [u1, u2]
        exact ⟨_, _, rfl, rfl, rfl⟩
  · rw [r1, r2]
    exact ⟨_, _, rfl, rfl, rfl⟩
theorem m_best {n : Nat} (hn : 1000 ≤ n) (ht : t < 1000) (hT : TbR t tk sz sq c k w mb mq mk mw mc) (hK : KW k w) {x1 x2 x3 x4 x5 x6 x7 x8 x9 ch va : Int32} {t0 : Int64} {v1 v2 v3 mo : Nat → Int32} {a1 a2 a3 a4 a5 a6 a7 a8 a9 a10 : Int32} (p : Int32) :
    Two (f_X11_best n (nI t) tk sz sq c k w x1 x2 x3 x4 x5 x6 x7 t0 x8 x9 v1 v2 v3 ch va p) (f_X12_best n mb mq a1 a2 a3 a4 a5 a6 a7 a8 a9 a10 mk mw mc mo p) (fun r r' => r.1 = r'.1) := by
  unfold f_X11_best f_X12_best
  rcases rngL (p := p) (lo := 0) (hi := 3) (l := 0) (h := 3) (l' := 0) (h' := 3) rfl rfl rfl rfl (by decide) (by decide) with ⟨j, -, hj, e, u1, u2⟩ | ⟨u1, u2, -⟩
  · rw [u1, u2, Option.bind_some, Option.bind_some, if_neg n10, if_neg n10]
    rcases hT with ⟨rfl, h⟩ | ⟨h0, bl, sp, h⟩
    · rw [has_0, h.2.2.1, lk_0]
      exact ⟨_, _, rfl, rfl, rfl⟩
    · obtain ⟨g1, g2, g3, g4, rfl, rfl, rfl, rfl, g9, g10, g11⟩ := id h
      have hF := TF_of hK g1 g2 g3 g4
      rw [has_1 h0 ht, lk_1 g1 g2, Option.bind_some, Option.bind_some, if_neg n10, if_pos rfl]
      obtain ⟨M, hM⟩ : ∃ M : Nat, M = 216 := ⟨_, rfl⟩
      obtain ⟨r, e1, hr⟩ := chooseBest_ok (M := M) (n := n) (ch := ch) (va := va) (m0 := x1) (b0 := x2) (p0 := x3) (br0 := x4) (h0 := x5) (hp0 := x6) (fo0 := x7) (sz := x8) (sq := x9) (t0 := t0) (v1 := v1) (v2 := v2) (v3 := v3) hF g9 hM hn
      obtain ⟨r', e2, hr'⟩ := bestOf_ok (M := M) (n := n) (mo := mo) (a1 := a1) (a2 := a2) (a3 := a3) (a4 := a4) (a5 := a5) (a6 := a6) (a7 := a7) (a8 := a8) (a9 := a9) (a10 := a10) hF g9 hM hn g10 g11 p
      have e3 := tell_ok (p := p) hr
      rw [← hr'] at e3
      rw [e1, e2, Option.bind_some, Option.bind_some, e3, Option.bind_some]
      exact ⟨_, _, rfl, rfl, rfl⟩
  · rw [u1, u2]
    exact ⟨_, _, rfl, rfl, rfl⟩
def CnR (a b : Int32) : Prop := ∃ q, q ≤ 8 ∧ a = nI q ∧ b = nI q
theorem m_plan {n : Nat} (hn : 1000 ≤ n) (ht : t < 1000) (hT : TbR t tk sz sq c k w mb mq mk mw mc) (hK : KW k w) {pd mpd : Int32} (hC : CnR pd mpd) {x1 x2 x3 x4 x5 x6 x7 x8 x9 ch va z1 z2 z3 z4 z5 z6 z7 z8 z9 : Int32} {t0 t1 : Int64} {v1 v2 v3 v4 v5 v6 mo mt : Nat → Int32} {a1 a2 a3 a4 a5 a6 a7 a8 a9 a10 : Int32} (p : Int32) :
    Two (f_X11_plan n (nI t) pd tk sz sq c k w x1 x2 x3 x4 x5 x6 x7 t0 x8 x9 v1 v2 v3 ch va z1 z2 z3 z4 z5 z6 z7 t1 z8 z9 v4 v5 v6 p) (f_X12_plan n mb mq a1 a2 a3 a4 a5 a6 a7 a8 a9 a10 mpd mk mw mc mo mt p) (fun r r' => r.1 = r'.1 ∧ CnR r.2.1 r'.2.2.2.2.2.2.2.2.2.2.2.1) := by
  unfold f_X11_plan f_X12_plan
  rcases rngL (p := p) (lo := 0) (hi := 3) (l := 0) (h := 3) (l' := 0) (h' := 3) rfl rfl rfl rfl (by decide) (by decide) with ⟨j, -, hj, e, u1, u2⟩ | ⟨u1, u2, -⟩
  · rw [u1, u2, Option.bind_some, Option.bind_some, if_neg n10, if_neg n10]
    rcases hT with ⟨rfl, h⟩ | ⟨h0, bl, sp, h⟩
    · rw [has_0, h.2.2.1, lk_0]
      exact ⟨_, _, rfl, rfl, rfl, hC⟩
    · obtain ⟨g1, g2, g3, g4, rfl, rfl, rfl, rfl, g9, g10, g11⟩ := id h
      have hF := TF_of hK g1 g2 g3 g4
      rw [has_1 h0 ht, lk_1 g1 g2, Option.bind_some, Option.bind_some, if_neg n10, if_pos rfl]
      have hC0 := hC
      obtain ⟨q, hq, rfl, rfl⟩ := hC
      by_cases h8 : q = 8
      · subst h8
        rw [if_neg (show ¬ nI 8 < 8 by decide), if_pos (show nI 8 = 8 by decide)]
        exact ⟨_, _, rfl, rfl, rfl, hC0⟩
      · rw [if_pos (show nI q < 8 from nI_lt (b := 8) (by omega) (by decide)), if_neg (show ¬ nI q = 8 from fun z => h8 ((nI_eq (b := 8) (by omega) (by decide)).mp z))]
        obtain ⟨M, hM⟩ : ∃ M : Nat, M = 216 := ⟨_, rfl⟩
        obtain ⟨N, hN⟩ : ∃ N : Nat, N = 24 := ⟨_, rfl⟩
        obtain ⟨r, e1, hr⟩ := choosePlan_ok (M := M) (N := N) (n := n) (ch := ch) (va := va) (m0 := x1) (b0 := x2) (p0 := x3) (br0 := x4) (h0 := x5) (hp0 := x6) (fo0 := x7) (sz := x8) (sq := x9) (t0 := t0) (v1 := v1) (v2 := v2) (v3 := v3) (m1 := z1) (b1 := z2) (p1 := z3) (br1 := z4) (h1 := z5) (hp1 := z6) (fo1 := z7) (sz1 := z8) (sq1 := z9) (t1 := t1) (v4 := v4) (v5 := v5) (v6 := v6) hF g9 hM hN hn
        obtain ⟨r', e2, hr'⟩ := planOf_ok (M := M) (N := N) (n := n) (mo := mo) (mt := mt) (a1 := a1) (a2 := a2) (a3 := a3) (a4 := a4) (a5 := a5) (a6 := a6) (a7 := a7) (a8 := a8) (a9 := a9) (a10 := a10) hF g9 hM hN hn g10 g11 p
        have e3 := tell_ok (p := p) hr
        rw [← hr'] at e3
        rw [e1, e2, Option.bind_some, Option.bind_some, e3, Option.bind_some]
        exact ⟨_, _, rfl, rfl, rfl, q + 1, by omega, nI_1 q, nI_1 q⟩
  · rw [u1, u2]
    exact ⟨_, _, rfl, rfl, rfl, hC⟩
theorem m_safe {n : Nat} (hn : 1000 ≤ n) (ht : t < 1000) (hT : TbR t tk sz sq c k w mb mq mk mw mc) (hK : KW k w) {pd mpd : Int32} (hC : CnR pd mpd) {x1 x2 x3 x4 x5 x6 x7 x8 x9 ch va z1 z2 z3 z4 z5 z6 z7 z8 z9 : Int32} {t0 t1 : Int64} {v1 v2 v3 v4 v5 v6 mo mt : Nat → Int32} {a1 a2 a3 a4 a5 a6 a7 a8 a9 a10 : Int32} (p : Int32) :
    Two (f_X11_safe n (nI t) pd tk sz sq c k w x1 x2 x3 x4 x5 x6 x7 t0 x8 x9 v1 v2 v3 ch va z1 z2 z3 z4 z5 z6 z7 t1 z8 z9 v4 v5 v6 p) (f_X12_safe n mb mq a1 a2 a3 a4 a5 a6 a7 a8 a9 a10 mpd mk mw mc mo mt p) (fun r r' => r.1 = r'.1 ∧ CnR r.2.1 r'.2.2.2.2.2.2.2.2.2.2.2.1) := by
  unfold f_X11_safe f_X12_safe
  rcases rngL (p := p) (lo := 0) (hi := 3) (l := 0) (h := 3) (l' := 0) (h' := 3) rfl rfl rfl rfl (by decide) (by decide) with ⟨j, -, hj, e, u1, u2⟩ | ⟨u1, u2, -⟩
  · rw [u1, u2, Option.bind_some, Option.bind_some, if_neg n10, if_neg n10]
    rcases hT with ⟨rfl, h⟩ | ⟨h0, bl, sp, h⟩
    · rw [has_0, h.2.2.1, lk_0]
      exact ⟨_, _, rfl, rfl, rfl, hC⟩
    · obtain ⟨g1, g2, g3, g4, rfl, rfl, rfl, rfl, g9, g10, g11⟩ := id h
      have hF := TF_of hK g1 g2 g3 g4
      rw [has_1 h0 ht, lk_1 g1 g2, Option.bind_some, Option.bind_some, if_neg n10, if_pos rfl]
      have hC0 := hC
      obtain ⟨q, hq, rfl, rfl⟩ := hC
      by_cases h8 : q = 8
      · subst h8
        rw [if_neg (show ¬ nI 8 < 8 by decide), if_pos (show nI 8 = 8 by decide)]
        exact ⟨_, _, rfl, rfl, rfl, hC0⟩
      · rw [if_pos (show nI q < 8 from nI_lt (b := 8) (by omega) (by decide)), if_neg (show ¬ nI q = 8 from fun z => h8 ((nI_eq (b := 8) (by omega) (by decide)).mp z))]
        obtain ⟨M, hM⟩ : ∃ M : Nat, M = 216 := ⟨_, rfl⟩
        obtain ⟨N, hN⟩ : ∃ N : Nat, N = 24 := ⟨_, rfl⟩
        obtain ⟨r, e1, hr⟩ := chooseSafe_ok (M := M) (N := N) (n := n) (ch := ch) (va := va) (m0 := x1) (b0 := x2) (p0 := x3) (br0 := x4) (h0 := x5) (hp0 := x6) (fo0 := x7) (sz := x8) (sq := x9) (t0 := t0) (v1 := v1) (v2 := v2) (v3 := v3) (m1 := z1) (b1 := z2) (p1 := z3) (br1 := z4) (h1 := z5) (hp1 := z6) (fo1 := z7) (sz1 := z8) (sq1 := z9) (t1 := t1) (v4 := v4) (v5 := v5) (v6 := v6) hF g9 hM hN hn
        obtain ⟨r', e2, hr'⟩ := safeOf_ok (M := M) (N := N) (n := n) (mo := mo) (mt := mt) (a1 := a1) (a2 := a2) (a3 := a3) (a4 := a4) (a5 := a5) (a6 := a6) (a7 := a7) (a8 := a8) (a9 := a9) (a10 := a10) hF g9 hM hN hn g10 g11 p
        have e3 := tell_ok (p := p) hr
        rw [← hr'] at e3
        rw [e1, e2, Option.bind_some, Option.bind_some, e3, Option.bind_some]
        exact ⟨_, _, rfl, rfl, rfl, q + 1, by omega, nI_1 q, nI_1 q⟩
  · rw [u1, u2]
    exact ⟨_, _, rfl, rfl, rfl, hC⟩
end
