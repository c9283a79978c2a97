/-! the calls, one by one: small ones -/
def Two {α β : Type} (o : Option α) (o' : Option β) (Q : α → β → Prop) : Prop := ∃ r r', o = some r ∧ o' = some r' ∧ Q r r'
theorem two_i {α β : Type} {o : Option α} {o' : Option β} {Q : α → β → Prop} {P : α → Prop} {P' : β → Prop} (h : ∃ r, o = some r ∧ P r) (h' : ∃ r, o' = some r ∧ P' r) (k : ∀ r r', P r → P' r' → Q r r') : Two o o' Q := by
  obtain ⟨r, e, hp⟩ := h
  obtain ⟨r', e', hp'⟩ := h'
  exact ⟨r, r', e, e', k r r' hp hp'⟩
def PgR (ps : Int32) (pl : Nat → Int32) (pm : Int32) (mP : Nat → Int32) : Prop := ∃ z A, z ≤ 34 ∧ ps = nI z ∧ pm = nI z ∧ LtR A pl ∧ LtR A mP
theorem LtR_upd {A : Nat → Nat} {v : Nat → Int32} (h : LtR A v) {z j : Nat} (hj : j < 127) : LtR (updN A z j) (upd v z (nI j)) := by
  intro i hi
  by_cases e : i = z
  · rw [e, upd_s]; simp [updN, hj]
  · rw [upd_n e]; simp only [updN, e, if_false]; exact h i hi
theorem m_letter {ps pm : Int32} {pl mP : Nat → Int32} (h : PgR ps pl pm mP) (p : Int32) : Two (f_X11_letter ps pl p) (f_X12_letter pm mP p) (fun r r' => r.1 = r'.1 ∧ PgR r.2.1 r.2.2 r'.2.1 r'.2.2) := by
  have h0 := h
  obtain ⟨z, A, hz, rfl, rfl, hL, hL'⟩ := h
  unfold f_X11_letter f_X12_letter
  rw [show (1 : Int32) = nI 1 from rfl, show (126 : Int32) = nI 126 from rfl, show (1 : Int64) = lN 1 from rfl, show (126 : Int64) = lN 126 from rfl]
  rcases rng (p := p) (lo := 1) (hi := 126) (by decide) (by decide) with ⟨j, hj1, hj, rfl, r1, r2⟩ | ⟨r1, r2, -⟩
  · rw [r1, r2, Option.bind_some, Option.bind_some, if_neg (by decide), if_neg (by decide)]
    unfold f_X7_isFull
    by_cases h34 : z = 34
    · subst h34
      rw [if_neg (show ¬ nI 34 < 34 by decide), if_pos (show nI 34 = 34 by decide), Option.bind_some, if_neg (by decide)]
      exact ⟨_, _, rfl, rfl, rfl, h0⟩
    · rw [if_pos (show nI z < 34 from nI_lt (b := 34) (by omega) (by decide)), if_neg (fun e => h34 ((nI_eq (by omega) (by decide)).mp (e.trans (show (34 : Int32) = nI 34 by decide)))), Option.bind_some, if_pos rfl]
      unfold f_X7_append f_X7_isFull
      rw [if_pos (show nI z < 34 from nI_lt (b := 34) (by omega) (by decide)), Option.bind_some, if_pos rfl]
      simp only [gd, inb_nI (show z < 34 by omega) (by decide), if_true, Option.bind_some, nI_clamp (show z < 2 ^ 31 by omega), show nI z + nI 1 = nI (z + 1) from nI_add z 1, nI_1]
      exact ⟨_, _, rfl, rfl, rfl, z + 1, updN A z j, by omega, rfl, rfl, LtR_upd hL (by omega), LtR_upd hL' (by omega)⟩
  · rw [r1, r2, Option.bind_some, Option.bind_some, if_pos rfl, if_pos rfl]
    exact ⟨_, _, rfl, rfl, rfl, h0⟩
theorem m_blank {ps pm : Int32} {pl mP : Nat → Int32} (h : PgR ps pl pm mP) : Two (f_X11_blank ps) (f_X12_blank pm) (fun r r' => r.1 = r'.1 ∧ PgR r.2 pl r'.2 mP) := by
  obtain ⟨z, A, hz, rfl, rfl, hL, hL'⟩ := h
  exact ⟨_, _, rfl, rfl, rfl, 0, A, by omega, rfl, rfl, hL, hL'⟩
theorem m_fault {n : Nat} (hn : 1000 ≤ n) {ps pm : Int32} {pl mP : Nat → Int32} (h : PgR ps pl pm mP) : Two (f_X11_fault n ps pl) (f_X12_fault n pm mP) (fun r r' => r = r') := by
  obtain ⟨z, A, hz, rfl, rfl, hL, hL'⟩ := h
  unfold f_X11_fault f_X12_fault
  obtain ⟨r, e, hr⟩ := faultC_ok hL hn hz
  obtain ⟨r', e', hr'⟩ := faultM_ok hL' hn hz
  rw [e, e']
  exact ⟨_, _, rfl, rfl, hr.trans hr'.symm⟩
section
variable {t : Nat} {tk : Int64} {sz sq : Int32} {c k w : Nat → Int32} {mb mq : Int32} {mk mw mc : Nat → Int32}
theorem t_as : ∀ j, j < 5 → ∀ q, q < 5 → f_X11_isOfKind (nI j) (nI q) = some (b2 (decide (q = 0) || decide (q = j) || (decide (q = 1) && decide (j = 4)))) := by decide +kernel
theorem m_as (ht : t < 1000) (hT : TbR t tk sz sq c k w mb mq mk mw mc) (hK : KW k w) (p p2 : Int32) : Two (f_X11_as (nI t) sz k p p2) (f_X12_as mb mk p p2) (fun r r' => r = r') := by
  unfold f_X11_as f_X12_as
  rcases b_ball ht hT p with ⟨bl, sp, b, h0, h1, hb, rfl, r1, r2⟩ | ⟨r1, r2⟩
  · rw [r1, r2, Option.bind_some, Option.bind_some, if_neg (by decide), if_neg (by decide)]
    rw [show (4 : Int64) = lN 4 from rfl, show (0 : Int64) = lN 0 from rfl]
    have hr := rng (p := p2) (lo := 0) (hi := 4) (by decide) (by decide)
    rw [show nI 0 = (0 : Int32) from rfl, show nI 4 = (4 : Int32) from rfl] at hr
    have hb7 : b < 7 := by have := h1.2.1; omega
    rcases hr with ⟨q, -, hq, rfl, s1, s2⟩ | ⟨s1, s2, -⟩
    · rw [s1, s2, Option.bind_some, Option.bind_some, if_neg (by decide), if_neg (by decide)]
      obtain ⟨j, hj, ej⟩ := hK.1 b hb7
      have hmk : mk b = nI j := (h1.2.2.2.2.2.2.2.2.2.1 b hb).1.trans ej
      rw [(t_cell k hb7).2.1, Option.bind_some, ej, t_as j hj q (by omega), Option.bind_some]
      simp only [jn, gd, inb_nI hb7 (by decide), if_true, nI_clamp (show b < 2 ^ 31 by omega), hmk, one_ne, if_false]
      have d1 : (nI q = 0) ↔ q = 0 := nI_eq (b := 0) (by omega) (by decide)
      have d2 : (nI q = nI j) ↔ q = j := nI_eq (by omega) (by omega)
      have d3 : (nI q = 1) ↔ q = 1 := nI_eq (b := 1) (by omega) (by decide)
      have d4 : (nI j = 4) ↔ j = 4 := nI_eq (b := 4) (by omega) (by decide)
      simp only [d1, d2, d3, d4]
      by_cases x1 : q = 0
      · refine ⟨nI b, nI b, ?_, ?_, rfl⟩ <;> simp [x1, b2]
      · by_cases x2 : q = j
        · refine ⟨nI b, nI b, ?_, ?_, rfl⟩ <;> simp [x1, x2, b2]
        · by_cases x3 : q = 1
          · by_cases x4 : j = 4
            · refine ⟨nI b, nI b, ?_, ?_, rfl⟩ <;> simp [x3, x4, b2]
            · subst x3
              refine ⟨-1, -1, ?_, ?_, rfl⟩ <;> simp [x2, x4, b2]
          · refine ⟨-1, -1, ?_, ?_, rfl⟩ <;> simp [x1, x2, x3, b2]
    · rw [s1, s2, Option.bind_some, Option.bind_some, if_pos rfl, if_pos rfl]
      exact ⟨_, _, rfl, rfl, rfl⟩
  · rw [r1, r2, Option.bind_some, Option.bind_some, if_pos rfl, if_pos rfl]
    exact ⟨_, _, rfl, rfl, rfl⟩
theorem b_cell (p : Int32) : (∃ q, q < 45 ∧ p = nI q ∧ f_X11_isCell p = some 1 ∧ ∀ bl, 1 ≤ bl → bl ≤ 6 → f_X12_isCell (nI bl) p = some 1) ∨ (f_X11_isCell p = some 0 ∧ ∀ bl, 1 ≤ bl → bl ≤ 6 → f_X12_isCell (nI bl) p = some 0) := by
  have hr := rng (p := p) (lo := 0) (hi := 44) (by decide) (by decide)
  unfold f_X11_isCell f_X12_isCell
  rw [show (44 : Int64) = lN 44 from rfl, show (0 : Int64) = lN 0 from rfl, show (44 : Int32) = nI 44 from rfl]
  rw [show nI 0 = (0 : Int32) from rfl] at hr
  rcases hr with ⟨q, -, hq, e, s1, s2⟩ | ⟨s1, s2, -⟩
  · rw [s1, s2]
    exact Or.inl ⟨q, by omega, e, rfl, fun bl h1 h2 => by rw [lk_1 h1 h2]; rfl⟩
  · rw [s1, s2]
    exact Or.inr ⟨rfl, fun bl h1 h2 => by rw [lk_1 h1 h2]; rfl⟩
theorem m_cell {n : Nat} (hn : 1000 ≤ n) (ht : t < 1000) (hT : TbR t tk sz sq c k w mb mq mk mw mc) (p : Int32) : Two (f_X11_cell n (nI t) tk c p) (f_X12_cell n mb mc p) (fun r r' => r = r') := by
  unfold f_X11_cell f_X12_cell
  rcases hT with ⟨rfl, h⟩ | ⟨h0, bl, sp, h⟩
  · rw [has_0, Option.bind_some, if_pos rfl, h.2.2.1]
    have : f_X12_isCell 0 p = some 0 := by unfold f_X12_isCell; rw [lk_0]; rfl
    rw [this]
    exact ⟨_, _, rfl, rfl, rfl⟩
  · obtain ⟨g1, g2, g3, g4, rfl, rfl, rfl, rfl, g9, g10, g11⟩ := h
    rw [has_1 h0 ht, Option.bind_some, if_neg (by decide)]
    rcases b_cell p with ⟨q, hq, rfl, s1, s2⟩ | ⟨s1, s2⟩
    · rw [s1, s2 bl g1 g2, Option.bind_some, Option.bind_some, if_neg (by decide), if_neg (by decide), (t_pocket q hq).1, (t_pocket q hq).2, Option.bind_some, Option.bind_some, ballIn_ok g9.1 hq (by omega), lies_ok g1 g2 (by omega), who_short g2 (nI_ne_m1 hq) g9.2.1, who_congr (fun d hd => g11 d (by omega) : ∀ d, d < bl + 1 → mc d = c d)]
      cases pkt q
      · exact ⟨_, _, rfl, rfl, rfl⟩
      · exact ⟨_, _, rfl, rfl, rfl⟩
    · rw [s1, s2 bl g1 g2]
      exact ⟨_, _, rfl, rfl, rfl⟩
theorem b_dir (p : Int32) : (∃ d, d < 8 ∧ p = nI d ∧ f_X11_isDirection p = some 1 ∧ f_X12_in p.toInt64 0 7 = some 1) ∨ (f_X11_isDirection p = some 0 ∧ f_X12_in p.toInt64 0 7 = some 0) := by
  have hr := rng (p := p) (lo := 0) (hi := 7) (by decide) (by decide)
  unfold f_X11_isDirection
  rw [show (7 : Int64) = lN 7 from rfl, show (0 : Int64) = lN 0 from rfl, show (7 : Int32) = nI 7 from rfl]
  rw [show nI 0 = (0 : Int32) from rfl] at hr
  rcases hr with ⟨q, -, hq, e, s1, s2⟩ | ⟨s1, s2, -⟩
  · rw [s1, s2]; exact Or.inl ⟨q, by omega, e, rfl, rfl⟩
  · rw [s1, s2]; exact Or.inr ⟨rfl, rfl⟩
theorem m_sees {n : Nat} (hn : 1000 ≤ n) (ht : t < 1000) (hT : TbR t tk sz sq c k w mb mq mk mw mc) (p : Int32) : Two (f_X11_sees n (nI t) tk c p) (f_X12_sees n mb mc p) (fun r r' => r = r') := by
  unfold f_X11_sees f_X12_sees
  rcases b_dir p with ⟨d, hd, rfl, s1, s2⟩ | ⟨s1, s2⟩
  · rw [s1, s2, Option.bind_some, Option.bind_some, if_neg (by decide), if_neg (by decide)]
    rcases hT with ⟨rfl, h⟩ | ⟨h0, bl, sp, h⟩
    · rw [has_0, h.2.2.1, lk_0]
      exact ⟨_, _, rfl, rfl, rfl⟩
    · obtain ⟨g1, g2, g3, g4, rfl, rfl, rfl, rfl, g9, g10, g11⟩ := h
      rw [has_1 h0 ht, lk_1 g1 g2, Option.bind_some, Option.bind_some, if_neg (by decide), if_pos rfl]
      obtain ⟨r, e, hr⟩ := first_ok (M := 9) g2 g9 hn rfl hd
      obtain ⟨r', e', hr'⟩ := sees_ok (M := 9) g1 g2 g9 hn rfl hd g11
      rw [e, e']
      exact ⟨_, _, rfl, rfl, hr.trans hr'.symm⟩
  · rw [s1, s2]
    exact ⟨_, _, rfl, rfl, rfl⟩
/-- a table after a change of its cells -/
theorem T1_cells {bl sp : Nat} {tk' : Int64} {c' mc' : Nat → Int32} (h : T1 bl sp tk sz sq c k w mb mq mk mw mc) (hT : TW bl tk' c') (hv : ∀ d, d ≤ bl → mc' d = c' d) : T1 bl sp tk' sz sq c' k w mb mq mk mw mc' := by
  obtain ⟨g1, g2, g3, g4, g5, g6, g7, g8, g9, g10, g11⟩ := h
  exact ⟨g1, g2, g3, g4, g5, g6, g7, g8, hT, g10, hv⟩
theorem m_put {n : Nat} (hn : 1000 ≤ n) (ht : t < 1000) (hT : TbR t tk sz sq c k w mb mq mk mw mc) (p p2 : Int32) : Two (f_X11_put n (nI t) tk sz c p p2) (f_X12_put n mb mc p p2) (fun r r' => r.1 = r'.1 ∧ TbR t r.2.1 sz sq r.2.2 k w mb mq mk mw r'.2) := by
  unfold f_X11_put f_X12_put
  rcases b_ball ht hT p with ⟨bl, sp, b, h0, h1, hb, rfl, r1, r2⟩ | ⟨r1, r2⟩
  · rw [r1, r2, Option.bind_some, Option.bind_some, if_neg (by decide), if_neg (by decide)]
    obtain ⟨g1, g2, g3, g4, rfl, rfl, rfl, rfl, g9, g10, g11⟩ := id h1
    have hb7 : b < 7 := by omega
    rcases b_cell p2 with ⟨q, hq, rfl, s1, s2⟩ | ⟨s1, s2⟩
    · rw [s1, s2 bl g1 g2, Option.bind_some, Option.bind_some, if_neg (by decide), if_neg (by decide), (t_pocket q hq).1, (t_pocket q hq).2, ballIn_ok g9.1 hq (by omega), lies_ok g1 g2 (by omega), who_short g2 (nI_ne_m1 hq) g9.2.1, who_congr (fun d hd => g11 d (by omega) : ∀ d, d < bl + 1 → mc d = c d)]
      simp only [Option.bind_some, jn, gd, bnd, inb_nI hb7 (by decide), if_true, nI_clamp (show b < 2 ^ 31 by omega)]
      cases hpk : pkt q
      · rw [if_pos b2_f, if_pos b2_f]
        have hlay : (∀ d, d < 7 → d ≠ b → c d ≠ nI q) → Two ((f_X10_cellOf c (nI b)).bind (fun u_9 => (f_X10_lay tk c (nI b) (nI q)).bind (fun u_10 => some (u_9, u_10.1, u_10.2)))) (some (mc b, upd mc b (nI q))) (fun r r' => r.1 = r'.1 ∧ TbR t r.2.1 (nI bl) (nI sp) r.2.2 k w (nI bl) (nI sp) mk mw r'.2) := by
          intro hfree
          obtain ⟨tk', e, hT'⟩ := lay_ok g9.1 hb7 (Or.inr ⟨q, hq, hpk, rfl⟩) (fun d hd hdb _ => hfree d hd hdb)
          rw [(t_cell c hb7).1, Option.bind_some, e, Option.bind_some]
          refine ⟨_, _, rfl, rfl, (g11 b hb).symm, Or.inr ⟨h0, bl, sp, T1_cells h1 ⟨hT', fun d h1 h2 => ?_, ?_⟩ (fun d hd => ?_)⟩⟩
          · dsimp only; rw [upd_n (by omega)]; exact g9.2.1 d h1 h2
          · dsimp only
            by_cases e0 : 0 = b
            · rw [← e0, upd_s]; exact nI_ne_m1 hq
            · rw [upd_n e0]; exact g9.2.2
          · dsimp only
            by_cases e0 : d = b
            · rw [e0, upd_s, upd_s]
            · rw [upd_n e0, upd_n e0]; exact g11 d hd
        rcases who_cases c (nI q) (bl + 1) with ⟨hx, hno⟩ | ⟨j, hj, hx, hcj⟩
        · rw [if_pos hx, if_pos hx]
          refine hlay (fun d hd _ hc => ?_)
          by_cases hdb : d < bl + 1
          · exact hno d hdb hc
          · rw [g9.2.1 d (by omega) hd] at hc; exact nI_ne_m1 hq hc.symm
        · rw [hx, if_neg (nI_ne_m1 (by omega)), if_neg (nI_ne_m1 (by omega))]
          by_cases hjb : j = b
          · rw [if_pos (by rw [hjb]), if_pos (by rw [hjb])]
            refine hlay (fun d hd hdb hc => hdb ?_)
            rw [← hjb]
            exact g9.1.2.1 d hd j (by omega) (hc.trans hcj.symm) (by rw [hc]; exact nI_ne_m1 hq)
          · rw [if_neg (fun z => hjb (nI_inj45 (by omega) (by omega) z)), if_neg (fun z => hjb (nI_inj45 (by omega) (by omega) z))]
            exact ⟨_, _, rfl, rfl, rfl, hT⟩
      · rw [if_neg (by rw [b2_t]; decide), if_neg (by rw [b2_t]; decide)]
        exact ⟨_, _, rfl, rfl, rfl, hT⟩
    · rw [s1, s2 bl g1 g2]
      exact ⟨_, _, rfl, rfl, rfl, hT⟩
  · rw [r1, r2]
    exact ⟨_, _, rfl, rfl, rfl, hT⟩
theorem m_lift (ht : t < 1000) (hT : TbR t tk sz sq c k w mb mq mk mw mc) (p : Int32) : Two (f_X11_lift (nI t) tk sz c p) (f_X12_lift mb mc p) (fun r r' => r.1 = r'.1 ∧ TbR t r.2.1 sz sq r.2.2 k w mb mq mk mw r'.2) := by
  unfold f_X11_lift f_X12_lift
  rcases b_obj ht hT p with ⟨bl, sp, b, h0, h1, hb1, hb, rfl, r1, r2⟩ | ⟨r1, r2⟩
  · rw [r1, r2, Option.bind_some, Option.bind_some, if_neg (by decide), if_neg (by decide)]
    obtain ⟨g1, g2, g3, g4, rfl, rfl, rfl, rfl, g9, g10, g11⟩ := id h1
    have hb7 : b < 7 := by omega
    rw [(t_cell c hb7).1]
    simp only [Option.bind_some, gd, bnd, inb_nI hb7 (by decide), if_true, nI_clamp (show b < 2 ^ 31 by omega), g11 b hb]
    by_cases hc : c b = -1
    · rw [if_pos hc, if_pos hc]
      exact ⟨_, _, rfl, rfl, rfl, hT⟩
    · rw [if_neg hc, if_neg hc]
      obtain ⟨tk', e, hT'⟩ := lay_ok g9.1 hb7 (y := -1) (Or.inl rfl) (fun d hd hdb h => absurd rfl h)
      rw [e, Option.bind_some]
      refine ⟨_, _, rfl, rfl, rfl, Or.inr ⟨h0, bl, sp, T1_cells h1 ⟨hT', fun d h1 h2 => ?_, ?_⟩ (fun d hd => ?_)⟩⟩
      · dsimp only; rw [upd_n (by omega)]; exact g9.2.1 d h1 h2
      · dsimp only; rw [upd_n (by omega)]; exact g9.2.2
      · dsimp only
        by_cases e0 : d = b
        · rw [e0, upd_s, upd_s]
        · rw [upd_n e0, upd_n e0]; exact g11 d hd
  · rw [r1, r2]
    exact ⟨_, _, rfl, rfl, rfl, hT⟩
theorem m_change (ht : t < 1000) (hT : TbR t tk sz sq c k w mb mq mk mw mc) (hK : KW k w) (p p2 : Int32) : Two (f_X11_change (nI t) sz k p p2) (f_X12_change mb mk p p2) (fun r r' => r.1 = r'.1 ∧ TbR t tk sz sq c r.2 w mb mq r'.2 mw mc ∧ KW r.2 w) := by
  unfold f_X11_change f_X12_change
  rcases b_obj ht hT p with ⟨bl, sp, b, h0, h1, hb1, hb, rfl, r1, r2⟩ | ⟨r1, r2⟩
  · rw [r1, r2, Option.bind_some, Option.bind_some, if_neg (by decide), if_neg (by decide)]
    obtain ⟨g1, g2, g3, g4, rfl, rfl, rfl, rfl, g9, g10, g11⟩ := id h1
    have hb7 : b < 7 := by omega
    rw [show (4 : Int64) = lN 4 from rfl, show (0 : Int64) = lN 0 from rfl]
    have hr := rng (p := p2) (lo := 0) (hi := 4) (by decide) (by decide)
    rw [show nI 0 = (0 : Int32) from rfl, show nI 4 = (4 : Int32) from rfl] at hr
    rcases hr with ⟨q, -, hq, rfl, s1, s2⟩ | ⟨s1, s2, -⟩
    · rw [s1, s2, Option.bind_some, Option.bind_some, if_neg (by decide), if_neg (by decide), (t_cell k hb7).2.1, Option.bind_some, (setK_ok hb7 _).1, Option.bind_some]
      simp only [gd, bnd, inb_nI hb7 (by decide), if_true, nI_clamp (show b < 2 ^ 31 by omega)]
      refine ⟨_, _, rfl, rfl, (g10 b hb).1.symm, Or.inr ⟨h0, bl, sp, g1, g2, g3, g4, rfl, rfl, rfl, rfl, g9, MF_kind g10, g11⟩, ⟨fun d hd => ?_, hK.2.1, ?_, hK.2.2.2⟩⟩
      · dsimp only
        by_cases e0 : d = b
        · rw [e0]; exact ⟨q, by omega, upd_s _ _ _⟩
        · rw [upd_n e0]; exact hK.1 d hd
      · dsimp only; rw [upd_n (by omega)]; exact hK.2.2.1
    · rw [s1, s2]
      exact ⟨_, _, rfl, rfl, rfl, hT, hK⟩
  · rw [r1, r2]
    exact ⟨_, _, rfl, rfl, rfl, hT, hK⟩
end
