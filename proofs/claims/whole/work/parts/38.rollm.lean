def HitR (hd : Int32) (hp : Nat) (hf hpm dn rt : Int32) : Prop := (hd = -1 ∧ hf = -1) ∨ (hf ≠ -1 ∧ ∃ w0, w0 < 8 ∧ hd = nI w0 ∧ dn = rowS w0 ∧ rt = colS w0 ∧ hpm = nI hp)
theorem upd_uu (f : Nat → Int32) (k : Nat) (x y : Int32) : upd (upd f k x) k y = upd f k y := by
  funext j
  by_cases h : j = k <;> simp [upd, h]
theorem rollM {mk : Nat → Int32} {kd : Nat → Nat} {bl n : Nat} (h1 : 1 ≤ bl) (h6 : bl ≤ 6) (hn : 9 ≤ n) (hk : ∀ d, d ≤ bl → kd d < 5 ∧ mk d = nI (kd d)) :
    ∀ (F k b w pw hp : Nat) (c v : Nat → Int32) (mv bo po hd hf hpm dn rt : Int32), (∀ d, d ≤ bl → okc (c d)) → (∀ d, d ≤ bl → v d = c d) → b ≤ bl → w < 8 → pw ≤ 9 → (pw ≠ 0 → ∃ q, q < 45 ∧ c b = nI q ∧ pw * 10 + ah q w < F) → F < k → HitR hd hp hf hpm dn rt →
    ∃ (v' : Nat → Int32) (hf' hpm' dn' rt' : Int32), f_X12_roll_L14 (nI bl) mk n k (nI b) (rowS w) (colS w) (nI pw) po mv bo hf hpm dn rt v = some ((rollP kd bl F c b w pw mv bo po hd hp).2.2.2.1, (rollP kd bl F c b w pw mv bo po hd hp).2.1, (rollP kd bl F c b w pw mv bo po hd hp).2.2.1, hf', hpm', dn', rt', v') ∧ (∀ d, d ≤ bl → v' d = (rollP kd bl F c b w pw mv bo po hd hp).1 d) ∧ HitR (rollP kd bl F c b w pw mv bo po hd hp).2.2.2.2.1 (rollP kd bl F c b w pw mv bo po hd hp).2.2.2.2.2 hf' hpm' dn' rt' := by
  intro F
  induction F with
  | zero =>
    intro k b w pw hp c v mv bo po hd hf hpm dn rt hT hv hb hw hpw hq hk1 hH
    have h0 : pw = 0 := by
      by_cases h : pw = 0
      · exact h
      · obtain ⟨q, -, -, h⟩ := hq h; omega
    subst h0
    obtain ⟨k, rfl⟩ : ∃ k', k = k' + 1 := ⟨k - 1, by omega⟩
    refine ⟨v, hf, hpm, dn, rt, ?_, hv, hH⟩
    show b_X12_roll_L14 (nI bl) mk n (fun a1 a2 a3 a4 a5 a6 a7 a8 a9 a10 a11 a12 => f_X12_roll_L14 (nI bl) mk n k a1 a2 a3 a4 a5 a6 a7 a8 a9 a10 a11 a12) (nI b) (rowS w) (colS w) (nI 0) po mv bo hf hpm dn rt v = _
    unfold b_X12_roll_L14
    rw [if_pos (show nI 0 ≤ 0 by decide)]
    rfl
  | succ F ih =>
    intro k b w pw hp c v mv bo po hd hf hpm dn rt hT hv hb hw hpw hq hk1 hH
    obtain ⟨k, rfl⟩ : ∃ k', k = k' + 1 := ⟨k - 1, by omega⟩
    by_cases hp0 : pw = 0
    · subst hp0
      refine ⟨v, hf, hpm, dn, rt, ?_, by rw [roll_0]; exact hv, by rw [roll_0]; exact hH⟩
      show b_X12_roll_L14 (nI bl) mk n (fun a1 a2 a3 a4 a5 a6 a7 a8 a9 a10 a11 a12 => f_X12_roll_L14 (nI bl) mk n k a1 a2 a3 a4 a5 a6 a7 a8 a9 a10 a11 a12) (nI b) (rowS w) (colS w) (nI 0) po mv bo hf hpm dn rt v = _
      unfold b_X12_roll_L14
      rw [if_pos (show nI 0 ≤ 0 by decide), roll_0]
    · obtain ⟨q, hq45, hcb, hmu⟩ := hq hp0
      have hb7 : b < 7 := by omega
      have hcl : (nI q).toNatClampNeg = q := nI_clamp (by omega)
      have hbc : (nI b).toNatClampNeg = b := nI_clamp (by omega)
      have hvb : v b = nI q := (hv b hb).trans hcb
      have hle : ¬ nI pw ≤ 0 := fun z => hp0 ((nI_le0 (by omega)).mp z)
      have hib : inb (nI b) 7 = true := inb_nI hb7 (by decide)
      show ∃ (v' : Nat → Int32) (hf' hpm' dn' rt' : Int32), b_X12_roll_L14 (nI bl) mk n (fun a1 a2 a3 a4 a5 a6 a7 a8 a9 a10 a11 a12 => f_X12_roll_L14 (nI bl) mk n k a1 a2 a3 a4 a5 a6 a7 a8 a9 a10 a11 a12) (nI b) (rowS w) (colS w) (nI pw) po mv bo hf hpm dn rt v = _ ∧ _
      unfold b_X12_roll_L14
      simp only [if_neg hle, gd, hib, if_true, hbc, hvb, bnd, jn, t_rowM q hq45 w hw, t_colM q hq45 w hw, Option.bind_some, (nI_m1 (show pw < 11 by omega) hp0).2, (nI_m1 (show pw < 11 by omega) hp0).1]
      cases hr : oR q w <;> cases hc : oC q w
      · obtain ⟨e1, hx45, hah, hne⟩ := t_next hq45 hw hr hc
        have hn1 : ¬ nI (nx q w) = -1 := nI_ne_m1 hx45
        simp only [e1, b2_nf, one_ne, if_false, if_true, lies_ok h1 h6 hn, Option.bind_some, hn1, who_congr (fun d hd => hv d (by omega) : ∀ d, d < bl + 1 → v d = c d)]
        rcases who_cases c (nI (nx q w)) (bl + 1) with ⟨hx, hno⟩ | ⟨j, hj, hx, hcj⟩
        · rw [if_pos hx, (t_pocket _ hx45).2]
          simp only [Option.bind_some]
          cases hpk : pkt (nx q w)
          · rw [if_pos b2_f]
            have e : rollP kd bl (F + 1) c b w pw mv bo po hd hp = rollP kd bl F (upd c b (nI (nx q w))) b w (pw - 1) (mv + 1) bo po hd hp := by
              simp [rollP, hp0, hcb, hcl, hr, hc, hx, hpk]
            rw [e]
            refine ih k b w (pw - 1) hp (upd c b (nI (nx q w))) (upd v b (nI (nx q w))) (mv + 1) bo po hd hf hpm dn rt (fun d hd => ?_) (fun d hd => ?_) hb hw (by omega) (fun hz => ⟨nx q w, hx45, upd_s _ _ _, ?_⟩) (by omega) hH
            · by_cases hdb : d = b
              · rw [hdb, upd_s]; exact Or.inr ⟨nx q w, hx45, hpk, rfl⟩
              · rw [upd_n hdb]; exact hT d hd
            · by_cases hdb : d = b
              · rw [hdb, upd_s, upd_s]
              · rw [upd_n hdb, upd_n hdb]; exact hv d hd
            · have h8 := t_ah (nx q w) hx45 w hw
              omega
          · rw [if_neg (fun z => by simp [b2] at z), upd_uu]
            have e : rollP kd bl (F + 1) c b w pw mv bo po hd hp = rollP kd bl F (upd c b (-1)) b w 0 (mv + 1) bo (po ||| (1 <<< (nI b &&& 31))) hd hp := by
              simp [rollP, hp0, hcb, hcl, hr, hc, hx, hpk]
            rw [e]
            refine ih k b w 0 hp (upd c b (-1)) (upd v b (-1)) (mv + 1) bo (po ||| (1 <<< (nI b &&& 31))) hd hf hpm dn rt (fun d hd => ?_) (fun d hd => ?_) hb hw (by omega) (fun hz => absurd rfl hz) (by omega) hH
            · by_cases hdb : d = b
              · rw [hdb, upd_s]; exact Or.inl rfl
              · rw [upd_n hdb]; exact hT d hd
            · by_cases hdb : d = b
              · rw [hdb, upd_s, upd_s]
              · rw [upd_n hdb, upd_n hdb]; exact hv d hd
        · have hj1 : ¬ nI j = -1 := nI_ne_m1 (by omega)
          have hjc : (nI j).toNatClampNeg = j := nI_clamp (by omega)
          have hpj := t_pow (kd j) (hk j (by omega)).1 (pw - 1) (by omega)
          have e : rollP kd bl (F + 1) c b w pw mv bo po hd hp = rollP kd bl F c j w (pwN (kd j) (pw - 1)) mv bo po (if b = 0 ∧ hd = -1 then nI w else hd) (if b = 0 ∧ hd = -1 then pw - 1 else hp) := by
            simp [rollP, hp0, hcb, hcl, hr, hc, hx, hjc, hj1]
          rw [e]
          have hij : inb (nI j) 7 = true := inb_nI (by omega) (by decide)
          simp only [hx, hj1, if_false, hij, if_true, hjc, (hk j (by omega)).2, hpj.2.1, Option.bind_some]
          by_cases hb0 : b = 0
          · rw [if_pos ((nI_is0 hb7).mpr hb0)]
            rcases hH with ⟨g1, g2⟩ | ⟨g1, w0, g2, g3, g4, g5, g6⟩
            · rw [if_pos g2, if_pos ⟨hb0, g1⟩, if_pos ⟨hb0, g1⟩]
              exact ih k j w (pwN (kd j) (pw - 1)) (pw - 1) c v mv bo po (nI w) (nI j) (nI (pw - 1)) (rowS w) (colS w) hT hv (by omega) hw (by omega) (fun hz => ⟨nx q w, hx45, hcj, by omega⟩) (by omega) (Or.inr ⟨hj1, w, hw, rfl, rfl, rfl, rfl⟩)
            · have hne1 : ¬ hd = -1 := by rw [g3]; exact nI_ne_m1 (by omega)
              rw [if_neg g1, if_neg (fun z => hne1 z.2), if_neg (fun z => hne1 z.2)]
              exact ih k j w (pwN (kd j) (pw - 1)) hp c v mv bo po hd hf hpm dn rt hT hv (by omega) hw (by omega) (fun hz => ⟨nx q w, hx45, hcj, by omega⟩) (by omega) (Or.inr ⟨g1, w0, g2, g3, g4, g5, g6⟩)
          · rw [if_neg (fun z => hb0 ((nI_is0 hb7).mp z)), if_neg (fun z => hb0 z.1), if_neg (fun z => hb0 z.1)]
            exact ih k j w (pwN (kd j) (pw - 1)) hp c v mv bo po hd hf hpm dn rt hT hv (by omega) hw (by omega) (fun hz => ⟨nx q w, hx45, hcj, by omega⟩) (by omega) hH
      · simp only [b2_nf, b2_nt, one_ne, if_false, if_true]
        have ht9 := t_turn w hw false true
        have hs3 := t_stop (kd b) (hk b hb).1
        have er : rowS (tw w false true) = rowS w := ht9.2.2.1
        have ec : colS (tw w false true) = -colS w := ht9.2.2.2
        rw [(hk b hb).2]
        by_cases h3 : kd b = 3
        · rw [if_pos (hs3.2.2.mpr h3)]
          have e : rollP kd bl (F + 1) c b w pw mv bo po hd hp = rollP kd bl F c b w 0 mv bo po hd hp := by
            simp [rollP, hp0, hcb, hcl, hr, hc, h3, roll_0]
          rw [e]
          exact ih k b w 0 hp c v mv bo po hd hf hpm dn rt hT hv hb hw (by omega) (fun hz => absurd rfl hz) (by omega) hH
        · rw [if_neg (fun z => h3 (hs3.2.2.mp z))]
          have e : rollP kd bl (F + 1) c b w pw mv bo po hd hp = rollP kd bl F c b (tw w false true) (pw - 1) mv (bo + 1) po hd hp := by
            simp [rollP, hp0, hcb, hcl, hr, hc, h3]
          rw [e, ← er, ← ec]
          exact ih k b (tw w false true) (pw - 1) hp c v mv (bo + 1) po hd hf hpm dn rt hT hv hb ht9.2.1 (by omega) (fun hz => ⟨q, hq45, hcb, by
            have h8 := t_ah q hq45 _ ht9.2.1
            omega⟩) (by omega) hH
      · simp only [b2_nf, b2_nt, one_ne, if_false, if_true]
        have ht9 := t_turn w hw true false
        have hs3 := t_stop (kd b) (hk b hb).1
        have er : rowS (tw w true false) = -rowS w := ht9.2.2.1
        have ec : colS (tw w true false) = colS w := ht9.2.2.2
        rw [(hk b hb).2]
        by_cases h3 : kd b = 3
        · rw [if_pos (hs3.2.2.mpr h3)]
          have e : rollP kd bl (F + 1) c b w pw mv bo po hd hp = rollP kd bl F c b w 0 mv bo po hd hp := by
            simp [rollP, hp0, hcb, hcl, hr, hc, h3, roll_0]
          rw [e]
          exact ih k b w 0 hp c v mv bo po hd hf hpm dn rt hT hv hb hw (by omega) (fun hz => absurd rfl hz) (by omega) hH
        · rw [if_neg (fun z => h3 (hs3.2.2.mp z))]
          have e : rollP kd bl (F + 1) c b w pw mv bo po hd hp = rollP kd bl F c b (tw w true false) (pw - 1) mv (bo + 1) po hd hp := by
            simp [rollP, hp0, hcb, hcl, hr, hc, h3]
          rw [e, ← er, ← ec]
          exact ih k b (tw w true false) (pw - 1) hp c v mv (bo + 1) po hd hf hpm dn rt hT hv hb ht9.2.1 (by omega) (fun hz => ⟨q, hq45, hcb, by
            have h8 := t_ah q hq45 _ ht9.2.1
            omega⟩) (by omega) hH
      · simp only [b2_nf, b2_nt, one_ne, if_false, if_true]
        have ht9 := t_turn w hw true true
        have hs3 := t_stop (kd b) (hk b hb).1
        have er : rowS (tw w true true) = -rowS w := ht9.2.2.1
        have ec : colS (tw w true true) = -colS w := ht9.2.2.2
        rw [(hk b hb).2]
        by_cases h3 : kd b = 3
        · rw [if_pos (hs3.2.2.mpr h3)]
          have e : rollP kd bl (F + 1) c b w pw mv bo po hd hp = rollP kd bl F c b w 0 mv bo po hd hp := by
            simp [rollP, hp0, hcb, hcl, hr, hc, h3, roll_0]
          rw [e]
          exact ih k b w 0 hp c v mv bo po hd hf hpm dn rt hT hv hb hw (by omega) (fun hz => absurd rfl hz) (by omega) hH
        · rw [if_neg (fun z => h3 (hs3.2.2.mp z))]
          have e : rollP kd bl (F + 1) c b w pw mv bo po hd hp = rollP kd bl F c b (tw w true true) (pw - 1) mv (bo + 1) po hd hp := by
            simp [rollP, hp0, hcb, hcl, hr, hc, h3]
          rw [e, ← er, ← ec]
          exact ih k b (tw w true true) (pw - 1) hp c v mv (bo + 1) po hd hf hpm dn rt hT hv hb ht9.2.1 (by omega) (fun hz => ⟨q, hq45, hcb, by
            have h8 := t_ah q hq45 _ ht9.2.1
            omega⟩) (by omega) hH
