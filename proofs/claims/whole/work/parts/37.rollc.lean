theorem b2_nt : (b2 !true) = 0 := rfl
theorem b2_nf : (b2 !false) = 1 := rfl
theorem b2_t : b2 true = 1 := rfl
theorem b2_f : b2 false = 0 := rfl
theorem one_ne : ((1 : Int32) = 0) = False := by decide
theorem rollC {kv : Nat → Int32} {kd : Nat → Nat} {bl n : Nat} (h6 : bl ≤ 6) (hn : 8 ≤ n) (hk : ∀ d, d < 7 → kd d < 5 ∧ kv d = nI (kd d)) :
    ∀ (F k t b w pw hp : Nat) (c : Nat → Int32) (tk : Int64) (mv bo po hd : Int32), TabC tk c → (∀ d, bl < d → d < 7 → c d = -1) → b ≤ bl → w < 8 → pw ≤ 9 → (pw ≠ 0 → ∃ q, q < 45 ∧ pkt q = false ∧ c b = nI q ∧ pw * 10 + ah q w < F) → F < k → t + F < 1000 →
    ∃ tk', f_X9_roll_L12 kv n k (nI b) (nI w) (nI pw) (nI t) mv bo po hd (nI hp) tk c = some ((rollP kd bl F c b w pw mv bo po hd hp).2.1, (rollP kd bl F c b w pw mv bo po hd hp).2.2.1, (rollP kd bl F c b w pw mv bo po hd hp).2.2.2.1, (rollP kd bl F c b w pw mv bo po hd hp).2.2.2.2.1, nI (rollP kd bl F c b w pw mv bo po hd hp).2.2.2.2.2, tk', (rollP kd bl F c b w pw mv bo po hd hp).1) ∧ TabC tk' (rollP kd bl F c b w pw mv bo po hd hp).1 ∧ ∀ d, bl < d → d < 7 → (rollP kd bl F c b w pw mv bo po hd hp).1 d = -1 := by
  intro F
  induction F with
  | zero =>
    intro k t b w pw hp c tk mv bo po hd hT hoff hb hw hpw hq hk1 ht
    have h0 : pw = 0 := by
      by_cases h : pw = 0
      · exact h
      · obtain ⟨q, -, -, -, h⟩ := hq h; omega
    subst h0
    obtain ⟨k, rfl⟩ : ∃ k', k = k' + 1 := ⟨k - 1, by omega⟩
    refine ⟨tk, ?_, hT, hoff⟩
    show b_X9_roll_L12 kv n (fun a1 a2 a3 a4 a5 a6 a7 a8 a9 a10 a11 => f_X9_roll_L12 kv n k a1 a2 a3 a4 a5 a6 a7 a8 a9 a10 a11) (nI b) (nI w) (nI 0) (nI t) mv bo po hd (nI hp) tk c = _
    unfold b_X9_roll_L12
    rw [if_neg (show ¬ (1000 : Int32) ≤ nI t from nI_ge (a := t) (b := 1000) (by omega) (by decide)), if_pos (show nI 0 ≤ 0 by decide)]
    rfl
  | succ F ih =>
    intro k t b w pw hp c tk mv bo po hd hT hoff hb hw hpw hq hk1 ht
    obtain ⟨k, rfl⟩ : ∃ k', k = k' + 1 := ⟨k - 1, by omega⟩
    have hge : ¬ (1000 : Int32) ≤ nI t := nI_ge (a := t) (b := 1000) (by omega) (by decide)
    by_cases hp0 : pw = 0
    · subst hp0
      refine ⟨tk, ?_, by rw [roll_0]; exact hT, by rw [roll_0]; exact hoff⟩
      show b_X9_roll_L12 kv n (fun a1 a2 a3 a4 a5 a6 a7 a8 a9 a10 a11 => f_X9_roll_L12 kv n k a1 a2 a3 a4 a5 a6 a7 a8 a9 a10 a11) (nI b) (nI w) (nI 0) (nI t) mv bo po hd (nI hp) tk c = _
      unfold b_X9_roll_L12
      rw [if_neg hge, if_pos (show nI 0 ≤ 0 by decide), roll_0]
    · obtain ⟨q, hq45, hqp, hcb, hmu⟩ := hq hp0
      have hb7 : b < 7 := by omega
      have hcl : (nI q).toNatClampNeg = q := nI_clamp (by omega)
      have hstep := t_step w hw
      have hle : ¬ nI pw ≤ 0 := fun z => hp0 ((nI_le0 (by omega)).mp z)
      show ∃ tk', b_X9_roll_L12 kv n (fun a1 a2 a3 a4 a5 a6 a7 a8 a9 a10 a11 => f_X9_roll_L12 kv n k a1 a2 a3 a4 a5 a6 a7 a8 a9 a10 a11) (nI b) (nI w) (nI pw) (nI t) mv bo po hd (nI hp) tk c = _ ∧ _
      unfold b_X9_roll_L12
      simp only [if_neg hge, if_neg hle, (t_cell c hb7).1, hcb, Option.bind_some, hstep.1, hstep.2.1, bnd, jn, t_row q hq45 w hw, t_col q hq45 w hw, nI_1]
      cases hr : oR q w <;> cases hc : oC q w
      · obtain ⟨e1, hx45, hah, hne⟩ := t_next hq45 hw hr hc
        simp only [e1, ballIn_ok hT hx45 hn, Option.bind_some, who_short h6 (nI_ne_m1 hx45) hoff, b2_nf, one_ne, if_false]
        rcases who_cases c (nI (nx q w)) (bl + 1) with ⟨hx, hno⟩ | ⟨j, hj, hx, hcj⟩
        · have hfr : ∀ d, d < 7 → d ≠ b → nI (nx q w) ≠ -1 → c d ≠ nI (nx q w) := fun d hd _ _ => by
            by_cases hdb : d < bl + 1
            · exact hno d hdb
            · rw [hoff d (by omega) hd]; exact fun z => nI_ne_m1 hx45 z.symm
          cases hpk : pkt (nx q w)
          · obtain ⟨tk1, hl1, hT1⟩ := lay_ok hT hb7 (Or.inr ⟨nx q w, hx45, hpk, rfl⟩) hfr
            have e : rollP kd bl (F + 1) c b w pw mv bo po hd hp = rollP kd bl F (upd c b (nI (nx q w))) b w (pw - 1) (mv + 1) bo po hd hp := by
              simp [rollP, hp0, hcb, hcl, hr, hc, hx, hpk]
            have hih := ih k (t + 1) b w (pw - 1) hp (upd c b (nI (nx q w))) tk1 (mv + 1) bo po hd hT1 (fun d h1 h2 => by rw [upd_n (by omega)]; exact hoff d h1 h2) hb hw (by omega) (fun hz => ⟨nx q w, hx45, hpk, upd_s _ _ _, by
              have h8 := t_ah (nx q w) hx45 w hw
              omega⟩) (by omega) (by omega)
            rw [← e] at hih
            obtain ⟨tk', hi1, hi2⟩ := hih
            refine ⟨tk', ?_, hi2⟩
            rw [← hi1]
            simp only [hx, if_true, (t_pocket _ hx45).1, Option.bind_some, hpk, b2_f, hl1, (nI_m1 (show pw < 11 by omega) hp0).1]
          · obtain ⟨tk1, hl1, hT1⟩ := lay_ok hT hb7 (Or.inl rfl) (fun d _ _ h => absurd rfl h)
            have e : rollP kd bl (F + 1) c b w pw mv bo po hd hp = rollP kd bl F (upd c b (-1)) b w 0 (mv + 1) bo (po ||| (1 <<< (nI b &&& 31))) hd hp := by
              simp [rollP, hp0, hcb, hcl, hr, hc, hx, hpk]
            have hih := ih k (t + 1) b w 0 hp (upd c b (-1)) tk1 (mv + 1) bo (po ||| (1 <<< (nI b &&& 31))) hd hT1 (fun d h1 h2 => by rw [upd_n (by omega)]; exact hoff d h1 h2) hb hw (by omega) (fun hz => absurd rfl hz) (by omega) (by omega)
            rw [← e] at hih
            obtain ⟨tk', hi1, hi2⟩ := hih
            refine ⟨tk', ?_, hi2⟩
            rw [← hi1]
            simp only [hx, if_true, (t_pocket _ hx45).1, Option.bind_some, hpk, b2_t, one_ne, if_false, hl1, f_X9_notePotted]
            rfl
        · have hjl : ¬ whoF c (nI (nx q w)) (bl + 1) = -1 := by rw [hx]; exact nI_ne_m1 (by omega)
          have hj7 : j < 7 := by omega
          have hjc : (nI j).toNatClampNeg = j := nI_clamp (by omega)
          have hpj := t_pow (kd j) (hk j hj7).1 (pw - 1) (by omega)
          have e : rollP kd bl (F + 1) c b w pw mv bo po hd hp = rollP kd bl F c j w (pwN (kd j) (pw - 1)) mv bo po (if b = 0 ∧ hd = -1 then nI w else hd) (if b = 0 ∧ hd = -1 then pw - 1 else hp) := by
            have hj1 : ¬ nI j = -1 := nI_ne_m1 (by omega)
            simp [rollP, hp0, hcb, hcl, hr, hc, hx, hjc, hj1]
          have hpk : pkt (nx q w) = false := by
            rcases hT.1 j hj7 with h | ⟨q2, hq2, hpk2, h⟩
            · exact absurd (hcj.symm.trans h) (nI_ne_m1 hx45)
            · rw [nI_inj45 hx45 hq2 (hcj.symm.trans h)]; exact hpk2
          have hih := ih k (t + 1) j w (pwN (kd j) (pw - 1)) (if b = 0 ∧ hd = -1 then pw - 1 else hp) c tk mv bo po (if b = 0 ∧ hd = -1 then nI w else hd) hT hoff (by omega) hw (by omega) (fun hz => ⟨nx q w, hx45, hpk, hcj, by omega⟩) (by omega) (by omega)
          rw [← e] at hih
          obtain ⟨tk', hi1, hi2⟩ := hih
          refine ⟨tk', ?_, hi2⟩
          rw [← hi1]
          have hs3 := t_stop (kd j) (hk j hj7).1
          rw [if_neg hjl]
          simp only [hx, (t_cell kv hj7).2.1, (hk j hj7).2, Option.bind_some, hs3.2.1, gd, (hk j hj7).1, decide_true, if_true, (nI_m1 (show pw < 11 by omega) hp0).2, hpj.1]
          by_cases hb0 : b = 0
          · rw [if_pos ((nI_is0 hb7).mpr hb0)]
            unfold f_X9_noteWhiteHit
            by_cases hh : hd = -1
            · rw [if_pos hh, if_pos ⟨hb0, hh⟩, if_pos ⟨hb0, hh⟩]; rfl
            · rw [if_neg hh, if_neg (fun z => hh z.2), if_neg (fun z => hh z.2)]; rfl
          · rw [if_neg (fun z => hb0 ((nI_is0 hb7).mp z)), if_neg (fun z => hb0 z.1), if_neg (fun z => hb0 z.1)]
      · have ht9 := t_turn w hw false true
        have hs3 := t_stop (kd b) (hk b hb7).1
        have e0 : ∀ z : Nat, (if (b2 (kd b == 3)) = 0 then nI pw - 1 else 0) = nI (if kd b = 3 then 0 else pw - 1) := by
          intro _
          by_cases h3 : kd b = 3
          · simp [h3, b2]; rfl
          · simp [h3, b2]; exact (nI_m1 (by omega) hp0).1
        have e : rollP kd bl (F + 1) c b w pw mv bo po hd hp = rollP kd bl F c b (tw w false true) (if kd b = 3 then 0 else pw - 1) mv (if kd b = 3 then bo else bo + 1) po hd hp := by
          by_cases h3 : kd b = 3 <;> simp [rollP, hp0, hcb, hcl, hr, hc, h3]
        have hih := ih k (t + 1) b (tw w false true) (if kd b = 3 then 0 else pw - 1) hp c tk mv (if kd b = 3 then bo else bo + 1) po hd hT hoff hb ht9.2.1 (by split <;> omega) (fun hz => ⟨q, hq45, hqp, hcb, by
          have h8 := t_ah q hq45 _ ht9.2.1
          split at hz
          · exact absurd rfl hz
          · rename_i h3
            rw [if_neg h3]; omega⟩) (by omega) (by omega)
        rw [← e] at hih
        obtain ⟨tk', hi1, hi2⟩ := hih
        refine ⟨tk', ?_, hi2⟩
        rw [← hi1]
        have ht1 : f_X9_turned (nI w) 0 1 = some (nI (tw w false true)) := ht9.1
        simp only [b2_nt, b2_nf, one_ne, if_true, if_false, (t_cell kv hb7).2.1, (hk b hb7).2, Option.bind_some, hs3.2.1, hs3.1, gd, (hk b hb7).1, decide_true, ht1]
        by_cases h3 : kd b = 3
        · simp only [h3, if_true, beq_self_eq_true, b2_t, one_ne, if_false]; rfl
        · have h3' : (kd b == 3) = false := by simp [h3]
          simp only [h3, h3', b2_f, if_true, if_false, (nI_m1 (show pw < 11 by omega) hp0).1]
      · have ht9 := t_turn w hw true false
        have hs3 := t_stop (kd b) (hk b hb7).1
        have e0 : ∀ z : Nat, (if (b2 (kd b == 3)) = 0 then nI pw - 1 else 0) = nI (if kd b = 3 then 0 else pw - 1) := by
          intro _
          by_cases h3 : kd b = 3
          · simp [h3, b2]; rfl
          · simp [h3, b2]; exact (nI_m1 (by omega) hp0).1
        have e : rollP kd bl (F + 1) c b w pw mv bo po hd hp = rollP kd bl F c b (tw w true false) (if kd b = 3 then 0 else pw - 1) mv (if kd b = 3 then bo else bo + 1) po hd hp := by
          by_cases h3 : kd b = 3 <;> simp [rollP, hp0, hcb, hcl, hr, hc, h3]
        have hih := ih k (t + 1) b (tw w true false) (if kd b = 3 then 0 else pw - 1) hp c tk mv (if kd b = 3 then bo else bo + 1) po hd hT hoff hb ht9.2.1 (by split <;> omega) (fun hz => ⟨q, hq45, hqp, hcb, by
          have h8 := t_ah q hq45 _ ht9.2.1
          split at hz
          · exact absurd rfl hz
          · rename_i h3
            rw [if_neg h3]; omega⟩) (by omega) (by omega)
        rw [← e] at hih
        obtain ⟨tk', hi1, hi2⟩ := hih
        refine ⟨tk', ?_, hi2⟩
        rw [← hi1]
        have ht1 : f_X9_turned (nI w) 1 0 = some (nI (tw w true false)) := ht9.1
        simp only [b2_nt, b2_nf, one_ne, if_true, if_false, (t_cell kv hb7).2.1, (hk b hb7).2, Option.bind_some, hs3.2.1, hs3.1, gd, (hk b hb7).1, decide_true, ht1]
        by_cases h3 : kd b = 3
        · simp only [h3, if_true, beq_self_eq_true, b2_t, one_ne, if_false]; rfl
        · have h3' : (kd b == 3) = false := by simp [h3]
          simp only [h3, h3', b2_f, if_true, if_false, (nI_m1 (show pw < 11 by omega) hp0).1]
      · have ht9 := t_turn w hw true true
        have hs3 := t_stop (kd b) (hk b hb7).1
        have e0 : ∀ z : Nat, (if (b2 (kd b == 3)) = 0 then nI pw - 1 else 0) = nI (if kd b = 3 then 0 else pw - 1) := by
          intro _
          by_cases h3 : kd b = 3
          · simp [h3, b2]; rfl
          · simp [h3, b2]; exact (nI_m1 (by omega) hp0).1
        have e : rollP kd bl (F + 1) c b w pw mv bo po hd hp = rollP kd bl F c b (tw w true true) (if kd b = 3 then 0 else pw - 1) mv (if kd b = 3 then bo else bo + 1) po hd hp := by
          by_cases h3 : kd b = 3 <;> simp [rollP, hp0, hcb, hcl, hr, hc, h3]
        have hih := ih k (t + 1) b (tw w true true) (if kd b = 3 then 0 else pw - 1) hp c tk mv (if kd b = 3 then bo else bo + 1) po hd hT hoff hb ht9.2.1 (by split <;> omega) (fun hz => ⟨q, hq45, hqp, hcb, by
          have h8 := t_ah q hq45 _ ht9.2.1
          split at hz
          · exact absurd rfl hz
          · rename_i h3
            rw [if_neg h3]; omega⟩) (by omega) (by omega)
        rw [← e] at hih
        obtain ⟨tk', hi1, hi2⟩ := hih
        refine ⟨tk', ?_, hi2⟩
        rw [← hi1]
        have ht1 : f_X9_turned (nI w) 1 1 = some (nI (tw w true true)) := ht9.1
        simp only [b2_nt, b2_nf, one_ne, if_true, if_false, (t_cell kv hb7).2.1, (hk b hb7).2, Option.bind_some, hs3.2.1, hs3.1, gd, (hk b hb7).1, decide_true, ht1]
        by_cases h3 : kd b = 3
        · simp only [h3, if_true, beq_self_eq_true, b2_t, one_ne, if_false]; rfl
        · have h3' : (kd b == 3) = false := by simp [h3]
          simp only [h3, h3', b2_f, if_true, if_false, (nI_m1 (show pw < 11 by omega) hp0).1]
