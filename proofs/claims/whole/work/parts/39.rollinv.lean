/-- the potted bits tell of the white, and of no ball beyond the last -/
def PotI (bl : Nat) (c : Nat → Int32) (po : Int32) : Prop := (bt po 0 = true ↔ c 0 = -1) ∧ ∀ d, bl < d → d < 32 → bt po d = false
theorem bt_pot (po : Int32) {b d : Nat} (hb : b < 7) (hd : d < 32) : bt (po ||| (1 <<< (nI b &&& 31))) d = (bt po d || decide (d = b)) := by
  rw [b_or, b_shl b (by omega) 1 hd]
  have h1 : ∀ i, i < 32 → bt 1 i = decide (i = 0) := by decide +kernel
  by_cases h : b ≤ d
  · rw [h1 (d - b) (by omega)]
    by_cases e : d = b
    · subst e; simp
    · have : ¬ d - b = 0 := by omega
      simp [h, e, this]
  · have e : ¬ d = b := by omega
    simp [h, e]
theorem roll_inv {kd : Nat → Nat} {bl : Nat} (h6 : bl ≤ 6) : ∀ (F b w pw hp : Nat) (c : Nat → Int32) (mv bo po hd : Int32), (∀ d, d ≤ bl → okc (c d)) → b ≤ bl → w < 8 → (pw ≠ 0 → c b ≠ -1) → PotI bl c po →
    PotI bl (rollP kd bl F c b w pw mv bo po hd hp).1 (rollP kd bl F c b w pw mv bo po hd hp).2.2.2.1 := by
  intro F
  induction F with
  | zero => intro b w pw hp c mv bo po hd _ _ _ _ hI; exact hI
  | succ F ih =>
    intro b w pw hp c mv bo po hd hT hb hw hon hI
    by_cases hp0 : pw = 0
    · rw [hp0, roll_0]; exact hI
    · rcases hT b hb with hm | ⟨q, hq45, hqp, hcb⟩
      · exact absurd hm (hon hp0)
      · have hcl : (nI q).toNatClampNeg = q := nI_clamp (by omega)
        by_cases hoff : (oR q w || oC q w) = true
        · have ht8 : tw w (oR q w) (oC q w) < 8 := (t_turn w hw _ _).2.1
          by_cases h3 : kd b = 3
          · have e : rollP kd bl (F + 1) c b w pw mv bo po hd hp = rollP kd bl F c b (tw w (oR q w) (oC q w)) 0 mv bo po hd hp := by
              rw [rollP, if_neg hp0, hcb, hcl, if_pos hoff, if_pos h3]
            rw [e]; exact ih _ _ _ _ _ _ _ _ _ hT hb ht8 (fun z => absurd rfl z) hI
          · have e : rollP kd bl (F + 1) c b w pw mv bo po hd hp = rollP kd bl F c b (tw w (oR q w) (oC q w)) (pw - 1) mv (bo + 1) po hd hp := by
              rw [rollP, if_neg hp0, hcb, hcl, if_pos hoff, if_neg h3]
            rw [e]; exact ih _ _ _ _ _ _ _ _ _ hT hb ht8 (fun _ => hon hp0) hI
        · have h1 : oR q w = false := by cases h : oR q w <;> simp_all
          have h2 : oC q w = false := by cases h : oC q w <;> simp_all
          obtain ⟨-, hx45, -, -⟩ := t_next hq45 hw h1 h2
          rcases who_cases c (nI (nx q w)) (bl + 1) with ⟨hx, hno⟩ | ⟨j, hj, hx, hcj⟩
          · have hT' : ∀ y, okc y → ∀ d, d ≤ bl → okc (upd c b y d) := fun y hy d hd => by
              by_cases hdb : d = b
              · rw [hdb, upd_s]; exact hy
              · rw [upd_n hdb]; exact hT d hd
            cases hpk : pkt (nx q w)
            · have e : rollP kd bl (F + 1) c b w pw mv bo po hd hp = rollP kd bl F (upd c b (nI (nx q w))) b w (pw - 1) (mv + 1) bo po hd hp := by
                rw [rollP, if_neg hp0, hcb, hcl, if_neg hoff, if_pos hx, if_neg (by rw [hpk]; decide)]
              rw [e]
              refine ih _ _ _ _ _ _ _ _ _ (hT' _ (Or.inr ⟨nx q w, hx45, hpk, rfl⟩)) hb hw (fun _ => by rw [upd_s]; exact nI_ne_m1 hx45) ⟨?_, hI.2⟩
              by_cases hb0 : b = 0
              · subst hb0
                rw [upd_s]
                constructor
                · intro z; rw [hI.1, hcb] at z; exact absurd z (nI_ne_m1 hq45)
                · intro z; exact absurd z (nI_ne_m1 hx45)
              · rw [upd_n (fun z => hb0 z.symm)]; exact hI.1
            · have e : rollP kd bl (F + 1) c b w pw mv bo po hd hp = rollP kd bl F (upd c b (-1)) b w 0 (mv + 1) bo (po ||| (1 <<< (nI b &&& 31))) hd hp := by
                rw [rollP, if_neg hp0, hcb, hcl, if_neg hoff, if_pos hx, if_pos hpk]
              rw [e]
              refine ih _ _ _ _ _ _ _ _ _ (hT' _ (Or.inl rfl)) hb hw (fun z => absurd rfl z) ⟨?_, fun d h1 h2 => ?_⟩
              · rw [bt_pot po (by omega) (by decide)]
                by_cases hb0 : b = 0
                · subst hb0; rw [upd_s]; simp
                · rw [upd_n (fun z => hb0 z.symm)]
                  have : ¬ 0 = b := fun z => hb0 z.symm
                  simp [this, hI.1]
              · rw [bt_pot po (by omega) h2, hI.2 d h1 h2]
                have : ¬ d = b := by omega
                simp [this]
          · have hj1 : ¬ nI j = -1 := nI_ne_m1 (by omega)
            have hjc : (nI j).toNatClampNeg = j := nI_clamp (by omega)
            have e : rollP kd bl (F + 1) c b w pw mv bo po hd hp = rollP kd bl F c j w (pwN (kd j) (pw - 1)) mv bo po (if b = 0 ∧ hd = -1 then nI w else hd) (if b = 0 ∧ hd = -1 then pw - 1 else hp) := by
              rw [rollP, if_neg hp0, hcb, hcl, if_neg hoff, hx, if_neg hj1, hjc]
            rw [e]; exact ih _ _ _ _ _ _ _ _ _ hT (by omega) hw (fun _ => by rw [hcj]; exact nI_ne_m1 hx45) hI
