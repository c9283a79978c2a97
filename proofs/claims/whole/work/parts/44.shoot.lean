theorem isb_b2 (x : Bool) : isb (b2 x) = true := by cases x <;> decide
theorem shoot_ok {bl sp : Nat} {kd wd : Nat → Nat} {kv wv : Nat → Int32} (hF : TF bl sp kd wd kv wv) {tk : Int64} {c : Nat → Int32} (hT : TW bl tk c) {w st s n : Nat} (hw : w < 8) (hst : st ≤ 9) (hs : s < 3) (hn : 100 ≤ n) (m0 b0 p0 br0 h0 hp0 fo0 : Int32) :
    ∃ hd' hp' tk', f_X9_shoot n m0 b0 p0 br0 h0 hp0 fo0 tk (nI sp) c kv wv (nI w) (nI st) (nI s) = some (sMv kd bl c w st s, sBo kd bl c w st s, sPo kd bl c w st s, sBr kd wd bl c w st s, hd', hp', b2 (sFo kd bl c w st s), tk', sC kd bl sp c w st s) ∧ TW bl tk' (sC kd bl sp c w st s) := by
  obtain ⟨tk1, e1, hT1, ho1⟩ := r1_ok hF hT hw hst hn
  obtain ⟨hI, tk2, hT2, ho2, hA, hB⟩ := r2_ok hF hT hw hst hs hn hT1 ho1
  obtain ⟨hP1, -, -⟩ := r1_pot hF hT hw hst
  obtain ⟨h1, h6, hsp, hspk, hk, hW⟩ := hF
  have hz : bt (r2P kd bl c w st s).2.2.2.1 0 = decide ((r2P kd bl c w st s).1 0 = -1) := by
    by_cases h : (r2P kd bl c w st s).1 0 = -1
    · rw [hI.1.mpr h]; simp [h]
    · have : ¬ bt (r2P kd bl c w st s).2.2.2.1 0 = true := fun z => h (hI.1.mp z)
      simp only [h, decide_false]
      simpa using this
  obtain ⟨tk3, hr, hn3, hT3⟩ : ∃ tk3, ((r2P kd bl c w st s).1 0 = -1 → f_X10_returnWhite n tk2 (nI sp) (r2P kd bl c w st s).1 = some (tk3, sC kd bl sp c w st s)) ∧ (¬ (r2P kd bl c w st s).1 0 = -1 → tk3 = tk2 ∧ sC kd bl sp c w st s = (r2P kd bl c w st s).1) ∧ TW bl tk3 (sC kd bl sp c w st s) := by
    by_cases h : (r2P kd bl c w st s).1 0 = -1
    · obtain ⟨tk3, g1, g2, g3, g4⟩ := ret_ok (n := n) hT2 h6 (by omega) ho2 h hsp hspk
      have e : sC kd bl sp c w st s = upd (r2P kd bl c w st s).1 0 (nI (spotP bl (r2P kd bl c w st s).1 sp)) := by rw [sC, if_pos h]
      rw [← e] at g1 g2
      refine ⟨tk3, fun _ => g1, fun z => absurd h z, g2, fun d hd hd7 => ?_, ?_⟩
      · rw [e, upd_n (by omega)]; exact ho2 d hd hd7
      · rw [e, upd_s]; exact nI_ne_m1 g3
    · have e : sC kd bl sp c w st s = (r2P kd bl c w st s).1 := by rw [sC, if_neg h]
      refine ⟨tk2, fun z => absurd z h, fun _ => ⟨rfl, e⟩, ?_⟩
      rw [e]; exact ⟨hT2, ho2, h⟩
  refine ⟨(r2P kd bl c w st s).2.2.2.2.1, nI (r2P kd bl c w st s).2.2.2.2.2, tk3, ?_, hT3⟩
  unfold f_X9_shoot
  rw [e1, Option.bind_some]
  refine jn_of (fun T1 hT1' => ?_)
  have key : T1 (b2 (decide ((r1P kd bl c w st).2.2.2.2.1 = -1))) = some (sMv kd bl c w st s, sBo kd bl c w st s, sPo kd bl c w st s, sBr kd wd bl c w st s, (r2P kd bl c w st s).2.2.2.2.1, nI (r2P kd bl c w st s).2.2.2.2.2, b2 (sFo kd bl c w st s), tk3, sC kd bl sp c w st s) := by
    rw [hT1']
    refine jn_of (fun T2 hT2' => ?_)
    have key2 : T2 (r2P kd bl c w st s).2.1 (r2P kd bl c w st s).2.2.1 (r2P kd bl c w st s).2.2.2.1 (r2P kd bl c w st s).2.2.2.2.1 (nI (r2P kd bl c w st s).2.2.2.2.2) tk2 (r2P kd bl c w st s).1 = some (sMv kd bl c w st s, sBo kd bl c w st s, sPo kd bl c w st s, sBr kd wd bl c w st s, (r2P kd bl c w st s).2.2.2.2.1, nI (r2P kd bl c w st s).2.2.2.2.2, b2 (sFo kd bl c w st s), tk3, sC kd bl sp c w st s) := by
      rw [hT2']
      refine jn_of (fun T3 hT3' => ?_)
      have key3 : T3 (b2 (sFo kd bl c w st s)) = some (sMv kd bl c w st s, sBo kd bl c w st s, sPo kd bl c w st s, sBr kd wd bl c w st s, (r2P kd bl c w st s).2.2.2.2.1, nI (r2P kd bl c w st s).2.2.2.2.2, b2 (sFo kd bl c w st s), tk3, sC kd bl sp c w st s) := by
        rw [hT3']
        have hwp : f_X9_worthPotted n (r2P kd bl c w st s).2.2.2.1 wv = some (nI (wS (r2P kd bl c w st s).2.2.2.1 wd bl)) := by
          unfold f_X9_worthPotted
          have h := wp_loop (po := (r2P kd bl c w st s).2.2.2.1) hW 6 1 n (by omega) (by omega) (by omega)
          rw [← (by simpa [show bl + (6 - bl) = 6 by omega] using wS_stop (wd := wd) (m := bl) (po := (r2P kd bl c w st s).2.2.2.1) (fun i h3 h4 => hI.2 i h3 h4) (6 - bl) (by omega) : wS (r2P kd bl c w st s).2.2.2.1 wd 6 = wS (r2P kd bl c w st s).2.2.2.1 wd bl)]
          exact h
        simp only [gd, isb_b2, if_true, hwp, Option.bind_some, jn, f_X9_isWhitePotted, bit_0, hz]
        by_cases h : (r2P kd bl c w st s).1 0 = -1
        · have e3 : b2 (decide ((r2P kd bl c w st s).1 0 = -1)) = 1 := by simp [h, b2]
          have ef : sFo kd bl c w st s = true := by simp [sFo, h]
          simp only [e3, one_ne, if_false, Option.bind_some, hr h, ef, b2_t, sBr, if_true]
          rfl
        · have e3 : b2 (decide ((r2P kd bl c w st s).1 0 = -1)) = 0 := by simp [h, b2]
          simp only [e3, if_true, Option.bind_some, (hn3 h).1, (hn3 h).2, sBr]
          cases ef : sFo kd bl c w st s
          · simp only [b2_f, if_true, if_false]; rfl
          · simp only [b2_t, one_ne, if_true, if_false]; rfl
      simp only [jn, f_X9_isWhitePotted, bit_0, hz]
      by_cases h1' : (r1P kd bl c w st).2.2.2.2.1 = -1
      · have ef : sFo kd bl c w st s = true := by simp [sFo, h1']
        rw [ef] at key3 ⊢
        simp only [h1', decide_true, b2_t, one_ne, if_false] at key3 ⊢
        exact key3
      · by_cases h : (r2P kd bl c w st s).1 0 = -1
        · have ef : sFo kd bl c w st s = true := by simp [sFo, h]
          rw [ef] at key3 ⊢
          simp only [h1', h, decide_true, decide_false, b2_t, b2_f, one_ne, if_true, if_false, Option.bind_some] at key3 ⊢
          exact key3
        · have ef : sFo kd bl c w st s = false := by simp [sFo, h, h1']
          rw [ef] at key3 ⊢
          simp only [h1', h, decide_false, b2_f, if_true, Option.bind_some] at key3 ⊢
          exact key3
    have hz1 : bt (r1P kd bl c w st).2.2.2.1 0 = decide ((r1P kd bl c w st).1 0 = -1) := by
      have hI1 := hP1.1
      by_cases h : (r1P kd bl c w st).1 0 = -1
      · rw [hI1.mpr h]; simp [h]
      · have : ¬ bt (r1P kd bl c w st).2.2.2.1 0 = true := fun z => h (hI1.mp z)
        simp only [h, decide_false]
        simpa using this
    by_cases hzz : s = 0 ∨ (r1P kd bl c w st).2.2.2.2.1 = -1 ∨ (r1P kd bl c w st).1 0 = -1
    · obtain ⟨ea, eb⟩ := hA hzz
      have key4 : T2 (r1P kd bl c w st).2.1 (r1P kd bl c w st).2.2.1 (r1P kd bl c w st).2.2.2.1 (r1P kd bl c w st).2.2.2.2.1 (nI (r1P kd bl c w st).2.2.2.2.2) tk1 (r1P kd bl c w st).1 = some (sMv kd bl c w st s, sBo kd bl c w st s, sPo kd bl c w st s, sBr kd wd bl c w st s, (r2P kd bl c w st s).2.2.2.2.1, nI (r2P kd bl c w st s).2.2.2.2.2, b2 (sFo kd bl c w st s), tk3, sC kd bl sp c w st s) := by
        rw [← ea, ← eb]; exact key2
      simp only [jn, f_X9_isWhitePotted, bit_0, hz1]
      by_cases hs0 : s = 0
      · rw [if_pos (by rw [hs0]; decide)]; exact key4
      · rw [if_neg (nI_ne0 (by omega) (by omega))]
        by_cases hd1 : (r1P kd bl c w st).2.2.2.2.1 = -1
        · rw [if_neg (by simp [hd1, b2])]; exact key4
        · have hc1 : (r1P kd bl c w st).1 0 = -1 := (hzz.resolve_left hs0).resolve_left hd1
          rw [if_pos (by simp [hd1, b2])]
          simp only [hc1, decide_true, b2_t, one_ne, if_false, Option.bind_some]
          exact key4
    · have hs0 : ¬ s = 0 := fun h => hzz (Or.inl h)
      have hd1 : ¬ (r1P kd bl c w st).2.2.2.2.1 = -1 := fun h => hzz (Or.inr (Or.inl h))
      have hc0 : ¬ (r1P kd bl c w st).1 0 = -1 := fun h => hzz (Or.inr (Or.inr h))
      have hB' := hB hzz
      simp only [jn, f_X9_isWhitePotted, bit_0, hz1]
      rw [if_neg (nI_ne0 (by omega) (by omega)), if_pos (by simp [hd1, b2])]
      simp only [hc0, decide_false, b2_f, if_true, Option.bind_some]
      by_cases hs1 : nI s = 1
      · rw [if_pos hs1] at hB' ⊢
        rw [hB', Option.bind_some]
        exact key2
      · rw [if_neg hs1] at hB' ⊢
        rw [hB', Option.bind_some]
        exact key2
  by_cases h : (r1P kd bl c w st).2.2.2.2.1 = -1
  · rw [if_pos h]
    simpa [h, b2] using key
  · rw [if_neg h]
    simpa [h, b2] using key
