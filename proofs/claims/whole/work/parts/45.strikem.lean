/-- what the reference's table shares with the class's -/
def MF (bl : Nat) (kv wv mk mw : Nat → Int32) : Prop := ∀ d, d ≤ bl → mk d = kv d ∧ mw d = wv d
theorem m4_add (x : Int32) : -4 + x = x - 4 := by rw [Int32.add_comm, Int32.sub_eq_add_neg]
theorem strike_ok {bl sp : Nat} {kd wd : Nat → Nat} {kv wv : Nat → Int32} (hF : TF bl sp kd wd kv wv) {tk : Int64} {c : Nat → Int32} (hT : TW bl tk c) {w st s n : Nat} (hw : w < 8) (hst : st ≤ 9) (hs : s < 3) (hn : 100 ≤ n) {mk mw v : Nat → Int32} (hM : MF bl kv wv mk mw) (hv : ∀ d, d ≤ bl → v d = c d) (a1 a2 a3 a4 a5 a6 a7 a8 : Int32) :
    ∃ hf2 hpm2 dn2 rt2 v3, f_X12_strike n (nI bl) (nI sp) a1 a2 a3 a4 a5 a6 a7 a8 mk mw v (nI w) (nI st) (nI s) = some (sBr kd wd bl c w st s, sPo kd bl c w st s, sMv kd bl c w st s, sBo kd bl c w st s, hf2, hpm2, dn2, rt2, b2 (sFo kd bl c w st s), v3) ∧ ∀ d, d ≤ bl → v3 d = sC kd bl sp c w st s d := by
  obtain ⟨tk1, -, hT1, ho1⟩ := r1_ok hF hT hw hst hn
  obtain ⟨hI, tk2, hT2, ho2, -, -⟩ := r2_ok hF hT hw hst hs hn hT1 ho1
  obtain ⟨hP1, hP2, -⟩ := r1_pot hF hT hw hst
  obtain ⟨h1, h6, hsp, hspk, hk, hW⟩ := hF
  obtain ⟨hTc, hoff, h0⟩ := hT
  have hkm : ∀ d, d ≤ bl → kd d < 5 ∧ mk d = nI (kd d) := fun d hd => ⟨(hk d (by omega)).1, (hM d hd).1.trans (hk d (by omega)).2⟩
  have hwm : ∀ d, d ≤ bl → mw d = nI (wd d) := fun d hd => (hM d hd).2.trans (hW d (by omega)).2
  obtain ⟨q, hq, -, hc⟩ := (hTc.1 0 (by decide)).resolve_left h0
  obtain ⟨v1, hf1, hpm1, dn1, rt1, e1, hv1, hH1⟩ := rollM (mk := mk) (kd := kd) (bl := bl) (n := n) h1 h6 (by omega) hkm 99 n 0 w st 0 c v 0 0 0 (-1) (-1) a5 a6 a7 (fun d hd => hTc.1 d (by omega)) hv (by omega) hw hst (fun _ => ⟨q, hq, hc, by have := t_ah q hq w hw; omega⟩) (by omega) (Or.inl ⟨rfl, rfl⟩)
  change f_X12_roll n (nI bl) 0 0 0 (-1) a5 a6 a7 mk v 0 (rowS w) (colS w) (nI st) = some ((r1P kd bl c w st).2.2.2.1, (r1P kd bl c w st).2.1, (r1P kd bl c w st).2.2.1, hf1, hpm1, dn1, rt1, v1) at e1
  change ∀ d, d ≤ bl → v1 d = (r1P kd bl c w st).1 d at hv1
  change HitR (r1P kd bl c w st).2.2.2.2.1 (r1P kd bl c w st).2.2.2.2.2 hf1 hpm1 dn1 rt1 at hH1
  have hfd : (hf1 = -1) ↔ ((r1P kd bl c w st).2.2.2.2.1 = -1) := by
    rcases hH1 with ⟨g1, g2⟩ | ⟨g1, w0, g2, g3, -⟩
    · exact ⟨fun _ => g1, fun _ => g2⟩
    · exact ⟨fun z => absurd z g1, fun z => absurd (g3.symm.trans z) (nI_ne_m1 (by omega))⟩
  obtain ⟨v2, hf2, hpm2, dn2, rt2, hv2, hA, hB⟩ : ∃ (v2 : Nat → Int32) (hf2 hpm2 dn2 rt2 : Int32), (∀ d, d ≤ bl → v2 d = (r2P kd bl c w st s).1 d) ∧
      ((s = 0 ∨ (r1P kd bl c w st).2.2.2.2.1 = -1 ∨ (r1P kd bl c w st).1 0 = -1) → v2 = v1 ∧ hf2 = hf1 ∧ hpm2 = hpm1 ∧ dn2 = dn1 ∧ rt2 = rt1 ∧ (r2P kd bl c w st s) = (r1P kd bl c w st)) ∧
      (¬ (s = 0 ∨ (r1P kd bl c w st).2.2.2.2.1 = -1 ∨ (r1P kd bl c w st).1 0 = -1) → f_X12_roll n (nI bl) (r1P kd bl c w st).2.2.2.1 (r1P kd bl c w st).2.1 (r1P kd bl c w st).2.2.1 hf1 hpm1 dn1 rt1 mk v1 0 ((if nI s = 1 then 1 else -1) * dn1) ((if nI s = 1 then 1 else -1) * rt1) (hpm1 / 2) = some ((r2P kd bl c w st s).2.2.2.1, (r2P kd bl c w st s).2.1, (r2P kd bl c w st s).2.2.1, hf2, hpm2, dn2, rt2, v2)) := by
    by_cases hz : s = 0 ∨ (r1P kd bl c w st).2.2.2.2.1 = -1 ∨ (r1P kd bl c w st).1 0 = -1
    · have e : (r2P kd bl c w st s) = (r1P kd bl c w st) := by rw [r2P, if_pos hz]
      exact ⟨v1, hf1, hpm1, dn1, rt1, by rw [e]; exact hv1, fun _ => ⟨rfl, rfl, rfl, rfl, rfl, e⟩, fun h => absurd hz h⟩
    · have hs0 : ¬ s = 0 := fun h => hz (Or.inl h)
      have hd1 : ¬ (r1P kd bl c w st).2.2.2.2.1 = -1 := fun h => hz (Or.inr (Or.inl h))
      have hc0 : ¬ (r1P kd bl c w st).1 0 = -1 := fun h => hz (Or.inr (Or.inr h))
      have hH := hH1
      obtain ⟨g1, w0, hw0, g3, g4, g5, g6⟩ := hH1.resolve_left (fun z => hd1 z.1)
      have hcl : (nI w0).toNatClampNeg = w0 := nI_clamp (by omega)
      obtain ⟨q1, hq1, -, hc1⟩ := (hT1.1 0 (by decide)).resolve_left hc0
      have htb := t_back w0 hw0
      obtain ⟨w2, hw2, hwe, hwr, hwc⟩ : ∃ w2, w2 < 8 ∧ (if s = 1 then (r1P kd bl c w st).2.2.2.2.1.toNatClampNeg else ((r1P kd bl c w st).2.2.2.2.1.toNatClampNeg + 4) % 8) = w2 ∧ (if nI s = 1 then 1 else -1) * dn1 = rowS w2 ∧ (if nI s = 1 then 1 else -1) * rt1 = colS w2 := by
        rw [g3, hcl, g4, g5]
        by_cases h : s = 1
        · subst h
          exact ⟨w0, hw0, by simp, by rw [if_pos (show nI 1 = 1 by decide)]; exact htb.2.2.2.1, by rw [if_pos (show nI 1 = 1 by decide)]; exact htb.2.2.2.2⟩
        · have h2 : ¬ nI s = 1 := fun z => h ((nI_eq (by omega) (by decide)).mp (z.trans (show (1 : Int32) = nI 1 by decide)))
          refine ⟨(w0 + 4) % 8, by omega, by rw [if_neg h], ?_, ?_⟩
          · rw [if_neg h2]; exact htb.2.1.symm
          · rw [if_neg h2]; exact htb.2.2.1.symm
      have e : (r2P kd bl c w st s) = rollP kd bl 99 (r1P kd bl c w st).1 0 w2 ((r1P kd bl c w st).2.2.2.2.2 / 2) (r1P kd bl c w st).2.1 (r1P kd bl c w st).2.2.1 (r1P kd bl c w st).2.2.2.1 (r1P kd bl c w st).2.2.2.2.1 (r1P kd bl c w st).2.2.2.2.2 := by
        rw [r2P, if_neg hz, hwe]
      obtain ⟨v2, hf2, hpm2, dn2, rt2, e2, hv2, hH2⟩ := rollM (mk := mk) (kd := kd) (bl := bl) (n := n) h1 h6 (by omega) hkm 99 n 0 w2 ((r1P kd bl c w st).2.2.2.2.2 / 2) (r1P kd bl c w st).2.2.2.2.2 (r1P kd bl c w st).1 v1 (r1P kd bl c w st).2.1 (r1P kd bl c w st).2.2.1 (r1P kd bl c w st).2.2.2.1 (r1P kd bl c w st).2.2.2.2.1 hf1 hpm1 dn1 rt1 (fun d hd => hT1.1 d (by omega)) hv1 (by omega) hw2 (by omega) (fun _ => ⟨q1, hq1, hc1, by have := t_ah q1 hq1 w2 hw2; omega⟩) (by omega) hH
      rw [← e] at e2 hv2
      refine ⟨v2, hf2, hpm2, dn2, rt2, hv2, fun h => absurd h hz, fun _ => ?_⟩
      rw [hwr, hwc, g6, t_half _ (by omega)]
      rw [g6] at e2
      exact e2
  have hz : bt (r2P kd bl c w st s).2.2.2.1 0 = decide ((r2P kd bl c w st s).1 0 = -1) := by
    by_cases h : (r2P kd bl c w st s).1 0 = -1
    · rw [hI.1.mpr h]; simp [h]
    · have : ¬ bt (r2P kd bl c w st s).2.2.2.1 0 = true := fun z => h (hI.1.mp z)
      simp only [h, decide_false]
      simpa using this
  have hv20 := hv2 0 (by omega)
  have hz0 : (0 : Int32).toNatClampNeg = 0 := rfl
  have hi0 : inb 0 7 = true := by decide
  obtain ⟨v3, hr, hn3, hv3⟩ : ∃ v3 : Nat → Int32, ((r2P kd bl c w st s).1 0 = -1 → f_X12_spotWhite n (nI bl) (nI sp) v2 = some v3) ∧ (¬ (r2P kd bl c w st s).1 0 = -1 → v3 = v2) ∧ ∀ d, d ≤ bl → v3 d = sC kd bl sp c w st s d := by
    by_cases h : (r2P kd bl c w st s).1 0 = -1
    · refine ⟨_, fun _ => spot_ok h1 h6 (by omega) hv2 h hsp, fun z => absurd h z, fun d hd => ?_⟩
      rw [sC, if_pos h]
      by_cases hd0 : d = 0
      · rw [hd0, upd_s, upd_s]
      · rw [upd_n hd0, upd_n hd0]; exact hv2 d hd
    · refine ⟨v2, fun z => absurd z h, fun _ => rfl, fun d hd => ?_⟩
      rw [sC, if_neg h]; exact hv2 d hd
  refine ⟨hf2, hpm2, dn2, rt2, v3, ?_, hv3⟩
  have hstep := t_step w hw
  unfold f_X12_strike
  rw [hstep.2.2.1, Option.bind_some, hstep.2.2.2, Option.bind_some, e1, Option.bind_some]
  refine jn_of (fun T1 hT1' => ?_)
  have key : T1 (b2 (decide ((r1P kd bl c w st).2.2.2.2.1 = -1))) = some (sBr kd wd bl c w st s, sPo kd bl c w st s, sMv kd bl c w st s, sBo kd bl c w st s, hf2, hpm2, dn2, rt2, b2 (sFo kd bl c w st s), v3) := by
    rw [hT1']
    simp only [gd, isb_b2, if_true]
    refine jn_of (fun T2 hT2' => ?_)
    have key2 : T2 (r2P kd bl c w st s).2.2.2.1 (r2P kd bl c w st s).2.1 (r2P kd bl c w st s).2.2.1 hf2 hpm2 dn2 rt2 v2 = some (sBr kd wd bl c w st s, sPo kd bl c w st s, sMv kd bl c w st s, sBo kd bl c w st s, hf2, hpm2, dn2, rt2, b2 (sFo kd bl c w st s), v3) := by
      rw [hT2']
      refine jn_of (fun T3 hT3' => ?_)
      have key3 : T3 (b2 (sFo kd bl c w st s)) = some (sBr kd wd bl c w st s, sPo kd bl c w st s, sMv kd bl c w st s, sBo kd bl c w st s, hf2, hpm2, dn2, rt2, b2 (sFo kd bl c w st s), v3) := by
        rw [hT3']
        simp only [isb_b2, if_true]
        refine jn_of (fun T4 hT4' => ?_)
        have key4 : T4 (if sFo kd bl c w st s = true then -4 else 0) = some (sBr kd wd bl c w st s, sPo kd bl c w st s, sMv kd bl c w st s, sBo kd bl c w st s, hf2, hpm2, dn2, rt2, b2 (sFo kd bl c w st s), v3) := by
          rw [hT4']
          refine jn_of (fun T5 hT5' => ?_)
          have hl := sw_loop (po := (r2P kd bl c w st s).2.2.2.1) h6 hwm T5 (if sFo kd bl c w st s = true then -4 else 0) bl 1 n (by omega) (by omega) (by omega)
          have ez : (if sFo kd bl c w st s = true then (-4 : Int32) else 0) + nI (wS (r2P kd bl c w st s).2.2.2.1 wd (1 - 1)) = (if sFo kd bl c w st s = true then -4 else 0) := by
            show _ + nI 0 = _
            rw [show nI 0 = 0 by decide, Int32.add_zero]
          have eb : (if sFo kd bl c w st s = true then (-4 : Int32) else 0) + nI (wS (r2P kd bl c w st s).2.2.2.1 wd bl) = sBr kd wd bl c w st s := by
            unfold sBr sPo
            cases sFo kd bl c w st s
            · simp
            · simp only [if_true]; exact m4_add _
          rw [ez, eb] at hl
          refine hl.trans ?_
          rw [hT5']
          simp only [hi0, if_true, hz0, hv20]
          by_cases h : (r2P kd bl c w st s).1 0 = -1
          · rw [if_pos h, hr h]; rfl
          · rw [if_neg h, hn3 h]; rfl
        cases ef : sFo kd bl c w st s
        · rw [ef] at key4
          simp only [b2_f, if_true]
          exact key4
        · rw [ef] at key4
          simp only [b2_t, one_ne, if_false]
          exact key4
      simp only [jn, bit_0, hz]
      by_cases h1' : (r1P kd bl c w st).2.2.2.2.1 = -1
      · have ef : sFo kd bl c w st s = true := by simp [sFo, h1']
        rw [ef] at key3 ⊢
        simp only [h1', decide_true, b2_t, one_ne, if_false] at key3 ⊢
        exact key3
      · by_cases h : (r2P kd bl c w st s).1 0 = -1
        · have ef : sFo kd bl c w st s = true := by simp [sFo, h]
          rw [ef] at key3 ⊢
          simp only [h1', h, decide_true, decide_false, b2_t, b2_f, if_true] at key3 ⊢
          exact key3
        · have ef : sFo kd bl c w st s = false := by simp [sFo, h, h1']
          rw [ef] at key3 ⊢
          simp only [h1', h, decide_false, b2_f, if_true] at key3 ⊢
          rw [if_neg (by decide)]
          exact key3
    by_cases hzz : s = 0 ∨ (r1P kd bl c w st).2.2.2.2.1 = -1 ∨ (r1P kd bl c w st).1 0 = -1
    · obtain ⟨x1, x2, x3, x4, x5, x6⟩ := hA hzz
      have key4 : T2 (r1P kd bl c w st).2.2.2.1 (r1P kd bl c w st).2.1 (r1P kd bl c w st).2.2.1 hf1 hpm1 dn1 rt1 v1 = some (sBr kd wd bl c w st s, sPo kd bl c w st s, sMv kd bl c w st s, sBo kd bl c w st s, hf2, hpm2, dn2, rt2, b2 (sFo kd bl c w st s), v3) := by
        rw [← x6, ← x1, ← x2, ← x3, ← x4, ← x5]; exact key2
      simp only [hi0, if_true, hz0, hv1 0 (by omega)]
      by_cases hd1 : (r1P kd bl c w st).2.2.2.2.1 = -1
      · rw [if_neg (by simp [hd1, b2])]; exact key4
      · rw [if_pos (by simp [hd1, b2])]
        by_cases hs0 : s = 0
        · rw [if_pos (by rw [hs0]; decide)]; exact key4
        · have hc1 : (r1P kd bl c w st).1 0 = -1 := (hzz.resolve_left hs0).resolve_left hd1
          rw [if_neg (nI_nle (by omega) (by omega)), if_pos hc1]
          exact key4
    · have hs0 : ¬ s = 0 := fun h => hzz (Or.inl h)
      have hd1 : ¬ (r1P kd bl c w st).2.2.2.2.1 = -1 := fun h => hzz (Or.inr (Or.inl h))
      have hc0 : ¬ (r1P kd bl c w st).1 0 = -1 := fun h => hzz (Or.inr (Or.inr h))
      have hB' := hB hzz
      simp only [hi0, if_true, hz0, hv1 0 (by omega)]
      rw [if_pos (by simp [hd1, b2]), if_neg (nI_nle (by omega) (by omega)), if_neg hc0]
      simp only [jn]
      by_cases hs1 : nI s = 1
      · simp only [if_pos hs1] at hB' ⊢
        rw [hB', Option.bind_some]
        exact key2
      · simp only [if_neg hs1] at hB' ⊢
        rw [hB', Option.bind_some]
        exact key2
  have e4 : (if hf1 = -1 then T1 1 else T1 0) = T1 (b2 (decide ((r1P kd bl c w st).2.2.2.2.1 = -1))) := by
    by_cases h : (r1P kd bl c w st).2.2.2.2.1 = -1
    · rw [if_pos (hfd.mpr h)]; simp [h, b2]
    · rw [if_neg (fun z => h (hfd.mp z))]; simp [h, b2]
  exact e4.trans key
