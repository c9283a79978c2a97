/-! the safe stroke -/
def gS (kd wd : Nat → Nat) (bl sp : Nat) (c : Nat → Int32) (N i : Nat) : Option Int32 := if sFo kd bl c (i / 27) (i / 3 % 9 + 1) (i % 3) = true then none else some (repP kd wd bl (sC kd bl sp c (i / 27) (i / 3 % 9 + 1) (i % 3)) N)
def ltI (x y : Int32) : Bool := decide (y < x)
theorem ch_skip {g : Nat → Option Int32} {lt : Int32 → Int32 → Bool} {i : Nat} (hg : g i = none) : chF g lt (i + 1) = chF g lt i := by
  rw [chF, hg]
theorem chooseSafe_ok {bl sp : Nat} {kd wd : Nat → Nat} {kv wv : Nat → Int32} (hF : TF bl sp kd wd kv wv) {tk : Int64} {c : Nat → Int32} (hT : TW bl tk c) {M N : Nat} (hM : M = 216) (hN : N = 24) {n : Nat} (hn : 1000 ≤ n) {ch va m0 b0 p0 br0 h0 hp0 fo0 sz sq m1 b1 p1 br1 h1 hp1 fo1 sz1 sq1 : Int32} {t0 t1 : Int64} {v1 v2 v3 v4 v5 v6 : Nat → Int32} :
    ∃ r, f_X0_chooseSafe n ch va m0 b0 p0 br0 h0 hp0 fo0 t0 sz sq v1 v2 v3 m1 b1 p1 br1 h1 hp1 fo1 t1 sz1 sq1 v4 v5 v6 tk (nI bl) (nI sp) c kv wv = some r ∧ RC (chF (gS kd wd bl sp c N) ltI M) r.1 r.2.1 := by
  unfold f_X0_chooseSafe f_X0_chooseSafe_L7
  refine lp_r (fun j s => ∃ i, j + i = M ∧ s.1 = nI i ∧ RC (chF (gS kd wd bl sp c N) ltI i) s.2.1 s.2.2.1) M ⟨0, by omega, nI_0.symm, rfl⟩ (by omega) ?_ ?_
  · rintro g ⟨x, ch, va, r⟩ ⟨i, hi, hx, hR⟩
    have hi : i = M := by omega
    subst hi
    dsimp only at hx hR ⊢
    unfold b_X0_chooseSafe_L7
    rw [hx, if_pos (show (216 : Int32) ≤ nI i by rw [hM]; decide)]
    refine ⟨_, rfl, ?_⟩
    exact hR
  · rintro g j ⟨x, ch, va, r⟩ ⟨i, hi, hx, hR⟩
    left
    dsimp only at hx hR ⊢
    unfold b_X0_chooseSafe_L7
    rw [hx, if_neg (show ¬ (216 : Int32) ≤ nI i from nI_ge (b := 216) (by omega) (by decide))]
    refine bind_l (try_ok hF hT (by omega) (by omega)) ?_
    rintro ⟨mv, bo, po, br, hd, hp, fo, tk1, sz1, sp1, c1, k1, w1⟩ ⟨g1, g2, g3, g4, g5, g6, g7, g8⟩
    dsimp only at g1 g2 g3 g4 g5 g6 g7 g8 ⊢
    subst g1; subst g2; subst g5; subst g6; subst g7; subst g8
    simp only [jn, bnd, nI_1, f_X0_choose, Option.bind_some]
    cases hfo : sFo kd bl c (i / 27) (i / 3 % 9 + 1) (i % 3)
    · rw [if_pos b2_f]
      refine bind_l (bestReply_ok hF g3 hN hn) (fun r2 hr2 => ?_)
      obtain ⟨ch', va', hR', hA, hB⟩ := ch_step (g := gS kd wd bl sp c N) (lt := ltI) (y := repP kd wd bl (sC kd bl sp c (i / 27) (i / 3 % 9 + 1) (i % 3)) N) (show i < 216 by omega) (by rw [gS, hfo, if_neg (by decide)]) hR
      rw [hr2]
      by_cases h1 : ch = -1
      · rw [if_pos h1]
        obtain ⟨e1, e2⟩ := hA (Or.inl h1)
        subst e1; subst e2
        refine ⟨_, ?_, rfl⟩
        exact ⟨i + 1, by omega, rfl, hR'⟩
      · rw [if_neg h1]
        by_cases h2 : va ≤ repP kd wd bl (sC kd bl sp c (i / 27) (i / 3 % 9 + 1) (i % 3)) N
        · rw [if_pos h2]
          obtain ⟨e1, e2⟩ := hB (fun z => z.elim h1 (fun z => by simp only [ltI, decide_eq_true_eq] at z; exact le_nlt.mp h2 z))
          subst e1; subst e2
          refine ⟨_, ?_, rfl⟩
          exact ⟨i + 1, by omega, rfl, hR'⟩
        · rw [if_neg h2]
          obtain ⟨e1, e2⟩ := hA (Or.inr (by simp only [ltI, decide_eq_true_eq]; exact Int32.not_le.mp h2))
          subst e1; subst e2
          refine ⟨_, ?_, rfl⟩
          exact ⟨i + 1, by omega, rfl, hR'⟩
    · rw [if_neg (by rw [b2_t]; decide)]
      refine ⟨_, ?_, rfl⟩
      exact ⟨i + 1, by omega, rfl, by rw [ch_skip (by rw [gS, hfo, if_pos rfl])]; exact hR⟩
theorem safeOf_ok {bl sp : Nat} {kd wd : Nat → Nat} {kv wv : Nat → Int32} (hF : TF bl sp kd wd kv wv) {tk : Int64} {c : Nat → Int32} (hT : TW bl tk c) {M N : Nat} (hM : M = 216) (hN : N = 24) {n : Nat} (hn : 1000 ≤ n) {mk mw mc mo mt : Nat → Int32} (hMF : MF bl kv wv mk mw) (hv : ∀ d, d ≤ bl → mc d = c d) {a1 a2 a3 a4 a5 a6 a7 a8 a9 a10 : Int32} (p : Int32) :
    ∃ r, f_X12_safeOf n (nI bl) (nI sp) a1 a2 a3 a4 a5 a6 a7 a8 a9 a10 mk mw mc mo mt p = some r ∧ r.1 = TV (chF (gS kd wd bl sp c N) ltI M) p := by
  unfold f_X12_safeOf f_X12_safeOf_L13
  simp only [jn]
  refine lp_r (fun j s => ∃ q, j + q = 800 ∧ s.1 = nI q ∧ RM (fun co => co = -1) 99 (chF (gS kd wd bl sp c N) ltI (nb q)) s.2.2.2.2.2.2.2.2.2.1 s.2.2.2.2.2.2.2.2.2.2.1) 800 ⟨0, by omega, nI_0.symm, ⟨rfl, rfl⟩⟩ (by omega) ?_ ?_
  · rintro g ⟨x, s1, s2, s3, s4, s5, s6, s7, s8, co, br, v⟩ ⟨q, hq, hx, hR⟩
    dsimp only at hx hR ⊢
    have hq : q = 800 := by omega
    have hnb : nb q = M := by rw [hq, hM]; decide
    rw [hnb] at hR
    unfold b_X12_safeOf_L13
    rw [hx, if_pos (show (800 : Int32) ≤ nI q by rw [hq]; decide)]
    cases ho : chF (gS kd wd bl sp c N) ltI M with
    | none =>
      rw [ho] at hR
      dsimp only
      rw [if_pos hR.2]
      exact ⟨_, rfl, rfl⟩
    | some mx =>
      obtain ⟨m, x⟩ := mx
      rw [ho] at hR
      dsimp only
      rw [if_neg (by rw [hR.2.1]; exact (t_cof m hR.1).2.2.2)]
      by_cases hp : p = 0
      · rw [if_pos hp]
        refine ⟨_, rfl, ?_⟩
        dsimp only
        rw [hR.2.2, TV, if_pos hp]
      · rw [if_neg hp, tellc_ok hR hp]
        exact ⟨_, rfl, rfl⟩
  · rintro g j ⟨x, s1, s2, s3, s4, s5, s6, s7, s8, co, br, v, v'⟩ ⟨q, hq, hx, hR⟩
    left
    dsimp only at hx hR ⊢
    have ht := t_code q (by omega)
    unfold b_X12_safeOf_L13
    rw [hx, if_neg (show ¬ (800 : Int32) ≤ nI q from nI_ge (b := 800) (by omega) (by decide)), ht.1, Option.bind_some]
    simp only [jn, bnd, nI_1]
    cases hvq : vC q
    · rw [hvq, if_neg (by decide)] at ht
      rw [if_pos b2_f]
      refine ⟨_, ?_, rfl⟩
      exact ⟨q + 1, by omega, rfl, by rw [ht.2]; exact hR⟩
    · rw [hvq, if_pos rfl] at ht
      obtain ⟨-, e1, e2, e3, e4, e5, e6⟩ := ht
      rw [if_neg (by rw [b2_t]; decide), e1, e2, e3]
      refine bind_l (copy_ok (by decide) (by omega) _ _) (fun w hw => ?_)
      refine bind_l (strike_r hF hT (by omega) (by omega) (by omega) (by omega) hMF (fun d hd => (hw d (by have := hF.2.1; omega)).trans (hv d hd))) (fun r hr => ?_)
      obtain ⟨tk1, hT1⟩ := shoot_TW hF hT (w := nb q / 27) (st := nb q / 3 % 9 + 1) (s := nb q % 3) (by omega) (by omega) (by omega)
      rw [hr.2.2.2.2.1]
      cases hfo : sFo kd bl c (nb q / 27) (nb q / 3 % 9 + 1) (nb q % 3)
      · rw [if_pos b2_f]
        refine bind_l (replyOf_ok hF hT1 hN hn hMF hr.2.2.2.2.2) (fun r2 hr2 => ?_)
        rw [hr2]
        have hb2 := rep_bd hF (sC kd bl sp c (nb q / 27) (nb q / 3 % 9 + 1) (nb q % 3)) N
        obtain ⟨co', br', hR', hA, hB⟩ := rm_step (g := gS kd wd bl sp c N) (lt := ltI) (y := repP kd wd bl (sC kd bl sp c (nb q / 27) (nb q / 3 % 9 + 1) (nb q % 3)) N) e5 (by rw [gS, hfo, if_neg (by decide)]) (by
          simp only [ltI, decide_eq_true_eq]
          exact lt_of_bd (by
            have h9 : (99 : Int32).toInt = 99 := by decide
            omega)) hR
        rw [← e6] at hR'
        by_cases h2 : br ≤ repP kd wd bl (sC kd bl sp c (nb q / 27) (nb q / 3 % 9 + 1) (nb q % 3)) N
        · rw [if_pos h2, if_pos h2]
          obtain ⟨f1, f2⟩ := hB (fun z => by simp only [ltI, decide_eq_true_eq] at z; exact le_nlt.mp h2 z)
          subst f1; subst f2
          refine ⟨_, ?_, rfl⟩
          exact ⟨q + 1, by omega, rfl, hR'⟩
        · rw [if_neg h2, if_neg h2]
          obtain ⟨f1, f2⟩ := hA (by simp only [ltI, decide_eq_true_eq]; exact Int32.not_le.mp h2)
          rw [e4] at f1
          subst f1; subst f2
          refine ⟨_, ?_, rfl⟩
          exact ⟨q + 1, by omega, rfl, hR'⟩
      · rw [if_neg (by rw [b2_t]; decide)]
        refine ⟨_, ?_, rfl⟩
        exact ⟨q + 1, by omega, rfl, by rw [e6, ch_skip (by rw [gS, hfo, if_pos rfl])]; exact hR⟩
