theorem tableC_ok {A : Nat → Nat} {v : Nat → Int32} (hL : LtR A v) {n z : Nat} (hn : 1000 ≤ n) (hz : z ≤ 34) {ik tr sn sc st fo sz sq : Int32} {tk : Int64} {c k w : Nat → Int32} (hK : KW k w) :
    ∃ r, f_X11_table n ik tr (nI z) v sn sc st fo tk sz sq c k w = some r ∧ ((¬ whP A z → r = (-103, ik, tr, nI z, sn, sc, st, fo, tk, sz, sq, c, k, w)) ∧ (whP A z → ∃ tk' c' k' w', r = (nI (z / 5), 0, tr + 1, 0, 0, 0, 0, 0, tk', nI (z / 5), nI (clA A 0), c', k', w') ∧ TW (z / 5) tk' c' ∧ (∀ d, d ≤ z / 5 → c' d = nI (clA A d)) ∧ KW k' w' ∧ RdR A (z / 5) k' w')) := by
  unfold f_X11_table
  refine bind_r (wholeC_ok hL hn hz) (fun u hu => ?_)
  by_cases h : whP A z
  · rw [hu.1 h, if_neg (by decide)]
    obtain ⟨c0, e0, h0⟩ := fill_ok hn c
    have ec : f_X3_clear n sn sc st fo tk c = some (0, 0, 0, 0, 0, c0) := by
      unfold f_X3_clear f_X10_clear
      rw [e0]; rfl
    rw [ec, Option.bind_some]
    refine bind_r (read_ok hL hn hz h h0 hK) ?_
    rintro ⟨tk', s1, s2, c', k', w'⟩ ⟨g1, g2, g3, g4, g5, g6⟩
    dsimp only at g1 g2 g3 g4 g5 g6 ⊢
    subst g1; subst g2
    exact ⟨_, rfl, fun z => absurd h z, fun _ => ⟨tk', c', k', w', rfl, g3, g4, g5, g6⟩⟩
  · rw [hu.2 h, if_pos rfl]
    exact ⟨_, rfl, fun _ => rfl, fun z => absurd z h⟩
theorem tableM_ok {A : Nat → Nat} {v : Nat → Int32} (hL : LtR A v) {n z : Nat} (hn : 1000 ≤ n) (hz : z ≤ 34) {mb ms msc mst mfo mtr msn : Int32} {mk mw mc : Nat → Int32} :
    ∃ r, f_X12_table n (nI z) mb ms msc mst mfo mtr msn v mk mw mc = some r ∧ ((¬ whP A z → r = (-103, nI z, mb, ms, msc, mst, mfo, mtr, msn, mk, mw, mc)) ∧ (whP A z → ∃ mk' mw' mc', r = (nI (z / 5), 0, nI (z / 5), nI (clA A 0), 0, 0, 0, mtr + 1, 0, mk', mw', mc') ∧ mk' 0 = 0 ∧ mw' 0 = 0 ∧ (∀ d, d ≤ z / 5 → mc' d = nI (clA A d)) ∧ RdR A (z / 5) mk' mw')) := by
  have ht := t_z z (by omega)
  have hff := ff_le A z 0
  unfold f_X12_table
  by_cases h7 : z < 7
  · rw [if_pos (ht.1.mpr h7)]
    exact ⟨_, rfl, fun _ => rfl, fun h => by have := h.1; omega⟩
  · rw [if_neg (fun x => h7 (ht.1.mp x))]
    by_cases h2 : z % 5 = 2
    · rw [if_pos (ht.2.1.mpr h2)]
      refine bind_r (faultM_ok hL hn hz) (fun r hr => ?_)
      rw [hr]
      by_cases hf : ffF A z 0 = z
      · rw [if_pos (by rw [hf]; exact nI_le (Nat.le_refl _) (by omega))]
        have hall : ∀ i, i < z → gdP A i = true := fun i hi => ff_all A z 0 (by omega) i (by omega) (by omega)
        have hz32 : z ≤ 32 := by
          by_cases h : z ≤ 32
          · exact h
          · have := hall 32 (by omega)
            rw [gdP, if_pos (by decide)] at this; cases this
        have hdg : ∀ m, m ≤ z / 5 → dgA A m := fun m hm => dg_of (i := z) hall (by omega)
        have hc0 : f_X12_cellAt v 0 = some (nI (clA A 0)) := cellM_ok hL (m := 0) (by decide) (hdg 0 (by omega)) (by decide)
        have hz0 : (0 : Int32).toNatClampNeg = 0 := rfl
        have hi0 : inb 0 7 = true := by decide
        rw [hc0, Option.bind_some]
        simp only [gd, hi0, if_true, jn, hz0, t_z2 z (by omega) (by omega), show (z - 2) / 5 = z / 5 by omega]
        unfold f_X12_table_L80
        refine lp_r (fun j s => ∃ b, j + b = z / 5 + 1 ∧ 1 ≤ b ∧ s.1 = nI b ∧ s.2.1 0 = 0 ∧ s.2.2.1 0 = 0 ∧ (∀ d, d < b → s.2.2.2 d = nI (clA A d)) ∧ RdR A (b - 1) s.2.1 s.2.2.1) (z / 5) ⟨1, by omega, by omega, by show (1 : Int32) = nI 1; decide, ?_, ?_, fun d hd => ?_, fun d h1 h2 => by omega⟩ (by omega) ?_ ?_
        · dsimp only; exact upd_s _ _ _
        · dsimp only; exact upd_s _ _ _
        · have : d = 0 := by omega
          subst this
          dsimp only
          exact upd_s _ _ _
        · rintro g ⟨x, k, w, c⟩ ⟨b, hb, hb1, hx, hk, hw, hc, hR⟩
          have hb : b = z / 5 + 1 := by omega
          subst hb
          dsimp only at hx hk hw hc hR ⊢
          unfold b_X12_table_L80
          rw [hx, t_z2 z (by omega) (by omega), show (z - 2) / 5 = z / 5 by omega, if_pos (nI_lt (show z / 5 < z / 5 + 1 by omega) (by omega))]
          exact ⟨_, rfl, fun h => absurd ⟨by omega, h2, hf⟩ h, fun _ => ⟨k, w, c, rfl, hk, hw, fun d hd => hc d (by omega), hR⟩⟩
        · rintro g j ⟨x, k, w, c⟩ ⟨b, hb, hb1, hx, hk, hw, hc, hR⟩
          left
          dsimp only at hx hk hw hc hR ⊢
          have hr := t_rdb b (by omega) hb1
          have hA1 := (hL (5 * b - 2) (by omega)).1
          have hgw := gd_worth hb1 (hall (5 * b - 1) (by omega))
          have hcc := cellM_ok hL (show b < 7 by omega) (hdg b (by omega)) (by omega)
          unfold b_X12_table_L80
          rw [hx, t_z2 z (by omega) (by omega), show (z - 2) / 5 = z / 5 by omega, if_neg (nI_nlt (show b ≤ z / 5 by omega) (by omega))]
          simp only [bnd, gd, hr.2.2.2.1, hr.2.2.2.2.1, hr.2.2.2.2.2, nI_1, inb_nI (show b < 7 by omega) (by decide), inb_nI (show 5 * b - 2 < 34 by omega) (by decide), inb_nI (show 5 * b - 1 < 34 by omega) (by decide), if_true, nI_clamp (show 5 * b - 2 < 2 ^ 31 by omega), nI_clamp (show 5 * b - 1 < 2 ^ 31 by omega), nI_clamp (show b < 2 ^ 31 by omega), (hL (5 * b - 2) (by omega)).2, (hL (5 * b - 1) (by omega)).2, (t_let _ hA1).2.2.2.2.2.2.1, Option.bind_some, hcc, t_w (A (5 * b - 1)) (by omega) (by omega)]
          refine ⟨_, ?_, rfl⟩
          refine ⟨b + 1, by omega, by omega, rfl, ?_, ?_, fun d hd => ?_, fun d h1 h2 => ?_⟩
          · dsimp only; rw [upd_n (by omega)]; exact hk
          · dsimp only; rw [upd_n (by omega)]; exact hw
          · dsimp only
            by_cases h : d = b
            · rw [h, upd_s]
            · rw [upd_n h]; exact hc d (by omega)
          · dsimp only
            by_cases h : d = b
            · rw [h, upd_s, upd_s]; exact ⟨rfl, rfl⟩
            · rw [upd_n h, upd_n h]; exact hR d h1 (by omega)
      · rw [if_neg (fun x => hf (by have := (nI_leI (by omega) (by omega)).mp x; omega))]
        exact ⟨_, rfl, fun _ => rfl, fun h => absurd h.2.2 hf⟩
    · rw [if_neg (fun x => h2 (ht.2.1.mp x))]
      exact ⟨_, rfl, fun _ => rfl, fun h => absurd h.2.1 h2⟩
