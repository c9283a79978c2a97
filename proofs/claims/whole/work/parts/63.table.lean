/-! a table is read -/
def KW (k w : Nat → Int32) : Prop := (∀ d, d < 7 → ∃ j, j < 5 ∧ k d = nI j) ∧ (∀ d, d < 7 → ∃ j, j ≤ 7 ∧ w d = nI j) ∧ k 0 = 0 ∧ w 0 = 0
def clN (v : Nat → Int32) (d : Nat) : Nat := (v d).toNatClampNeg
theorem TF_of {k w : Nat → Int32} (h : KW k w) {bl sp : Nat} (h1 : 1 ≤ bl) (h6 : bl ≤ 6) (hs : sp < 45) (hp : pkt sp = false) : TF bl sp (clN k) (clN w) k w := by
  refine ⟨h1, h6, hs, hp, fun d hd => ?_, fun d hd => ?_⟩
  · obtain ⟨j, hj, e⟩ := h.1 d hd
    have : clN k d = j := by rw [clN, e]; exact nI_clamp (by omega)
    rw [this]; exact ⟨hj, e⟩
  · obtain ⟨j, hj, e⟩ := h.2.1 d hd
    have : clN w d = j := by rw [clN, e]; exact nI_clamp (by omega)
    rw [this]; exact ⟨hj, e⟩
def whP (A : Nat → Nat) (z : Nat) : Prop := 7 ≤ z ∧ z % 5 = 2 ∧ ffF A z 0 = z
theorem t_z : ∀ z, z < 35 → (nI z < 7 ↔ z < 7) ∧ (nI z - nI z / 5 * 5 = 2 ↔ z % 5 = 2) ∧ nI z / 5 = nI (z / 5) := by decide +kernel
theorem t_z2 : ∀ z, z < 35 → 2 ≤ z → (nI z - 2) / 5 = nI ((z - 2) / 5) := by decide +kernel
theorem t_rdb : ∀ b, b < 7 → 1 ≤ b → 5 * nI b + 1 = nI (5 * b + 1) ∧ nI (5 * b + 1) - 3 = nI (5 * b - 2) ∧ nI (5 * b + 1) - 2 = nI (5 * b - 1) ∧ 5 * nI b - 2 = nI (5 * b - 2) ∧ nI (5 * b - 2) + 1 = nI (5 * b - 1) ∧ nI (5 * b - 2) + 2 = nI (5 * b) := by decide +kernel
theorem t_w : ∀ a, a < 56 → 48 ≤ a → nI a - 48 = nI (a - 48) := by decide +kernel
theorem gd_kind {A : Nat → Nat} {b : Nat} (hb : 1 ≤ b) (h : gdP A (5 * b - 2) = true) : ¬ kxI (A (5 * b - 2)) = -1 := by
  unfold gdP at h
  by_cases h32 : 32 ≤ 5 * b - 2
  · rw [if_pos h32] at h; cases h
  · rw [if_neg h32, if_neg (by omega), if_neg (by omega), if_neg (by omega), if_pos (by omega)] at h
    simpa using h
theorem gd_worth {A : Nat → Nat} {b : Nat} (hb : 1 ≤ b) (h : gdP A (5 * b - 1) = true) : 49 ≤ A (5 * b - 1) ∧ A (5 * b - 1) ≤ 55 := by
  unfold gdP at h
  by_cases h32 : 32 ≤ 5 * b - 1
  · rw [if_pos h32] at h; cases h
  · rw [if_neg h32, if_neg (by omega), if_neg (by omega), if_neg (by omega), if_neg (by omega), Bool.and_eq_true, decide_eq_true_eq, decide_eq_true_eq] at h
    exact h
theorem fr_ne {A : Nat → Nat} {q : Nat} : ∀ m, frA A q m = true → ∀ d, d < m → clA A d ≠ clA A q
  | 0, _, d, hd => absurd hd (Nat.not_lt_zero _)
  | m + 1, h, d, hd => by
    rw [frA, Bool.and_eq_true] at h
    by_cases e : d = m
    · rw [e]; simpa using h.2
    · exact fr_ne m h.1 d (by omega)
theorem setK_ok {v : Nat → Int32} {b : Nat} (hb : b < 7) (x : Int32) : f_X10_setKind v (nI b) x = some (upd v b x) ∧ f_X10_setWorth v (nI b) x = some (upd v b x) := by
  unfold f_X10_setKind f_X10_setWorth
  rw [if_neg (nI_pos (by omega)), if_neg (show ¬ (7 : Int32) ≤ nI b from nI_ge (b := 7) hb (by decide))]
  simp only [gd, inb_nI hb (by decide), if_true, nI_clamp (show b < 2 ^ 31 by omega)]
  exact ⟨trivial, trivial⟩
theorem fill_ok {n : Nat} (hn : 1000 ≤ n) (v : Nat → Int32) : ∃ r, f_J7_fill_53178 n 7 v (-1) = some r ∧ ∀ d, d < 7 → r d = -1 := by
  unfold f_J7_fill_53178 f_J7_fill_53178_L5
  simp only [bnd]
  refine lp_r (fun j s => ∃ i, j + i = 7 ∧ s.1 = nI i ∧ ∀ d, d < i → s.2 d = -1) 7 ⟨0, by omega, nI_0.symm, fun d hd => absurd hd (Nat.not_lt_zero _)⟩ (by omega) ?_ ?_
  · rintro g ⟨x, v⟩ ⟨i, hi, hx, hv⟩
    dsimp only at hx hv ⊢
    have hi : i = 7 := by omega
    subst hi
    unfold b_J7_fill_53178_L5
    have hle : Int32.ofNat 7 ≤ nI 7 := by decide
    rw [hx, if_pos hle]
    exact ⟨v, rfl, hv⟩
  · rintro g j ⟨x, v⟩ ⟨i, hi, hx, hv⟩
    dsimp only at hx hv ⊢
    left
    unfold b_J7_fill_53178_L5
    have hle : ¬ Int32.ofNat 7 ≤ nI i := nI_ge (show i < 7 by omega) (by decide)
    rw [hx, if_neg hle]
    simp only [gd, inb_nI (show i < 7 by omega) (by decide), if_true, bnd, nI_1, nI_clamp (show i < 2 ^ 31 by omega)]
    refine ⟨(nI (i + 1), upd v i (-1)), ⟨i + 1, by omega, rfl, fun d hd => ?_⟩, rfl⟩
    dsimp only
    by_cases h : d = i
    · subst h; exact upd_s _ _ _
    · rw [upd_n h]; exact hv d (by omega)
theorem tab_0 {c : Nat → Int32} (h : ∀ d, d < 7 → c d = -1) : TabC 0 c := by
  refine ⟨fun b hb => Or.inl (h b hb), fun b hb d _ _ h2 => absurd (h b hb) h2, fun q hq => ?_⟩
  have : tb 0 q = false := by unfold tb; simp
  rw [this]
  constructor
  · intro z; cases z
  · rintro ⟨b, hb, e⟩
    rw [h b hb] at e
    exact absurd e.symm (nI_ne_m1 hq)
def RdR (A : Nat → Nat) (bl : Nat) (k w : Nat → Int32) : Prop := ∀ d, 1 ≤ d → d ≤ bl → k d = kxI (A (5 * d - 2)) ∧ w d = nI (A (5 * d - 1) - 48)
theorem read_ok {A : Nat → Nat} {v : Nat → Int32} (hL : LtR A v) {n z : Nat} (hn : 1000 ≤ n) (hz : z ≤ 34) (hw : whP A z) {c k w : Nat → Int32} (hc : ∀ d, d < 7 → c d = -1) (hK : KW k w) {sz sq : Int32} :
    ∃ r, f_X7_readInto n (nI z) v 0 sz sq c k w = some r ∧ (r.2.1 = nI (z / 5) ∧ r.2.2.1 = nI (clA A 0) ∧ TW (z / 5) r.1 r.2.2.2.1 ∧ (∀ d, d ≤ z / 5 → r.2.2.2.1 d = nI (clA A d)) ∧ KW r.2.2.2.2.1 r.2.2.2.2.2 ∧ RdR A (z / 5) r.2.2.2.2.1 r.2.2.2.2.2) := by
  obtain ⟨h7, hz5, hff⟩ := hw
  have hall : ∀ i, i < z → gdP A i = true := fun i hi => ff_all A z 0 (by omega) i (by omega) (by omega)
  have hz32 : z ≤ 32 := by
    by_cases h : z ≤ 32
    · exact h
    · have := hall 32 (by omega)
      rw [gdP, if_pos (by decide)] at this; cases this
  have hdg : ∀ m, m ≤ z / 5 → dgA A m := fun m hm => dg_of (i := z) hall (by omega)
  have hcl : ∀ m, m ≤ z / 5 → clA A m < 45 ∧ pkt (clA A m) = false ∧ frA A m m = true := fun m hm => by
    have h1 := gd_col (hall (5 * m + 1) (by omega))
    exact ⟨(cellC_ok hL (by omega) (hdg m hm) (by omega)).2, h1.2.2.2.2, h1.2.2.2.1⟩
  have hc0 : f_X7_cellAt v 1 = some (nI (clA A 0)) := (cellC_ok hL (m := 0) (by decide) (hdg 0 (by omega)) (by decide)).1
  unfold f_X7_readInto
  rw [hc0, Option.bind_some]
  refine bind_r (lay0_ok (tab_0 hc) (hcl 0 (by omega)).1 (hcl 0 (by omega)).2.1 (fun d hd _ => by rw [hc d hd]; exact fun z => nI_ne_m1 (hcl 0 (by omega)).1 z.symm)) ?_
  rintro ⟨tk1, c1⟩ ⟨e1, hT1⟩
  dsimp only at e1 hT1 ⊢
  subst e1
  unfold f_X7_readInto_L30
  refine lp_r (fun j s => ∃ b, j + b = z / 5 + 1 ∧ 1 ≤ b ∧ s.1 = nI b ∧ TabC s.2.1 s.2.2.1 ∧ (∀ d, d < b → s.2.2.1 d = nI (clA A d)) ∧ (∀ d, b ≤ d → d < 7 → s.2.2.1 d = -1) ∧ KW s.2.2.2.1 s.2.2.2.2 ∧ RdR A (b - 1) s.2.2.2.1 s.2.2.2.2) (z / 5) ⟨1, by omega, by omega, by show (1 : Int32) = nI 1; decide, hT1, fun d hd => ?_, fun d hd hd7 => ?_, hK, fun d h1 h2 => by omega⟩ (by omega) ?_ ?_
  · have : d = 0 := by omega
    subst this
    dsimp only
    exact upd_s _ _ _
  · dsimp only
    rw [upd_n (by omega)]; exact hc d hd7
  · rintro g ⟨x, tk, c, k, w⟩ ⟨b, hb, hb1, hx, hT, hc1, hc2, hK, hR⟩
    have hb : b = z / 5 + 1 := by omega
    subst hb
    dsimp only at hx hT hc1 hc2 hK hR ⊢
    unfold b_X7_readInto_L30
    rw [hx, (t_z z (by omega)).2.2, if_pos (nI_lt (show z / 5 < z / 5 + 1 by omega) (by omega))]
    refine ⟨_, rfl, rfl, rfl, ⟨hT, fun d h1 h2 => hc2 d (by omega) h2, ?_⟩, fun d hd => hc1 d (by omega), hK, hR⟩
    dsimp only
    rw [hc1 0 (by omega)]; exact nI_ne_m1 (hcl 0 (by omega)).1
  · rintro g j ⟨x, tk, c, k, w⟩ ⟨b, hb, hb1, hx, hT, hc1, hc2, hK, hR⟩
    left
    dsimp only at hx hT hc1 hc2 hK hR ⊢
    have hr := t_rdb b (by omega) hb1
    have hA1 := (hL (5 * b - 2) (by omega)).1
    have hA2 := (hL (5 * b - 1) (by omega)).1
    have hgw := gd_worth hb1 (hall (5 * b - 1) (by omega))
    have hgk := gd_kind hb1 (hall (5 * b - 2) (by omega))
    have hcb := hcl b (by omega)
    have hcc := (cellC_ok hL (show b < 7 by omega) (hdg b (by omega)) (by omega)).1
    obtain ⟨tk2, el, hT2⟩ := lay_ok hT (show b < 7 by omega) (Or.inr ⟨clA A b, hcb.1, hcb.2.1, rfl⟩) (fun d hd hdb _ => by
      by_cases h : d < b
      · rw [hc1 d h]
        exact fun z => fr_ne b hcb.2.2 d h (nI_inj45 (hcl d (by omega)).1 hcb.1 z)
      · rw [hc2 d (by omega) hd]
        exact fun z => nI_ne_m1 hcb.1 z.symm)
    unfold b_X7_readInto_L30
    rw [hx, (t_z z (by omega)).2.2, if_neg (nI_nlt (show b ≤ z / 5 by omega) (by omega))]
    simp only [bnd, hr.1, hr.2.1, hr.2.2.1, nI_1, at_ok hL (show 5 * b - 2 < 34 by omega), digit_ok hL (show 5 * b - 1 < 34 by omega), index_ok hn hA1, Option.bind_some, (setK_ok (show b < 7 by omega) _).1, (setK_ok (show b < 7 by omega) _).2, hcc, el]
    refine ⟨_, ?_, rfl⟩
    refine ⟨b + 1, by omega, by omega, rfl, hT2, fun d hd => ?_, fun d hd hd7 => ?_, ⟨fun d hd => ?_, fun d hd => ?_, ?_, ?_⟩, fun d h1 h2 => ?_⟩
    · dsimp only
      by_cases h : d = b
      · rw [h, upd_s]
      · rw [upd_n h]; exact hc1 d (by omega)
    · dsimp only
      rw [upd_n (by omega)]; exact hc2 d (by omega) hd7
    · dsimp only
      by_cases h : d = b
      · rw [h, upd_s]
        exact (t_kx _ hA1).2.2.resolve_left hgk
      · rw [upd_n h]; exact hK.1 d hd
    · dsimp only
      by_cases h : d = b
      · rw [h, upd_s]
        exact ⟨A (5 * b - 1) - 48, by omega, t_w _ (by omega) (by omega)⟩
      · rw [upd_n h]; exact hK.2.1 d hd
    · dsimp only
      rw [upd_n (by omega)]; exact hK.2.2.1
    · dsimp only
      rw [upd_n (by omega)]; exact hK.2.2.2
    · dsimp only
      by_cases h : d = b
      · rw [h, upd_s, upd_s]
        exact ⟨rfl, t_w _ (by omega) (by omega)⟩
      · rw [upd_n h, upd_n h]; exact hR d h1 (by omega)
theorem wholeC_ok {A : Nat → Nat} {v : Nat → Int32} (hL : LtR A v) {n z : Nat} (hn : 1000 ≤ n) (hz : z ≤ 34) : ∃ r, f_X7_isWhole n (nI z) v = some r ∧ ((whP A z → r = 1) ∧ (¬ whP A z → r = 0)) := by
  have ht := t_z z (by omega)
  have hff := ff_le A z 0
  unfold f_X7_isWhole
  simp only [jn]
  by_cases h7 : z < 7
  · rw [if_pos (ht.1.mpr h7)]
    exact ⟨_, rfl, fun h => by have := h.1; omega, fun _ => rfl⟩
  · rw [if_neg (fun x => h7 (ht.1.mp x))]
    by_cases h2 : z % 5 = 2
    · rw [if_pos (ht.2.1.mpr h2)]
      refine bind_r (faultC_ok hL hn hz) (fun r hr => ?_)
      rw [hr]
      by_cases hf : ffF A z 0 = z
      · rw [if_pos (by rw [hf])]
        exact ⟨_, rfl, fun _ => rfl, fun h => absurd ⟨by omega, h2, hf⟩ h⟩
      · rw [if_neg (fun x => hf ((nI_eq (by omega) (by omega)).mp x))]
        exact ⟨_, rfl, fun h => absurd h.2.2 hf, fun _ => rfl⟩
    · rw [if_neg (fun x => h2 (ht.2.1.mp x))]
      exact ⟨_, rfl, fun h => absurd h.2.1 h2, fun _ => rfl⟩
