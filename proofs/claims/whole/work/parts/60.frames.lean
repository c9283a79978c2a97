/-! frames by a seed -/
def nsP (s : Int32) : Int32 := (((1103515245 * s.toInt64) + 12345) &&& 2147483647).toInt32
theorem ns_c (s : Int32) : f_X11_nextSeed s = some (nsP s) := by rw [f_X11_nextSeed, nsP]
theorem dr_c (s : Int32) : f_X11_drawn s = some (s / 65536) := by rw [f_X11_drawn]
theorem bnd_e {α β : Type} (a : α) (f : α → β) : bnd a f = f a := by rw [bnd]
theorem ns_m (s : Int32) {k : Nat} (h0 : 0 < k) (hk : k < 2 ^ 31) : f_X12_draw s (nI k) = some (nsP s / 65536 - nsP s / 65536 / nI k * nI k, nsP s) := by
  unfold f_X12_draw
  have h : decide (¬ nI k = 0) = true := by simp [nI_ne0 h0 hk]
  rw [h]; rfl
theorem ns_nat (s : Int32) : ∃ m, m < 2 ^ 31 ∧ nsP s = nI m := by
  obtain ⟨m, hm, e⟩ := wb_of ((1103515245 * s.toInt64) + 12345)
  refine ⟨m % 2 ^ 31, Nat.mod_lt _ (by decide), ?_⟩
  unfold nsP
  have e2 : (2147483647 : Int64) = lN (2 ^ 31 - 1) := by decide
  rw [e, e2, wb_mask hm (by decide), lN_i]
def dN (s : Int32) (k : Nat) : Nat := s.toNatClampNeg / 65536 % k
theorem dN_ok (s : Int32) {k : Nat} (h0 : 0 < k) (hk : k < 2 ^ 31) : nsP s / 65536 - nsP s / 65536 / nI k * nI k = nI (dN (nsP s) k) := by
  obtain ⟨m, hm, e⟩ := ns_nat s
  have e1 : nsP s / 65536 = nI (m / 65536) := by rw [e]; exact pk_div (d := 65536) hm (by decide) (by decide)
  rw [e1, pk_rem (by omega) h0 hk, dN, e, nI_clamp hm]
def frS (kd wd : Nat → Nat) (bl sp : Nat) (c : Nat → Int32) (s : Int32) : Nat → Int32 × (Nat → Int32) × Int32
  | 0 => (s, c, 1000)
  | i + 1 => (nsP (nsP (nsP (frS kd wd bl sp c s i).1)), sC kd bl sp (frS kd wd bl sp c s i).2.1 (dN (nsP (frS kd wd bl sp c s i).1) 8) (dN (nsP (nsP (frS kd wd bl sp c s i).1)) 9 + 1) (dN (nsP (nsP (nsP (frS kd wd bl sp c s i).1))) 3), (frS kd wd bl sp c s i).2.2 + sBr kd wd bl (frS kd wd bl sp c s i).2.1 (dN (nsP (frS kd wd bl sp c s i).1) 8) (dN (nsP (nsP (frS kd wd bl sp c s i).1)) 9 + 1) (dN (nsP (nsP (nsP (frS kd wd bl sp c s i).1))) 3))
def frV (kd wd : Nat → Nat) (bl sp : Nat) (c : Nat → Int32) (s : Int32) (k : Nat) (p : Int32) : Int32 := if p = 0 then (frS kd wd bl sp c s k).2.2 else if p = 1 then nI (lyF (frS kd wd bl sp c s k).2.1 bl) else (frS kd wd bl sp c s k).1
theorem framesC_ok {bl sp : Nat} {kd wd : Nat → Nat} {kv wv : Nat → Int32} (hF : TF bl sp kd wd kv wv) {tk : Int64} {c : Nat → Int32} (hT : TW bl tk c) {n : Nat} (hn : 1000 ≤ n) {k : Nat} (hk : k ≤ 60) {tr p2 p3 : Int32} (h1 : f_X11_within (nI k) 1 60 = some 1) (h2 : ¬ p2 < 0) (h3 : f_X11_within p3 0 2 = some 1) (h4 : f_X11_hasTable tr = some 1) {m0 b0 p0 br0 h0 hp0 fo0 sz sq : Int32} {t0 : Int64} {v1 v2 v3 : Nat → Int32} :
    ∃ r, f_X11_frames n tr tk (nI bl) (nI sp) c kv wv m0 b0 p0 br0 h0 hp0 fo0 t0 sz sq v1 v2 v3 (nI k) p2 p3 = some r ∧ r.1 = frV kd wd bl sp c p2 k p3 := by
  unfold f_X11_frames
  rw [h1, Option.bind_some, if_neg (by decide), if_neg h2, h3, Option.bind_some, if_neg (by decide), h4, Option.bind_some, if_neg (by decide)]
  simp only [f_X9_begin, f_X10_copy, Option.bind_some, jn]
  unfold f_X11_frames_L61
  refine lp_r (fun j s => ∃ i, j + i = k ∧ s.2.2.1 = nI i ∧ s.1 = (frS kd wd bl sp c p2 i).1 ∧ s.2.1 = (frS kd wd bl sp c p2 i).2.2 ∧ s.2.2.2.2.2.2.2.2.2.2.2 = (frS kd wd bl sp c p2 i).2.1 ∧ TW bl s.2.2.2.2.2.2.2.2.2.2.1 (frS kd wd bl sp c p2 i).2.1) k ⟨0, by omega, nI_0.symm, rfl, rfl, rfl, hT⟩ (by omega) ?_ ?_
  · rintro g ⟨x, y, z, s1, s2, s3, s4, s5, s6, s7, s8, v⟩ ⟨i, hi, hx, hs, hy, hc, hTi⟩
    have hi : i = k := by omega
    subst hi
    dsimp only at hx hs hy hc hTi ⊢
    unfold b_X11_frames_L61
    rw [hx, if_pos (nI_le (Nat.le_refl i) (by omega))]
    subst hs; subst hy; subst hc
    dsimp only
    unfold frV
    by_cases e0 : p3 = 0
    · rw [if_pos e0, if_pos e0]; exact ⟨_, rfl, rfl⟩
    · rw [if_neg e0, if_neg e0]
      by_cases e1 : p3 = 1
      · rw [if_pos e1, if_pos e1]
        refine bind_r (lying_ok hF.2.1 hTi.2.1 hn) (fun r hr => ?_)
        exact ⟨_, rfl, hr⟩
      · rw [if_neg e1, if_neg e1]; exact ⟨_, rfl, rfl⟩
  · rintro g j ⟨x, y, z, s1, s2, s3, s4, s5, s6, s7, s8, v⟩ ⟨i, hi, hx, hs, hy, hc, hTi⟩
    left
    dsimp only at hx hs hy hc hTi ⊢
    unfold b_X11_frames_L61
    rw [hx, if_neg (nI_ge (show i < k by omega) (by omega))]
    subst hs; subst hy; subst hc
    rw [show (8 : Int32) = nI 8 by decide, show (9 : Int32) = nI 9 by decide, show (3 : Int32) = nI 3 by decide]
    rw [ns_c, Option.bind_some, dr_c, Option.bind_some, bnd_e, ns_c, Option.bind_some, dr_c, Option.bind_some, bnd_e, ns_c, Option.bind_some, dr_c, Option.bind_some, bnd_e]
    have d1 := dN_ok (frS kd wd bl sp c p2 i).1 (k := 8) (by decide) (by decide)
    have d2 := dN_ok (nsP (frS kd wd bl sp c p2 i).1) (k := 9) (by decide) (by decide)
    have d3 := dN_ok (nsP (nsP (frS kd wd bl sp c p2 i).1)) (k := 3) (by decide) (by decide)
    have d2' : nsP (nsP (frS kd wd bl sp c p2 i).1) / 65536 - nsP (nsP (frS kd wd bl sp c p2 i).1) / 65536 / nI 9 * nI 9 + 1 = nI (dN (nsP (nsP (frS kd wd bl sp c p2 i).1)) 9 + 1) := by rw [d2, nI_1]
    have l1 : dN (nsP (frS kd wd bl sp c p2 i).1) 8 < 8 := Nat.mod_lt _ (by decide)
    have l2 : dN (nsP (nsP (frS kd wd bl sp c p2 i).1)) 9 < 9 := Nat.mod_lt _ (by decide)
    have l3 : dN (nsP (nsP (nsP (frS kd wd bl sp c p2 i).1))) 3 < 3 := Nat.mod_lt _ (by decide)
    have hsh := fun (m0 b0 p0 br0 h0 hp0 fo0 : Int32) => shoot_r (m0 := m0) (b0 := b0) (p0 := p0) (br0 := br0) (h0 := h0) (hp0 := hp0) (fo0 := fo0) hF hTi l1 (show dN (nsP (nsP (frS kd wd bl sp c p2 i).1)) 9 + 1 ≤ 9 by omega) l3 (show 100 ≤ n by omega)
    rw [← d1, ← d2', ← d3] at hsh
    refine bind_l (hsh _ _ _ _ _ _ _) (fun r hr => ?_)
    rw [bnd_e, bnd_e, nI_1, hr.2.2.2.1]
    refine ⟨_, ?_, rfl⟩
    refine ⟨i + 1, by omega, rfl, ?_, ?_, hr.2.2.2.2.2.1, hr.2.2.2.2.2.2⟩
    · rw [frS]
    · rw [frS]
theorem framesM_ok {bl sp : Nat} {kd wd : Nat → Nat} {kv wv : Nat → Int32} (hF : TF bl sp kd wd kv wv) {tk : Int64} {c : Nat → Int32} (hT : TW bl tk c) {n : Nat} (hn : 1000 ≤ n) {k : Nat} (hk : k ≤ 60) {mk mw mc mo : Nat → Int32} (hMF : MF bl kv wv mk mw) (hv : ∀ d, d ≤ bl → mc d = c d) {p2 p3 : Int32} (h1 : f_X12_in (nI k).toInt64 1 60 = some 1) (h2 : ¬ p2 < 0) (h3 : f_X12_in p3.toInt64 0 2 = some 1) {a1 a2 a3 a4 a5 a6 a7 a8 a9 : Int32} :
    ∃ r, f_X12_frames n (nI bl) (nI sp) a1 a2 a3 a4 a5 a6 a7 a8 a9 mk mw mc mo (nI k) p2 p3 = some r ∧ r.1 = frV kd wd bl sp c p2 k p3 := by
  have hlk : f_X12_lacks (nI bl) = some 0 := by
    unfold f_X12_lacks
    rw [if_neg (nI_ne0 hF.1 (by have := hF.2.1; omega))]
  unfold f_X12_frames
  rw [h1, Option.bind_some, if_neg (by decide), if_neg h2, h3, Option.bind_some, if_neg (by decide), hlk, Option.bind_some, if_pos rfl]
  refine bind_r (copy_ok (by decide) (by omega) _ _) (fun w hw => ?_)
  simp only [jn]
  unfold f_X12_frames_L65
  refine lp_r (fun j s => ∃ i, j + i = k ∧ s.2.1 = nI i ∧ s.2.2.2.2.2.2.2.2.2.2.1 = (frS kd wd bl sp c p2 i).1 ∧ s.1 = (frS kd wd bl sp c p2 i).2.2 ∧ (∀ d, d ≤ bl → s.2.2.2.2.2.2.2.2.2.2.2 d = (frS kd wd bl sp c p2 i).2.1 d) ∧ ∃ tk', TW bl tk' (frS kd wd bl sp c p2 i).2.1) k ⟨0, by omega, nI_0.symm, rfl, rfl, fun d hd => (hw d (by have := hF.2.1; omega)).trans (hv d hd), tk, hT⟩ (by omega) ?_ ?_
  · rintro g ⟨x, y, s1, s2, s3, s4, s5, s6, s7, s8, z, v⟩ ⟨i, hi, hx, hs, hy, hc, -⟩
    have hi : i = k := by omega
    subst hi
    dsimp only at hx hs hy hc ⊢
    unfold b_X12_frames_L65
    rw [hx, if_pos (nI_le (Nat.le_refl i) (by omega))]
    subst hs; subst hy
    dsimp only
    unfold frV
    by_cases e0 : p3 = 0
    · rw [if_pos e0, if_pos e0]; exact ⟨_, rfl, rfl⟩
    · rw [if_neg e0, if_neg e0]
      by_cases e1 : p3 = 1
      · rw [if_pos e1, if_pos e1]
        refine bind_r (onTable_ok hF.2.1 (fun d _ hd => hc d hd) hn) (fun r hr => ?_)
        exact ⟨_, rfl, hr⟩
      · rw [if_neg e1, if_neg e1]; exact ⟨_, rfl, rfl⟩
  · rintro g j ⟨x, y, s1, s2, s3, s4, s5, s6, s7, s8, z, v⟩ ⟨i, hi, hx, hs, hy, hc, tki, hTi⟩
    left
    dsimp only at hx hs hy hc ⊢
    unfold b_X12_frames_L65
    rw [hx, if_neg (nI_ge (show i < k by omega) (by omega))]
    subst hs; subst hy
    have g8 := fun s => ns_m s (k := 8) (by decide) (by decide)
    have g9 := fun s => ns_m s (k := 9) (by decide) (by decide)
    have g3 := fun s => ns_m s (k := 3) (by decide) (by decide)
    rw [show (8 : Int32) = nI 8 by decide, show (9 : Int32) = nI 9 by decide, show (3 : Int32) = nI 3 by decide, g8, Option.bind_some, g9, Option.bind_some]
    simp only [g3, Option.bind_some, bnd, nI_1]
    have d1 := dN_ok (frS kd wd bl sp c p2 i).1 (k := 8) (by decide) (by decide)
    have d2 := dN_ok (nsP (frS kd wd bl sp c p2 i).1) (k := 9) (by decide) (by decide)
    have d3 := dN_ok (nsP (nsP (frS kd wd bl sp c p2 i).1)) (k := 3) (by decide) (by decide)
    have d2' : nsP (nsP (frS kd wd bl sp c p2 i).1) / 65536 - nsP (nsP (frS kd wd bl sp c p2 i).1) / 65536 / nI 9 * nI 9 + 1 = nI (dN (nsP (nsP (frS kd wd bl sp c p2 i).1)) 9 + 1) := by rw [d2, nI_1]
    have l1 : dN (nsP (frS kd wd bl sp c p2 i).1) 8 < 8 := Nat.mod_lt _ (by decide)
    have l2 : dN (nsP (nsP (frS kd wd bl sp c p2 i).1)) 9 < 9 := Nat.mod_lt _ (by decide)
    have l3 : dN (nsP (nsP (nsP (frS kd wd bl sp c p2 i).1))) 3 < 3 := Nat.mod_lt _ (by decide)
    have hsh := fun (a1 a2 a3 a4 a5 a6 a7 a8 : Int32) => strike_r (a1 := a1) (a2 := a2) (a3 := a3) (a4 := a4) (a5 := a5) (a6 := a6) (a7 := a7) (a8 := a8) hF hTi l1 (show dN (nsP (nsP (frS kd wd bl sp c p2 i).1)) 9 + 1 ≤ 9 by omega) l3 (show 100 ≤ n by omega) hMF hc
    rw [← d1, ← d2', ← d3] at hsh
    refine bind_l (hsh _ _ _ _ _ _ _ _) (fun r hr => ?_)
    refine ⟨_, ?_, rfl⟩
    refine ⟨i + 1, by omega, rfl, rfl, ?_, hr.2.2.2.2.2, shoot_TW hF hTi l1 (by omega) l3⟩
    dsimp only
    rw [hr.1]; rfl
