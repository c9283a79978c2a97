/-! the digest -/
def hsF (h : Int64) (f : Nat → Int32) : Nat → Int64
  | 0 => h
  | i + 1 => 31 * hsF h f i + (f i).toInt64
def hB (k w c : Nat → Int32) (h : Int64) : Nat → Int64
  | 0 => h
  | b + 1 => 31 * (31 * (31 * hB k w c h b + (k b).toInt64) + (w b).toInt64) + (c b).toInt64
def tvP (kd wd : Nat → Nat) (bl sp : Nat) (c : Nat → Int32) (w st s i : Nat) : Int32 := if i = 0 then sBr kd wd bl c w st s + 100 else if i = 1 then sC kd bl sp c w st s 0 else if i = 2 then sPo kd bl c w st s else if i = 3 then b2 (sFo kd bl c w st s) else if i = 4 then sMv kd bl c w st s else sBo kd bl c w st s
theorem isBall_1 {t bl b : Nat} (h0 : 0 < t) (ht : t < 1000) (h6 : bl ≤ 6) (hb : b ≤ bl) : f_X11_isBall (nI t) (nI bl) (nI b) = some 1 := by
  unfold f_X11_isBall
  rw [has_1 h0 ht, Option.bind_some]
  simp only [jn, one_ne, if_false]
  rcases rng (p := nI b) (lo := 0) (hi := bl) (by omega) (by decide) with ⟨_, _, _, _, r1, _⟩ | ⟨_, _, hno⟩
  · rw [show (0 : Int32) = nI 0 from rfl, r1]; rfl
  · exact absurd ⟨b, by omega, hb, rfl⟩ hno
theorem within5 : ∀ j, j < 3 → f_X11_within (nI j) 0 5 = some 1 := by decide +kernel
theorem ball3_ok {t : Nat} {tk : Int64} {bl sp : Nat} {c k w : Nat → Int32} (h0 : 0 < t) (ht : t < 1000) (h6 : bl ≤ 6) {n b j : Nat} (hb : b ≤ bl) (hj : j < 3) {sn x1 x2 x3 x4 x5 x6 x7 x8 x9 : Int32} {t0 : Int64} {sb sd se sf v1 v2 v3 un : Nat → Int32} :
    ∃ r, f_X11_ball n (nI t) sn tk (nI bl) (nI sp) c k w sb sd se sf x1 x2 x3 x4 x5 x6 x7 t0 x8 x9 v1 v2 v3 un (nI b) (nI j) = some r ∧ r.1 = (if j = 0 then k b else if j = 1 then w b else c b) := by
  have hb7 : b < 7 := by omega
  unfold f_X11_ball
  rw [isBall_1 h0 ht h6 hb, Option.bind_some, if_neg n10, within5 j hj, Option.bind_some, if_neg n10]
  have hj' : j = 0 ∨ j = 1 ∨ j = 2 := by omega
  rcases hj' with rfl | rfl | rfl
  · simp only [eq_true (show nI 0 = 0 by decide), if_true, (t_cell k hb7).2.1, Option.bind_some]
    exact ⟨_, rfl, rfl⟩
  · simp only [eq_false (show ¬ nI 1 = 0 by decide), eq_true (show nI 1 = 1 by decide), if_true, if_false, (t_cell w hb7).2.2, Option.bind_some]
    exact ⟨_, rfl, rfl⟩
  · simp only [eq_false (show ¬ nI 2 = 0 by decide), eq_false (show ¬ nI 2 = 1 by decide), eq_true (show nI 2 = 2 by decide), if_true, if_false, (t_cell c hb7).1, Option.bind_some]
    exact ⟨_, rfl, rfl⟩
theorem balls_ok {bl sp : Nat} {kd wd : Nat → Nat} {kv wv : Nat → Int32} (hF : TF bl sp kd wd kv wv) {tk : Int64} {c : Nat → Int32} (hT : TW bl tk c) {n : Nat} (hn : 1000 ≤ n) {M sn : Nat} (hM : M = 8) {sb sd se sf ms : Nat → Int32} (hS : SG sn sb sd se sf ms) {x1 x2 x3 x4 x5 x6 x7 x8 x9 : Int32} {t0 : Int64} {v1 v2 v3 un : Nat → Int32} (h : Int64) :
    ∃ r, f_X11_digestOfBalls n (nI sn) tk (nI bl) (nI sp) c kv wv sb sd se sf x1 x2 x3 x4 x5 x6 x7 t0 x8 x9 v1 v2 v3 un h = some r ∧ r.1 = 31 * (31 * hB kv wv c h (bl + 1) + (kbP kd bl sp c 1 sb sd se sf sn).toInt64) + (tdP kd bl sp c 1 (kbP kd bl sp c 1 sb sd se sf sn) M).toInt64 := by
  have h6 := hF.2.1
  unfold f_X11_digestOfBalls
  simp only [jn]
  unfold f_X11_digestOfBalls_L5
  refine lp_r (fun j s => ∃ b, j + b = bl + 1 ∧ s.2 = nI b ∧ s.1 = hB kv wv c h b) (bl + 1) ⟨0, by omega, nI_0.symm, rfl⟩ (by omega) ?_ ?_
  · rintro g ⟨x, y⟩ ⟨b, hb, hx, hR⟩
    have hb : b = bl + 1 := by omega
    subst hb
    dsimp only at hx hR ⊢
    unfold b_X11_digestOfBalls_L5
    rw [hx, if_pos (nI_lt (show bl < bl + 1 by omega) (by omega))]
    dsimp only
    rw [show (1 : Int32) = nI 1 from rfl]
    refine bind_r (possible_ok hF hT hn hF.1 hS) (fun u hu => ?_)
    simp only [bnd]
    refine bind_r (telling_ok hF hT hn hM hF.1 hS) (fun u2 hu2 => ?_)
    exact ⟨_, rfl, by rw [hu, hu2, hR]⟩
  · rintro g j ⟨x, y⟩ ⟨b, hb, hx, hR⟩
    left
    dsimp only at hx hR ⊢
    unfold b_X11_digestOfBalls_L5
    have hb7 : b < 7 := by omega
    rw [hx, if_neg (nI_nlt (show b ≤ bl by omega) (by omega)), (t_cell kv hb7).2.1, (t_cell wv hb7).2.2, (t_cell c hb7).1]
    simp only [Option.bind_some, bnd, nI_1]
    refine ⟨_, ?_, rfl⟩
    refine ⟨b + 1, by omega, rfl, ?_⟩
    dsimp only
    rw [hR, hB]
theorem tellW_ok {kd wd : Nat → Nat} {bl sp : Nat} {c : Nat → Int32} {w st s : Nat} {r : Int32 × Int32 × Int32 × Int32 × Int32 × Int32 × Int32 × Int64 × (Nat → Int32)} (hr : ShR kd wd bl sp c w st s r) {i : Nat} (hi : i < 6) : f_X9_tell r.1 r.2.1 r.2.2.1 r.2.2.2.1 r.2.2.2.2.2.2.1 r.2.2.2.2.2.2.2.2 (nI i) = some (tvP kd wd bl sp c w st s i) := by
  obtain ⟨z1, z2, z3, z4, z5, z6, z7⟩ := hr
  have hc0 : f_X10_cellOf (sC kd bl sp c w st s) 0 = some (sC kd bl sp c w st s 0) := (t_cell _ (b := 0) (by decide)).1
  unfold f_X9_tell
  rw [z1, z2, z3, z4, z5, z6, hc0]
  have hj' : i = 0 ∨ i = 1 ∨ i = 2 ∨ i = 3 ∨ i = 4 ∨ i = 5 := by omega
  rcases hj' with rfl | rfl | rfl | rfl | rfl | rfl
  · simp only [eq_true (show nI 0 = 0 by decide), if_true]; rfl
  · simp only [eq_false (show ¬ nI 1 = 0 by decide), eq_true (show nI 1 = 1 by decide), if_true, if_false]; rfl
  · simp only [eq_false (show ¬ nI 2 = 0 by decide), eq_false (show ¬ nI 2 = 1 by decide), eq_true (show nI 2 = 2 by decide), if_true, if_false]; rfl
  · simp only [eq_false (show ¬ nI 3 = 0 by decide), eq_false (show ¬ nI 3 = 1 by decide), eq_false (show ¬ nI 3 = 2 by decide), eq_true (show nI 3 = 3 by decide), if_true, if_false]
    unfold tvP
    cases sFo kd bl c w st s <;> rfl
  · simp only [eq_false (show ¬ nI 4 = 0 by decide), eq_false (show ¬ nI 4 = 1 by decide), eq_false (show ¬ nI 4 = 2 by decide), eq_false (show ¬ nI 4 = 3 by decide), eq_true (show nI 4 = 4 by decide), if_true, if_false]; rfl
  · simp only [eq_false (show ¬ nI 5 = 0 by decide), eq_false (show ¬ nI 5 = 1 by decide), eq_false (show ¬ nI 5 = 2 by decide), eq_false (show ¬ nI 5 = 3 by decide), eq_false (show ¬ nI 5 = 4 by decide), eq_true (show nI 5 = 5 by decide), if_true, if_false]; rfl
theorem wouldBe_ok {bl sp : Nat} {kd wd : Nat → Nat} {kv wv : Nat → Int32} (hF : TF bl sp kd wd kv wv) {tk : Int64} {c : Nat → Int32} (hT : TW bl tk c) {d st s n : Nat} (hd : d < 8) (hst : st ≤ 9) (hs : s < 3) (hn : 1000 ≤ n) {mk mw mc mo : Nat → Int32} (hM : MF bl kv wv mk mw) (hv : ∀ d, d ≤ bl → mc d = c d) {a1 a2 a3 a4 a5 a6 a7 a8 : Int32} {i : Nat} (hi : i < 6) :
    ∃ r, f_X12_wouldBe n (nI bl) (nI sp) a1 a2 a3 a4 a5 a6 a7 a8 mk mw mc mo (nI d) (nI st) (nI s) (nI i) = some r ∧ r.1 = tvP kd wd bl sp c d st s i := by
  unfold f_X12_wouldBe
  refine bind_r (copy_ok (by decide) (by omega) _ _) (fun v hv2 => ?_)
  refine bind_r (strike_r hF hT hd hst hs (by omega) hM (fun d hd => (hv2 d (by have := hF.2.1; omega)).trans (hv d hd))) (fun r hr => ?_)
  obtain ⟨y1, y2, y3, y4, y5, y6⟩ := hr
  rw [y1, y2, y3, y4, y5]
  have hz0 : (0 : Int32).toNatClampNeg = 0 := rfl
  have hi0 : inb 0 7 = true := by decide
  simp only [gd, hi0, if_true, hz0, y6 0 (by omega)]
  have hj' : i = 0 ∨ i = 1 ∨ i = 2 ∨ i = 3 ∨ i = 4 ∨ i = 5 := by omega
  rcases hj' with rfl | rfl | rfl | rfl | rfl | rfl
  · simp only [eq_true (show nI 0 = 0 by decide), if_true]; exact ⟨_, rfl, rfl⟩
  · simp only [eq_false (show ¬ nI 1 = 0 by decide), eq_true (show nI 1 = 1 by decide), if_true, if_false]; exact ⟨_, rfl, rfl⟩
  · simp only [eq_false (show ¬ nI 2 = 0 by decide), eq_false (show ¬ nI 2 = 1 by decide), eq_true (show nI 2 = 2 by decide), if_true, if_false]; exact ⟨_, rfl, rfl⟩
  · simp only [eq_false (show ¬ nI 3 = 0 by decide), eq_false (show ¬ nI 3 = 1 by decide), eq_false (show ¬ nI 3 = 2 by decide), eq_true (show nI 3 = 3 by decide), if_true, if_false]
    unfold tvP
    cases sFo kd bl c d st s
    · exact ⟨_, rfl, rfl⟩
    · exact ⟨_, rfl, rfl⟩
  · simp only [eq_false (show ¬ nI 4 = 0 by decide), eq_false (show ¬ nI 4 = 1 by decide), eq_false (show ¬ nI 4 = 2 by decide), eq_false (show ¬ nI 4 = 3 by decide), eq_true (show nI 4 = 4 by decide), if_true, if_false]; exact ⟨_, rfl, rfl⟩
  · simp only [eq_false (show ¬ nI 5 = 0 by decide), eq_false (show ¬ nI 5 = 1 by decide), eq_false (show ¬ nI 5 = 2 by decide), eq_false (show ¬ nI 5 = 3 by decide), eq_false (show ¬ nI 5 = 4 by decide), eq_true (show nI 5 = 5 by decide), if_true, if_false]; exact ⟨_, rfl, rfl⟩
theorem strokes_ok {bl sp : Nat} {kd wd : Nat → Nat} {kv wv : Nat → Int32} (hF : TF bl sp kd wd kv wv) {tk : Int64} {c : Nat → Int32} (hT : TW bl tk c) {n : Nat} (hn : 1000 ≤ n) {M : Nat} (hM : M = 216) {ch va x1 x2 x3 x4 x5 x6 x7 x8 x9 : Int32} {t0 : Int64} {v1 v2 v3 : Nat → Int32} (h : Int64) :
    ∃ r, f_X11_digestOfStrokes n tk (nI bl) (nI sp) c kv wv x1 x2 x3 x4 x5 x6 x7 t0 x8 x9 v1 v2 v3 ch va h = some r ∧ r.1 = (hsF (hsF h (fun i => TV (chF (fun i => some (gB kd wd bl c i)) gtI M) (nI i)) 4) (tvP kd wd bl sp c 3 9 1) 6) := by
  unfold f_X11_digestOfStrokes
  refine bind_r (chooseBest_ok hF hT hM hn) (fun u hu => ?_)
  simp only [jn]
  unfold f_X11_digestOfStrokes_L19
  refine lp_r (fun j s => ∃ i, j + i = 4 ∧ s.2 = nI i ∧ s.1 = hsF h (fun i => TV (chF (fun i => some (gB kd wd bl c i)) gtI M) (nI i)) i) 4 ⟨0, by omega, nI_0.symm, rfl⟩ (by omega) ?_ ?_
  · rintro g ⟨x, y⟩ ⟨i, hi, hx, hR⟩
    have hi : i = 4 := by omega
    dsimp only at hx hR ⊢
    unfold b_X11_digestOfStrokes_L19
    rw [hx, if_pos (show (3 : Int32) < nI i by rw [hi]; decide)]
    dsimp only
    simp only [f_X9_begin, f_X10_copy, Option.bind_some]
    have hsh := fun (m0 b0 p0 br0 h0 hp0 fo0 : Int32) => shoot_r (w := 3) (st := 9) (s := 1) (m0 := m0) (b0 := b0) (p0 := p0) (br0 := br0) (h0 := h0) (hp0 := hp0) (fo0 := fo0) hF hT (by decide) (by decide) (by decide) (show 100 ≤ n by omega)
    rw [show nI 3 = (3 : Int32) from rfl, show nI 9 = (9 : Int32) from rfl, show nI 1 = (1 : Int32) from rfl] at hsh
    refine bind_r (hsh _ _ _ _ _ _ _) (fun r hr => ?_)
    unfold f_X11_digestOfStrokes_L76
    rw [hi] at hR
    refine lp_r (fun j s => ∃ i, j + i = 6 ∧ s.2 = nI i ∧ s.1 = hsF x (tvP kd wd bl sp c 3 9 1) i) 6 ⟨0, by omega, nI_0.symm, rfl⟩ (by omega) ?_ ?_
    · rintro g2 ⟨x2, y2⟩ ⟨i2, hi2, hx2, hR2⟩
      have hi2 : i2 = 6 := by omega
      dsimp only at hx2 hR2 ⊢
      unfold b_X11_digestOfStrokes_L76
      rw [hx2, if_pos (show (5 : Int32) < nI i2 by rw [hi2]; decide)]
      refine ⟨_, rfl, ?_⟩
      dsimp only
      rw [hR2, hR, hi2]
    · rintro g2 j2 ⟨x2, y2⟩ ⟨i2, hi2, hx2, hR2⟩
      left
      dsimp only at hx2 hR2 ⊢
      unfold b_X11_digestOfStrokes_L76
      rw [hx2, if_neg (show ¬ (5 : Int32) < nI i2 from nI_nlt (a := 5) (by omega) (by decide)), tellW_ok hr (show i2 < 6 by omega), Option.bind_some]
      simp only [bnd, nI_1]
      refine ⟨_, ?_, rfl⟩
      refine ⟨i2 + 1, by omega, rfl, ?_⟩
      dsimp only
      rw [hR2, hsF]
  · rintro g j ⟨x, y⟩ ⟨i, hi, hx, hR⟩
    left
    dsimp only at hx hR ⊢
    unfold b_X11_digestOfStrokes_L19
    rw [hx, if_neg (show ¬ (3 : Int32) < nI i from nI_nlt (a := 3) (by omega) (by decide)), tell_ok hu, Option.bind_some]
    simp only [bnd, nI_1]
    refine ⟨_, ?_, rfl⟩
    refine ⟨i + 1, by omega, rfl, ?_⟩
    dsimp only
    rw [hR, hsF]
