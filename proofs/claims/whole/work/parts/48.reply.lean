/-! the best reply -/
theorem lp_l {α β γ : Type} {step : (α → Option β) → α → Option β} {k : Nat} {a : α} {G : γ → Option β} {R : γ → Prop} (P : Nat → α → Prop) (j : Nat) (hP : P j a) (hk : j < k)
    (h0 : ∀ (g : α → Option β) (a : α), P 0 a → ∃ y, R y ∧ step g a = G y)
    (hs : ∀ (g : α → Option β) (j : Nat) (a : α), P (j + 1) a → (∃ a', P j a' ∧ step g a = g a') ∨ ∃ y, R y ∧ step g a = G y) : ∃ y, R y ∧ lpF step k a = G y :=
  lp_run P (fun o => ∃ y, R y ∧ o = G y) h0 hs j k a hP hk
def mxF (f : Nat → Int32) (z : Int32) : Nat → Int32
  | 0 => z
  | i + 1 => if f i ≤ mxF f z i then mxF f z i else f i
theorem mx_eq {f : Nat → Int32} {z z' : Int32} (h : ∀ i, z ≤ f i) (h' : ∀ i, z' < f i) : ∀ i, mxF f z (i + 1) = mxF f z' (i + 1)
  | 0 => by
    show (if f 0 ≤ z then z else f 0) = (if f 0 ≤ z' then z' else f 0)
    rw [if_neg (Int32.not_le.mpr (h' 0))]
    by_cases hz : f 0 ≤ z
    · rw [if_pos hz]; exact Int32.le_antisymm (h 0) hz
    · rw [if_neg hz]
  | i + 1 => by
    have ih := mx_eq h h' i
    show (if f (i + 1) ≤ mxF f z (i + 1) then mxF f z (i + 1) else f (i + 1)) = (if f (i + 1) ≤ mxF f z' (i + 1) then mxF f z' (i + 1) else f (i + 1))
    rw [ih]
theorem mx_bd {f : Nat → Int32} {z : Int32} (hf : ∀ i, -4 ≤ (f i).toInt ∧ (f i).toInt ≤ 42) (hz : -4 ≤ z.toInt ∧ z.toInt ≤ 42) : ∀ i, -4 ≤ (mxF f z i).toInt ∧ (mxF f z i).toInt ≤ 42
  | 0 => hz
  | i + 1 => by
    have ih := mx_bd hf hz i
    unfold mxF
    split
    · exact ih
    · exact hf i
def gR (kd wd : Nat → Nat) (bl : Nat) (c : Nat → Int32) (i : Nat) : Int32 := sBr kd wd bl c (i / 3) (3 * (i % 3) + 3) 0
def repP (kd wd : Nat → Nat) (bl : Nat) (c : Nat → Int32) (N : Nat) : Int32 := mxF (gR kd wd bl c) (-4) N
theorem shoot_r0 {bl sp : Nat} {kd wd : Nat → Nat} {kv wv : Nat → Int32} (hF : TF bl sp kd wd kv wv) {tk : Int64} {c : Nat → Int32} (hT : TW bl tk c) {w st n : Nat} (hw : w < 8) (hst : st ≤ 9) (hn : 100 ≤ n) {m0 b0 p0 br0 h0 hp0 fo0 : Int32} :
    ∃ r, f_X9_shoot n m0 b0 p0 br0 h0 hp0 fo0 tk (nI sp) c kv wv (nI w) (nI st) 0 = some r ∧ ShR kd wd bl sp c w st 0 r := shoot_r hF hT hw hst (by decide) hn
theorem strike_r0 {bl sp : Nat} {kd wd : Nat → Nat} {kv wv : Nat → Int32} (hF : TF bl sp kd wd kv wv) {tk : Int64} {c : Nat → Int32} (hT : TW bl tk c) {w st n : Nat} (hw : w < 8) (hst : st ≤ 9) (hn : 100 ≤ n) {mk mw v : Nat → Int32} (hM : MF bl kv wv mk mw) (hv : ∀ d, d ≤ bl → v d = c d) {a1 a2 a3 a4 a5 a6 a7 a8 : Int32} :
    ∃ r, f_X12_strike n (nI bl) (nI sp) a1 a2 a3 a4 a5 a6 a7 a8 mk mw v (nI w) (nI st) 0 = some r ∧ StR kd wd bl sp c w st 0 r := strike_r hF hT hw hst (by decide) hn hM hv
theorem nI_3 : ∀ t, t < 4 → nI (3 * t + 3) + 3 = nI (3 * (t + 1) + 3) := by decide +kernel
theorem gR_at {kd wd : Nat → Nat} {bl : Nat} {c : Nat → Int32} {d t : Nat} (ht : t < 3) : gR kd wd bl c (3 * d + t) = sBr kd wd bl c d (3 * t + 3) 0 := by
  unfold gR
  rw [show (3 * d + t) / 3 = d by omega, show (3 * d + t) % 3 = t by omega]
theorem bestReply_ok {bl sp : Nat} {kd wd : Nat → Nat} {kv wv : Nat → Int32} (hF : TF bl sp kd wd kv wv) {tk : Int64} {c : Nat → Int32} (hT : TW bl tk c) {N : Nat} (hN : N = 24) {n : Nat} (hn : 1000 ≤ n) {sz m0 b0 p0 br0 h0 hp0 fo0 sz1 sq : Int32} {t0 : Int64} {v1 v2 v3 : Nat → Int32} :
    ∃ r, f_X0_bestReply n tk sz (nI sp) c kv wv m0 b0 p0 br0 h0 hp0 fo0 t0 sz1 sq v1 v2 v3 = some r ∧ r.1 = repP kd wd bl c N := by
  unfold f_X0_bestReply f_X0_bestReply_L5
  refine lp_r (fun j s => ∃ i, j + i = 8 ∧ s.2.1 = nI i ∧ s.1 = repP kd wd bl c (3 * i)) 8 ⟨0, by omega, nI_0.symm, rfl⟩ (by omega) ?_ ?_
  · rintro g ⟨x, d, r⟩ ⟨i, hi, hx, hR⟩
    have hi : i = 8 := by omega
    dsimp only at hx hR ⊢
    unfold b_X0_bestReply_L5
    rw [hx, if_pos (show (8 : Int32) ≤ nI i by rw [hi]; decide)]
    refine ⟨_, rfl, ?_⟩
    dsimp only
    rw [hR, hi, hN]
  · rintro g j ⟨x, d, r⟩ ⟨i, hi, hx, hR⟩
    left
    dsimp only at hx hR ⊢
    unfold b_X0_bestReply_L5
    rw [hx, if_neg (show ¬ (8 : Int32) ≤ nI i from nI_ge (b := 8) (by omega) (by decide))]
    simp only [jn, bnd, nI_1]
    unfold f_X0_bestReply_L13
    refine lp_l (fun j s => ∃ t, j + t = 3 ∧ s.2.1 = nI (3 * t + 3) ∧ s.1 = repP kd wd bl c (3 * i + t)) 3 ⟨0, by omega, by show (3 : Int32) = nI (3 * 0 + 3); decide, hR⟩ (by omega) ?_ ?_
    · rintro g2 ⟨x, d, r⟩ ⟨t, ht, hx, hR⟩
      have ht : t = 3 := by omega
      dsimp only at hx hR ⊢
      unfold b_X0_bestReply_L13
      rw [hx, if_pos (show (9 : Int32) < nI (3 * t + 3) by rw [ht]; decide)]
      refine ⟨_, ?_, rfl⟩
      exact ⟨i + 1, by omega, rfl, by rw [ht] at hR; exact hR⟩
    · rintro g2 j2 ⟨x, d, r⟩ ⟨t, ht, hx, hR⟩
      left
      dsimp only at hx hR ⊢
      unfold b_X0_bestReply_L13
      rw [hx, if_neg (show ¬ (9 : Int32) < nI (3 * t + 3) from nI_nlt (a := 9) (by omega) (by decide))]
      simp only [f_X9_begin, f_X10_copy, Option.bind_some]
      refine bind_l (shoot_r0 hF hT (by omega) (by omega) (by omega)) (fun r1 hr1 => ?_)
      simp only [jn, bnd, hr1.2.2.2.1, nI_3 t (by omega)]
      have e : repP kd wd bl c (3 * i + (t + 1)) = if sBr kd wd bl c i (3 * t + 3) 0 ≤ repP kd wd bl c (3 * i + t) then repP kd wd bl c (3 * i + t) else sBr kd wd bl c i (3 * t + 3) 0 := by
        rw [← gR_at (d := i) (show t < 3 by omega)]; rfl
      rw [hR]
      by_cases h : sBr kd wd bl c i (3 * t + 3) 0 ≤ repP kd wd bl c (3 * i + t)
      · rw [if_pos h] at e ⊢
        refine ⟨_, ?_, rfl⟩
        exact ⟨t + 1, by omega, rfl, e.symm⟩
      · rw [if_neg h] at e ⊢
        refine ⟨_, ?_, rfl⟩
        exact ⟨t + 1, by omega, rfl, e.symm⟩
theorem replyOf_ok {bl sp : Nat} {kd wd : Nat → Nat} {kv wv : Nat → Int32} (hF : TF bl sp kd wd kv wv) {tk : Int64} {c : Nat → Int32} (hT : TW bl tk c) {N : Nat} (hN : N = 24) {n : Nat} (hn : 1000 ≤ n) {mk mw mt v : Nat → Int32} (hMF : MF bl kv wv mk mw) (hv : ∀ d, d ≤ bl → v d = c d) {a1 a2 a3 a4 a5 a6 a7 a8 : Int32} :
    ∃ r, f_X12_replyOf n (nI bl) (nI sp) a1 a2 a3 a4 a5 a6 a7 a8 mk mw mt v = some r ∧ r.1 = repP kd wd bl c N := by
  have hlo : ∀ i, (-4 : Int32) ≤ gR kd wd bl c i := fun i => Int32.le_iff_toInt_le.mpr (by
    have h4 : (-4 : Int32).toInt = -4 := by decide
    have := sBr_bd hF c (i / 3) (3 * (i % 3) + 3) 0
    unfold gR; omega)
  have hlt : ∀ i, (-99 : Int32) < gR kd wd bl c i := fun i => lt_of_bd (by
    have h4 : (-99 : Int32).toInt = -99 := by decide
    have := sBr_bd hF c (i / 3) (3 * (i % 3) + 3) 0
    unfold gR; omega)
  unfold f_X12_replyOf f_X12_replyOf_L5
  refine lp_r (fun j s => ∃ i, j + i = 8 ∧ s.2.1 = nI i ∧ s.1 = mxF (gR kd wd bl c) (-99) (3 * i)) 8 ⟨0, by omega, nI_0.symm, rfl⟩ (by omega) ?_ ?_
  · rintro g ⟨x, d, r⟩ ⟨i, hi, hx, hR⟩
    have hi : i = 8 := by omega
    dsimp only at hx hR ⊢
    unfold b_X12_replyOf_L5
    rw [hx, if_pos (show (8 : Int32) ≤ nI i by rw [hi]; decide)]
    refine ⟨_, rfl, ?_⟩
    dsimp only
    have h := mx_eq hlo hlt (3 * i - 1)
    rw [show 3 * i - 1 + 1 = N by omega] at h
    rw [hR, show 3 * i = N by omega, ← h]
    rfl
  · rintro g j ⟨x, d, r⟩ ⟨i, hi, hx, hR⟩
    left
    dsimp only at hx hR ⊢
    unfold b_X12_replyOf_L5
    rw [hx, if_neg (show ¬ (8 : Int32) ≤ nI i from nI_ge (b := 8) (by omega) (by decide))]
    simp only [jn, bnd, nI_1]
    unfold f_X12_replyOf_L14
    refine lp_l (fun j s => ∃ t, j + t = 3 ∧ s.2.1 = nI (3 * t + 3) ∧ s.1 = mxF (gR kd wd bl c) (-99) (3 * i + t)) 3 ⟨0, by omega, by show (3 : Int32) = nI (3 * 0 + 3); decide, hR⟩ (by omega) ?_ ?_
    · rintro g2 ⟨x, d, r⟩ ⟨t, ht, hx, hR⟩
      have ht : t = 3 := by omega
      dsimp only at hx hR ⊢
      unfold b_X12_replyOf_L14
      rw [hx, if_pos (show (10 : Int32) ≤ nI (3 * t + 3) by rw [ht]; decide)]
      refine ⟨_, ?_, rfl⟩
      exact ⟨i + 1, by omega, rfl, by rw [ht] at hR; exact hR⟩
    · rintro g2 j2 ⟨x, d, r⟩ ⟨t, ht, hx, hR⟩
      left
      dsimp only at hx hR ⊢
      unfold b_X12_replyOf_L14
      rw [hx, if_neg (show ¬ (10 : Int32) ≤ nI (3 * t + 3) from nI_ge (b := 10) (by omega) (by decide))]
      refine bind_l (copy_ok (by decide) (by omega) _ _) (fun w hw => ?_)
      refine bind_l (strike_r0 hF hT (by omega) (by omega) (by omega) hMF (fun d hd => (hw d (by have := hF.2.1; omega)).trans (hv d hd))) (fun r1 hr1 => ?_)
      simp only [jn, bnd, hr1.1, nI_3 t (by omega)]
      have e : mxF (gR kd wd bl c) (-99) (3 * i + (t + 1)) = if sBr kd wd bl c i (3 * t + 3) 0 ≤ mxF (gR kd wd bl c) (-99) (3 * i + t) then mxF (gR kd wd bl c) (-99) (3 * i + t) else sBr kd wd bl c i (3 * t + 3) 0 := by
        rw [← gR_at (d := i) (show t < 3 by omega)]; rfl
      rw [hR]
      by_cases h : sBr kd wd bl c i (3 * t + 3) 0 ≤ mxF (gR kd wd bl c) (-99) (3 * i + t)
      · rw [if_pos h] at e ⊢
        refine ⟨_, ?_, rfl⟩
        exact ⟨t + 1, by omega, rfl, e.symm⟩
      · rw [if_neg h] at e ⊢
        refine ⟨_, ?_, rfl⟩
        exact ⟨t + 1, by omega, rfl, e.symm⟩
