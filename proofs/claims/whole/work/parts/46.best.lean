/-! loops and calls whose scratch nobody reads -/
theorem lp_run {α β : Type} {step : (α → Option β) → α → Option β} (P : Nat → α → Prop) (Q : Option β → Prop)
    (h0 : ∀ (g : α → Option β) (a : α), P 0 a → Q (step g a))
    (hs : ∀ (g : α → Option β) (j : Nat) (a : α), P (j + 1) a → (∃ a', P j a' ∧ step g a = g a') ∨ Q (step g a)) :
    ∀ (j k : Nat) (a : α), P j a → j < k → Q (lpF step k a) := by
  intro j
  induction j with
  | zero =>
    intro k a hP hk
    obtain ⟨k, rfl⟩ : ∃ k', k = k' + 1 := ⟨k - 1, by omega⟩
    exact h0 _ a hP
  | succ j ih =>
    intro k a hP hk
    obtain ⟨k, rfl⟩ : ∃ k', k = k' + 1 := ⟨k - 1, by omega⟩
    rcases hs (lpF step k) j a hP with ⟨a', hP', e⟩ | h
    · show Q (step (lpF step k) a)
      rw [e]
      exact ih k a' hP' (by omega)
    · exact h
theorem lp_r {α β : Type} {step : (α → Option β) → α → Option β} {k : Nat} {a : α} {R : β → Prop} (P : Nat → α → Prop) (j : Nat) (hP : P j a) (hk : j < k)
    (h0 : ∀ (g : α → Option β) (a : α), P 0 a → ∃ r, step g a = some r ∧ R r)
    (hs : ∀ (g : α → Option β) (j : Nat) (a : α), P (j + 1) a → (∃ a', P j a' ∧ step g a = g a') ∨ ∃ r, step g a = some r ∧ R r) : ∃ r, lpF step k a = some r ∧ R r :=
  lp_run P (fun o => ∃ r, o = some r ∧ R r) h0 hs j k a hP hk
theorem bind_r {α β : Type} {o : Option α} {f : α → Option β} {P : α → Prop} {R : β → Prop} (h : ∃ r, o = some r ∧ P r) (k : ∀ r, P r → ∃ s, f r = some s ∧ R s) : ∃ s, o.bind f = some s ∧ R s := by
  obtain ⟨r, e, hP⟩ := h
  rw [e]
  exact k r hP
theorem bind_l {α β γ : Type} {o : Option α} {f : α → Option β} {g : γ → Option β} {P : α → Prop} {R : γ → Prop} (h : ∃ r, o = some r ∧ P r) (k : ∀ r, P r → ∃ a', R a' ∧ f r = g a') : ∃ a', R a' ∧ o.bind f = g a' := by
  obtain ⟨r, e, hP⟩ := h
  rw [e]
  exact k r hP
theorem copy_ok {N : Nat} (hN : N < 40) {n : Nat} (hn : 50 ≤ n) (a b : Nat → Int32) : ∃ r, f_X12_copy n N a b = some r ∧ ∀ d, d < N → r d = a d := by
  unfold f_X12_copy f_X12_copy_L2
  refine lp_r (fun j s => ∃ i, j + i = N ∧ s.1 = nI i ∧ ∀ d, d < i → s.2 d = a d) N ⟨0, by omega, nI_0.symm, fun d hd => absurd hd (Nat.not_lt_zero _)⟩ (by omega) ?_ ?_
  · rintro g ⟨x, v⟩ ⟨i, hi, hx, hv⟩
    dsimp only at hx hv ⊢
    have hi : i = N := by omega
    subst hi
    unfold b_X12_copy_L2
    have hle : Int32.ofNat i ≤ nI i := nI_le (Nat.le_refl i) (by omega)
    rw [hx, if_pos hle]
    exact ⟨v, rfl, hv⟩
  · rintro g j ⟨x, v⟩ ⟨i, hi, hx, hv⟩
    dsimp only at hx hv ⊢
    left
    unfold b_X12_copy_L2
    have hle : ¬ Int32.ofNat N ≤ nI i := nI_ge (show i < N by omega) (by omega)
    rw [hx, if_neg hle]
    simp only [gd, inb_nI (show i < N by omega) (by omega), if_true, bnd, nI_1, nI_clamp (show i < 2 ^ 31 by omega)]
    refine ⟨(nI (i + 1), upd v i (a i)), ⟨i + 1, by omega, rfl, fun d hd => ?_⟩, rfl⟩
    by_cases h : d = i
    · subst h; exact upd_s _ _ _
    · rw [show (nI (i + 1), upd v i (a i)).2 = upd v i (a i) from rfl, upd_n h]; exact hv d (by omega)
/-- what a stroke of the class leaves -/
def ShR (kd wd : Nat → Nat) (bl sp : Nat) (c : Nat → Int32) (w st s : Nat) (r : Int32 × Int32 × Int32 × Int32 × Int32 × Int32 × Int32 × Int64 × (Nat → Int32)) : Prop :=
  r.1 = sMv kd bl c w st s ∧ r.2.1 = sBo kd bl c w st s ∧ r.2.2.1 = sPo kd bl c w st s ∧ r.2.2.2.1 = sBr kd wd bl c w st s ∧ r.2.2.2.2.2.2.1 = b2 (sFo kd bl c w st s) ∧ r.2.2.2.2.2.2.2.2 = sC kd bl sp c w st s ∧ TW bl r.2.2.2.2.2.2.2.1 (sC kd bl sp c w st s)
theorem shoot_r {bl sp : Nat} {kd wd : Nat → Nat} {kv wv : Nat → Int32} (hF : TF bl sp kd wd kv wv) {tk : Int64} {c : Nat → Int32} (hT : TW bl tk c) {w st s n : Nat} (hw : w < 8) (hst : st ≤ 9) (hs : s < 3) (hn : 100 ≤ n) {m0 b0 p0 br0 h0 hp0 fo0 : Int32} :
    ∃ r, f_X9_shoot n m0 b0 p0 br0 h0 hp0 fo0 tk (nI sp) c kv wv (nI w) (nI st) (nI s) = some r ∧ ShR kd wd bl sp c w st s r := by
  obtain ⟨hd', hp', tk', e, hT'⟩ := shoot_ok hF hT hw hst hs hn m0 b0 p0 br0 h0 hp0 fo0
  exact ⟨_, e, rfl, rfl, rfl, rfl, rfl, rfl, hT'⟩
/-- what a stroke of the reference leaves -/
def StR (kd wd : Nat → Nat) (bl sp : Nat) (c : Nat → Int32) (w st s : Nat) (r : Int32 × Int32 × Int32 × Int32 × Int32 × Int32 × Int32 × Int32 × Int32 × (Nat → Int32)) : Prop :=
  r.1 = sBr kd wd bl c w st s ∧ r.2.1 = sPo kd bl c w st s ∧ r.2.2.1 = sMv kd bl c w st s ∧ r.2.2.2.1 = sBo kd bl c w st s ∧ r.2.2.2.2.2.2.2.2.1 = b2 (sFo kd bl c w st s) ∧ (∀ d, d ≤ bl → r.2.2.2.2.2.2.2.2.2 d = sC kd bl sp c w st s d)
theorem strike_r {bl sp : Nat} {kd wd : Nat → Nat} {kv wv : Nat → Int32} (hF : TF bl sp kd wd kv wv) {tk : Int64} {c : Nat → Int32} (hT : TW bl tk c) {w st s n : Nat} (hw : w < 8) (hst : st ≤ 9) (hs : s < 3) (hn : 100 ≤ n) {mk mw v : Nat → Int32} (hM : MF bl kv wv mk mw) (hv : ∀ d, d ≤ bl → v d = c d) {a1 a2 a3 a4 a5 a6 a7 a8 : Int32} :
    ∃ r, f_X12_strike n (nI bl) (nI sp) a1 a2 a3 a4 a5 a6 a7 a8 mk mw v (nI w) (nI st) (nI s) = some r ∧ StR kd wd bl sp c w st s r := by
  obtain ⟨hf2, hpm2, dn2, rt2, v3, e, hv3⟩ := strike_ok hF hT hw hst hs hn hM hv a1 a2 a3 a4 a5 a6 a7 a8
  exact ⟨_, e, rfl, rfl, rfl, rfl, rfl, hv3⟩
theorem shoot_TW {bl sp : Nat} {kd wd : Nat → Nat} {kv wv : Nat → Int32} (hF : TF bl sp kd wd kv wv) {tk : Int64} {c : Nat → Int32} (hT : TW bl tk c) {w st s : Nat} (hw : w < 8) (hst : st ≤ 9) (hs : s < 3) : ∃ tk', TW bl tk' (sC kd bl sp c w st s) := by
  obtain ⟨r, -, hr⟩ := shoot_r (n := 100) (m0 := 0) (b0 := 0) (p0 := 0) (br0 := 0) (h0 := 0) (hp0 := 0) (fo0 := 0) hF hT hw hst hs (Nat.le_refl _)
  exact ⟨_, hr.2.2.2.2.2.2⟩
/-! choosing -/
def chF (g : Nat → Option Int32) (lt : Int32 → Int32 → Bool) : Nat → Option (Nat × Int32)
  | 0 => none
  | i + 1 => match g i with
    | none => chF g lt i
    | some y => match chF g lt i with
      | none => some (i, y)
      | some (m, x) => if lt x y = true then some (i, y) else some (m, x)
def RC (o : Option (Nat × Int32)) (ch va : Int32) : Prop := match o with
  | none => ch = -1
  | some (m, x) => m < 216 ∧ ch = nI m ∧ va = x
theorem t_num : ∀ i, i < 216 → nI i / 27 = nI (i / 27) ∧ (nI i / 3 - nI i / 3 / 9 * 9) + 1 = nI (i / 3 % 9 + 1) ∧ nI i - nI i / 3 * 3 = nI (i % 3) ∧ i / 27 < 8 := by decide +kernel
theorem nI_m1' {m : Nat} (h : m < 1000) : ¬ nI m = -1 := by
  intro z
  have := congrArg Int32.toInt z
  rw [nI_toInt (by omega)] at this
  have h2 : (-1 : Int32).toInt = -1 := by decide
  omega
def gB (kd wd : Nat → Nat) (bl : Nat) (c : Nat → Int32) (i : Nat) : Int32 := sBr kd wd bl c (i / 27) (i / 3 % 9 + 1) (i % 3)
def gtI (x y : Int32) : Bool := decide (x < y)
def TrR (kd wd : Nat → Nat) (bl sp : Nat) (c kv wv : Nat → Int32) (i : Nat) (r : Int32 × Int32 × Int32 × Int32 × Int32 × Int32 × Int32 × Int64 × Int32 × Int32 × (Nat → Int32) × (Nat → Int32) × (Nat → Int32)) : Prop :=
  r.2.2.2.1 = gB kd wd bl c i ∧ r.2.2.2.2.2.2.1 = b2 (sFo kd bl c (i / 27) (i / 3 % 9 + 1) (i % 3)) ∧ TW bl r.2.2.2.2.2.2.2.1 (sC kd bl sp c (i / 27) (i / 3 % 9 + 1) (i % 3)) ∧ r.2.2.2.2.2.2.2.2.1 = nI bl ∧ r.2.2.2.2.2.2.2.2.2.1 = nI sp ∧ r.2.2.2.2.2.2.2.2.2.2.1 = sC kd bl sp c (i / 27) (i / 3 % 9 + 1) (i % 3) ∧ r.2.2.2.2.2.2.2.2.2.2.2.1 = kv ∧ r.2.2.2.2.2.2.2.2.2.2.2.2 = wv
theorem try_ok {bl sp : Nat} {kd wd : Nat → Nat} {kv wv : Nat → Int32} (hF : TF bl sp kd wd kv wv) {tk : Int64} {c : Nat → Int32} (hT : TW bl tk c) {n : Nat} (hn : 100 ≤ n) {i : Nat} (hi : i < 216) {m0 b0 p0 br0 h0 hp0 fo0 sz sq : Int32} {t0 : Int64} {v1 v2 v3 : Nat → Int32} :
    ∃ r, f_X0_tryStroke n m0 b0 p0 br0 h0 hp0 fo0 t0 sz sq v1 v2 v3 tk (nI bl) (nI sp) c kv wv (nI i) = some r ∧ TrR kd wd bl sp c kv wv i r := by
  have ht := t_num i hi
  unfold f_X0_tryStroke
  simp only [f_X9_begin, f_X10_copy, Option.bind_some, f_X0_directionOf, f_X0_strengthOf, f_X0_spinOf, ht.1, ht.2.1, ht.2.2.1]
  refine bind_r (shoot_r hF hT ht.2.2.2 (by omega) (by omega) hn) (fun r hr => ?_)
  obtain ⟨g1, g2, g3, g4, g5, g6, g7⟩ := hr
  exact ⟨_, rfl, g4, g5, g7, rfl, rfl, g6, rfl, rfl⟩
theorem le_nlt {x y : Int32} : (x ≤ y) ↔ ¬ (y < x) := Int32.not_lt.symm
theorem ch_step {g : Nat → Option Int32} {lt : Int32 → Int32 → Bool} {i : Nat} {y ch va : Int32} (hi : i < 216) (hg : g i = some y) (hR : RC (chF g lt i) ch va) : ∃ ch' va', RC (chF g lt (i + 1)) ch' va' ∧ ((ch = -1 ∨ lt va y = true) → ch' = nI i ∧ va' = y) ∧ (¬ (ch = -1 ∨ lt va y = true) → ch' = ch ∧ va' = va) := by
  unfold chF
  rw [hg]
  cases ho : chF g lt i with
  | none =>
    rw [ho] at hR
    exact ⟨nI i, y, ⟨hi, rfl, rfl⟩, fun _ => ⟨rfl, rfl⟩, fun h => absurd (Or.inl hR) h⟩
  | some p =>
    obtain ⟨m, x⟩ := p
    rw [ho] at hR
    obtain ⟨hm, h1, h2⟩ := hR
    subst h2
    have hn : ¬ ch = -1 := by rw [h1]; exact nI_m1' (by omega)
    by_cases hl : lt va y = true
    · refine ⟨nI i, y, ?_, fun _ => ⟨rfl, rfl⟩, fun h => absurd (Or.inr hl) h⟩
      simp only [hl, if_true]
      exact ⟨hi, rfl, rfl⟩
    · refine ⟨ch, va, ?_, fun h => absurd h (by simp [hn, hl]), fun _ => ⟨rfl, rfl⟩⟩
      simp only [hl]
      exact ⟨hm, h1, rfl⟩
theorem chooseBest_ok {bl sp : Nat} {kd wd : Nat → Nat} {kv wv : Nat → Int32} (hF : TF bl sp kd wd kv wv) {tk : Int64} {c : Nat → Int32} (hT : TW bl tk c) {M : Nat} (hM : M = 216) {n : Nat} (hn : 1000 ≤ n) {ch va m0 b0 p0 br0 h0 hp0 fo0 sz sq : Int32} {t0 : Int64} {v1 v2 v3 : Nat → Int32} :
    ∃ r, f_X0_chooseBest n ch va m0 b0 p0 br0 h0 hp0 fo0 t0 sz sq v1 v2 v3 tk (nI bl) (nI sp) c kv wv = some r ∧ RC (chF (fun i => some (gB kd wd bl c i)) gtI M) r.1 r.2.1 := by
  unfold f_X0_chooseBest f_X0_chooseBest_L7
  refine lp_r (fun j s => ∃ i, j + i = M ∧ s.1 = nI i ∧ RC (chF (fun i => some (gB kd wd bl c i)) gtI i) s.2.1 s.2.2.1) M ⟨0, by omega, nI_0.symm, rfl⟩ (by omega) ?_ ?_
  · rintro g ⟨x, ch, va, r⟩ ⟨i, hi, hx, hR⟩
    have hi : i = M := by omega
    subst hi
    dsimp only at hx hR ⊢
    unfold b_X0_chooseBest_L7
    rw [hx, if_pos (show (216 : Int32) ≤ nI i by rw [hM]; decide)]
    refine ⟨_, rfl, ?_⟩
    exact hR
  · rintro g j ⟨x, ch, va, r⟩ ⟨i, hi, hx, hR⟩
    left
    dsimp only at hx hR ⊢
    unfold b_X0_chooseBest_L7
    rw [hx, if_neg (show ¬ (216 : Int32) ≤ nI i from nI_ge (b := 216) (by omega) (by decide))]
    refine bind_l (try_ok hF hT (by omega) (by omega)) (fun r1 hr1 => ?_)
    obtain ⟨ch', va', hR', hA, hB⟩ := ch_step (g := fun i => some (gB kd wd bl c i)) (lt := gtI) (show i < 216 by omega) rfl hR
    simp only [jn, bnd, nI_1, f_X0_choose, Option.bind_some, hr1.1]
    by_cases h1 : ch = -1
    · rw [if_pos h1]
      obtain ⟨e1, e2⟩ := hA (Or.inl h1)
      subst e1; subst e2
      refine ⟨_, ?_, rfl⟩
      exact ⟨i + 1, by omega, rfl, hR'⟩
    · rw [if_neg h1]
      by_cases h2 : gB kd wd bl c i ≤ va
      · rw [if_pos h2]
        obtain ⟨e1, e2⟩ := hB (fun z => z.elim h1 (fun z => by simp only [gtI, decide_eq_true_eq] at z; exact le_nlt.mp h2 z))
        subst e1; subst e2
        refine ⟨_, ?_, rfl⟩
        exact ⟨i + 1, by omega, rfl, hR'⟩
      · rw [if_neg h2]
        obtain ⟨e1, e2⟩ := hA (Or.inr (by simp only [gtI, decide_eq_true_eq]; exact Int32.not_le.mp h2))
        subst e1; subst e2
        refine ⟨_, ?_, rfl⟩
        exact ⟨i + 1, by omega, rfl, hR'⟩
