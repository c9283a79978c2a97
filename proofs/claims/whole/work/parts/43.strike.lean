/-! a whole stroke: one description for both -/
theorem jn_of {α β : Type} {b : α} {f : α → β} {r : β} (h : ∀ b', b' = b → f b' = r) : jn b f = r := h b rfl
theorem bt_one : ∀ i, i < 32 → bt 1 i = decide (i = 0) := by decide +kernel
theorem bt_b2 (x : Bool) {i : Nat} (hi : i < 32) : bt (b2 x) i = (x && decide (i = 0)) := by
  cases x
  · rw [b2_f, b_0]; rfl
  · rw [b2_t, bt_one i hi]; rfl
theorem bit_at (po : Int32) {b : Nat} (hb : b < 31) : ((po >>> (nI b &&& 31)) &&& 1) = b2 (bt po b) := by
  apply b_ext
  intro i hi
  rw [b_and, b_sshr b (by omega) po hi, bt_one i hi, bt_b2 _ hi]
  by_cases h : i = 0
  · subst h; rw [if_pos (by omega)]; rfl
  · simp [h]
theorem bit_0 (po : Int32) : (po &&& 1) = b2 (bt po 0) := by
  apply b_ext
  intro i hi
  rw [b_and, bt_one i hi, bt_b2 _ hi]
  by_cases h : i = 0
  · subst h; rfl
  · simp [h]
theorem shr_0 {po : Int32} {b : Nat} (hb : b < 31) (h : (po >>> (nI b &&& 31)) = 0) : ∀ i, b ≤ i → i < 32 → bt po i = false := by
  intro i h1 h2
  have h3 := b_sshr b (by omega) po (i := i - b) (by omega)
  rw [h, b_0, if_pos (by omega), show b + (i - b) = i by omega] at h3
  exact h3.symm
def wS (po : Int32) (wd : Nat → Nat) : Nat → Nat
  | 0 => 0
  | m + 1 => wS po wd m + (if bt po (m + 1) = true then wd (m + 1) else 0)
theorem wS_stop {po : Int32} {wd : Nat → Nat} {m : Nat} (h : ∀ i, m < i → i < 32 → bt po i = false) : ∀ j, m + j < 32 → wS po wd (m + j) = wS po wd m
  | 0, _ => rfl
  | j + 1, hj => by
    show wS po wd (m + j + 1) = _
    rw [wS, h (m + j + 1) (by omega) (by omega), wS_stop h j (by omega)]
    rfl
theorem wS_le {po : Int32} {wd : Nat → Nat} : ∀ m, (∀ d, d ≤ m → wd d ≤ 7) → wS po wd m ≤ 7 * m
  | 0, _ => Nat.le_refl _
  | m + 1, h => by
    have h1 := wS_le (po := po) (wd := wd) m (fun d hd => h d (by omega))
    have h2 := h (m + 1) (Nat.le_refl _)
    rw [wS]
    split <;> omega
theorem wp_loop {po : Int32} {wv : Nat → Int32} {wd : Nat → Nat} (hw : ∀ d, d < 7 → wd d ≤ 7 ∧ wv d = nI (wd d)) : ∀ (j b k : Nat), j + b = 7 → 1 ≤ b → j < k → f_X9_worthPotted_L4 po wv k (nI (wS po wd (b - 1))) (nI b) = some (nI (wS po wd 6)) := by
  intro j
  induction j with
  | zero =>
    intro b k hb h1 hk
    obtain ⟨k, rfl⟩ : ∃ k', k = k' + 1 := ⟨k - 1, by omega⟩
    have hb : b = 7 := by omega
    subst hb
    show b_X9_worthPotted_L4 po wv (fun x y => f_X9_worthPotted_L4 po wv k x y) (nI (wS po wd 6)) (nI 7) = _
    unfold b_X9_worthPotted_L4
    rw [if_pos (show (6 : Int32) < nI 7 by decide)]
  | succ j ih =>
    intro b k hb h1 hk
    obtain ⟨k, rfl⟩ : ∃ k', k = k' + 1 := ⟨k - 1, by omega⟩
    obtain ⟨m, rfl⟩ : ∃ m, b = m + 1 := ⟨b - 1, by omega⟩
    show b_X9_worthPotted_L4 po wv (fun x y => f_X9_worthPotted_L4 po wv k x y) (nI (wS po wd m)) (nI (m + 1)) = _
    unfold b_X9_worthPotted_L4
    rw [if_neg (show ¬ (6 : Int32) < nI (m + 1) from nI_nlt (a := 6) (by omega) (by decide))]
    by_cases hz : (po >>> (nI (m + 1) &&& 31)) = 0
    · rw [if_pos hz]
      have h2 := wS_stop (wd := wd) (m := m) (fun i h3 h4 => shr_0 (by omega) hz i h3 h4) (6 - m) (by omega)
      rw [show m + (6 - m) = 6 by omega] at h2
      rw [h2]
    · rw [if_neg hz, bit_at po (by omega)]
      simp only [jn, bnd, nI_1]
      have hih := ih (m + 1 + 1) k (by omega) (by omega) (by omega)
      rw [show m + 1 + 1 - 1 = m + 1 by omega, wS] at hih
      cases hbt : bt po (m + 1)
      · rw [if_pos b2_f]
        rw [hbt, if_neg (by decide)] at hih
        exact hih
      · rw [if_neg (by rw [b2_t]; decide), (t_cell wv (show m + 1 < 7 by omega)).2.2]
        rw [hbt, if_pos rfl] at hih
        simp only [Option.bind_some]
        rw [(hw (m + 1) (by omega)).2, nI_add]
        exact hih
theorem sw_loop {bl : Nat} {po : Int32} {mw : Nat → Int32} {wd : Nat → Nat} (h6 : bl ≤ 6) (hw : ∀ d, d ≤ bl → mw d = nI (wd d)) (J : Int32 → Option (Int32 × Int32 × Int32 × Int32 × Int32 × Int32 × Int32 × Int32 × Int32 × (Nat → Int32))) (x : Int32) : ∀ (j b k : Nat), j + b = bl + 1 → 1 ≤ b → j < k → f_X12_strike_L154 (nI bl) mw po J k (x + nI (wS po wd (b - 1))) (nI b) = J (x + nI (wS po wd bl)) := by
  intro j
  induction j with
  | zero =>
    intro b k hb h1 hk
    obtain ⟨k, rfl⟩ : ∃ k', k = k' + 1 := ⟨k - 1, by omega⟩
    have hb : b = bl + 1 := by omega
    subst hb
    show b_X12_strike_L154 (nI bl) mw po J (fun x y => f_X12_strike_L154 (nI bl) mw po J k x y) (x + nI (wS po wd bl)) (nI (bl + 1)) = _
    unfold b_X12_strike_L154
    rw [if_pos (nI_lt (by omega) (by omega))]
  | succ j ih =>
    intro b k hb h1 hk
    obtain ⟨k, rfl⟩ : ∃ k', k = k' + 1 := ⟨k - 1, by omega⟩
    obtain ⟨m, rfl⟩ : ∃ m, b = m + 1 := ⟨b - 1, by omega⟩
    show b_X12_strike_L154 (nI bl) mw po J (fun x y => f_X12_strike_L154 (nI bl) mw po J k x y) (x + nI (wS po wd m)) (nI (m + 1)) = _
    unfold b_X12_strike_L154
    rw [if_neg (nI_nlt (by omega) (by omega)), bit_at po (by omega)]
    simp only [gd, inb_nI (show m + 1 < 7 by omega) (by decide), if_true, bnd, nI_1, nI_clamp (show m + 1 < 2 ^ 31 by omega), hw (m + 1) (by omega)]
    have hih := ih (m + 1 + 1) k (by omega) (by omega) (by omega)
    rw [show m + 1 + 1 - 1 = m + 1 by omega, wS, ← nI_add, ← Int32.add_assoc] at hih
    cases hbt : bt po (m + 1)
    · rw [b2_f, Int32.zero_mul]
      rw [hbt, if_neg (by decide)] at hih
      exact hih
    · rw [b2_t, Int32.one_mul]
      rw [hbt, if_pos rfl] at hih
      exact hih
theorem roll_hit {kd : Nat → Nat} {bl : Nat} (h6 : bl ≤ 6) (hk : ∀ d, d ≤ bl → kd d < 5) : ∀ (F b w pw hp : Nat) (c : Nat → Int32) (mv bo po hd : Int32), w < 8 → pw ≤ 9 → hp ≤ 9 → (hd = -1 ∨ ∃ w0, w0 < 8 ∧ hd = nI w0) → (rollP kd bl F c b w pw mv bo po hd hp).2.2.2.2.2 ≤ 9 ∧ ((rollP kd bl F c b w pw mv bo po hd hp).2.2.2.2.1 = -1 ∨ ∃ w0, w0 < 8 ∧ (rollP kd bl F c b w pw mv bo po hd hp).2.2.2.2.1 = nI w0) := by
  intro F
  induction F with
  | zero => intro b w pw hp c mv bo po hd _ _ h1 h2; exact ⟨h1, h2⟩
  | succ F ih =>
    intro b w pw hp c mv bo po hd hw hpw h1 h2
    have ht := fun r c => (t_turn w hw r c).2.1
    unfold rollP
    by_cases hp0 : pw = 0
    · rw [if_pos hp0]; exact ⟨h1, h2⟩
    · rw [if_neg hp0]
      split
      · split
        · exact ih _ _ _ _ _ _ _ _ _ (ht _ _) (by omega) h1 h2
        · exact ih _ _ _ _ _ _ _ _ _ (ht _ _) (by omega) h1 h2
      · rcases who_cases c (nI (nx (c b).toNatClampNeg w)) (bl + 1) with ⟨hx, -⟩ | ⟨j, hj, hx, -⟩
        · rw [if_pos hx]
          split
          · exact ih _ _ _ _ _ _ _ _ _ hw (by omega) h1 h2
          · exact ih _ _ _ _ _ _ _ _ _ hw (by omega) h1 h2
        · rw [hx, if_neg (nI_ne_m1 (by omega)), nI_clamp (show j < 2 ^ 31 by omega)]
          have hpj := (t_pow (kd j) (hk j (by omega)) (pw - 1) (by omega)).2.2
          refine ih _ _ _ _ _ _ _ _ _ hw (by omega) (by split <;> omega) ?_
          split
          · exact Or.inr ⟨w, hw, rfl⟩
          · exact h2
/-- what both leave behind a stroke: cells, moves, bounces, potted, the first hit -/
def r1P (kd : Nat → Nat) (bl : Nat) (c : Nat → Int32) (w st : Nat) : (Nat → Int32) × Int32 × Int32 × Int32 × Int32 × Nat := rollP kd bl 99 c 0 w st 0 0 0 (-1) 0
def r2P (kd : Nat → Nat) (bl : Nat) (c : Nat → Int32) (w st s : Nat) : (Nat → Int32) × Int32 × Int32 × Int32 × Int32 × Nat :=
  if s = 0 ∨ (r1P kd bl c w st).2.2.2.2.1 = -1 ∨ (r1P kd bl c w st).1 0 = -1 then r1P kd bl c w st
  else rollP kd bl 99 (r1P kd bl c w st).1 0 (if s = 1 then (r1P kd bl c w st).2.2.2.2.1.toNatClampNeg else ((r1P kd bl c w st).2.2.2.2.1.toNatClampNeg + 4) % 8) ((r1P kd bl c w st).2.2.2.2.2 / 2) (r1P kd bl c w st).2.1 (r1P kd bl c w st).2.2.1 (r1P kd bl c w st).2.2.2.1 (r1P kd bl c w st).2.2.2.2.1 (r1P kd bl c w st).2.2.2.2.2
def sFo (kd : Nat → Nat) (bl : Nat) (c : Nat → Int32) (w st s : Nat) : Bool := decide ((r1P kd bl c w st).2.2.2.2.1 = -1) || decide ((r2P kd bl c w st s).1 0 = -1)
def sC (kd : Nat → Nat) (bl sp : Nat) (c : Nat → Int32) (w st s : Nat) : Nat → Int32 := if (r2P kd bl c w st s).1 0 = -1 then upd (r2P kd bl c w st s).1 0 (nI (spotP bl (r2P kd bl c w st s).1 sp)) else (r2P kd bl c w st s).1
def sMv (kd : Nat → Nat) (bl : Nat) (c : Nat → Int32) (w st s : Nat) : Int32 := (r2P kd bl c w st s).2.1
def sBo (kd : Nat → Nat) (bl : Nat) (c : Nat → Int32) (w st s : Nat) : Int32 := (r2P kd bl c w st s).2.2.1
def sPo (kd : Nat → Nat) (bl : Nat) (c : Nat → Int32) (w st s : Nat) : Int32 := (r2P kd bl c w st s).2.2.2.1
def sBr (kd wd : Nat → Nat) (bl : Nat) (c : Nat → Int32) (w st s : Nat) : Int32 := nI (wS (sPo kd bl c w st s) wd bl) - (if sFo kd bl c w st s = true then 4 else 0)
/-- the class's table with a white on it -/
def TW (bl : Nat) (tk : Int64) (c : Nat → Int32) : Prop := TabC tk c ∧ (∀ d, bl < d → d < 7 → c d = -1) ∧ c 0 ≠ -1
/-- a table's fixed numbers -/
def TF (bl sp : Nat) (kd wd : Nat → Nat) (kv wv : Nat → Int32) : Prop := 1 ≤ bl ∧ bl ≤ 6 ∧ sp < 45 ∧ pkt sp = false ∧ (∀ d, d < 7 → kd d < 5 ∧ kv d = nI (kd d)) ∧ (∀ d, d < 7 → wd d ≤ 7 ∧ wv d = nI (wd d))
theorem r1_ok {bl sp : Nat} {kd wd : Nat → Nat} {kv wv : Nat → Int32} (hF : TF bl sp kd wd kv wv) {tk : Int64} {c : Nat → Int32} (hT : TW bl tk c) {w st n : Nat} (hw : w < 8) (hst : st ≤ 9) (hn : 100 ≤ n) :
    ∃ tk', f_X9_roll n 0 0 0 (-1) 0 tk c kv 0 (nI w) (nI st) = some ((r1P kd bl c w st).2.1, (r1P kd bl c w st).2.2.1, (r1P kd bl c w st).2.2.2.1, (r1P kd bl c w st).2.2.2.2.1, nI (r1P kd bl c w st).2.2.2.2.2, tk', (r1P kd bl c w st).1) ∧ TabC tk' (r1P kd bl c w st).1 ∧ (∀ d, bl < d → d < 7 → (r1P kd bl c w st).1 d = -1) := by
  obtain ⟨h1, h6, -, -, hk, -⟩ := hF
  obtain ⟨hT, hoff, h0⟩ := hT
  rcases hT.1 0 (by decide) with hm | ⟨q, hq, hqp, hc⟩
  · exact absurd hm h0
  · exact rollC (kv := kv) (kd := kd) (bl := bl) (n := n) h6 (by omega) hk 99 n 0 0 w st 0 c tk 0 0 0 (-1) hT hoff (by omega) hw hst (fun _ => ⟨q, hq, hqp, hc, by have := t_ah q hq w hw; omega⟩) (by omega) (by decide)
theorem r1_pot {bl sp : Nat} {kd wd : Nat → Nat} {kv wv : Nat → Int32} (hF : TF bl sp kd wd kv wv) {tk : Int64} {c : Nat → Int32} (hT : TW bl tk c) {w st : Nat} (hw : w < 8) (hst : st ≤ 9) :
    PotI bl (r1P kd bl c w st).1 (r1P kd bl c w st).2.2.2.1 ∧ (r1P kd bl c w st).2.2.2.2.2 ≤ 9 ∧ ((r1P kd bl c w st).2.2.2.2.1 = -1 ∨ ∃ w0, w0 < 8 ∧ (r1P kd bl c w st).2.2.2.2.1 = nI w0) := by
  obtain ⟨h1, h6, -, -, hk, -⟩ := hF
  obtain ⟨hT, hoff, h0⟩ := hT
  refine ⟨roll_inv h6 99 0 w st 0 c 0 0 0 (-1) (fun d hd => hT.1 d (by omega)) (by omega) hw (fun _ => h0) ⟨?_, fun d _ _ => b_0 d⟩, roll_hit h6 (fun d hd => (hk d (by omega)).1) 99 0 w st 0 c 0 0 0 (-1) hw hst (by omega) (Or.inl rfl)⟩
  rw [b_0]
  constructor
  · intro h; cases h
  · intro h; exact absurd h h0
theorem r2_ok {bl sp : Nat} {kd wd : Nat → Nat} {kv wv : Nat → Int32} (hF : TF bl sp kd wd kv wv) {tk : Int64} {c : Nat → Int32} (hT : TW bl tk c) {w st s n : Nat} (hw : w < 8) (hst : st ≤ 9) (hs : s < 3) (hn : 100 ≤ n) {tk1 : Int64} (hT1 : TabC tk1 (r1P kd bl c w st).1) (hoff1 : ∀ d, bl < d → d < 7 → (r1P kd bl c w st).1 d = -1) :
    PotI bl (r2P kd bl c w st s).1 (r2P kd bl c w st s).2.2.2.1 ∧ ∃ tk', TabC tk' (r2P kd bl c w st s).1 ∧ (∀ d, bl < d → d < 7 → (r2P kd bl c w st s).1 d = -1) ∧
    ((s = 0 ∨ (r1P kd bl c w st).2.2.2.2.1 = -1 ∨ (r1P kd bl c w st).1 0 = -1) → tk' = tk1 ∧ r2P kd bl c w st s = r1P kd bl c w st) ∧
    (¬ (s = 0 ∨ (r1P kd bl c w st).2.2.2.2.1 = -1 ∨ (r1P kd bl c w st).1 0 = -1) → f_X9_roll n (r1P kd bl c w st).2.1 (r1P kd bl c w st).2.2.1 (r1P kd bl c w st).2.2.2.1 (r1P kd bl c w st).2.2.2.2.1 (nI (r1P kd bl c w st).2.2.2.2.2) tk1 (r1P kd bl c w st).1 kv 0 (if nI s = 1 then (r1P kd bl c w st).2.2.2.2.1 else ((r1P kd bl c w st).2.2.2.2.1 + 4) &&& 7) (nI (r1P kd bl c w st).2.2.2.2.2 / 2) = some ((r2P kd bl c w st s).2.1, (r2P kd bl c w st s).2.2.1, (r2P kd bl c w st s).2.2.2.1, (r2P kd bl c w st s).2.2.2.2.1, nI (r2P kd bl c w st s).2.2.2.2.2, tk', (r2P kd bl c w st s).1)) := by
  have hp := r1_pot hF hT hw hst
  obtain ⟨h1, h6, -, -, hk, -⟩ := hF
  obtain ⟨hp1, hp2, hp3⟩ := hp
  by_cases hz : s = 0 ∨ (r1P kd bl c w st).2.2.2.2.1 = -1 ∨ (r1P kd bl c w st).1 0 = -1
  · have e : r2P kd bl c w st s = r1P kd bl c w st := by rw [r2P, if_pos hz]
    rw [e]
    exact ⟨hp1, tk1, hT1, hoff1, fun _ => ⟨rfl, rfl⟩, fun h => absurd hz h⟩
  · have hs0 : ¬ s = 0 := fun h => hz (Or.inl h)
    have hd1 : ¬ (r1P kd bl c w st).2.2.2.2.1 = -1 := fun h => hz (Or.inr (Or.inl h))
    have hc0 : ¬ (r1P kd bl c w st).1 0 = -1 := fun h => hz (Or.inr (Or.inr h))
    obtain ⟨w0, hw0, hd⟩ : ∃ w0, w0 < 8 ∧ (r1P kd bl c w st).2.2.2.2.1 = nI w0 := hp3.resolve_left hd1
    have hcl : (nI w0).toNatClampNeg = w0 := nI_clamp (by omega)
    obtain ⟨q, hq, hqp, hc⟩ := (hT1.1 0 (by decide)).resolve_left hc0
    obtain ⟨w2, hw2, hwe, hwc⟩ : ∃ w2, w2 < 8 ∧ (if s = 1 then (r1P kd bl c w st).2.2.2.2.1.toNatClampNeg else ((r1P kd bl c w st).2.2.2.2.1.toNatClampNeg + 4) % 8) = w2 ∧ (if nI s = 1 then (r1P kd bl c w st).2.2.2.2.1 else ((r1P kd bl c w st).2.2.2.2.1 + 4) &&& 7) = nI w2 := by
      rw [hd, hcl]
      by_cases h : s = 1
      · subst h
        exact ⟨w0, hw0, by simp, by rw [if_pos (show nI 1 = 1 by decide)]⟩
      · refine ⟨(w0 + 4) % 8, by omega, by rw [if_neg h], ?_⟩
        by_cases h2 : nI s = 1
        · exact absurd ((nI_eq (by omega) (by decide)).mp (h2.trans (show (1 : Int32) = nI 1 by decide))) h
        · rw [if_neg h2]; exact (t_back w0 hw0).1
    have e : r2P kd bl c w st s = rollP kd bl 99 (r1P kd bl c w st).1 0 w2 ((r1P kd bl c w st).2.2.2.2.2 / 2) (r1P kd bl c w st).2.1 (r1P kd bl c w st).2.2.1 (r1P kd bl c w st).2.2.2.1 (r1P kd bl c w st).2.2.2.2.1 (r1P kd bl c w st).2.2.2.2.2 := by
      rw [r2P, if_neg hz, hwe]
    have hI := roll_inv (kd := kd) h6 99 0 w2 ((r1P kd bl c w st).2.2.2.2.2 / 2) (r1P kd bl c w st).2.2.2.2.2 (r1P kd bl c w st).1 (r1P kd bl c w st).2.1 (r1P kd bl c w st).2.2.1 (r1P kd bl c w st).2.2.2.1 (r1P kd bl c w st).2.2.2.2.1 (fun d hd => hT1.1 d (by omega)) (by omega) hw2 (fun _ => hc0) hp1
    rw [← e] at hI
    refine ⟨hI, ?_⟩
    obtain ⟨tk', hr, hT2, ho2⟩ := rollC (kv := kv) (kd := kd) (bl := bl) (n := n) h6 (by omega) hk 99 n 0 0 w2 ((r1P kd bl c w st).2.2.2.2.2 / 2) (r1P kd bl c w st).2.2.2.2.2 (r1P kd bl c w st).1 tk1 (r1P kd bl c w st).2.1 (r1P kd bl c w st).2.2.1 (r1P kd bl c w st).2.2.2.1 (r1P kd bl c w st).2.2.2.2.1 hT1 hoff1 (by omega) hw2 (by omega) (fun _ => ⟨q, hq, hqp, hc, by have := t_ah q hq w2 hw2; omega⟩) (by omega) (by decide)
    rw [← e] at hr hT2 ho2
    refine ⟨tk', hT2, ho2, fun h => absurd h hz, fun _ => ?_⟩
    rw [hwc, t_half _ (by omega)]
    exact hr
