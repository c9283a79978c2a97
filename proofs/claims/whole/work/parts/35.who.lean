/-! which ball lies in a cell -/
def whoF (c : Nat → Int32) (x : Int32) : Nat → Int32
  | 0 => -1
  | n + 1 => if c n = x then nI n else whoF c x n
theorem who_none {c : Nat → Int32} {x : Int32} : ∀ {n : Nat}, (∀ b, b < n → ¬ c b = x) → whoF c x n = -1
  | 0, _ => rfl
  | n + 1, h => by
    rw [whoF, if_neg (h n (Nat.lt_succ_self n))]
    exact who_none (fun b hb => h b (Nat.lt_succ_of_lt hb))
theorem who_some {c : Nat → Int32} {x : Int32} : ∀ {n : Nat} {b : Nat}, b < n → c b = x → (∀ d, d < n → c d = x → d = b) → whoF c x n = nI b
  | 0, _, h, _, _ => absurd h (Nat.not_lt_zero _)
  | n + 1, b, h, hb, hu => by
    by_cases hn : c n = x
    · rw [whoF, if_pos hn, hu n (Nat.lt_succ_self n) hn]
    · rw [whoF, if_neg hn]
      have hbn : b ≠ n := fun e => hn (e ▸ hb)
      exact who_some (by omega) hb (fun d hd => hu d (Nat.lt_succ_of_lt hd))
theorem who_cases (c : Nat → Int32) (x : Int32) : ∀ n : Nat, (whoF c x n = -1 ∧ ∀ b, b < n → ¬ c b = x) ∨ ∃ b, b < n ∧ whoF c x n = nI b ∧ c b = x
  | 0 => Or.inl ⟨rfl, fun _ h => absurd h (Nat.not_lt_zero _)⟩
  | n + 1 => by
    by_cases hn : c n = x
    · exact Or.inr ⟨n, Nat.lt_succ_self n, by rw [whoF, if_pos hn], hn⟩
    · rcases who_cases c x n with ⟨h1, h2⟩ | ⟨b, h1, h2, h3⟩
      · refine Or.inl ⟨by rw [whoF, if_neg hn]; exact h1, fun b hb => ?_⟩
        by_cases e : b = n
        · rw [e]; exact hn
        · exact h2 b (by omega)
      · exact Or.inr ⟨b, by omega, by rw [whoF, if_neg hn]; exact h2, h3⟩
theorem who_congr {c d : Nat → Int32} {x : Int32} : ∀ {n : Nat}, (∀ b, b < n → c b = d b) → whoF c x n = whoF d x n
  | 0, _ => rfl
  | n + 1, h => by
    rw [whoF, whoF, h n (Nat.lt_succ_self n), who_congr (fun b hb => h b (Nat.lt_succ_of_lt hb))]
theorem inb_nI {b N : Nat} (h : b < N) (hN : N < 2 ^ 31) : inb (nI b) N = true := by
  simp only [inb, Bool.and_eq_true, decide_eq_true_eq, nI_toInt (show b < 2 ^ 31 by omega)]
  omega
theorem ballIn_loop {c : Nat → Int32} {x : Int32} (hu : ∀ b, b < 7 → ∀ d, d < 7 → c b = x → c d = x → b = d) : ∀ (j b k : Nat), j + b = 7 → j < k → (∀ d, d < b → ¬ c d = x) → f_X10_ballIn_L17 c x k (nI b) = some (whoF c x 7) := by
  intro j
  induction j with
  | zero =>
    intro b k hb hk hd
    obtain ⟨k, rfl⟩ : ∃ k', k = k' + 1 := ⟨k - 1, by omega⟩
    have hb : b = 7 := by omega
    subst hb
    show b_X10_ballIn_L17 c x (fun y => f_X10_ballIn_L17 c x k y) (nI 7) = _
    unfold b_X10_ballIn_L17
    rw [if_pos (show (7 : Int32) ≤ nI 7 by decide), who_none hd]
  | succ j ih =>
    intro b k hb hk hd
    obtain ⟨k, rfl⟩ : ∃ k', k = k' + 1 := ⟨k - 1, by omega⟩
    have hb7 : b < 7 := by omega
    show b_X10_ballIn_L17 c x (fun y => f_X10_ballIn_L17 c x k y) (nI b) = _
    unfold b_X10_ballIn_L17
    rw [if_neg (show ¬ (7 : Int32) ≤ nI b from nI_ge hb7 (by decide))]
    simp only [gd, inb_nI hb7 (by decide), if_true, bnd, nI_clamp (show b < 2 ^ 31 by omega)]
    by_cases h : c b = x
    · rw [if_pos h, who_some hb7 h (fun d hd7 hx => hu d hd7 b hb7 hx h)]
    · rw [if_neg h, nI_1]
      refine ih (b + 1) k (by omega) (by omega) (fun d hdb => ?_)
      by_cases e : d = b
      · rw [e]; exact h
      · exact hd d (by omega)
theorem ballIn_ok {tk : Int64} {c : Nat → Int32} (hT : TabC tk c) {q n : Nat} (hq : q < 45) (hn : 8 ≤ n) : f_X10_ballIn n tk c (nI q) = some (whoF c (nI q) 7) := by
  unfold f_X10_ballIn
  by_cases h : tb tk q = true
  · rw [if_neg (fun z => by rw [(tb_test tk hq).mp z] at h; cases h)]
    exact ballIn_loop (fun b hb d hd h1 h2 => hT.2.1 b hb d hd (h1.trans h2.symm) (by rw [h1]; exact nI_ne_m1 hq)) 7 0 n rfl (by omega) (fun d hd => absurd hd (Nat.not_lt_zero _))
  · have hf : tb tk q = false := by cases hx : tb tk q <;> simp_all
    rw [if_pos ((tb_test tk hq).mpr hf), who_none]
    intro b hb hc
    exact h ((hT.2.2 q hq).mpr ⟨b, hb, hc⟩)
theorem lies_loop {v : Nat → Int32} {x : Int32} {bl : Nat} (h1 : 1 ≤ bl) (h6 : bl ≤ 6) : ∀ (j b k : Nat), j + b = bl + 1 → j < k → f_X12_liesIn_L5 (nI bl) v x k (whoF v x b) (nI b) = some (whoF v x (bl + 1)) := by
  intro j
  induction j with
  | zero =>
    intro b k hb hk
    obtain ⟨k, rfl⟩ : ∃ k', k = k' + 1 := ⟨k - 1, by omega⟩
    have hb : b = bl + 1 := by omega
    subst hb
    show b_X12_liesIn_L5 (nI bl) v x (fun y z => f_X12_liesIn_L5 (nI bl) v x k y z) (whoF v x (bl + 1)) (nI (bl + 1)) = _
    unfold b_X12_liesIn_L5
    rw [if_pos (nI_lt (by omega) (by omega))]
  | succ j ih =>
    intro b k hb hk
    obtain ⟨k, rfl⟩ : ∃ k', k = k' + 1 := ⟨k - 1, by omega⟩
    have hb7 : b < 7 := by omega
    show b_X12_liesIn_L5 (nI bl) v x (fun y z => f_X12_liesIn_L5 (nI bl) v x k y z) (whoF v x b) (nI b) = _
    unfold b_X12_liesIn_L5 f_X12_lacks
    rw [if_neg (nI_nlt (show b ≤ bl by omega) (by omega)), if_neg (nI_ne0 (by omega) (by omega))]
    simp only [Option.bind_some, if_true, gd, inb_nI hb7 (by decide), bnd, jn, nI_clamp (show b < 2 ^ 31 by omega), nI_1]
    have e : whoF v x (b + 1) = if v b = x then nI b else whoF v x b := rfl
    have h2 := ih (b + 1) k (by omega) (by omega)
    rw [e] at h2
    by_cases h : v b = x
    · rw [if_pos h] at h2 ⊢; exact h2
    · rw [if_neg h] at h2 ⊢; exact h2
theorem lies_ok {v : Nat → Int32} {x : Int32} {bl n : Nat} (h1 : 1 ≤ bl) (h6 : bl ≤ 6) (hn : 9 ≤ n) : f_X12_liesIn n (nI bl) v x = some (whoF v x (bl + 1)) := by
  unfold f_X12_liesIn
  have h := lies_loop (v := v) (x := x) h1 h6 (bl + 1) 0 n rfl (by omega)
  exact h
theorem upd_s (f : Nat → Int32) (k : Nat) (x : Int32) : upd f k x k = x := by simp [upd]
theorem upd_n {f : Nat → Int32} {k j : Nat} {x : Int32} (h : j ≠ k) : upd f k x j = f j := by simp [upd, h]
/-- a ball is laid in a free cell, or taken off -/
theorem lay_ok {tk : Int64} {c : Nat → Int32} (hT : TabC tk c) {b : Nat} (hb : b < 7) {y : Int32} (hy : okc y) (hfree : ∀ d, d < 7 → d ≠ b → y ≠ -1 → c d ≠ y) : ∃ tk', f_X10_lay tk c (nI b) y = some (tk', upd c b y) ∧ TabC tk' (upd c b y) := by
  have h0 : ¬ nI b < 0 := nI_pos (by omega)
  have h7 : nI b < 7 := nI_lt (b := 7) hb (by decide)
  have hcl : (nI b).toNatClampNeg = b := nI_clamp (by omega)
  obtain ⟨t1, e1, ht1⟩ : ∃ t1, (if c b = -1 then tk else tk &&& ((1 <<< ((c b).toInt64 &&& 63)) ^^^ (-1))) = t1 ∧ ∀ q, q < 45 → (tb t1 q = true ↔ ∃ d, d < 7 ∧ d ≠ b ∧ c d = nI q) := by
    refine ⟨_, rfl, fun q hq => ?_⟩
    rcases hT.1 b hb with hm | ⟨q0, hq0, -, hm⟩
    · rw [if_pos hm, hT.2.2 q hq]
      constructor
      · rintro ⟨d, hd, hc⟩
        exact ⟨d, hd, fun e => nI_ne_m1 hq (by rw [← hc, e, hm]), hc⟩
      · rintro ⟨d, hd, -, hc⟩
        exact ⟨d, hd, hc⟩
    · rw [if_neg (by rw [hm]; exact nI_ne_m1 hq0), hm, tb_clr tk hq0 (show q < 64 by omega), Bool.and_eq_true, hT.2.2 q hq]
      constructor
      · rintro ⟨⟨d, hd, hc⟩, hne⟩
        refine ⟨d, hd, fun e => ?_, hc⟩
        have : q = q0 := nI_inj45 hq hq0 (by rw [← hc, e, hm])
        simp [this] at hne
      · rintro ⟨d, hd, hdb, hc⟩
        refine ⟨⟨d, hd, hc⟩, ?_⟩
        have : q ≠ q0 := fun e => hdb (hT.2.1 d hd b hb (by rw [hc, hm, e]) (by rw [hc]; exact nI_ne_m1 hq))
        simp [this]
  obtain ⟨t2, e2, ht2⟩ : ∃ t2, (if y = -1 then t1 else t1 ||| (1 <<< (y.toInt64 &&& 63))) = t2 ∧ ∀ q, q < 45 → (tb t2 q = true ↔ ∃ d, d < 7 ∧ upd c b y d = nI q) := by
    refine ⟨_, rfl, fun q hq => ?_⟩
    rcases hy with hm | ⟨q0, hq0, -, hm⟩
    · rw [if_pos hm, ht1 q hq]
      constructor
      · rintro ⟨d, hd, hdb, hc⟩
        exact ⟨d, hd, by rw [upd_n hdb]; exact hc⟩
      · rintro ⟨d, hd, hc⟩
        have hdb : d ≠ b := fun e => nI_ne_m1 hq (by rw [← hc, e, upd_s, hm])
        exact ⟨d, hd, hdb, by rw [upd_n hdb] at hc; exact hc⟩
    · rw [if_neg (by rw [hm]; exact nI_ne_m1 hq0), hm, tb_or t1 hq0 (show q < 64 by omega), Bool.or_eq_true, ht1 q hq]
      constructor
      · rintro (⟨d, hd, hdb, hc⟩ | h)
        · exact ⟨d, hd, by rw [upd_n hdb]; exact hc⟩
        · have : q = q0 := by simpa using h
          exact ⟨b, hb, by rw [upd_s, this]⟩
      · rintro ⟨d, hd, hc⟩
        by_cases hdb : d = b
        · right
          rw [hdb, upd_s] at hc
          have : q = q0 := (nI_inj45 hq0 hq hc).symm
          simp [this]
        · left
          exact ⟨d, hd, hdb, by rw [upd_n hdb] at hc; exact hc⟩
  refine ⟨t2, ?_, ?_, ?_, ht2⟩
  · unfold f_X10_lay
    rw [if_neg h0, if_pos h7]
    simp only [gd, inb_nI hb (by decide), if_true, jn, hcl]
    subst e2; subst e1
    by_cases hm : c b = -1 <;> by_cases hy1 : y = -1 <;> simp [hm, hy1]
  · intro d hd
    by_cases hdb : d = b
    · rw [hdb, upd_s]; exact hy
    · rw [upd_n hdb]; exact hT.1 d hd
  · intro d hd e he h1 h2
    by_cases hdb : d = b <;> by_cases heb : e = b
    · rw [hdb, heb]
    · rw [hdb, upd_s] at h1 h2
      rw [upd_n heb] at h1
      exact absurd h1.symm (hfree e he heb h2)
    · rw [heb, upd_s] at h1
      rw [upd_n hdb] at h1 h2
      exact absurd h1 (hfree d hd hdb (fun z => h2 (h1.trans z)))
    · rw [upd_n hdb] at h1 h2
      rw [upd_n heb] at h1
      exact hT.2.1 d hd e he h1 h2
