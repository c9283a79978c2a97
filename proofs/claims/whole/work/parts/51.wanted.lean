/-! from where a ball can be potted -/
theorem lp_o {α β γ : Type} {step : (α → Option β) → α → Option β} {k : Nat} {a : α} {G : γ → Option β} {R : γ → Prop} {S : β → Prop} (P : Nat → α → Prop) (j : Nat) (hP : P j a) (hk : j < k)
    (h0 : ∀ (g : α → Option β) (a : α), P 0 a → (∃ y, R y ∧ step g a = G y) ∨ ∃ r, step g a = some r ∧ S r)
    (hs : ∀ (g : α → Option β) (j : Nat) (a : α), P (j + 1) a → (∃ a', P j a' ∧ step g a = g a') ∨ ((∃ y, R y ∧ step g a = G y) ∨ ∃ r, step g a = some r ∧ S r)) : (∃ y, R y ∧ lpF step k a = G y) ∨ ∃ r, lpF step k a = some r ∧ S r :=
  lp_run P (fun o => (∃ y, R y ∧ o = G y) ∨ ∃ r, o = some r ∧ S r) h0 hs j k a hP hk
theorem bind_o {α β γ δ : Type} {o : Option α} {f : α → Option β} {g : γ → Option β} {G : δ → Option β} {P : α → Prop} {R : γ → Prop} {R2 : δ → Prop} {S : β → Prop} (h : ∃ r, o = some r ∧ P r) (k : ∀ r, P r → (∃ a', R a' ∧ f r = g a') ∨ ((∃ y, R2 y ∧ f r = G y) ∨ ∃ s, f r = some s ∧ S s)) : (∃ a', R a' ∧ o.bind f = g a') ∨ ((∃ y, R2 y ∧ o.bind f = G y) ∨ ∃ s, o.bind f = some s ∧ S s) := by
  obtain ⟨r, e, hP⟩ := h
  rw [e]
  exact k r hP
theorem bind_p {α β γ : Type} {o : Option α} {f : α → Option β} {g : γ → Option β} {P : α → Prop} {R : γ → Prop} {S : β → Prop} (h : ∃ r, o = some r ∧ P r) (k : ∀ r, P r → (∃ a', R a' ∧ f r = g a') ∨ ∃ s, f r = some s ∧ S s) : (∃ a', R a' ∧ o.bind f = g a') ∨ ∃ s, o.bind f = some s ∧ S s := by
  obtain ⟨r, e, hP⟩ := h
  rw [e]
  exact k r hP
def orF (f : Nat → Bool) : Nat → Bool
  | 0 => false
  | i + 1 => orF f i || f i
theorem or_true {f : Nat → Bool} {i : Nat} (h : f i = true) : ∀ N, i < N → orF f N = true
  | 0, hi => absurd hi (Nat.not_lt_zero _)
  | N + 1, hi => by
    rw [orF]
    by_cases e : i = N
    · rw [← e, h, Bool.or_true]
    · rw [or_true h N (by omega), Bool.true_or]
def potF (kd : Nat → Nat) (bl : Nat) (c : Nat → Int32) (b i : Nat) : Bool := bt (sPo kd bl c (i / 9) (i % 9 + 1) 0) b && !sFo kd bl c (i / 9) (i % 9 + 1) 0
theorem t_num3 : ∀ i, i < 72 → nI (3 * i) / 27 = nI (i / 9) ∧ (nI (3 * i) / 3 - nI (3 * i) / 3 / 9 * 9) + 1 = nI (i % 9 + 1) ∧ i / 9 < 8 ∧ nI (3 * i) + 3 = nI (3 * (i + 1)) ∧ ¬ (216 : Int32) ≤ nI (3 * i) := by decide +kernel
theorem lay0_ok {tk : Int64} {c : Nat → Int32} (hT : TabC tk c) {q : Nat} (hq : q < 45) (hp : pkt q = false) (hfree : ∀ d, d < 7 → d ≠ 0 → c d ≠ nI q) : ∃ r : Int64 × (Nat → Int32), f_X10_lay tk c 0 (nI q) = some r ∧ (r.2 = upd c 0 (nI q) ∧ TabC r.1 (upd c 0 (nI q))) := by
  obtain ⟨tk', e, h⟩ := lay_ok hT (b := 0) (by decide) (Or.inr ⟨q, hq, hp, rfl⟩) (fun d hd h0 _ => hfree d hd h0)
  exact ⟨(tk', upd c 0 (nI q)), e, rfl, h⟩
theorem canPot_ok {bl sp : Nat} {kd wd : Nat → Nat} {kv wv : Nat → Int32} (hF : TF bl sp kd wd kv wv) {tk : Int64} {c : Nat → Int32} (hT : TW bl tk c) {N : Nat} (hN : N = 72) {n : Nat} (hn : 1000 ≤ n) {b q : Nat} (hb : b ≤ bl) (hq : q < 45) (hqp : pkt q = false) (hfree : ∀ d, d < 7 → d ≠ 0 → c d ≠ nI q) {m0 b0 p0 br0 h0 hp0 fo0 sz sq : Int32} {t0 : Int64} {v1 v2 v3 : Nat → Int32} :
    ∃ r, f_X0_canPotFrom n m0 b0 p0 br0 h0 hp0 fo0 t0 sz sq v1 v2 v3 tk (nI bl) (nI sp) c kv wv (nI b) (nI q) = some r ∧ r.1 = b2 (orF (potF kd bl (upd c 0 (nI q)) b) N) := by
  have h6 := hF.2.1
  unfold f_X0_canPotFrom f_X0_canPotFrom_L3
  refine lp_r (fun j s => ∃ i, j + i = N ∧ s.1 = nI (3 * i) ∧ orF (potF kd bl (upd c 0 (nI q)) b) i = false) N ⟨0, by omega, nI_0.symm, rfl⟩ (by omega) ?_ ?_
  · rintro g ⟨x, r⟩ ⟨i, hi, hx, hR⟩
    have hi : i = N := by omega
    dsimp only at hx hR ⊢
    unfold b_X0_canPotFrom_L3
    rw [hx, if_pos (show (216 : Int32) ≤ nI (3 * i) by rw [hi, hN]; decide)]
    refine ⟨_, rfl, ?_⟩
    dsimp only
    rw [← hi, hR]; rfl
  · rintro g j ⟨x, r⟩ ⟨i, hi, hx, hR⟩
    dsimp only at hx hR ⊢
    have ht := t_num3 i (by omega)
    unfold b_X0_canPotFrom_L3
    rw [hx, if_neg ht.2.2.2.2]
    simp only [f_X9_begin, f_X10_copy, Option.bind_some]
    refine bind_p (lay0_ok hT.1 hq hqp hfree) ?_
    rintro ⟨tk1, c1⟩ ⟨e1, hT1⟩
    dsimp only at e1 hT1 ⊢
    subst e1
    have hTW : TW bl tk1 (upd c 0 (nI q)) := ⟨hT1, fun d h1 h2 => by rw [upd_n (by omega)]; exact hT.2.1 d h1 h2, by rw [upd_s]; exact nI_ne_m1 hq⟩
    simp only [f_X0_directionOf, f_X0_strengthOf, Option.bind_some, ht.1, ht.2.1]
    refine bind_p (shoot_r0 hF hTW ht.2.2.1 (by omega) (by omega)) (fun r1 hr1 => ?_)
    simp only [f_X9_hasPotted, jn, bnd, ht.2.2.2.1]
    rw [hr1.2.2.1, hr1.2.2.2.2.1, bit_at _ (by omega)]
    cases hb1 : bt (sPo kd bl (upd c 0 (nI q)) (i / 9) (i % 9 + 1) 0) b
    · rw [if_pos b2_f, Option.bind_some, if_pos rfl]
      refine Or.inl ⟨_, ?_, rfl⟩
      exact ⟨i + 1, by omega, rfl, by rw [orF, hR, potF, hb1]; rfl⟩
    · rw [if_neg (by rw [b2_t]; decide), Option.bind_some, if_neg (by decide)]
      cases hfo : sFo kd bl (upd c 0 (nI q)) (i / 9) (i % 9 + 1) 0
      · rw [if_pos b2_f]
        refine Or.inr ⟨_, rfl, ?_⟩
        dsimp only
        rw [or_true (i := i) (by rw [potF, hb1, hfo]; rfl) N (by omega)]; rfl
      · rw [if_neg (by rw [b2_t]; decide)]
        refine Or.inl ⟨_, ?_, rfl⟩
        exact ⟨i + 1, by omega, rfl, by rw [orF, hR, potF, hb1, hfo]; rfl⟩
theorem isWanted_ok {bl sp : Nat} {kd wd : Nat → Nat} {kv wv : Nat → Int32} (hF : TF bl sp kd wd kv wv) {tk : Int64} {c : Nat → Int32} (hT : TW bl tk c) {N : Nat} (hN : N = 72) {n : Nat} (hn : 1000 ≤ n) {b q : Nat} (hb : b ≤ bl) (hq : q < 45) (hqp : pkt q = false) (hfree : ∀ d, d < 7 → d ≠ 0 → c d ≠ nI q) {mk mw mc mo : Nat → Int32} (hMF : MF bl kv wv mk mw) (hv : ∀ d, d ≤ bl → mc d = c d) {a1 a2 a3 a4 a5 a6 a7 a8 : Int32} :
    ∃ r, f_X12_isWantedFrom n (nI bl) (nI sp) a1 a2 a3 a4 a5 a6 a7 a8 mk mw mc mo (nI b) (nI q) = some r ∧ r.1 = b2 (orF (potF kd bl (upd c 0 (nI q)) b) N) := by
  have h6 := hF.2.1
  obtain ⟨⟨tk1, c1⟩, -, e1, hT1⟩ := lay0_ok hT.1 hq hqp hfree
  dsimp only at e1 hT1
  have hTW : TW bl tk1 (upd c 0 (nI q)) := ⟨hT1, fun d h1 h2 => by rw [upd_n (by omega)]; exact hT.2.1 d h1 h2, by rw [upd_s]; exact nI_ne_m1 hq⟩
  have hz0 : (0 : Int32).toNatClampNeg = 0 := rfl
  have hi0 : inb 0 7 = true := by decide
  unfold f_X12_isWantedFrom f_X12_isWantedFrom_L2
  refine lp_r (fun j s => ∃ i, j + i = 8 ∧ s.1 = nI i ∧ orF (potF kd bl (upd c 0 (nI q)) b) (9 * i) = false) 8 ⟨0, by omega, nI_0.symm, rfl⟩ (by omega) ?_ ?_
  · rintro g ⟨x, r⟩ ⟨i, hi, hx, hR⟩
    have hi : i = 8 := by omega
    dsimp only at hx hR ⊢
    unfold b_X12_isWantedFrom_L2
    rw [hx, if_pos (show (8 : Int32) ≤ nI i by rw [hi]; decide)]
    refine ⟨_, rfl, ?_⟩
    dsimp only
    rw [show N = 9 * i by omega, hR]; rfl
  · rintro g j ⟨x, r⟩ ⟨i, hi, hx, hR⟩
    dsimp only at hx hR ⊢
    unfold b_X12_isWantedFrom_L2
    rw [hx, if_neg (show ¬ (8 : Int32) ≤ nI i from nI_ge (b := 8) (by omega) (by decide))]
    simp only [jn, bnd, nI_1]
    unfold f_X12_isWantedFrom_L11
    refine lp_o (fun j s => ∃ t, j + t = 9 ∧ s.1 = nI (t + 1) ∧ orF (potF kd bl (upd c 0 (nI q)) b) (9 * i + t) = false) 9 ⟨0, by omega, by show (1 : Int32) = nI (0 + 1); decide, hR⟩ (by omega) ?_ ?_
    · rintro g2 ⟨x, r⟩ ⟨t, ht, hx, hR⟩
      have ht : t = 9 := by omega
      dsimp only at hx hR ⊢
      unfold b_X12_isWantedFrom_L11
      rw [hx, if_pos (show (10 : Int32) ≤ nI (t + 1) by rw [ht]; decide)]
      refine Or.inl ⟨_, ?_, rfl⟩
      exact ⟨i + 1, by omega, rfl, by rw [ht] at hR; exact hR⟩
    · rintro g2 j2 ⟨x, r⟩ ⟨t, ht, hx, hR⟩
      dsimp only at hx hR ⊢
      unfold b_X12_isWantedFrom_L11
      rw [hx, if_neg (show ¬ (10 : Int32) ≤ nI (t + 1) from nI_ge (b := 10) (by omega) (by decide))]
      refine bind_o (copy_ok (by decide) (by omega) _ _) (fun w hw => ?_)
      simp only [gd, hi0, if_true, hz0]
      refine bind_o (strike_r0 hF hTW (w := i) (by omega) (by omega) (by omega) hMF (fun d hd => ?_)) (fun r1 hr1 => ?_)
      · by_cases h : d = 0
        · rw [h, upd_s, upd_s]
        · rw [upd_n h, upd_n h]; exact (hw d (by omega)).trans (hv d hd)
      simp only [jn, bnd, nI_1]
      have hpf : potF kd bl (upd c 0 (nI q)) b (9 * i + t) = (bt (sPo kd bl (upd c 0 (nI q)) i (t + 1) 0) b && !sFo kd bl (upd c 0 (nI q)) i (t + 1) 0) := by
        rw [potF, show (9 * i + t) / 9 = i by omega, show (9 * i + t) % 9 = t by omega]
      rw [hr1.2.1, hr1.2.2.2.2.1, bit_at _ (by omega)]
      cases hfo : sFo kd bl (upd c 0 (nI q)) i (t + 1) 0
      · rw [if_pos b2_f]
        cases hb1 : bt (sPo kd bl (upd c 0 (nI q)) i (t + 1) 0) b
        · rw [if_neg (by rw [b2_f]; decide)]
          refine Or.inl ⟨_, ?_, rfl⟩
          exact ⟨t + 1, by omega, rfl, by rw [← Nat.add_assoc, orF, hR, hpf, hb1]; rfl⟩
        · rw [if_pos b2_t]
          refine Or.inr (Or.inr ⟨_, rfl, ?_⟩)
          dsimp only
          rw [or_true (i := 9 * i + t) (by rw [hpf, hb1, hfo]; rfl) N (by omega)]; rfl
      · rw [if_neg (by rw [b2_t]; decide)]
        refine Or.inl ⟨_, ?_, rfl⟩
        exact ⟨t + 1, by omega, rfl, by rw [← Nat.add_assoc, orF, hR, hpf, hfo, Bool.not_true, Bool.and_false]; rfl⟩
