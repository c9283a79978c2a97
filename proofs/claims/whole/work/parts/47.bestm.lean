/-! the reference's codes of strokes -/
def nb (q : Nat) : Nat := 27 * (q / 100) + (if q / 10 % 10 = 0 then 0 else 3 * (q / 10 % 10 - 1) + Nat.min (q % 10) 3)
def cof (m : Nat) : Nat := 100 * (m / 27) + 10 * (m / 3 % 9 + 1) + m % 3
def vC (q : Nat) : Bool := !decide (q / 10 % 10 = 0) && decide (q % 10 < 3)
theorem t_code : ∀ q, q < 800 → f_X12_isStroke (nI q / 100) ((nI q / 10) - (nI q / 10) / 10 * 10) (nI q - nI q / 10 * 10) = some (b2 (vC q)) ∧ (if vC q = true then (nI q / 100 = nI (nb q / 27) ∧ (nI q / 10) - (nI q / 10) / 10 * 10 = nI (nb q / 3 % 9 + 1) ∧ nI q - nI q / 10 * 10 = nI (nb q % 3) ∧ cof (nb q) = q ∧ nb q < 216 ∧ nb (q + 1) = nb q + 1) else nb (q + 1) = nb q) := by decide +kernel
theorem t_cof : ∀ m, m < 216 → nI (cof m) / 100 = nI (m / 27) ∧ (nI (cof m) / 10) - (nI (cof m) / 10) / 10 * 10 = nI (m / 3 % 9 + 1) ∧ nI (cof m) - nI (cof m) / 10 * 10 = nI (m % 3) ∧ ¬ nI (cof m) = -1 := by decide +kernel
def RM (Z : Int32 → Prop) (z : Int32) (o : Option (Nat × Int32)) (co br : Int32) : Prop := match o with
  | none => br = z ∧ Z co
  | some (m, x) => m < 216 ∧ co = nI (cof m) ∧ br = x
theorem rm_step {g : Nat → Option Int32} {lt : Int32 → Int32 → Bool} {Z : Int32 → Prop} {z : Int32} {i : Nat} {y co br : Int32} (hi : i < 216) (hg : g i = some y) (hz : lt z y = true) (hR : RM Z z (chF g lt i) co br) : ∃ co' br', RM Z z (chF g lt (i + 1)) co' br' ∧ (lt br y = true → co' = nI (cof i) ∧ br' = y) ∧ (¬ lt br y = true → co' = co ∧ br' = br) := by
  unfold chF
  rw [hg]
  cases ho : chF g lt i with
  | none =>
    rw [ho] at hR
    refine ⟨nI (cof i), y, ⟨hi, rfl, rfl⟩, fun _ => ⟨rfl, rfl⟩, fun h => absurd ?_ h⟩
    rw [hR.1]; exact hz
  | some p =>
    obtain ⟨m, x⟩ := p
    rw [ho] at hR
    obtain ⟨hm, h1, h2⟩ := hR
    subst h2
    by_cases hl : lt br y = true
    · refine ⟨nI (cof i), y, ?_, fun _ => ⟨rfl, rfl⟩, fun h => absurd hl h⟩
      simp only [hl, if_true]
      exact ⟨hi, rfl, rfl⟩
    · refine ⟨co, br, ?_, fun h => absurd h hl, fun _ => ⟨rfl, rfl⟩⟩
      simp only [hl]
      exact ⟨hm, h1, rfl⟩
def TV (o : Option (Nat × Int32)) (p : Int32) : Int32 := match o with
  | none => -1
  | some (m, x) => if p = 0 then x + 100 else if p = 1 then nI (m / 27) else if p = 2 then nI (m / 3 % 9 + 1) else nI (m % 3)
theorem tell_ok {o : Option (Nat × Int32)} {ch va p : Int32} (hR : RC o ch va) : f_X0_tell ch va p = some (TV o p) := by
  unfold f_X0_tell
  cases o with
  | none => rw [if_pos (show ch = -1 from hR)]; rfl
  | some q =>
    obtain ⟨m, x⟩ := q
    obtain ⟨hm, h1, h2⟩ := hR
    have ht := t_num m hm
    rw [if_neg (by rw [h1]; exact nI_m1' (by omega))]
    subst h1; subst h2
    simp only [f_X0_directionOf, f_X0_strengthOf, f_X0_spinOf, Option.bind_some, ht.1, ht.2.1, ht.2.2.1, TV]
    split
    · rfl
    · split
      · rfl
      · split <;> rfl
theorem tellc_ok {Z : Int32 → Prop} {z : Int32} {m : Nat} {x co br p : Int32} (hR : RM Z z (some (m, x)) co br) (hp : ¬ p = 0) : f_X12_tellCode co p = some (TV (some (m, x)) p) := by
  obtain ⟨hm, h1, h2⟩ := hR
  have ht := t_cof m hm
  unfold f_X12_tellCode
  rw [h1]
  simp only [ht.1, ht.2.1, ht.2.2.1, TV, if_neg hp]
  split
  · rfl
  · split <;> rfl
theorem ch_some {f : Nat → Int32} {lt : Int32 → Int32 → Bool} : ∀ i, 0 < i → ∃ p, chF (fun i => some (f i)) lt i = some p := by
  intro i hi
  obtain ⟨i, rfl⟩ : ∃ j, i = j + 1 := ⟨i - 1, by omega⟩
  unfold chF
  cases chF (fun i => some (f i)) lt i with
  | none => exact ⟨_, rfl⟩
  | some p =>
    obtain ⟨m, x⟩ := p
    dsimp only
    split <;> exact ⟨_, rfl⟩
/-- what a stroke brings: bounds -/
theorem sBr_bd {bl sp : Nat} {kd wd : Nat → Nat} {kv wv : Nat → Int32} (hF : TF bl sp kd wd kv wv) (c : Nat → Int32) (w st s : Nat) : -4 ≤ (sBr kd wd bl c w st s).toInt ∧ (sBr kd wd bl c w st s).toInt ≤ 42 := by
  obtain ⟨h1, h6, -, -, -, hW⟩ := hF
  have h := wS_le (po := sPo kd bl c w st s) (wd := wd) bl (fun d hd => (hW d (by omega)).1)
  have key : ∀ m, m < 43 → (-4 ≤ (nI m - 4).toInt ∧ (nI m - 4).toInt ≤ 42) ∧ (-4 ≤ (nI m - 0).toInt ∧ (nI m - 0).toInt ≤ 42) := by decide +kernel
  have hk := key (wS (sPo kd bl c w st s) wd bl) (by omega)
  unfold sBr
  cases sFo kd bl c w st s
  · exact hk.2
  · exact hk.1
theorem lt_of_bd {x y : Int32} (h : x.toInt < y.toInt) : x < y := Int32.lt_iff_toInt_lt.mpr h
theorem bestOf_ok {bl sp : Nat} {kd wd : Nat → Nat} {kv wv : Nat → Int32} (hF : TF bl sp kd wd kv wv) {tk : Int64} {c : Nat → Int32} (hT : TW bl tk c) {M : Nat} (hM : M = 216) {n : Nat} (hn : 1000 ≤ n) {mk mw mc mo : Nat → Int32} (hMF : MF bl kv wv mk mw) (hv : ∀ d, d ≤ bl → mc d = c d) {a1 a2 a3 a4 a5 a6 a7 a8 a9 a10 : Int32} (p : Int32) :
    ∃ r, f_X12_bestOf n (nI bl) (nI sp) a1 a2 a3 a4 a5 a6 a7 a8 a9 a10 mk mw mc mo p = some r ∧ r.1 = TV (chF (fun i => some (gB kd wd bl c i)) gtI M) p := by
  unfold f_X12_bestOf f_X12_bestOf_L8
  simp only [jn]
  refine lp_r (fun j s => ∃ q, j + q = 800 ∧ s.1 = nI q ∧ RM (fun _ => True) (-99) (chF (fun i => some (gB kd wd bl c i)) gtI (nb q)) s.2.2.2.2.2.2.2.2.2.1 s.2.2.2.2.2.2.2.2.2.2.1) 800 ⟨0, by omega, nI_0.symm, ⟨rfl, trivial⟩⟩ (by omega) ?_ ?_
  · rintro g ⟨x, s1, s2, s3, s4, s5, s6, s7, s8, co, br, v⟩ ⟨q, hq, hx, hR⟩
    dsimp only at hx hR ⊢
    have hq : q = 800 := by omega
    have hnb : nb q = M := by rw [hq, hM]; decide
    rw [hnb] at hR
    unfold b_X12_bestOf_L8
    rw [hx, if_pos (show (800 : Int32) ≤ nI q by rw [hq]; decide)]
    obtain ⟨⟨m, x⟩, ho⟩ := ch_some (f := fun i => gB kd wd bl c i) (lt := gtI) M (by omega)
    rw [ho] at hR ⊢
    dsimp only
    by_cases hp : p = 0
    · rw [if_pos hp]
      refine ⟨_, rfl, ?_⟩
      dsimp only
      rw [hR.2.2, TV, if_pos hp]
    · rw [if_neg hp, tellc_ok hR hp]
      exact ⟨_, rfl, rfl⟩
  · rintro g j ⟨x, s1, s2, s3, s4, s5, s6, s7, s8, co, br, v⟩ ⟨q, hq, hx, hR⟩
    left
    dsimp only at hx hR ⊢
    have ht := t_code q (by omega)
    unfold b_X12_bestOf_L8
    rw [hx, if_neg (show ¬ (800 : Int32) ≤ nI q from nI_ge (b := 800) (by omega) (by decide)), ht.1, Option.bind_some]
    simp only [jn, bnd, nI_1]
    cases hvq : vC q
    · rw [hvq, if_neg (by decide)] at ht
      rw [if_pos b2_f]
      refine ⟨_, ?_, rfl⟩
      exact ⟨q + 1, by omega, rfl, by rw [ht.2]; exact hR⟩
    · rw [hvq, if_pos rfl] at ht
      obtain ⟨-, e1, e2, e3, e4, e5, e6⟩ := ht
      rw [if_neg (by rw [b2_t]; decide), e1, e2, e3]
      refine bind_l (copy_ok (by decide) (by omega) _ _) (fun w hw => ?_)
      refine bind_l (strike_r hF hT (by omega) (by omega) (by omega) (by omega) hMF (fun d hd => (hw d (by have := hF.2.1; omega)).trans (hv d hd))) (fun r hr => ?_)
      rw [hr.1]
      have hb := sBr_bd hF c (nb q / 27) (nb q / 3 % 9 + 1) (nb q % 3)
      obtain ⟨co', br', hR', hA, hB⟩ := rm_step (g := fun i => some (gB kd wd bl c i)) (lt := gtI) e5 rfl (by
        simp only [gtI, decide_eq_true_eq]
        exact lt_of_bd (by
          have h9 : (-99 : Int32).toInt = -99 := by decide
          unfold gB
          omega)) hR
      rw [← e6] at hR'
      by_cases h2 : sBr kd wd bl c (nb q / 27) (nb q / 3 % 9 + 1) (nb q % 3) ≤ br
      · rw [if_pos h2, if_pos h2]
        obtain ⟨f1, f2⟩ := hB (fun z => by simp only [gtI, decide_eq_true_eq] at z; exact le_nlt.mp h2 z)
        subst f1; subst f2
        refine ⟨_, ?_, rfl⟩
        exact ⟨q + 1, by omega, rfl, hR'⟩
      · rw [if_neg h2, if_neg h2]
        obtain ⟨f1, f2⟩ := hA (by simp only [gtI, decide_eq_true_eq]; exact Int32.not_le.mp h2)
        rw [e4] at f1
        subst f1; subst f2
        refine ⟨_, ?_, rfl⟩
        exact ⟨q + 1, by omega, rfl, hR'⟩
