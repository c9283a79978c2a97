theorem say_ok (h v : Int64) : f_X12_say h v = some (31 * h + v) := by rw [f_X12_say]
def tdH (kd wd : Nat → Nat) (bl sp : Nat) (c kv wv : Nat → Int32) (sb sd se sf : Nat → Int32) (sn M8 M9 M216 : Nat) : Int64 :=
  hsF (hsF (hsF (31 * (31 * hB kv wv c 1097 (bl + 1) + (kbP kd bl sp c 1 sb sd se sf sn).toInt64) + (tdP kd bl sp c 1 (kbP kd bl sp c 1 sb sd se sf sn) M8).toInt64) (seP bl c M9) 8) (fun i => TV (chF (fun i => some (gB kd wd bl c i)) gtI M216) (nI i)) 4) (tvP kd wd bl sp c 3 9 1) 6
theorem hB_congr {k w c k' w' c' : Nat → Int32} {h : Int64} : ∀ {m : Nat}, (∀ d, d < m → k d = k' d ∧ w d = w' d ∧ c d = c' d) → hB k w c h m = hB k' w' c' h m
  | 0, _ => rfl
  | m + 1, hh => by
    have e := hh m (Nat.lt_succ_self m)
    rw [hB, hB, e.1, e.2.1, e.2.2, hB_congr (fun d hd => hh d (Nat.lt_succ_of_lt hd))]
theorem sayTable_ok {bl sp : Nat} {kd wd : Nat → Nat} {kv wv : Nat → Int32} (hF : TF bl sp kd wd kv wv) {tk : Int64} {c : Nat → Int32} (hT : TW bl tk c) {n : Nat} (hn : 1000 ≤ n) {M8 M9 M216 sn : Nat} (h8 : M8 = 8) (h9 : M9 = 9) (h216 : M216 = 216) {sb sd se sf ms : Nat → Int32} (hS : SG sn sb sd se sf ms) {mk mw mc mo mb : Nat → Int32} (hMF : MF bl kv wv mk mw) (hv : ∀ d, d ≤ bl → mc d = c d) {a1 a2 a3 a4 a5 a6 a7 a8 a9 a10 : Int32} :
    ∃ r, f_X12_sayTable n (nI bl) (nI sp) a1 a2 a3 a4 a5 a6 a7 a8 a9 a10 (nI sn) 1097 mk mw mc mo ms mb = some r ∧ (r.2.2.2.2.2.2.2.2.2.2.1 = tdH kd wd bl sp c kv wv sb sd se sf sn M8 M9 M216 ∧ r.2.2.2.2.2.2.2.2.2.2.2.1 = mk) := by
  have h6 := hF.2.1
  unfold f_X12_sayTable
  simp only [jn]
  unfold f_X12_sayTable_L2
  refine lp_r (fun j s => ∃ b, j + b = bl + 1 ∧ s.1 = nI b ∧ s.2 = hB mk mw mc 1097 b) (bl + 1) ⟨0, by omega, nI_0.symm, rfl⟩ (by omega) ?_ ?_
  · rintro g ⟨y, x⟩ ⟨b, hb, hx, hR⟩
    have hb : b = bl + 1 := by omega
    subst hb
    dsimp only at hx hR ⊢
    rw [hB_congr (k' := kv) (w' := wv) (c' := c) (fun d hd => ⟨(hMF d (by omega)).1, (hMF d (by omega)).2, hv d (by omega)⟩)] at hR
    unfold b_X12_sayTable_L2
    rw [hx, if_pos (nI_lt (show bl < bl + 1 by omega) (by omega))]
    dsimp only
    rw [show (1 : Int32) = nI 1 from rfl]
    refine bind_r (kindsOf_ok hF hT hn hF.1 hS hMF hv) (fun u hu => ?_)
    rw [say_ok, Option.bind_some, hu.1, hu.2]
    refine bind_r (tryOf_ok hF hT hn h8 hF.1 hS hMF hv) (fun u2 hu2 => ?_)
    rw [say_ok, Option.bind_some, hu2.1]
    obtain ⟨H2, eH2⟩ : ∃ H2, H2 = 31 * (31 * x + (kbP kd bl sp c 1 sb sd se sf sn).toInt64) + (tdP kd bl sp c 1 (kbP kd bl sp c 1 sb sd se sf sn) M8).toInt64 := ⟨_, rfl⟩
    rw [← eH2]
    unfold f_X12_sayTable_L71
    refine lp_r (fun j s => ∃ i, j + i = 8 ∧ s.1 = nI i ∧ s.2 = hsF H2 (seP bl c M9) i) 8 ⟨0, by omega, nI_0.symm, rfl⟩ (by omega) ?_ ?_
    · rintro g2 ⟨y2, x2⟩ ⟨i2, hi2, hx2, hR2⟩
      have hi2 : i2 = 8 := by omega
      subst hi2
      dsimp only at hx2 hR2 ⊢
      unfold b_X12_sayTable_L71
      rw [hx2, if_pos (show (8 : Int32) ≤ nI 8 by decide)]
      dsimp only
      unfold f_X12_sayTable_L95
      refine lp_r (fun j s => ∃ i, j + i = 4 ∧ s.1 = nI i ∧ s.2.2.2.2.2.2.2.2.2.2.2.1 = hsF x2 (fun i => TV (chF (fun i => some (gB kd wd bl c i)) gtI M216) (nI i)) i) 4 ⟨0, by omega, nI_0.symm, rfl⟩ (by omega) ?_ ?_
      · rintro g3 ⟨y3, s1, s2, s3, s4, s5, s6, s7, s8, s9, s10, x3, mo3⟩ ⟨i3, hi3, hx3, hR3⟩
        have hi3 : i3 = 4 := by omega
        dsimp only at hx3 hR3 ⊢
        unfold b_X12_sayTable_L95
        rw [hx3, if_pos (show (4 : Int32) ≤ nI i3 by rw [hi3]; decide)]
        dsimp only
        rw [hi3] at hR3
        unfold f_X12_sayTable_L118
        refine lp_r (fun j s => ∃ i, j + i = 6 ∧ s.1 = nI i ∧ s.2.2.2.2.2.2.2.2.2.1 = hsF x3 (tvP kd wd bl sp c 3 9 1) i) 6 ⟨0, by omega, nI_0.symm, rfl⟩ (by omega) ?_ ?_
        · rintro g4 ⟨y4, q1, q2, q3, q4, q5, q6, q7, q8, x4, mo4⟩ ⟨i4, hi4, hx4, hR4⟩
          have hi4 : i4 = 6 := by omega
          dsimp only at hx4 hR4 ⊢
          unfold b_X12_sayTable_L118
          rw [hx4, if_pos (show (6 : Int32) ≤ nI i4 by rw [hi4]; decide)]
          refine ⟨_, rfl, ?_, hu2.2⟩
          dsimp only
          rw [hR4, hi4, hR3, hR2, eH2, hR, tdH]
        · rintro g4 j4 ⟨y4, q1, q2, q3, q4, q5, q6, q7, q8, x4, mo4⟩ ⟨i4, hi4, hx4, hR4⟩
          left
          dsimp only at hx4 hR4 ⊢
          unfold b_X12_sayTable_L118
          rw [hx4, if_neg (show ¬ (6 : Int32) ≤ nI i4 from nI_ge (b := 6) (by omega) (by decide)), hu2.2]
          have hwb := fun (a1 a2 a3 a4 a5 a6 a7 a8 : Int32) (mo : Nat → Int32) => wouldBe_ok (d := 3) (st := 9) (s := 1) (n := n) (mo := mo) (a1 := a1) (a2 := a2) (a3 := a3) (a4 := a4) (a5 := a5) (a6 := a6) (a7 := a7) (a8 := a8) hF hT (by decide) (by decide) (by decide) hn hMF hv (show i4 < 6 by omega)
          rw [show nI 3 = (3 : Int32) from rfl, show nI 9 = (9 : Int32) from rfl, show nI 1 = (1 : Int32) from rfl] at hwb
          refine bind_l (hwb _ _ _ _ _ _ _ _ _) (fun u4 hu4 => ?_)
          rw [say_ok, Option.bind_some, hu4]
          simp only [bnd, nI_1]
          refine ⟨_, ?_, rfl⟩
          refine ⟨i4 + 1, by omega, rfl, ?_⟩
          dsimp only
          rw [hR4, hsF]
      · rintro g3 j3 ⟨y3, s1, s2, s3, s4, s5, s6, s7, s8, s9, s10, x3, mo3⟩ ⟨i3, hi3, hx3, hR3⟩
        left
        dsimp only at hx3 hR3 ⊢
        unfold b_X12_sayTable_L95
        rw [hx3, if_neg (show ¬ (4 : Int32) ≤ nI i3 from nI_ge (b := 4) (by omega) (by decide)), hu2.2]
        refine bind_l (bestOf_ok hF hT h216 hn hMF hv (nI i3)) (fun u4 hu4 => ?_)
        rw [say_ok, Option.bind_some, hu4]
        simp only [bnd, nI_1]
        refine ⟨_, ?_, rfl⟩
        refine ⟨i3 + 1, by omega, rfl, ?_⟩
        dsimp only
        rw [hR3, hsF]
    · rintro g2 j2 ⟨y2, x2⟩ ⟨i2, hi2, hx2, hR2⟩
      left
      dsimp only at hx2 hR2 ⊢
      unfold b_X12_sayTable_L71
      rw [hx2, if_neg (show ¬ (8 : Int32) ≤ nI i2 from nI_ge (b := 8) (by omega) (by decide))]
      refine bind_l (sees_ok hF.1 h6 hT hn h9 (show i2 < 8 by omega) hv) (fun u4 hu4 => ?_)
      rw [say_ok, Option.bind_some, hu4]
      simp only [bnd, nI_1]
      refine ⟨_, ?_, rfl⟩
      refine ⟨i2 + 1, by omega, rfl, ?_⟩
      dsimp only
      rw [hR2, hsF]
  · rintro g j ⟨y, x⟩ ⟨b, hb, hx, hR⟩
    left
    dsimp only at hx hR ⊢
    unfold b_X12_sayTable_L2
    rw [hx, if_neg (nI_nlt (show b ≤ bl by omega) (by omega))]
    simp only [gd, inb_nI (show b < 7 by omega) (by decide), if_true, say_ok, Option.bind_some, bnd, nI_1, nI_clamp (show b < 2 ^ 31 by omega)]
    refine ⟨_, ?_, rfl⟩
    refine ⟨b + 1, by omega, rfl, ?_⟩
    dsimp only
    rw [hR, hB]
theorem hs_congr {h : Int64} {f g : Nat → Int32} : ∀ {m : Nat}, (∀ d, d < m → f d = g d) → hsF h f m = hsF h g m
  | 0, _ => rfl
  | m + 1, hh => by rw [hsF, hsF, hh m (Nat.lt_succ_self m), hs_congr (fun d hd => hh d (Nat.lt_succ_of_lt hd))]
theorem digestOn_ok {A : Nat → Nat} {v : Nat → Int32} (hL : LtR A v) {n z : Nat} (hn : 1000 ≤ n) (hz : z ≤ 34) (h : Int64) : ∃ r, f_X7_digestOn n (nI z) v h = some r ∧ r = hsF h (fun i => nI (A i)) z := by
  unfold f_X7_digestOn f_X7_digestOn_L5
  refine lp_r (fun j s => ∃ i, j + i = z ∧ s.2 = nI i ∧ s.1 = hsF h (fun i => nI (A i)) i) z ⟨0, by omega, nI_0.symm, rfl⟩ (by omega) ?_ ?_
  · rintro g ⟨x, y⟩ ⟨i, hi, hx, hR⟩
    have hi : i = z := by omega
    subst hi
    dsimp only at hx hR ⊢
    unfold b_X7_digestOn_L5
    rw [hx, if_pos (nI_le (Nat.le_refl i) (by omega))]
    exact ⟨_, rfl, hR⟩
  · rintro g j ⟨x, y⟩ ⟨i, hi, hx, hR⟩
    left
    dsimp only at hx hR ⊢
    unfold b_X7_digestOn_L5
    rw [hx, if_neg (nI_ge (show i < z by omega) (by omega)), at_ok hL (show i < 34 by omega), Option.bind_some]
    simp only [bnd, nI_1]
    refine ⟨_, ?_, rfl⟩
    refine ⟨i + 1, by omega, rfl, ?_⟩
    dsimp only
    rw [hR, hsF]
