section
variable {t : Nat} {tk : Int64} {sz sq : Int32} {c k w : Nat → Int32} {mb mq : Int32} {mk mw mc : Nat → Int32}
theorem m_digest {n : Nat} (hn : 1000 ≤ n) (ht : t < 1000) (hT : TbR t tk sz sq c k w mb mq mk mw mc) (hK : KW k w) {ps pm : Int32} {pl mP : Nat → Int32} (hPg : PgR ps pl pm mP) {pd mpd sd msd : Int32} (hC1 : CnR pd mpd) (hC2 : CnR sd msd) {sn mn sc st fo : Int32} {sb sdd se sf ms : Nat → Int32} (hS : SnR sn sb sdd se sf mn ms) {x1 x2 x3 x4 x5 x6 x7 x8 x9 ch va : Int32} {t0 mh : Int64} {v1 v2 v3 un mo mbh : Nat → Int32} {a1 a2 a3 a4 a5 a6 a7 a8 a9 a10 : Int32} :
    Two (f_X11_digest n (nI t) pd sd ps pl sn sc st fo tk sz sq c k w sb sdd se sf x1 x2 x3 x4 x5 x6 x7 t0 x8 x9 v1 v2 v3 ch va un) (f_X12_digest n pm mb mq sc st fo (nI t) a1 a2 a3 a4 a5 a6 a7 a8 a9 a10 mpd msd mn mh mP mk mw mc mo ms mbh) (fun r r' => r.1 = r'.1 ∧ r'.2.2.2.2.2.2.2.2.2.2.2.2.1 = mk) := by
  obtain ⟨z, A, hz, rfl, rfl, hL, hL'⟩ := hPg
  obtain ⟨q1, -, rfl, rfl⟩ := hC1
  obtain ⟨q2, -, rfl, rfl⟩ := hC2
  obtain ⟨q3, rfl, rfl, hSG⟩ := hS
  obtain ⟨V, hV⟩ : ∃ V : Int32 → Int32, ∀ p, f_X11_count n (nI t) (nI q1) (nI q2) (nI z) (nI q3) sc st fo tk sz sq c w p = some (V p) ∧ f_X12_countOf n (nI z) mb mq sc st fo (nI t) (nI q1) (nI q2) (nI q3) mw mc p = some (V p) :=
    ⟨fun p => (cnt_both hn ht hT hK p).choose, fun p => (cnt_both hn ht hT hK p).choose_spec⟩
  obtain ⟨M8, h8⟩ : ∃ M : Nat, M = 8 := ⟨_, rfl⟩
  obtain ⟨M9, h9⟩ : ∃ M : Nat, M = 9 := ⟨_, rfl⟩
  obtain ⟨M216, h216⟩ : ∃ M : Nat, M = 216 := ⟨_, rfl⟩
  obtain ⟨H, hHc, hHm⟩ : ∃ H : Int64, (∃ r, f_X11_digest n (nI t) (nI q1) (nI q2) (nI z) pl (nI q3) sc st fo tk sz sq c k w sb sdd se sf x1 x2 x3 x4 x5 x6 x7 t0 x8 x9 v1 v2 v3 ch va un = some r ∧ r.1 = hsF (hsF H (fun i => nI (A i)) z) (fun i => V (nI i)) 14) ∧ (∃ r, f_X12_digest n (nI z) mb mq sc st fo (nI t) a1 a2 a3 a4 a5 a6 a7 a8 a9 a10 (nI q1) (nI q2) (nI q3) mh mP mk mw mc mo ms mbh = some r ∧ (r.1 = hsF (hsF H (fun i => nI (A i)) z) (fun i => V (nI i)) 14 ∧ r.2.2.2.2.2.2.2.2.2.2.2.2.1 = mk)) := by
    -- the tails, which nobody's table changes
    have tailC : ∀ (H : Int64) (y1 y2 y3 y4 y5 y6 y7 : Int32) (t1 : Int64) (y8 y9 : Int32) (w1 w2 w3 : Nat → Int32) (y10 y11 : Int32) (w4 : Nat → Int32), ∃ r, ((f_X7_digestOn n (nI z) pl H).bind (fun u_20 => (f_X11_digest_L61 (nI t) (nI q1) (nI q2) (nI z) (nI q3) sc st fo tk sz sq c w n y1 y2 y3 y4 y5 y6 y7 t1 y8 y9 w1 w2 w3 y10 y11 w4 n u_20 0))) = some r ∧ r.1 = hsF (hsF H (fun i => nI (A i)) z) (fun i => V (nI i)) 14 := by
      intro H y1 y2 y3 y4 y5 y6 y7 t1 y8 y9 w1 w2 w3 y10 y11 w4
      refine bind_r (digestOn_ok hL hn hz H) (fun u hu => ?_)
      unfold f_X11_digest_L61
      rw [← hu]
      refine lp_r (fun j s => ∃ i, j + i = 14 ∧ s.2 = nI i ∧ s.1 = hsF u (fun i => V (nI i)) i) 14 ⟨0, by omega, nI_0.symm, rfl⟩ (by omega) ?_ ?_
      · rintro g ⟨x, y⟩ ⟨i, hi, hx, hR⟩
        have hi : i = 14 := by omega
        dsimp only at hx hR ⊢
        unfold b_X11_digest_L61
        rw [hx, if_pos (show (13 : Int32) < nI i by rw [hi]; decide)]
        refine ⟨_, rfl, ?_⟩
        dsimp only
        rw [hR, hi]
      · rintro g j ⟨x, y⟩ ⟨i, hi, hx, hR⟩
        left
        dsimp only at hx hR ⊢
        unfold b_X11_digest_L61
        rw [hx, if_neg (show ¬ (13 : Int32) < nI i from nI_nlt (a := 13) (by omega) (by decide)), (hV (nI i)).1, Option.bind_some]
        simp only [bnd, nI_1]
        refine ⟨_, ?_, rfl⟩
        refine ⟨i + 1, by omega, rfl, ?_⟩
        dsimp only
        rw [hR, hsF]
    have tailM : ∀ (H : Int64) (y1 y2 y3 y4 y5 y6 y7 y8 y9 y10 : Int32) (w1 w2 w3 : Nat → Int32), ∃ r, (f_X12_digest_L20 (nI z) mP (fun f_m_hash_17 => (f_X12_digest_L47 (nI z) mb mq sc st fo (nI t) (nI q1) (nI q2) (nI q3) mw mc n (fun f_m_hash_19 => some (f_m_hash_19, y1, y2, y3, y4, y5, y6, y7, y8, y9, y10, f_m_hash_19, w1, w2, w3)) n 0 f_m_hash_17)) n 0 H) = some r ∧ (r.1 = hsF (hsF H (fun i => nI (A i)) z) (fun i => V (nI i)) 14 ∧ r.2.2.2.2.2.2.2.2.2.2.2.2.1 = w1) := by
      intro H y1 y2 y3 y4 y5 y6 y7 y8 y9 y10 w1 w2 w3
      unfold f_X12_digest_L20
      refine lp_r (fun j s => ∃ i, j + i = z ∧ s.1 = nI i ∧ s.2 = hsF H (fun i => nI (A i)) i) z ⟨0, by omega, nI_0.symm, rfl⟩ (by omega) ?_ ?_
      · rintro g ⟨y, x⟩ ⟨i, hi, hx, hR⟩
        have hi : i = z := by omega
        subst hi
        dsimp only at hx hR ⊢
        unfold b_X12_digest_L20
        rw [hx, if_pos (nI_le (Nat.le_refl i) (by omega))]
        dsimp only
        rw [← hR]
        unfold f_X12_digest_L47
        refine lp_r (fun j s => ∃ i, j + i = 14 ∧ s.1 = nI i ∧ s.2 = hsF x (fun i => V (nI i)) i) 14 ⟨0, by omega, nI_0.symm, rfl⟩ (by omega) ?_ ?_
        · rintro g2 ⟨y2, x2⟩ ⟨i2, hi2, hx2, hR2⟩
          have hi2 : i2 = 14 := by omega
          dsimp only at hx2 hR2 ⊢
          unfold b_X12_digest_L47
          rw [hx2, if_pos (show (14 : Int32) ≤ nI i2 by rw [hi2]; decide)]
          refine ⟨_, rfl, ?_, rfl⟩
          dsimp only
          rw [hR2, hi2]
        · rintro g2 j2 ⟨y2, x2⟩ ⟨i2, hi2, hx2, hR2⟩
          left
          dsimp only at hx2 hR2 ⊢
          unfold b_X12_digest_L47
          rw [hx2, if_neg (show ¬ (14 : Int32) ≤ nI i2 from nI_ge (b := 14) (by omega) (by decide)), (hV (nI i2)).2, Option.bind_some, say_ok, Option.bind_some]
          simp only [bnd, nI_1]
          refine ⟨_, ?_, rfl⟩
          refine ⟨i2 + 1, by omega, rfl, ?_⟩
          dsimp only
          rw [hR2, hsF]
      · rintro g j ⟨y, x⟩ ⟨i, hi, hx, hR⟩
        left
        dsimp only at hx hR ⊢
        unfold b_X12_digest_L20
        rw [hx, if_neg (nI_ge (show i < z by omega) (by omega))]
        simp only [gd, inb_nI (show i < 34 by omega) (by decide), if_true, nI_clamp (show i < 2 ^ 31 by omega), (hL' i (by omega)).2, say_ok, Option.bind_some, bnd, nI_1]
        refine ⟨_, ?_, rfl⟩
        refine ⟨i + 1, by omega, rfl, ?_⟩
        dsimp only
        rw [hR, hsF]
    unfold f_X11_digest f_X12_digest
    rcases hT with ⟨rfl, h⟩ | ⟨h0, bl, sp, h⟩
    · obtain ⟨rfl, rfl, rfl, rfl, -, -⟩ := h
      rw [has_0, lk_0, Option.bind_some, Option.bind_some]
      simp only [jn]
      refine ⟨1097, ?_, ?_⟩
      · rw [if_pos trivial]
        exact tailC 1097 _ _ _ _ _ _ _ _ _ _ _ _ _ _ _ _
      · rw [if_neg n10]
        exact tailM 1097 _ _ _ _ _ _ _ _ _ _ _ _ _
    · obtain ⟨g1, g2, g3, g4, rfl, rfl, rfl, rfl, g9, g10, g11⟩ := id h
      have hF := TF_of hK g1 g2 g3 g4
      rw [has_1 h0 ht, lk_1 g1 g2, Option.bind_some, Option.bind_some]
      simp only [jn]
      refine ⟨tdH (clN k) (clN w) bl sp c k w sb sdd se sf q3 M8 M9 M216, ?_, ?_⟩
      · rw [if_neg n10]
        refine bind_r (balls_ok hF g9 hn h8 hSG 1097) (fun u hu => ?_)
        unfold f_X11_digest_L19
        refine lp_r (fun j s => ∃ i, j + i = 8 ∧ s.2 = nI i ∧ s.1 = hsF u.1 (seP bl c M9) i) 8 ⟨0, by omega, nI_0.symm, rfl⟩ (by omega) ?_ ?_
        · rintro g ⟨x, y⟩ ⟨i, hi, hx, hR⟩
          have hi : i = 8 := by omega
          dsimp only at hx hR ⊢
          unfold b_X11_digest_L19
          rw [hx, if_pos (show (8 : Int32) ≤ nI i by rw [hi]; decide)]
          dsimp only
          refine bind_r (strokes_ok hF g9 hn h216 x) (fun u2 hu2 => ?_)
          have e2 : u2.1 = tdH (clN k) (clN w) bl sp c k w sb sdd se sf q3 M8 M9 M216 := by rw [hu2, hR, hi, hu, tdH]
          rw [e2]
          exact tailC _ _ _ _ _ _ _ _ _ _ _ _ _ _ _ _ _
        · rintro g j ⟨x, y⟩ ⟨i, hi, hx, hR⟩
          left
          dsimp only at hx hR ⊢
          have hs : f_X11_sees n (nI t) tk c (nI i) = some (seP bl c M9 i) := by
            unfold f_X11_sees
            rcases b_dir (nI i) with ⟨d, hd, e, s1, -⟩ | ⟨s1, s2⟩
            · rw [s1, Option.bind_some, if_neg n10, has_1 h0 ht, Option.bind_some, if_neg n10]
              obtain ⟨r, e, hr⟩ := first_ok g2 g9 hn h9 (show i < 8 by omega)
              rw [e, hr]; rfl
            · exfalso
              have : ∀ i, i < 8 → ¬ f_X11_isDirection (nI i) = some 0 := by decide +kernel
              exact this i (by omega) s1
          unfold b_X11_digest_L19
          rw [hx, if_neg (show ¬ (8 : Int32) ≤ nI i from nI_ge (b := 8) (by omega) (by decide)), hs, Option.bind_some]
          simp only [bnd, nI_1]
          refine ⟨_, ?_, rfl⟩
          refine ⟨i + 1, by omega, rfl, ?_⟩
          dsimp only
          rw [hR, hsF]
      · rw [if_pos trivial]
        refine bind_r (sayTable_ok hF g9 hn h8 h9 h216 hSG g10 g11) (fun u hu => ?_)
        rw [hu.1, hu.2]
        exact tailM _ _ _ _ _ _ _ _ _ _ _ _ _ _
  exact two_i hHc hHm (fun r r' e e' => ⟨e.trans e'.1.symm, e'.2⟩)
end
