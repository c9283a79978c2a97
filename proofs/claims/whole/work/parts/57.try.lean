def tdF (f : Nat → Nat) : Nat → Nat × Int32
  | 0 => (6, -1)
  | i + 1 => if (tdF f i).1 ≤ f i then tdF f i else (f i, nI i)
theorem td_le (f : Nat → Nat) : ∀ i, (tdF f i).1 ≤ 6
  | 0 => Nat.le_refl _
  | i + 1 => by
    have := td_le f i
    rw [tdF]; split
    · exact this
    · show f i ≤ 6
      omega
def tfP (kd : Nat → Nat) (bl sp : Nat) (c : Nat → Int32) (b : Nat) (pos : Int32) (w : Nat) : Nat := wcF (bt pos) (fun k => enP kd bl sp c b k w 6) 5
theorem tf_le {kd : Nat → Nat} {bl sp : Nat} {c : Nat → Int32} {b : Nat} {pos : Int32} {w : Nat} : tfP kd bl sp c b pos w ≤ 5 := by
  unfold tfP
  rw [wc_wm]
  exact wm_le (fun i _ _ => cn_le _ _ i 5) 5 (Nat.le_refl _)
def tdP (kd : Nat → Nat) (bl sp : Nat) (c : Nat → Int32) (b : Nat) (pos : Int32) (M : Nat) : Int32 := if pos = 0 then -1 else (tdF (tfP kd bl sp c b pos) M).2
theorem telling_ok {bl sp : Nat} {kd wd : Nat → Nat} {kv wv : Nat → Int32} (hF : TF bl sp kd wd kv wv) {tk : Int64} {c : Nat → Int32} (hT : TW bl tk c) {n : Nat} (hn : 1000 ≤ n) {b sn M : Nat} (hM : M = 8) (hb : b ≤ bl) {sb sd se sf ms : Nat → Int32} (hS : SG sn sb sd se sf ms) {m0 b0 p0 br0 h0 hp0 fo0 sz sq sz1 : Int32} {t0 : Int64} {v1 v2 v3 un : Nat → Int32} :
    ∃ r, f_X4_tellingDirection n m0 b0 p0 br0 h0 hp0 fo0 t0 sz sq v1 v2 v3 un (nI sn) tk sz1 (nI sp) c kv wv sb sd se sf (nI b) = some r ∧ r.1 = tdP kd bl sp c b (kbP kd bl sp c b sb sd se sf sn) M := by
  unfold f_X4_tellingDirection
  refine bind_r (possible_ok hF hT hn hb hS) (fun u hu => ?_)
  unfold tdP
  rw [hu]
  by_cases hz : kbP kd bl sp c b sb sd se sf sn = 0
  · rw [if_pos hz, if_pos hz]
    exact ⟨_, rfl, rfl⟩
  · rw [if_neg hz, if_neg hz]
    unfold f_X4_tellingDirection_L23
    refine lp_r (fun j s => ∃ i, j + i = M ∧ s.2.2.1 = nI i ∧ s.1 = nI (tdF (tfP kd bl sp c b (kbP kd bl sp c b sb sd se sf sn)) i).1 ∧ s.2.1 = (tdF (tfP kd bl sp c b (kbP kd bl sp c b sb sd se sf sn)) i).2) M ⟨0, by omega, nI_0.symm, rfl, rfl⟩ (by omega) ?_ ?_
    · rintro g ⟨x, y, z, r⟩ ⟨i, hi, hx, hR, hR2⟩
      have hi : i = M := by omega
      dsimp only at hx hR hR2 ⊢
      unfold b_X4_tellingDirection_L23
      rw [hx, if_pos (show (8 : Int32) ≤ nI i by rw [hi, hM]; decide)]
      refine ⟨_, rfl, ?_⟩
      dsimp only
      rw [hR2, hi]
    · rintro g j ⟨x, y, z, r⟩ ⟨i, hi, hx, hR, hR2⟩
      left
      dsimp only at hx hR hR2 ⊢
      unfold b_X4_tellingDirection_L23
      rw [hx, if_neg (show ¬ (8 : Int32) ≤ nI i from nI_ge (b := 8) (by omega) (by decide)), hu]
      refine bind_l (left_ok (M := 5) hF hT hn rfl hb (show i < 8 by omega)) (fun r1 hr1 => ?_)
      change r1.1 = nI (tfP kd bl sp c b (kbP kd bl sp c b sb sd se sf sn) i) at hr1
      simp only [jn, bnd, nI_1, hr1]
      have h1 := td_le (tfP kd bl sp c b (kbP kd bl sp c b sb sd se sf sn)) i
      have h2 := tf_le (kd := kd) (bl := bl) (sp := sp) (c := c) (b := b) (pos := kbP kd bl sp c b sb sd se sf sn) (w := i)
      have e : tdF (tfP kd bl sp c b (kbP kd bl sp c b sb sd se sf sn)) (i + 1) = if (tdF (tfP kd bl sp c b (kbP kd bl sp c b sb sd se sf sn)) i).1 ≤ tfP kd bl sp c b (kbP kd bl sp c b sb sd se sf sn) i then tdF (tfP kd bl sp c b (kbP kd bl sp c b sb sd se sf sn)) i else (tfP kd bl sp c b (kbP kd bl sp c b sb sd se sf sn) i, nI i) := rfl
      rw [hR, hR2]
      by_cases h : (tdF (tfP kd bl sp c b (kbP kd bl sp c b sb sd se sf sn)) i).1 ≤ tfP kd bl sp c b (kbP kd bl sp c b sb sd se sf sn) i
      · rw [if_pos (nI_le h (by omega))]
        rw [if_pos h] at e
        refine ⟨_, ?_, rfl⟩
        refine ⟨i + 1, by omega, rfl, ?_, ?_⟩
        · rw [e]
        · rw [e]
      · rw [if_neg (fun z => h ((nI_leI (by omega) (by omega)).mp z))]
        rw [if_neg h] at e
        refine ⟨_, ?_, rfl⟩
        refine ⟨i + 1, by omega, rfl, ?_, ?_⟩
        · rw [e]
        · rw [e]
theorem tryOf_ok {bl sp : Nat} {kd wd : Nat → Nat} {kv wv : Nat → Int32} (hF : TF bl sp kd wd kv wv) {tk : Int64} {c : Nat → Int32} (hT : TW bl tk c) {n : Nat} (hn : 1000 ≤ n) {b sn M : Nat} (hM : M = 8) (hb : b ≤ bl) {sb sd se sf ms : Nat → Int32} (hS : SG sn sb sd se sf ms) {mk mw mc mo mb : Nat → Int32} (hMF : MF bl kv wv mk mw) (hv : ∀ d, d ≤ bl → mc d = c d) {a1 a2 a3 a4 a5 a6 a7 a8 : Int32} :
    ∃ r, f_X12_tryOf n (nI bl) (nI sp) a1 a2 a3 a4 a5 a6 a7 a8 (nI sn) mk mw mc mo ms mb (nI b) = some r ∧ (r.1 = tdP kd bl sp c b (kbP kd bl sp c b sb sd se sf sn) M ∧ r.2.2.2.2.2.2.2.2.2.1 = mk) := by
  unfold f_X12_tryOf
  refine bind_r (kindsOf_ok hF hT hn hb hS hMF hv) (fun u hu => ?_)
  obtain ⟨hu, hum⟩ := hu
  unfold tdP
  by_cases hz : kbP kd bl sp c b sb sd se sf sn = 0
  · rw [if_pos hz]
    unfold f_X12_tryOf_L15
    obtain ⟨n, rfl⟩ : ∃ n', n = n' + 1 := ⟨n - 1, by omega⟩
    rw [lpF]
    dsimp only
    unfold b_X12_tryOf_L15
    rw [if_neg (show ¬ (8 : Int32) ≤ 0 by decide), if_pos (hu.trans hz)]
    exact ⟨_, rfl, rfl, hum⟩
  · rw [if_neg hz]
    unfold f_X12_tryOf_L15
    generalize hpos : kbP kd bl sp c b sb sd se sf sn = pos at hu hz ⊢
    refine lp_r (fun j s => ∃ i, j + i = M ∧ s.2.2.1 = nI i ∧ s.2.1 = nI (tdF (tfP kd bl sp c b pos) i).1 ∧ s.1 = (tdF (tfP kd bl sp c b pos) i).2 ∧ s.2.2.2.2.2.2.2.2.2.2.2.1 = mk) M ⟨0, by omega, nI_0.symm, rfl, rfl, hum⟩ (by omega) ?_ ?_
    · rintro g ⟨x, y, z, s1, s2, s3, s4, s5, s6, s7, s8, mk', mo', mb'⟩ ⟨i, hi, hx, hR, hR2, hm⟩
      have hi : i = M := by omega
      dsimp only at hx hR hR2 hm ⊢
      unfold b_X12_tryOf_L15
      rw [hx, if_pos (show (8 : Int32) ≤ nI i by rw [hi, hM]; decide)]
      refine ⟨_, rfl, ?_, hm⟩
      dsimp only
      rw [hR2, hi]
    · rintro g j ⟨x, y, z, s1, s2, s3, s4, s5, s6, s7, s8, mk', mo', mb'⟩ ⟨i, hi, hx, hR, hR2, hm⟩
      left
      dsimp only at hx hR hR2 hm ⊢
      subst hm
      unfold b_X12_tryOf_L15
      rw [hx, if_neg (show ¬ (8 : Int32) ≤ nI i from nI_ge (b := 8) (by omega) (by decide)), if_neg (by rw [hu]; exact hz)]
      simp only [jn, bnd, nI_1]
      unfold f_X12_tryOf_L29
      refine lp_l (fun j s => ∃ k, j + k = 5 ∧ s.1 = nI k ∧ s.2.2.2.2.2.2.2.2.2.1 = mk' ∧ ∀ o, o < k → s.2.2.2.2.2.2.2.2.2.2.2 o = enP kd bl sp c b o i 6) 5 ⟨0, by omega, nI_0.symm, rfl, fun o ho => absurd ho (Nat.not_lt_zero _)⟩ (by omega) ?_ ?_
      · rintro g2 ⟨x2, t1, t2, t3, t4, t5, t6, t7, t8, mk2, mo2, mb2⟩ ⟨k, hk, hx2, hm2, hB⟩
        have hk : k = 5 := by omega
        subst hk
        dsimp only at hx2 hm2 hB ⊢
        unfold b_X12_tryOf_L29
        rw [hx2, if_pos (show (5 : Int32) ≤ nI 5 by decide)]
        dsimp only
        unfold f_X12_tryOf_L65
        refine lp_l (fun j s => ∃ k, j + k = 5 ∧ s.2 = nI k ∧ s.1 = nI (wmF (bt pos) (fun k => enP kd bl sp c b k i 6) k)) 5 ⟨0, by omega, nI_0.symm, rfl⟩ (by omega) ?_ ?_
        · rintro g3 ⟨x3, y3⟩ ⟨k, hk, hx3, hR3⟩
          have hk : k = 5 := by omega
          subst hk
          dsimp only at hx3 hR3 ⊢
          have hR4 : x3 = nI (tfP kd bl sp c b pos i) := by rw [hR3, ← wc_wm]; rfl
          unfold b_X12_tryOf_L65
          rw [hx3, if_pos (show (5 : Int32) ≤ nI 5 by decide)]
          have h1 := td_le (tfP kd bl sp c b pos) i
          have h2 := tf_le (kd := kd) (bl := bl) (sp := sp) (c := c) (b := b) (pos := pos) (w := i)
          have e : tdF (tfP kd bl sp c b pos) (i + 1) = if (tdF (tfP kd bl sp c b pos) i).1 ≤ tfP kd bl sp c b pos i then tdF (tfP kd bl sp c b pos) i else (tfP kd bl sp c b pos i, nI i) := rfl
          rw [hR, hR2, hR4]
          dsimp only
          by_cases h : (tdF (tfP kd bl sp c b pos) i).1 ≤ tfP kd bl sp c b pos i
          · rw [if_pos (nI_le h (by omega)), if_pos (nI_le h (by omega))]
            rw [if_pos h] at e
            refine ⟨_, ?_, rfl⟩
            refine ⟨i + 1, by omega, rfl, ?_, ?_, hm2⟩
            · rw [e]
            · rw [e]
          · rw [if_neg (fun z => h ((nI_leI (by omega) (by omega)).mp z)), if_neg (fun z => h ((nI_leI (by omega) (by omega)).mp z))]
            rw [if_neg h] at e
            refine ⟨_, ?_, rfl⟩
            refine ⟨i + 1, by omega, rfl, ?_, ?_, hm2⟩
            · rw [e]
            · rw [e]
        · rintro g3 j3 ⟨x3, y3⟩ ⟨k, hk, hx3, hR3⟩
          left
          dsimp only at hx3 hR3 ⊢
          unfold b_X12_tryOf_L65
          rw [hx3, if_neg (show ¬ (5 : Int32) ≤ nI k from nI_ge (b := 5) (by omega) (by decide)), hu, bit_at pos (by omega)]
          simp only [jn, bnd, nI_1]
          unfold f_X12_tryOf_L77
          refine lp_l (fun j s => ∃ o, j + o = 5 ∧ s.2 = nI o ∧ s.1 = nI (cnF (bt pos) (fun k => enP kd bl sp c b k i 6) k o)) 5 ⟨0, by omega, nI_0.symm, rfl⟩ (by omega) ?_ ?_
          · rintro g4 ⟨x4, y4⟩ ⟨o, ho, hx4, hR4⟩
            have ho : o = 5 := by omega
            subst ho
            dsimp only at hx4 hR4 ⊢
            unfold b_X12_tryOf_L77
            rw [hx4, if_pos (show (5 : Int32) ≤ nI 5 by decide)]
            have hl := cn_le (bt pos) (fun k => enP kd bl sp c b k i 6) k 5
            have hwl := wm_le (P := bt pos) (e := fun k => enP kd bl sp c b k i 6) (B := 5) (fun i _ _ => cn_le _ _ i 5) k (by omega)
            have e : wmF (bt pos) (fun k => enP kd bl sp c b k i 6) (k + 1) = if bt pos k = true then (if cnF (bt pos) (fun k => enP kd bl sp c b k i 6) k 5 ≤ wmF (bt pos) (fun k => enP kd bl sp c b k i 6) k then wmF (bt pos) (fun k => enP kd bl sp c b k i 6) k else cnF (bt pos) (fun k => enP kd bl sp c b k i 6) k 5) else wmF (bt pos) (fun k => enP kd bl sp c b k i 6) k := rfl
            rw [hR3, hR4]
            dsimp only
            cases hbk : bt pos k
            · rw [if_neg (by rw [b2_f]; decide)]
              rw [hbk, if_neg (by decide)] at e
              refine ⟨_, ?_, rfl⟩
              refine ⟨k + 1, by omega, rfl, ?_⟩
              rw [e]
            · rw [if_pos b2_t]
              rw [hbk, if_pos rfl] at e
              by_cases h : cnF (bt pos) (fun k => enP kd bl sp c b k i 6) k 5 ≤ wmF (bt pos) (fun k => enP kd bl sp c b k i 6) k
              · rw [if_pos (nI_le h (by omega))]
                rw [if_pos h] at e
                refine ⟨_, ?_, rfl⟩
                refine ⟨k + 1, by omega, rfl, ?_⟩
                rw [e]
              · rw [if_neg (fun z => h ((nI_leI (by omega) (by omega)).mp z))]
                rw [if_neg h] at e
                refine ⟨_, ?_, rfl⟩
                refine ⟨k + 1, by omega, rfl, ?_⟩
                rw [e]
          · rintro g4 j4 ⟨x4, y4⟩ ⟨o, ho, hx4, hR4⟩
            left
            dsimp only at hx4 hR4 ⊢
            unfold b_X12_tryOf_L77
            rw [hx4, if_neg (show ¬ (5 : Int32) ≤ nI o from nI_ge (b := 5) (by omega) (by decide)), hu, bit_at pos (by omega)]
            simp only [jn, bnd, nI_1, gd, inb_nI (show k < 5 by omega) (by decide), inb_nI (show o < 5 by omega) (by decide), if_true, nI_clamp (show k < 2 ^ 31 by omega), nI_clamp (show o < 2 ^ 31 by omega), hB o (by omega), hB k (by omega)]
            have e : cnF (bt pos) (fun k => enP kd bl sp c b k i 6) k (o + 1) = cnF (bt pos) (fun k => enP kd bl sp c b k i 6) k o + (if bt pos o = true ∧ enP kd bl sp c b o i 6 = enP kd bl sp c b k i 6 then 1 else 0) := rfl
            by_cases he : enP kd bl sp c b o i 6 = enP kd bl sp c b k i 6
            · rw [if_pos he]
              refine ⟨_, ?_, rfl⟩
              refine ⟨o + 1, by omega, rfl, ?_⟩
              dsimp only
              rw [e, hR4]
              cases hbo : bt pos o
              · rw [b2_f, Int32.add_zero, if_neg (fun z => by cases z.1)]; rfl
              · rw [b2_t, if_pos ⟨rfl, he⟩, nI_1]
            · rw [if_neg he]
              refine ⟨_, ?_, rfl⟩
              refine ⟨o + 1, by omega, rfl, ?_⟩
              dsimp only
              rw [e, hR4, if_neg (fun z => he z.2), Int32.add_zero]; rfl
      · rintro g2 j2 ⟨x2, t1, t2, t3, t4, t5, t6, t7, t8, mk2, mo2, mb2⟩ ⟨k, hk, hx2, hm2, hB⟩
        left
        dsimp only at hx2 hm2 hB ⊢
        subst hm2
        unfold b_X12_tryOf_L29
        rw [hx2, if_neg (show ¬ (5 : Int32) ≤ nI k from nI_ge (b := 5) (by omega) (by decide))]
        refine bind_l (behind_ok (st := 6) hF hT hn hb (show k < 5 by omega) (show i < 8 by omega) (by decide) hMF hv) (fun r1 hr1 => ?_)
        simp only [gd, bnd, nI_1, inb_nI (show k < 5 by omega) (by decide), if_true, nI_clamp (show k < 2 ^ 31 by omega)]
        refine ⟨_, ?_, rfl⟩
        refine ⟨k + 1, by omega, rfl, hr1.2, fun o ho => ?_⟩
        dsimp only
        by_cases h : o = k
        · rw [h, upd_s]; exact hr1.1
        · rw [upd_n h]; exact hB o (by omega)
