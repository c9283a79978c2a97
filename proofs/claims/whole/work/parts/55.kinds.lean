/-! of which kind a ball can be -/
def updN (f : Nat → Nat) (k x : Nat) : Nat → Nat := fun j => if j = k then x else f j
theorem TF_kind {bl sp : Nat} {kd wd : Nat → Nat} {kv wv : Nat → Int32} (hF : TF bl sp kd wd kv wv) {b k : Nat} (hk : k < 5) : TF bl sp (updN kd b k) wd (upd kv b (nI k)) wv := by
  refine ⟨hF.1, hF.2.1, hF.2.2.1, hF.2.2.2.1, fun d hd => ?_, hF.2.2.2.2.2⟩
  by_cases h : d = b
  · rw [h, upd_s]; simp [updN, hk]
  · rw [upd_n h]; simp only [updN, h, if_false]; exact hF.2.2.2.2.1 d hd
theorem MF_kind {bl : Nat} {kv wv mk mw : Nat → Int32} (hM : MF bl kv wv mk mw) {b k : Nat} : MF bl (upd kv b (nI k)) wv (upd mk b (nI k)) mw := by
  intro d hd
  refine ⟨?_, (hM d hd).2⟩
  by_cases h : d = b
  · rw [h, upd_s, upd_s]
  · rw [upd_n h, upd_n h]; exact (hM d hd).1
def enP (kd : Nat → Nat) (bl sp : Nat) (c : Nat → Int32) (b k w st : Nat) : Int32 := sC (updN kd b k) bl sp c w st 0 b
theorem endAs_ok {bl sp : Nat} {kd wd : Nat → Nat} {kv wv : Nat → Int32} (hF : TF bl sp kd wd kv wv) {tk : Int64} {c : Nat → Int32} (hT : TW bl tk c) {n : Nat} (hn : 1000 ≤ n) {b k w st : Nat} (hb : b ≤ bl) (hk : k < 5) (hw : w < 8) (hst : st ≤ 9) {m0 b0 p0 br0 h0 hp0 fo0 sz sq sz1 : Int32} {t0 : Int64} {v1 v2 v3 : Nat → Int32} :
    ∃ r, f_X4_endAs n m0 b0 p0 br0 h0 hp0 fo0 t0 sz sq v1 v2 v3 tk sz1 (nI sp) c kv wv (nI b) (nI k) (nI w) (nI st) = some r ∧ r.1 = enP kd bl sp c b k w st := by
  have hb7 : b < 7 := by have := hF.2.1; omega
  unfold f_X4_endAs
  simp only [f_X9_begin, f_X10_copy, Option.bind_some]
  have hsk : f_X10_setKind kv (nI b) (nI k) = some (upd kv b (nI k)) := by
    unfold f_X10_setKind
    rw [if_neg (nI_pos (by omega)), if_neg (show ¬ (7 : Int32) ≤ nI b from nI_ge (b := 7) hb7 (by decide))]
    simp only [gd, inb_nI hb7 (by decide), if_true, nI_clamp (show b < 2 ^ 31 by omega)]
  rw [hsk, Option.bind_some]
  refine bind_r (shoot_r0 (TF_kind hF hk) hT hw hst (by omega)) (fun r hr => ?_)
  rw [hr.2.2.2.2.2.1, (t_cell _ hb7).1, Option.bind_some]
  exact ⟨_, rfl, rfl⟩
theorem upd_back (f : Nat → Int32) (k : Nat) (x : Int32) : upd (upd f k x) k (f k) = f := by
  rw [upd_uu]; exact upd_same rfl
def BhR (mk : Nat → Int32) (e : Int32) (r : Int32 × Int32 × Int32 × Int32 × Int32 × Int32 × Int32 × Int32 × Int32 × (Nat → Int32) × (Nat → Int32)) : Prop := r.1 = e ∧ r.2.2.2.2.2.2.2.2.2.1 = mk
theorem behind_ok {bl sp : Nat} {kd wd : Nat → Nat} {kv wv : Nat → Int32} (hF : TF bl sp kd wd kv wv) {tk : Int64} {c : Nat → Int32} (hT : TW bl tk c) {n : Nat} (hn : 1000 ≤ n) {b k w st : Nat} (hb : b ≤ bl) (hk : k < 5) (hw : w < 8) (hst : st ≤ 9) {mk mw mc mo : Nat → Int32} (hMF : MF bl kv wv mk mw) (hv : ∀ d, d ≤ bl → mc d = c d) {a1 a2 a3 a4 a5 a6 a7 a8 : Int32} :
    ∃ r, f_X12_behindAs n (nI bl) (nI sp) a1 a2 a3 a4 a5 a6 a7 a8 mk mw mc mo (nI b) (nI k) (nI w) (nI st) = some r ∧ BhR mk (enP kd bl sp c b k w st) r := by
  have h6 := hF.2.1
  have hb7 : b < 7 := by omega
  unfold f_X12_behindAs
  simp only [gd, bnd, inb_nI hb7 (by decide), if_true, nI_clamp (show b < 2 ^ 31 by omega)]
  refine bind_r (copy_ok (by decide) (by omega) _ _) (fun v hv2 => ?_)
  refine bind_r (strike_r0 (TF_kind hF hk) hT hw hst (by omega) (MF_kind hMF) (fun d hd => (hv2 d (by omega)).trans (hv d hd))) (fun r hr => ?_)
  refine ⟨_, rfl, hr.2.2.2.2.2 b hb, ?_⟩
  exact upd_back _ _ _
def allF (f : Nat → Bool) : Nat → Bool
  | 0 => true
  | i + 1 => allF f i && f i
def okS (kd : Nat → Nat) (bl sp : Nat) (c : Nat → Int32) (b : Nat) (sb sd se sf : Nat → Int32) (k i : Nat) : Bool := !decide (sb i = nI b) || decide (enP kd bl sp c b k (sd i).toNatClampNeg (se i).toNatClampNeg = sf i)
def kbF (g : Nat → Bool) : Nat → Int32
  | 0 => 0
  | k + 1 => if g k = true then kbF g k ||| (1 <<< (nI k &&& 31)) else kbF g k
theorem kb_bit {g : Nat → Bool} : ∀ m, m ≤ 5 → ∀ j, j < 32 → bt (kbF g m) j = (decide (j < m) && g j)
  | 0, _, j, hj => by rw [kbF, b_0]; simp
  | m + 1, hm, j, hj => by
    have ih := kb_bit (g := g) m (by omega) j hj
    rw [kbF]
    by_cases hjm : j = m
    · subst hjm
      cases hg : g j
      · simp [ih]
      · simp [bt_pot _ (show j < 7 by omega) hj]
    · have e : decide (j < m + 1) = decide (j < m) := by simp only [decide_eq_decide]; omega
      rw [e]
      split
      · rw [bt_pot _ (show m < 7 by omega) hj, ih]; simp [hjm]
      · exact ih
/-- what was seen: the class's four rows and the reference's one -/
def SG (sn : Nat) (sb sd se sf ms : Nat → Int32) : Prop := sn ≤ 6 ∧ (∀ i, i < 6 → ms (4 * i) = sb i ∧ ms (4 * i + 1) = sd i ∧ ms (4 * i + 2) = se i ∧ ms (4 * i + 3) = sf i) ∧ ∀ i, i < sn → ∃ w st, w < 8 ∧ st ≤ 9 ∧ sd i = nI w ∧ se i = nI st
theorem bt_clr (x : Int32) {k j : Nat} (hk : k < 7) (hj : j < 32) : bt (x &&& ((1 <<< (nI k &&& 31)) ^^^ (-1))) j = (bt x j && !decide (j = k)) := by
  have h := bt_pot 0 hk hj
  rw [b_or, b_0, Bool.false_or, Bool.false_or] at h
  rw [b_and, b_xor, h, b_m1 j hj]
  cases decide (j = k) <;> rfl
def kbP (kd : Nat → Nat) (bl sp : Nat) (c : Nat → Int32) (b : Nat) (sb sd se sf : Nat → Int32) (sn : Nat) : Int32 := kbF (fun k => allF (okS kd bl sp c b sb sd se sf k) sn) 5
theorem possible_ok {bl sp : Nat} {kd wd : Nat → Nat} {kv wv : Nat → Int32} (hF : TF bl sp kd wd kv wv) {tk : Int64} {c : Nat → Int32} (hT : TW bl tk c) {n : Nat} (hn : 1000 ≤ n) {b sn : Nat} (hb : b ≤ bl) {sb sd se sf ms : Nat → Int32} (hS : SG sn sb sd se sf ms) {m0 b0 p0 br0 h0 hp0 fo0 sz sq sz1 : Int32} {t0 : Int64} {v1 v2 v3 : Nat → Int32} :
    ∃ r, f_X4_possibleKinds n m0 b0 p0 br0 h0 hp0 fo0 t0 sz sq v1 v2 v3 (nI sn) tk sz1 (nI sp) c kv wv sb sd se sf (nI b) = some r ∧ r.1 = kbP kd bl sp c b sb sd se sf sn := by
  obtain ⟨hs6, hS1, hS2⟩ := hS
  unfold f_X4_possibleKinds f_X4_possibleKinds_L6
  refine lp_r (fun j s => ∃ i, j + i = sn ∧ s.2.1 = nI i ∧ ∀ j, j < 32 → bt s.1 j = (decide (j < 5) && allF (okS kd bl sp c b sb sd se sf j) i)) sn ⟨0, by omega, nI_0.symm, ?_⟩ (by omega) ?_ ?_
  · have : ∀ j, j < 32 → bt 31 j = decide (j < 5) := by decide +kernel
    intro j hj
    dsimp only
    rw [this j hj, allF, Bool.and_true]
  · rintro g ⟨x, y, r⟩ ⟨i, hi, hx, hR⟩
    have hi : i = sn := by omega
    subst hi
    dsimp only at hx hR ⊢
    unfold b_X4_possibleKinds_L6
    rw [hx, if_pos (nI_le (Nat.le_refl i) (by omega))]
    refine ⟨_, rfl, ?_⟩
    exact b_ext (fun j hj => (hR j hj).trans (kb_bit (g := fun k => allF (okS kd bl sp c b sb sd se sf k) i) 5 (by decide) j hj).symm)
  · rintro g j ⟨x, y, r⟩ ⟨i, hi, hx, hR⟩
    left
    dsimp only at hx hR ⊢
    unfold b_X4_possibleKinds_L6
    rw [hx, if_neg (nI_ge (show i < sn by omega) (by omega)), if_neg (show ¬ (6 : Int32) ≤ nI i from nI_ge (b := 6) (by omega) (by decide))]
    simp only [gd, inb_nI (show i < 6 by omega) (by decide), if_true, jn, bnd, nI_1, nI_clamp (show i < 2 ^ 31 by omega)]
    obtain ⟨w, st, hw, hst, ew, es⟩ := hS2 i (by omega)
    have cw : (sd i).toNatClampNeg = w := by rw [ew]; exact nI_clamp (by omega)
    have cs : (se i).toNatClampNeg = st := by rw [es]; exact nI_clamp (by omega)
    by_cases hsb : sb i = nI b
    · rw [if_pos hsb]
      have hok : ∀ k, okS kd bl sp c b sb sd se sf k i = decide (enP kd bl sp c b k w st = sf i) := fun k => by
        unfold okS; rw [cw, cs]; simp [hsb]
      unfold f_X4_possibleKinds_L39
      refine lp_l (fun j s => ∃ k, j + k = 5 ∧ s.2.1 = nI k ∧ ∀ j, j < 32 → bt s.1 j = (decide (j < 5) && allF (okS kd bl sp c b sb sd se sf j) (if j < k then i + 1 else i))) 5 ⟨0, by omega, nI_0.symm, ?_⟩ (by omega) ?_ ?_
      · intro j hj
        rw [if_neg (by omega)]; exact hR j hj
      · rintro g2 ⟨x, y, r⟩ ⟨k, hk, hx2, hR2⟩
        have hk : k = 5 := by omega
        subst hk
        dsimp only at hx2 hR2 ⊢
        unfold b_X4_possibleKinds_L39
        rw [hx2, if_pos (show (5 : Int32) ≤ nI 5 by decide)]
        refine ⟨_, ?_, rfl⟩
        refine ⟨i + 1, by omega, rfl, fun j hj => (hR2 j hj).trans ?_⟩
        by_cases h5 : j < 5
        · rw [if_pos h5]
        · simp [h5]
      · rintro g2 j2 ⟨x, y, r⟩ ⟨k, hk, hx2, hR2⟩
        left
        dsimp only at hx2 hR2 ⊢
        unfold b_X4_possibleKinds_L39
        rw [hx2, if_neg (show ¬ (5 : Int32) ≤ nI k from nI_ge (b := 5) (by omega) (by decide))]
        simp only [gd, inb_nI (show i < 6 by omega) (by decide), if_true, jn, bnd, nI_1, nI_clamp (show i < 2 ^ 31 by omega)]
        rw [ew, es]
        refine bind_l (endAs_ok hF hT hn hb (show k < 5 by omega) hw hst) (fun r1 hr1 => ?_)
        rw [hr1]
        by_cases he : enP kd bl sp c b k w st = sf i
        · rw [if_pos he]
          refine ⟨_, ?_, rfl⟩
          refine ⟨k + 1, by omega, rfl, fun j hj => (hR2 j hj).trans ?_⟩
          by_cases hjk : j = k
          · subst hjk
            rw [if_neg (by omega), if_pos (by omega), allF, hok j]
            simp [he]
          · by_cases hlt : j < k
            · rw [if_pos hlt, if_pos (by omega)]
            · rw [if_neg hlt, if_neg (by omega)]
        · rw [if_neg he]
          refine ⟨_, ?_, rfl⟩
          refine ⟨k + 1, by omega, rfl, fun j hj => (bt_clr x (show k < 7 by omega) hj).trans ?_⟩
          rw [hR2 j hj]
          by_cases hjk : j = k
          · subst hjk
            rw [if_neg (by omega), if_pos (by omega), allF, hok j]
            simp [he]
          · have hd : decide (j = k) = false := by simp [hjk]
            rw [hd, Bool.not_false, Bool.and_true]
            by_cases hlt : j < k
            · rw [if_pos hlt, if_pos (by omega)]
            · rw [if_neg hlt, if_neg (by omega)]
    · rw [if_neg hsb]
      refine ⟨_, ?_, rfl⟩
      refine ⟨i + 1, by omega, rfl, fun j hj => (hR j hj).trans ?_⟩
      have hok : okS kd bl sp c b sb sd se sf j i = true := by unfold okS; simp [hsb]
      rw [allF, hok, Bool.and_true]
def KnR (mk : Nat → Int32) (e : Int32) (r : Int32 × Int32 × Int32 × Int32 × Int32 × Int32 × Int32 × Int32 × Int32 × (Nat → Int32) × (Nat → Int32)) : Prop := r.1 = e ∧ r.2.2.2.2.2.2.2.2.2.1 = mk
theorem nI_4 : ∀ i, i < 7 → 4 * nI i = nI (4 * i) ∧ nI (4 * i) + 4 = nI (4 * (i + 1)) ∧ nI (4 * i) + 1 = nI (4 * i + 1) ∧ nI (4 * i) + 2 = nI (4 * i + 2) ∧ nI (4 * i) + 3 = nI (4 * i + 3) := by decide +kernel
theorem kindsOf_ok {bl sp : Nat} {kd wd : Nat → Nat} {kv wv : Nat → Int32} (hF : TF bl sp kd wd kv wv) {tk : Int64} {c : Nat → Int32} (hT : TW bl tk c) {n : Nat} (hn : 1000 ≤ n) {b sn : Nat} (hb : b ≤ bl) {sb sd se sf ms : Nat → Int32} (hS : SG sn sb sd se sf ms) {mk mw mc mo : Nat → Int32} (hMF : MF bl kv wv mk mw) (hv : ∀ d, d ≤ bl → mc d = c d) {a1 a2 a3 a4 a5 a6 a7 a8 : Int32} :
    ∃ r, f_X12_kindsOf n (nI bl) (nI sp) a1 a2 a3 a4 a5 a6 a7 a8 (nI sn) mk mw mc mo ms (nI b) = some r ∧ KnR mk (kbP kd bl sp c b sb sd se sf sn) r := by
  obtain ⟨hs6, hS1, hS2⟩ := hS
  unfold f_X12_kindsOf f_X12_kindsOf_L4
  refine lp_r (fun j s => ∃ k, j + k = 5 ∧ s.2.1 = nI k ∧ s.1 = kbF (fun k => allF (okS kd bl sp c b sb sd se sf k) sn) k ∧ s.2.2.2.2.2.2.2.2.2.2.1 = mk) 5 ⟨0, by omega, nI_0.symm, rfl, rfl⟩ (by omega) ?_ ?_
  · rintro g ⟨x, y, s1, s2, s3, s4, s5, s6, s7, s8, mk', mo'⟩ ⟨k, hk, hx, hR, hm⟩
    have hk : k = 5 := by omega
    dsimp only at hx hR hm ⊢
    unfold b_X12_kindsOf_L4
    rw [hx, if_pos (show (5 : Int32) ≤ nI k by rw [hk]; decide)]
    refine ⟨_, rfl, ?_⟩
    refine ⟨?_, hm⟩
    dsimp only
    rw [hR, hk]; rfl
  · rintro g j ⟨x, y, s1, s2, s3, s4, s5, s6, s7, s8, mk', mo'⟩ ⟨k, hk, hx, hR, hm⟩
    left
    dsimp only at hx hR hm ⊢
    subst hm
    unfold b_X12_kindsOf_L4
    rw [hx, if_neg (show ¬ (5 : Int32) ≤ nI k from nI_ge (b := 5) (by omega) (by decide))]
    simp only [jn, bnd, nI_1]
    unfold f_X12_kindsOf_L15
    refine lp_l (fun j s => ∃ i, j + i = sn ∧ s.2.1 = nI (4 * i) ∧ s.1 = b2 (allF (okS kd bl sp c b sb sd se sf k) i) ∧ s.2.2.2.2.2.2.2.2.2.2.1 = mk') sn ⟨0, by omega, nI_0.symm, rfl, rfl⟩ (by omega) ?_ ?_
    · rintro g2 ⟨x2, y2, t1, t2, t3, t4, t5, t6, t7, t8, mk2, mo2⟩ ⟨i, hi, hx2, hR2, hm2⟩
      have hi : i = sn := by omega
      subst hi
      dsimp only at hx2 hR2 hm2 ⊢
      unfold b_X12_kindsOf_L15
      rw [hx2, (nI_4 i (by omega)).1, if_pos (nI_le (Nat.le_refl _) (by omega)), hR2]
      dsimp only
      cases ha : allF (okS kd bl sp c b sb sd se sf k) i
      · rw [if_pos b2_f, Int32.or_zero]
        refine ⟨_, ?_, rfl⟩
        refine ⟨k + 1, by omega, rfl, ?_, hm2⟩
        dsimp only
        rw [hR, kbF, ha, if_neg (by decide)]
      · rw [if_neg (by rw [b2_t]; decide)]
        refine ⟨_, ?_, rfl⟩
        refine ⟨k + 1, by omega, rfl, ?_, hm2⟩
        dsimp only
        rw [hR, kbF, ha, if_pos rfl]
    · rintro g2 j2 ⟨x2, y2, t1, t2, t3, t4, t5, t6, t7, t8, mk2, mo2⟩ ⟨i, hi, hx2, hR2, hm2⟩
      left
      dsimp only at hx2 hR2 hm2 ⊢
      subst hm2
      have h4 := nI_4 i (by omega)
      have hs := hS1 i (by omega)
      obtain ⟨w, st, hw, hst, ew, es⟩ := hS2 i (by omega)
      have cw : (sd i).toNatClampNeg = w := by rw [ew]; exact nI_clamp (by omega)
      have cs : (se i).toNatClampNeg = st := by rw [es]; exact nI_clamp (by omega)
      unfold b_X12_kindsOf_L15
      rw [hx2, (nI_4 sn (by omega)).1, if_neg (nI_ge (show 4 * i < 4 * sn by omega) (by omega))]
      simp only [gd, jn, bnd, h4.2.1, h4.2.2.1, h4.2.2.2.1, h4.2.2.2.2, inb_nI (show 4 * i < 24 by omega) (by decide), inb_nI (show 4 * i + 1 < 24 by omega) (by decide), inb_nI (show 4 * i + 2 < 24 by omega) (by decide), inb_nI (show 4 * i + 3 < 24 by omega) (by decide), if_true, nI_clamp (show 4 * i < 2 ^ 31 by omega), nI_clamp (show 4 * i + 1 < 2 ^ 31 by omega), nI_clamp (show 4 * i + 2 < 2 ^ 31 by omega), nI_clamp (show 4 * i + 3 < 2 ^ 31 by omega), hs.1, hs.2.1, hs.2.2.1, hs.2.2.2]
      by_cases hsb : sb i = nI b
      · rw [if_pos hsb, hR2]
        have hok : okS kd bl sp c b sb sd se sf k i = decide (enP kd bl sp c b k w st = sf i) := by
          unfold okS; rw [cw, cs]; simp [hsb]
        cases ha : allF (okS kd bl sp c b sb sd se sf k) i
        · rw [if_pos b2_f]
          refine ⟨_, ?_, rfl⟩
          refine ⟨i + 1, by omega, rfl, ?_, rfl⟩
          dsimp only
          rw [allF, ha]; rfl
        · rw [if_neg (by rw [b2_t]; decide), ew, es]
          refine bind_l (behind_ok hF hT hn hb (show k < 5 by omega) hw hst hMF hv) (fun r1 hr1 => ?_)
          rw [hr1.1]
          by_cases he : enP kd bl sp c b k w st = sf i
          · rw [if_pos he]
            refine ⟨_, ?_, rfl⟩
            refine ⟨i + 1, by omega, rfl, ?_, hr1.2⟩
            dsimp only
            rw [allF, ha, hok]; simp [he, b2]
          · rw [if_neg he]
            refine ⟨_, ?_, rfl⟩
            refine ⟨i + 1, by omega, rfl, ?_, hr1.2⟩
            dsimp only
            rw [allF, ha, hok]; simp [he, b2]
      · rw [if_neg hsb]
        refine ⟨_, ?_, rfl⟩
        refine ⟨i + 1, by omega, rfl, ?_, rfl⟩
        have hok : okS kd bl sp c b sb sd se sf k i = true := by unfold okS; simp [hsb]
        dsimp only
        rw [allF, hok, Bool.and_true]; exact hR2
