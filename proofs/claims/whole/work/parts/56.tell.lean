/-! which stroke tells most -/
def cnF (P : Nat → Bool) (e : Nat → Int32) (k : Nat) : Nat → Nat
  | 0 => 0
  | o + 1 => cnF P e k o + (if P o = true ∧ e o = e k then 1 else 0)
def wcF (P : Nat → Bool) (e : Nat → Int32) : Nat → Nat
  | 0 => 0
  | k + 1 => if P k = true then (if wcF P e k < cnF P e k (k + 1) then cnF P e k (k + 1) else wcF P e k) else wcF P e k
def wmF (P : Nat → Bool) (e : Nat → Int32) : Nat → Nat
  | 0 => 0
  | k + 1 => if P k = true then (if cnF P e k 5 ≤ wmF P e k then wmF P e k else cnF P e k 5) else wmF P e k
theorem cn_le (P : Nat → Bool) (e : Nat → Int32) (k : Nat) : ∀ m, cnF P e k m ≤ m
  | 0 => Nat.le_refl _
  | m + 1 => by
    have := cn_le P e k m
    rw [cnF]; split <;> omega
theorem cn_mono (P : Nat → Bool) (e : Nat → Int32) (k m : Nat) : ∀ j, cnF P e k m ≤ cnF P e k (m + j)
  | 0 => Nat.le_refl _
  | j + 1 => by
    have := cn_mono P e k m j
    show _ ≤ cnF P e k (m + j) + _
    omega
theorem cn_same {P : Nat → Bool} {e : Nat → Int32} {k k' : Nat} (h : e k' = e k) : ∀ m, cnF P e k m = cnF P e k' m
  | 0 => rfl
  | m + 1 => by rw [cnF, cnF, cn_same h m, h]
theorem cn_stop {P : Nat → Bool} {e : Nat → Int32} {k m : Nat} (h : ∀ o, m ≤ o → o < 5 → ¬ (P o = true ∧ e o = e k)) : ∀ j, m + j ≤ 5 → cnF P e k (m + j) = cnF P e k m
  | 0, _ => rfl
  | j + 1, hj => by
    show cnF P e k (m + j) + (if P (m + j) = true ∧ e (m + j) = e k then 1 else 0) = _
    rw [cn_stop h j (by omega), if_neg (h (m + j) (by omega) (by omega)), Nat.add_zero]
theorem wc_ge {P : Nat → Bool} {e : Nat → Int32} {k : Nat} (hP : P k = true) : ∀ m, k < m → cnF P e k (k + 1) ≤ wcF P e m
  | 0, h => absurd h (Nat.not_lt_zero _)
  | m + 1, h => by
    rw [wcF]
    by_cases hk : k = m
    · subst hk
      rw [if_pos hP]
      split <;> omega
    · have := wc_ge (e := e) hP m (by omega)
      split
      · split <;> omega
      · exact this
theorem wc_le_wm {P : Nat → Bool} {e : Nat → Int32} : ∀ m, m ≤ 5 → wcF P e m ≤ wmF P e m
  | 0, _ => Nat.le_refl _
  | m + 1, h => by
    have ih := wc_le_wm (P := P) (e := e) m (by omega)
    have hm := cn_mono P e m (m + 1) (5 - (m + 1))
    rw [show m + 1 + (5 - (m + 1)) = 5 by omega] at hm
    rw [wcF, wmF]
    by_cases hP : P m = true
    · rw [if_pos hP, if_pos hP]
      split <;> split <;> omega
    · rw [if_neg hP, if_neg hP]; exact ih
theorem wm_le {P : Nat → Bool} {e : Nat → Int32} {B : Nat} (hB : ∀ k, k < 5 → P k = true → cnF P e k 5 ≤ B) : ∀ m, m ≤ 5 → wmF P e m ≤ B
  | 0, _ => Nat.zero_le _
  | m + 1, h => by
    have ih := wm_le hB m (by omega)
    rw [wmF]
    by_cases hP : P m = true
    · have := hB m (by omega) hP
      rw [if_pos hP]
      split <;> omega
    · rw [if_neg hP]; exact ih
theorem wc_wm (P : Nat → Bool) (e : Nat → Int32) : wcF P e 5 = wmF P e 5 := by
  refine Nat.le_antisymm (wc_le_wm 5 (Nat.le_refl _)) (wm_le (fun k hk hP => ?_) 5 (Nat.le_refl _))
  obtain ⟨k', hk', ⟨hP', he⟩, hl⟩ := fb_last (p := fun i => P i = true ∧ e i = e k) (n := 5) ⟨k, hk, hP, rfl⟩
  have h1 := cn_stop (P := P) (e := e) (k := k) (m := k' + 1) (fun o ho ho5 => hl o ho ho5) (5 - (k' + 1)) (by omega)
  rw [show k' + 1 + (5 - (k' + 1)) = 5 by omega] at h1
  rw [h1, cn_same he]
  exact wc_ge hP' 5 hk'
theorem left_ok {bl sp : Nat} {kd wd : Nat → Nat} {kv wv : Nat → Int32} (hF : TF bl sp kd wd kv wv) {tk : Int64} {c : Nat → Int32} (hT : TW bl tk c) {n : Nat} (hn : 1000 ≤ n) {b w M : Nat} (hM : M = 5) (hb : b ≤ bl) (hw : w < 8) {pos : Int32} {m0 b0 p0 br0 h0 hp0 fo0 sz sq sz1 : Int32} {t0 : Int64} {v1 v2 v3 un : Nat → Int32} :
    ∃ r, f_X4_leftAtWorst n m0 b0 p0 br0 h0 hp0 fo0 t0 sz sq v1 v2 v3 un tk sz1 (nI sp) c kv wv (nI b) (nI w) pos = some r ∧ r.1 = nI (wcF (bt pos) (fun k => enP kd bl sp c b k w 6) M) := by
  unfold f_X4_leftAtWorst f_X4_leftAtWorst_L6
  refine lp_r (fun j s => ∃ k, j + k = 5 ∧ s.2.1 = nI k ∧ s.1 = nI (wcF (bt pos) (fun k => enP kd bl sp c b k w 6) k) ∧ ∀ o, o < k → bt pos o = true → s.2.2.2.2.2.2.2.2.2.2.2.2.2.2.2 o = enP kd bl sp c b o w 6) 5 ⟨0, by omega, nI_0.symm, rfl, fun o ho => absurd ho (Nat.not_lt_zero _)⟩ (by omega) ?_ ?_
  · rintro g ⟨x, y, r⟩ ⟨k, hk, hx, hR, hU⟩
    have hk : k = 5 := by omega
    dsimp only at hx hR hU ⊢
    unfold b_X4_leftAtWorst_L6
    rw [hx, if_pos (show (5 : Int32) ≤ nI k by rw [hk]; decide)]
    refine ⟨_, rfl, ?_⟩
    dsimp only
    rw [hR, hM, hk]
  · rintro g j ⟨x, y, s1, s2, s3, s4, s5, s6, s7, s8, s9, s10, s11, s12, s13, un⟩ ⟨k, hk, hx, hR, hU⟩
    left
    dsimp only at hx hR hU ⊢
    unfold b_X4_leftAtWorst_L6
    rw [hx, if_neg (show ¬ (5 : Int32) ≤ nI k from nI_ge (b := 5) (by omega) (by decide)), bit_at pos (by omega)]
    simp only [jn, bnd, nI_1]
    cases hbk : bt pos k
    · rw [if_pos b2_f]
      refine ⟨_, ?_, rfl⟩
      refine ⟨k + 1, by omega, rfl, ?_, fun o ho hbo => ?_⟩
      · dsimp only
        rw [hR, wcF, hbk, if_neg (by decide)]
      · have hok : o ≠ k := fun z => by rw [z, hbk] at hbo; cases hbo
        exact hU o (by omega) hbo
    · rw [if_neg (by rw [b2_t]; decide)]
      refine bind_l (endAs_ok (st := 6) hF hT hn hb (show k < 5 by omega) hw (by decide)) (fun r1 hr1 => ?_)
      simp only [gd, inb_nI (show k < 5 by omega) (by decide), if_true]
      have hun : ∀ o, o < k + 1 → bt pos o = true → upd un k r1.1 o = enP kd bl sp c b o w 6 := fun o ho hbo => by
        by_cases h : o = k
        · rw [h, upd_s, hr1]
        · rw [upd_n h]; exact hU o (by omega) hbo
      unfold f_X4_leftAtWorst_L49
      refine lp_l (fun j s => ∃ o, j + o = k + 1 ∧ s.2 = nI o ∧ s.1 = nI (cnF (bt pos) (fun k => enP kd bl sp c b k w 6) k o)) (k + 1) ⟨0, by omega, nI_0.symm, rfl⟩ (by omega) ?_ ?_
      · rintro g2 ⟨x2, y2⟩ ⟨o, ho, hx2, hR2⟩
        have ho : o = k + 1 := by omega
        subst ho
        dsimp only at hx2 hR2 ⊢
        unfold b_X4_leftAtWorst_L49
        rw [hx2, if_pos (nI_lt (show k < k + 1 by omega) (by omega))]
        refine ⟨_, ?_, rfl⟩
        refine ⟨k + 1, by omega, rfl, ?_, fun o ho hbo => ?_⟩
        · dsimp only
          have hl := cn_le (bt pos) (fun k => enP kd bl sp c b k w 6) k (k + 1)
          have hwl : wcF (bt pos) (fun k => enP kd bl sp c b k w 6) k < 2 ^ 31 := by
            have h1 := wc_le_wm (P := bt pos) (e := fun k => enP kd bl sp c b k w 6) k (by omega)
            have h2 := wm_le (P := bt pos) (e := fun k => enP kd bl sp c b k w 6) (B := 5) (fun i _ _ => cn_le _ _ i 5) k (by omega)
            omega
          rw [hR, hR2, wcF, hbk, if_pos rfl]
          by_cases hlt : wcF (bt pos) (fun k => enP kd bl sp c b k w 6) k < cnF (bt pos) (fun k => enP kd bl sp c b k w 6) k (k + 1)
          · rw [if_pos hlt, if_pos (nI_lt hlt (by omega))]
          · rw [if_neg hlt, if_neg (nI_nlt (by omega) hwl)]
        · rw [show (nI k).toNatClampNeg = k from nI_clamp (by omega)]
          exact hun o ho hbo
      · rintro g2 j2 ⟨x2, y2⟩ ⟨o, ho, hx2, hR2⟩
        left
        dsimp only at hx2 hR2 ⊢
        unfold b_X4_leftAtWorst_L49
        rw [hx2, if_neg (nI_nlt (show o ≤ k by omega) (by omega)), bit_at pos (by omega)]
        simp only [jn, bnd, nI_1, gd, inb_nI (show k < 5 by omega) (by decide), inb_nI (show o < 5 by omega) (by decide), if_true, nI_clamp (show k < 2 ^ 31 by omega), nI_clamp (show o < 2 ^ 31 by omega)]
        cases hbo : bt pos o
        · rw [if_pos b2_f]
          refine ⟨_, ?_, rfl⟩
          refine ⟨o + 1, by omega, rfl, ?_⟩
          dsimp only
          rw [hR2, cnF, hbo, if_neg (fun z => by cases z.1)]; rfl
        · rw [if_neg (by rw [b2_t]; decide), hun o (by omega) hbo, hun k (by omega) hbk]
          by_cases he : enP kd bl sp c b o w 6 = enP kd bl sp c b k w 6
          · rw [if_pos he]
            refine ⟨_, ?_, rfl⟩
            refine ⟨o + 1, by omega, rfl, ?_⟩
            dsimp only
            rw [hR2, cnF, if_pos ⟨hbo, he⟩, nI_1]
          · rw [if_neg he]
            refine ⟨_, ?_, rfl⟩
            refine ⟨o + 1, by omega, rfl, ?_⟩
            dsimp only
            rw [hR2, cnF, if_neg (fun z => he z.2)]; rfl
