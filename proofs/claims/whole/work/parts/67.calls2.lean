theorem rngL {p : Int32} {lo hi : Nat} {l h : Int32} {l' h' : Int64} (e1 : l = nI lo) (e2 : h = nI hi) (e3 : l' = lN lo) (e4 : h' = lN hi) (hh : hi < 2 ^ 31) (hl : lo < 2 ^ 31) : (∃ j, lo ≤ j ∧ j ≤ hi ∧ p = nI j ∧ f_X11_within p l h = some 1 ∧ f_X12_in p.toInt64 l' h' = some 1) ∨ (f_X11_within p l h = some 0 ∧ f_X12_in p.toInt64 l' h' = some 0 ∧ ¬ ∃ j, lo ≤ j ∧ j ≤ hi ∧ p = nI j) := by
  subst e1; subst e2; subst e3; subst e4
  exact rng hh hl
def SnR (sn : Int32) (sb sd se sf : Nat → Int32) (mn : Int32) (ms : Nat → Int32) : Prop := ∃ q, sn = nI q ∧ mn = nI q ∧ SG q sb sd se sf ms
def KpR (t : Nat) (ik kn ksc kst kfo : Int32) (ktk : Int64) (ksz ksq : Int32) (kc kk kw kb kd ke kf : Nat → Int32) (mb mq mkt mksc mkst mkfo mkn : Int32) (mw mK mC mS : Nat → Int32) : Prop :=
  (ik = 0 ∧ (mkt = -1 ∨ ∃ t', t' < t ∧ mkt = nI t')) ∨ (ik = 1 ∧ mkt = nI t ∧ ksc = mksc ∧ kst = mkst ∧ kfo = mkfo ∧ SnR kn kb kd ke kf mkn mS ∧ KW kk kw ∧ 0 < t ∧ ∃ bl sp, T1 bl sp ktk ksz ksq kc kk kw mb mq mK mw mC)
section
variable {t : Nat} {tk : Int64} {sz sq : Int32} {c k w : Nat → Int32} {mb mq : Int32} {mk mw mc : Nat → Int32}
theorem m_see (ht : t < 1000) (hT : TbR t tk sz sq c k w mb mq mk mw mc) {sn mn : Int32} {sb sd se sf ms : Nat → Int32} (hS : SnR sn sb sd se sf mn ms) (p1 p2 p3 p4 : Int32) : Two (f_X11_see (nI t) sn sz sb sd se sf p1 p2 p3 p4) (f_X12_see mb mn ms p1 p2 p3 p4) (fun r r' => r.1 = r'.1 ∧ SnR r.2.1 r.2.2.1 r.2.2.2.1 r.2.2.2.2.1 r.2.2.2.2.2 r'.2.1 r'.2.2) := by
  unfold f_X11_see f_X12_see
  rcases b_obj ht hT p1 with ⟨bl, sp, b, h0, h1, hb1, hb, rfl, r1, r2⟩ | ⟨r1, r2⟩
  · have n10 : ¬ (1 : Int32) = 0 := by decide
    rw [r1, r2, Option.bind_some, Option.bind_some, if_neg n10, if_neg n10]
    obtain ⟨g1, g2, g3, g4, rfl, rfl, rfl, rfl, g9, g10, g11⟩ := h1
    simp only [jn]
    have key : Two ((f_X11_isStroke p2 p3 0).bind (fun u_5 => (if u_5 = 0 then (some ((-102 : Int32), sn, sb, sd, se, sf)) else (if sn < 6 then ((f_X3_note sn sb sd se sf (nI b) p2 p3 p4).bind (fun u_8 => (some (u_8.1, u_8.1, u_8.2.1, u_8.2.2.1, u_8.2.2.2.1, u_8.2.2.2.2)))) else (some ((-104), sn, sb, sd, se, sf)))))) ((f_X12_in p2.toInt64 0 7).bind (fun u_4 => (if u_4 = 0 then (some ((-102 : Int32), mn, ms)) else ((f_X12_in p3.toInt64 1 9).bind (fun u_6 => (if u_6 = 0 then (some ((-102), mn, ms)) else (if mn = 6 then (some ((-104), mn, ms)) else (gd (inb (4 * mn) 24) (gd (inb ((4 * mn) + 1) 24) (gd (inb ((4 * mn) + 2) 24) (gd (inb ((4 * mn) + 3) 24) (some ((mn + 1), (mn + 1), (upd (upd (upd (upd ms (4 * mn).toNatClampNeg (nI b)) ((4 * mn) + 1).toNatClampNeg p2) ((4 * mn) + 2).toNatClampNeg p3) ((4 * mn) + 3).toNatClampNeg p4)))))))))))))) (fun r r' => r.1 = r'.1 ∧ SnR r.2.1 r.2.2.1 r.2.2.2.1 r.2.2.2.2.1 r.2.2.2.2.2 r'.2.1 r'.2.2) := by
      have i0 : f_X11_within 0 0 2 = some 1 := by decide
      unfold f_X11_isStroke
      simp only [jn]
      rcases b_dir p2 with ⟨d, hd, rfl, s1, s2⟩ | ⟨s1, s2⟩
      · rw [s1, s2, Option.bind_some, Option.bind_some, if_neg n10, if_neg n10]
        rcases rngL (p := p3) (lo := 1) (hi := 9) (l := 1) (h := 9) (l' := 1) (h' := 9) rfl rfl rfl rfl (by decide) (by decide) with ⟨st, hs1, hs, rfl, u1, u2⟩ | ⟨u1, u2, -⟩
        · rw [u1, u2, Option.bind_some, Option.bind_some, if_neg n10, i0, Option.bind_some, if_neg n10, Option.bind_some, if_neg n10, if_neg n10]
          have hS0 := hS
          obtain ⟨q, rfl, rfl, hq6, hq1, hq2⟩ := hS
          by_cases h6 : q = 6
          · subst h6
            rw [if_neg (show ¬ nI 6 < 6 by decide), if_pos (show nI 6 = 6 by decide)]
            exact ⟨_, _, rfl, rfl, rfl, hS0⟩
          · have h4 := nI_4 q (by omega)
            rw [if_pos (show nI q < 6 from nI_lt (b := 6) (by omega) (by decide)), if_neg (fun e => h6 ((nI_eq (by omega) (by decide)).mp (e.trans (show (6 : Int32) = nI 6 by decide))))]
            unfold f_X3_note
            rw [if_neg (nI_pos (by omega)), if_pos (show nI q < 6 from nI_lt (b := 6) (by omega) (by decide))]
            simp only [gd, inb_nI (show q < 6 by omega) (by decide), h4.1, h4.2.2.1, h4.2.2.2.1, h4.2.2.2.2, inb_nI (show 4 * q < 24 by omega) (by decide), inb_nI (show 4 * q + 1 < 24 by omega) (by decide), inb_nI (show 4 * q + 2 < 24 by omega) (by decide), inb_nI (show 4 * q + 3 < 24 by omega) (by decide), if_true, Option.bind_some, nI_1, nI_clamp (show q < 2 ^ 31 by omega), nI_clamp (show 4 * q < 2 ^ 31 by omega), nI_clamp (show 4 * q + 1 < 2 ^ 31 by omega), nI_clamp (show 4 * q + 2 < 2 ^ 31 by omega), nI_clamp (show 4 * q + 3 < 2 ^ 31 by omega)]
            refine ⟨_, _, rfl, rfl, rfl, q + 1, rfl, rfl, by omega, fun i hi => ?_, fun i hi => ?_⟩
            · dsimp only
              by_cases e : i = q
              · subst e
                refine ⟨?_, ?_, ?_, ?_⟩
                · rw [upd_n (by omega), upd_n (by omega), upd_n (by omega), upd_s, upd_s]
                · rw [upd_n (by omega), upd_n (by omega), upd_s, upd_s]
                · rw [upd_n (by omega), upd_s, upd_s]
                · rw [upd_s, upd_s]
              · refine ⟨?_, ?_, ?_, ?_⟩
                · rw [upd_n (by omega), upd_n (by omega), upd_n (by omega), upd_n (by omega), upd_n e]; exact (hq1 i hi).1
                · rw [upd_n (by omega), upd_n (by omega), upd_n (by omega), upd_n (by omega), upd_n e]; exact (hq1 i hi).2.1
                · rw [upd_n (by omega), upd_n (by omega), upd_n (by omega), upd_n (by omega), upd_n e]; exact (hq1 i hi).2.2.1
                · rw [upd_n (by omega), upd_n (by omega), upd_n (by omega), upd_n (by omega), upd_n e]; exact (hq1 i hi).2.2.2
            · dsimp only
              by_cases e : i = q
              · subst e
                rw [upd_s, upd_s]
                exact ⟨d, st, hd, hs, rfl, rfl⟩
              · rw [upd_n e, upd_n e]; exact hq2 i (by omega)
        · rw [u1, u2, Option.bind_some, Option.bind_some, if_pos rfl, if_pos rfl]
          exact ⟨_, _, rfl, rfl, rfl, hS⟩
      · rw [s1, s2]
        exact ⟨_, _, rfl, rfl, rfl, hS⟩
    have hm1 : f_X11_isCell (-1) = some 0 := by decide
    by_cases hp4 : p4 = -1
    · rw [if_pos hp4]
      have e : f_X11_isCell p4 = some 0 := by rw [hp4]; exact hm1
      rw [e, Option.bind_some, if_pos rfl, if_pos hp4]
      exact key
    · simp only [hp4, if_false]
      rcases b_cell p4 with ⟨q, hq, e, s1, s2⟩ | ⟨s1, s2⟩
      · rw [s1, s2 bl g1 g2, Option.bind_some, Option.bind_some, if_neg n10, if_neg n10]
        exact key
      · rw [s1, s2 bl g1 g2, Option.bind_some, Option.bind_some, if_pos rfl, if_pos rfl]
        exact ⟨_, _, rfl, rfl, rfl, hS⟩
  · rw [r1, r2]
    exact ⟨_, _, rfl, rfl, rfl, hS⟩
theorem m_forget {sn mn : Int32} {sb sd se sf ms : Nat → Int32} (hS : SnR sn sb sd se sf mn ms) : Two (f_X11_forget sn) (f_X12_forget mn) (fun r r' => r.1 = r'.1 ∧ SnR r.2 sb sd se sf r'.2 ms) := by
  obtain ⟨q, rfl, rfl, hq6, hq1, hq2⟩ := hS
  exact ⟨_, _, rfl, rfl, rfl, 0, rfl, rfl, by omega, hq1, fun i hi => absurd hi (Nat.not_lt_zero _)⟩
theorem SG_copy {q : Nat} {sb sd se sf ms m2 : Nat → Int32} (h : SG q sb sd se sf ms) (e : ∀ i, i < 24 → m2 i = ms i) : SG q sb sd se sf m2 := by
  refine ⟨h.1, fun i hi => ?_, h.2.2⟩
  rw [e (4 * i) (by omega), e (4 * i + 1) (by omega), e (4 * i + 2) (by omega), e (4 * i + 3) (by omega)]
  exact h.2.1 i hi
theorem m_image {n : Nat} (hn : 1000 ≤ n) (ht : t < 1000) (hT : TbR t tk sz sq c k w mb mq mk mw mc) (hK : KW k w) {sn mn sc st fo : Int32} {sb sd se sf ms : Nat → Int32} (hS : SnR sn sb sd se sf mn ms)
    {ik kn ksc kst kfo ksz ksq mkt mksc mkst mkfo mkn : Int32} {ktk : Int64} {kc kk kw kb kd ke kf mK mC mS : Nat → Int32} (hP : KpR t ik kn ksc kst kfo ktk ksz ksq kc kk kw kb kd ke kf mb mq mkt mksc mkst mkfo mkn mw mK mC mS) :
    Two (f_X11_image ik (nI t) sn sc st fo tk sz sq c k w sb sd se sf kn ksc kst kfo ktk ksz ksq kc kk kw kb kd ke kf) (f_X12_image n mb sc st fo (nI t) mn mkt mksc mkst mkfo mkn mk mc ms mK mC mS) (fun r r' => r.1 = r'.1 ∧ KpR t r.2.1 r.2.2.1 r.2.2.2.1 r.2.2.2.2.1 r.2.2.2.2.2.1 r.2.2.2.2.2.2.1 r.2.2.2.2.2.2.2.1 r.2.2.2.2.2.2.2.2.1 r.2.2.2.2.2.2.2.2.2.1 r.2.2.2.2.2.2.2.2.2.2.1 r.2.2.2.2.2.2.2.2.2.2.2.1 r.2.2.2.2.2.2.2.2.2.2.2.2.1 r.2.2.2.2.2.2.2.2.2.2.2.2.2.1 r.2.2.2.2.2.2.2.2.2.2.2.2.2.2.1 r.2.2.2.2.2.2.2.2.2.2.2.2.2.2.2 mb mq r'.2.1 r'.2.2.1 r'.2.2.2.1 r'.2.2.2.2.1 r'.2.2.2.2.2.1 mw r'.2.2.2.2.2.2.1 r'.2.2.2.2.2.2.2.1 r'.2.2.2.2.2.2.2.2) := by
  unfold f_X11_image f_X12_image
  rcases hT with ⟨rfl, h⟩ | ⟨h0, bl, sp, h⟩
  · rw [has_0, h.2.2.1, lk_0]
    exact ⟨_, _, rfl, rfl, rfl, by rw [← h.2.2.1]; exact hP⟩
  · obtain ⟨g1, g2, g3, g4, rfl, rfl, rfl, rfl, g9, g10, g11⟩ := id h
    rw [has_1 h0 ht, lk_1 g1 g2, Option.bind_some, Option.bind_some, if_neg (by decide), if_pos rfl]
    obtain ⟨u3, e3, c3⟩ := copy_ok (N := 7) (by decide) (show 50 ≤ n by omega) mk mK
    obtain ⟨u4, e4, c4⟩ := copy_ok (N := 7) (by decide) (show 50 ≤ n by omega) mc mC
    obtain ⟨u5, e5, c5⟩ := copy_ok (N := 24) (by decide) (show 50 ≤ n by omega) ms mS
    rw [e3, e4, e5]
    obtain ⟨q, rfl, rfl, hq⟩ := hS
    refine ⟨_, _, rfl, rfl, rfl, Or.inr ⟨rfl, rfl, rfl, rfl, rfl, ⟨q, rfl, rfl, SG_copy hq c5⟩, hK, h0, bl, sp, g1, g2, g3, g4, rfl, rfl, rfl, rfl, g9, fun d hd => ⟨(c3 d (by omega)).trans (g10 d hd).1, (g10 d hd).2⟩, fun d hd => (c4 d (by omega)).trans (g11 d hd)⟩⟩
theorem m_restore {n : Nat} (hn : 1000 ≤ n) (ht : t < 1000) (hT : TbR t tk sz sq c k w mb mq mk mw mc) (hK : KW k w) {sn mn sc st fo : Int32} {sb sd se sf ms : Nat → Int32} (hS : SnR sn sb sd se sf mn ms)
    {ik kn ksc kst kfo ksz ksq mkt mksc mkst mkfo mkn : Int32} {ktk : Int64} {kc kk kw kb kd ke kf mK mC mS : Nat → Int32} (hP : KpR t ik kn ksc kst kfo ktk ksz ksq kc kk kw kb kd ke kf mb mq mkt mksc mkst mkfo mkn mw mK mC mS) :
    Two (f_X11_restore ik sn sc st fo tk sz sq c k w sb sd se sf kn ksc kst kfo ktk ksz ksq kc kk kw kb kd ke kf) (f_X12_restore n sc st fo (nI t) mn mkt mksc mkst mkfo mkn mk mc ms mK mC mS) (fun r r' => r.1 = r'.1 ∧ SnR r.2.1 r.2.2.2.2.2.2.2.2.2.2.2.1 r.2.2.2.2.2.2.2.2.2.2.2.2.1 r.2.2.2.2.2.2.2.2.2.2.2.2.2.1 r.2.2.2.2.2.2.2.2.2.2.2.2.2.2 r'.2.2.2.2.1 r'.2.2.2.2.2.2.2 ∧ r.2.2.1 = r'.2.1 ∧ r.2.2.2.1 = r'.2.2.1 ∧ r.2.2.2.2.1 = r'.2.2.2.1 ∧ TbR t r.2.2.2.2.2.1 r.2.2.2.2.2.2.1 r.2.2.2.2.2.2.2.1 r.2.2.2.2.2.2.2.2.1 r.2.2.2.2.2.2.2.2.2.1 r.2.2.2.2.2.2.2.2.2.2.1 mb mq r'.2.2.2.2.2.1 mw r'.2.2.2.2.2.2.1 ∧ KW r.2.2.2.2.2.2.2.2.2.1 r.2.2.2.2.2.2.2.2.2.2.1) := by
  unfold f_X11_restore f_X12_restore
  rcases hP with ⟨rfl, hk⟩ | ⟨rfl, rfl, rfl, rfl, rfl, hSk, hKk, h0, bl, sp, h⟩
  · rw [if_pos rfl, if_neg]
    · exact ⟨_, _, rfl, rfl, rfl, hS, rfl, rfl, rfl, hT, hK⟩
    · rcases hk with rfl | ⟨t', ht', rfl⟩
      · exact fun z => nI_m1' ht z.symm
      · exact fun z => by have := (nI_eq (by omega) (by omega)).mp z; omega
  · rw [if_neg (by decide), if_pos rfl]
    obtain ⟨g1, g2, g3, g4, rfl, rfl, rfl, rfl, g9, g10, g11⟩ := id h
    obtain ⟨u3, e3, c3⟩ := copy_ok (N := 7) (by decide) (show 50 ≤ n by omega) mK mk
    obtain ⟨u4, e4, c4⟩ := copy_ok (N := 7) (by decide) (show 50 ≤ n by omega) mC mc
    obtain ⟨u5, e5, c5⟩ := copy_ok (N := 24) (by decide) (show 50 ≤ n by omega) mS ms
    rw [e3, e4, e5]
    obtain ⟨q, rfl, rfl, hq⟩ := hSk
    refine ⟨_, _, rfl, rfl, rfl, ⟨q, rfl, rfl, SG_copy hq c5⟩, rfl, rfl, rfl, Or.inr ⟨h0, bl, sp, g1, g2, g3, g4, rfl, rfl, rfl, rfl, g9, fun d hd => ⟨(c3 d (by omega)).trans (g10 d hd).1, (g10 d hd).2⟩, fun d hd => (c4 d (by omega)).trans (g11 d hd)⟩, hKk⟩
theorem m_table {n : Nat} (hn : 1000 ≤ n) {ps pm : Int32} {pl mP : Nat → Int32} (hPg : PgR ps pl pm mP) (hT : TbR t tk sz sq c k w mb mq mk mw mc) (hK : KW k w) {sn mn sc st fo : Int32} {sb sd se sf ms : Nat → Int32} (hS : SnR sn sb sd se sf mn ms)
    {ik kn ksc kst kfo ksz ksq mkt mksc mkst mkfo mkn : Int32} {ktk : Int64} {kc kk kw kb kd ke kf mK mC mS : Nat → Int32} (hP : KpR t ik kn ksc kst kfo ktk ksz ksq kc kk kw kb kd ke kf mb mq mkt mksc mkst mkfo mkn mw mK mC mS) :
    Two (f_X11_table n ik (nI t) ps pl sn sc st fo tk sz sq c k w) (f_X12_table n pm mb mq sc st fo (nI t) mn mP mk mw mc) (fun r r' => r.1 = r'.1 ∧ ∃ t2, t2 ≤ t + 1 ∧ r.2.2.1 = nI t2 ∧ r'.2.2.2.2.2.2.2.1 = nI t2 ∧ PgR r.2.2.2.1 pl r'.2.1 mP ∧ SnR r.2.2.2.2.1 sb sd se sf r'.2.2.2.2.2.2.2.2.1 ms ∧ r.2.2.2.2.2.1 = r'.2.2.2.2.1 ∧ r.2.2.2.2.2.2.1 = r'.2.2.2.2.2.1 ∧ r.2.2.2.2.2.2.2.1 = r'.2.2.2.2.2.2.1 ∧ TbR t2 r.2.2.2.2.2.2.2.2.1 r.2.2.2.2.2.2.2.2.2.1 r.2.2.2.2.2.2.2.2.2.2.1 r.2.2.2.2.2.2.2.2.2.2.2.1 r.2.2.2.2.2.2.2.2.2.2.2.2.1 r.2.2.2.2.2.2.2.2.2.2.2.2.2 r'.2.2.1 r'.2.2.2.1 r'.2.2.2.2.2.2.2.2.2.1 r'.2.2.2.2.2.2.2.2.2.2.1 r'.2.2.2.2.2.2.2.2.2.2.2 ∧ KW r.2.2.2.2.2.2.2.2.2.2.2.2.1 r.2.2.2.2.2.2.2.2.2.2.2.2.2 ∧ KpR t2 r.2.1 kn ksc kst kfo ktk ksz ksq kc kk kw kb kd ke kf r'.2.2.1 r'.2.2.2.1 mkt mksc mkst mkfo mkn r'.2.2.2.2.2.2.2.2.2.2.1 mK mC mS) := by
  have hPg0 := hPg
  obtain ⟨z, A, hz, rfl, rfl, hL, hL'⟩ := hPg
  obtain ⟨r, e, h1, h2⟩ := tableC_ok (ik := ik) (tr := nI t) (sn := sn) (sc := sc) (st := st) (fo := fo) (tk := tk) (sz := sz) (sq := sq) (c := c) hL hn hz hK
  obtain ⟨r', e', h1', h2'⟩ := tableM_ok (mb := mb) (ms := mq) (msc := sc) (mst := st) (mfo := fo) (mtr := nI t) (msn := mn) (mk := mk) (mw := mw) (mc := mc) hL' hn hz
  refine ⟨r, r', e, e', ?_⟩
  by_cases hw : whP A z
  · obtain ⟨tk', c', k', w', rfl, a1, a2, a3, a4⟩ := h2 hw
    obtain ⟨mk', mw', mc', rfl, b1, b2, b3, b4⟩ := h2' hw
    obtain ⟨q, rfl, rfl, hq6, hq1, hq2⟩ := hS
    have hbl : 1 ≤ z / 5 ∧ z / 5 ≤ 6 := by have := hw.1; omega
    have hall : ∀ i, i < z → gdP A i = true := fun i hi => ff_all A z 0 (by have := hw.2.2; omega) i (by omega) (by omega)
    have hc0 := gd_col (m := 0) (hall 1 (by have := hw.1; omega))
    have hcl := (cellC_ok hL (m := 0) (by decide) (dg_of (i := z) hall (by have := hw.1; omega)) (by decide)).2
    refine ⟨rfl, t + 1, by omega, nI_1 t, nI_1 t, ⟨0, A, by omega, rfl, rfl, hL, hL'⟩, ⟨0, rfl, rfl, by omega, hq1, fun i hi => absurd hi (Nat.not_lt_zero _)⟩, rfl, rfl, rfl, Or.inr ⟨by omega, z / 5, clA A 0, hbl.1, hbl.2, hcl, hc0.2.2.2.2, rfl, rfl, rfl, rfl, a1, fun d hd => ?_, fun d hd => (b3 d hd).trans (a2 d hd).symm⟩, a3, Or.inl ⟨rfl, ?_⟩⟩
    · by_cases hd0 : d = 0
      · rw [hd0]; exact ⟨b1.trans a3.2.2.1.symm, b2.trans a3.2.2.2.symm⟩
      · have x1 := a4 d (by omega) hd
        have x2 := b4 d (by omega) hd
        exact ⟨x2.1.trans x1.1.symm, x2.2.trans x1.2.symm⟩
    · rcases hP with ⟨-, hk⟩ | ⟨-, hk, -⟩
      · rcases hk with h | ⟨t', ht', h⟩
        · exact Or.inl h
        · exact Or.inr ⟨t', by omega, h⟩
      · exact Or.inr ⟨t, by omega, hk⟩
  · have x := h1 hw
    have x' := h1' hw
    subst x; subst x'
    exact ⟨rfl, t, by omega, rfl, rfl, hPg0, hS, rfl, rfl, rfl, hT, hK, hP⟩
end
