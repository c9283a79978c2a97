/-! the law -/
theorem two_l {α β γ δ : Type} {o : Option α} {o' : Option β} {Q : α → β → Prop} {F : α → β → Option γ} {g : δ → Option γ} {R : δ → Prop} (h : Two o o' Q) (k : ∀ r r', Q r r' → ∃ a', R a' ∧ F r r' = g a') : ∃ a', R a' ∧ o.bind (fun u => o'.bind (fun u' => F u u')) = g a' := by
  obtain ⟨r, r', e, e', hq⟩ := h
  rw [e, e']
  exact k r r' hq
def LawR (t : Nat) (f_x_imageKept : Int32) (f_x_tablesRead : Int32) (f_x_plansDone : Int32) (f_x_safesDone : Int32) (f_xP_size : Int32) (v_xPl : Nat → Int32) (f_xG_seen : Int32) (f_xG_score : Int32) (f_xG_strokes : Int32) (f_xG_fouls : Int32) (f_xGT_taken : Int64) (f_xGT_size : Int32) (f_xGT_spot : Int32) (v_xGTc : Nat → Int32) (v_xGTk : Nat → Int32) (v_xGTw : Nat → Int32) (v_xGb : Nat → Int32) (v_xGd : Nat → Int32) (v_xGe : Nat → Int32) (v_xGf : Nat → Int32) (f_xK_seen : Int32) (f_xK_score : Int32) (f_xK_strokes : Int32) (f_xK_fouls : Int32) (f_xKT_taken : Int64) (f_xKT_size : Int32) (f_xKT_spot : Int32) (v_xKTc : Nat → Int32) (v_xKTk : Nat → Int32) (v_xKTw : Nat → Int32) (v_xKb : Nat → Int32) (v_xKd : Nat → Int32) (v_xKe : Nat → Int32) (v_xKf : Nat → Int32) (f_m_pageMany : Int32) (f_m_balls : Int32) (f_m_spot : Int32) (f_m_score : Int32) (f_m_strokesNow : Int32) (f_m_fouls : Int32) (f_m_tablesRead : Int32) (f_m_plansDone : Int32) (f_m_safesDone : Int32) (f_m_seenMany : Int32) (f_m_keptTable : Int32) (f_m_keptScore : Int32) (f_m_keptStrokes : Int32) (f_m_keptFouls : Int32) (f_m_keptSeen : Int32) (v_mP : Nat → Int32) (v_mk : Nat → Int32) (v_mw : Nat → Int32) (v_mc : Nat → Int32) (v_ms : Nat → Int32) (v_mK : Nat → Int32) (v_mC : Nat → Int32) (v_mS : Nat → Int32) : Prop := f_x_tablesRead = nI t ∧ f_m_tablesRead = nI t ∧ PgR f_xP_size v_xPl f_m_pageMany v_mP ∧ CnR f_x_plansDone f_m_plansDone ∧ CnR f_x_safesDone f_m_safesDone ∧ f_xG_score = f_m_score ∧ f_xG_strokes = f_m_strokesNow ∧ f_xG_fouls = f_m_fouls ∧ SnR f_xG_seen v_xGb v_xGd v_xGe v_xGf f_m_seenMany v_ms ∧ KW v_xGTk v_xGTw ∧ TbR t f_xGT_taken f_xGT_size f_xGT_spot v_xGTc v_xGTk v_xGTw f_m_balls f_m_spot v_mk v_mw v_mc ∧ KpR t f_x_imageKept f_xK_seen f_xK_score f_xK_strokes f_xK_fouls f_xKT_taken f_xKT_size f_xKT_spot v_xKTc v_xKTk v_xKTw v_xKb v_xKd v_xKe v_xKf f_m_balls f_m_spot f_m_keptTable f_m_keptScore f_m_keptStrokes f_m_keptFouls f_m_keptSeen v_mw v_mK v_mC v_mS
theorem lt_5 {L i : Nat} (hL : L ≤ 320) (hi : i ≤ 65) : (Int32.ofNat L - 5 < nI (5 * i)) ↔ L < 5 * i + 5 := by
  have e1 : (Int32.ofNat L).toInt = (L : Int) := nI_toInt (by omega)
  have e5 : (5 : Int32).toInt = 5 := by decide
  rw [Int32.lt_iff_toInt_lt, fb_subI (by rw [e1, e5]; omega) (by rw [e1, e5]; omega), e1, e5, nI_toInt (by omega)]
  omega
theorem t_x : ∀ i, i < 66 → nI (5 * i) + 1 = nI (5 * i + 1) ∧ nI (5 * i) + 2 = nI (5 * i + 2) ∧ nI (5 * i) + 3 = nI (5 * i + 3) ∧ nI (5 * i) + 4 = nI (5 * i + 4) ∧ nI (5 * i) + 5 = nI (5 * (i + 1)) := by decide +kernel
set_option maxHeartbeats 4000000 in
set_option maxRecDepth 100000 in
theorem law_ok {L n : Nat} (hL : L ≤ 320) (hn : 1000 ≤ n) (xs : Nat → Int32) : ∃ r, law0 n L xs = some r ∧ r = 1 := by
  unfold law0 f_L_law f_L_law_L18
  refine lp_r (fun j s => ∃ i t, j + i = 65 ∧ t ≤ i ∧ s.1 = nI (5 * i) ∧ LawR t s.2.1 s.2.2.1 s.2.2.2.1 s.2.2.2.2.1 s.2.2.2.2.2.1 s.2.2.2.2.2.2.1 s.2.2.2.2.2.2.2.1 s.2.2.2.2.2.2.2.2.1 s.2.2.2.2.2.2.2.2.2.1 s.2.2.2.2.2.2.2.2.2.2.1 s.2.2.2.2.2.2.2.2.2.2.2.1 s.2.2.2.2.2.2.2.2.2.2.2.2.1 s.2.2.2.2.2.2.2.2.2.2.2.2.2.1 s.2.2.2.2.2.2.2.2.2.2.2.2.2.2.1 s.2.2.2.2.2.2.2.2.2.2.2.2.2.2.2.1 s.2.2.2.2.2.2.2.2.2.2.2.2.2.2.2.2.1 s.2.2.2.2.2.2.2.2.2.2.2.2.2.2.2.2.2.1 s.2.2.2.2.2.2.2.2.2.2.2.2.2.2.2.2.2.2.1 s.2.2.2.2.2.2.2.2.2.2.2.2.2.2.2.2.2.2.2.1 s.2.2.2.2.2.2.2.2.2.2.2.2.2.2.2.2.2.2.2.2.1 s.2.2.2.2.2.2.2.2.2.2.2.2.2.2.2.2.2.2.2.2.2.1 s.2.2.2.2.2.2.2.2.2.2.2.2.2.2.2.2.2.2.2.2.2.2.1 s.2.2.2.2.2.2.2.2.2.2.2.2.2.2.2.2.2.2.2.2.2.2.2.1 s.2.2.2.2.2.2.2.2.2.2.2.2.2.2.2.2.2.2.2.2.2.2.2.2.1 s.2.2.2.2.2.2.2.2.2.2.2.2.2.2.2.2.2.2.2.2.2.2.2.2.2.1 s.2.2.2.2.2.2.2.2.2.2.2.2.2.2.2.2.2.2.2.2.2.2.2.2.2.2.1 s.2.2.2.2.2.2.2.2.2.2.2.2.2.2.2.2.2.2.2.2.2.2.2.2.2.2.2.1 s.2.2.2.2.2.2.2.2.2.2.2.2.2.2.2.2.2.2.2.2.2.2.2.2.2.2.2.2.1 s.2.2.2.2.2.2.2.2.2.2.2.2.2.2.2.2.2.2.2.2.2.2.2.2.2.2.2.2.2.1 s.2.2.2.2.2.2.2.2.2.2.2.2.2.2.2.2.2.2.2.2.2.2.2.2.2.2.2.2.2.2.1 s.2.2.2.2.2.2.2.2.2.2.2.2.2.2.2.2.2.2.2.2.2.2.2.2.2.2.2.2.2.2.2.1 s.2.2.2.2.2.2.2.2.2.2.2.2.2.2.2.2.2.2.2.2.2.2.2.2.2.2.2.2.2.2.2.2.1 s.2.2.2.2.2.2.2.2.2.2.2.2.2.2.2.2.2.2.2.2.2.2.2.2.2.2.2.2.2.2.2.2.2.1 s.2.2.2.2.2.2.2.2.2.2.2.2.2.2.2.2.2.2.2.2.2.2.2.2.2.2.2.2.2.2.2.2.2.2.1 s.2.2.2.2.2.2.2.2.2.2.2.2.2.2.2.2.2.2.2.2.2.2.2.2.2.2.2.2.2.2.2.2.2.2.2.2.2.2.2.2.2.2.2.2.2.2.2.2.2.2.2.2.2.2.2.2.2.2.2.2.2.2.2.2.1 s.2.2.2.2.2.2.2.2.2.2.2.2.2.2.2.2.2.2.2.2.2.2.2.2.2.2.2.2.2.2.2.2.2.2.2.2.2.2.2.2.2.2.2.2.2.2.2.2.2.2.2.2.2.2.2.2.2.2.2.2.2.2.2.2.2.1 s.2.2.2.2.2.2.2.2.2.2.2.2.2.2.2.2.2.2.2.2.2.2.2.2.2.2.2.2.2.2.2.2.2.2.2.2.2.2.2.2.2.2.2.2.2.2.2.2.2.2.2.2.2.2.2.2.2.2.2.2.2.2.2.2.2.2.1 s.2.2.2.2.2.2.2.2.2.2.2.2.2.2.2.2.2.2.2.2.2.2.2.2.2.2.2.2.2.2.2.2.2.2.2.2.2.2.2.2.2.2.2.2.2.2.2.2.2.2.2.2.2.2.2.2.2.2.2.2.2.2.2.2.2.2.2.1 s.2.2.2.2.2.2.2.2.2.2.2.2.2.2.2.2.2.2.2.2.2.2.2.2.2.2.2.2.2.2.2.2.2.2.2.2.2.2.2.2.2.2.2.2.2.2.2.2.2.2.2.2.2.2.2.2.2.2.2.2.2.2.2.2.2.2.2.2.1 s.2.2.2.2.2.2.2.2.2.2.2.2.2.2.2.2.2.2.2.2.2.2.2.2.2.2.2.2.2.2.2.2.2.2.2.2.2.2.2.2.2.2.2.2.2.2.2.2.2.2.2.2.2.2.2.2.2.2.2.2.2.2.2.2.2.2.2.2.2.1 s.2.2.2.2.2.2.2.2.2.2.2.2.2.2.2.2.2.2.2.2.2.2.2.2.2.2.2.2.2.2.2.2.2.2.2.2.2.2.2.2.2.2.2.2.2.2.2.2.2.2.2.2.2.2.2.2.2.2.2.2.2.2.2.2.2.2.2.2.2.2.1 s.2.2.2.2.2.2.2.2.2.2.2.2.2.2.2.2.2.2.2.2.2.2.2.2.2.2.2.2.2.2.2.2.2.2.2.2.2.2.2.2.2.2.2.2.2.2.2.2.2.2.2.2.2.2.2.2.2.2.2.2.2.2.2.2.2.2.2.2.2.2.2.2.2.2.2.2.2.2.2.2.2.1 s.2.2.2.2.2.2.2.2.2.2.2.2.2.2.2.2.2.2.2.2.2.2.2.2.2.2.2.2.2.2.2.2.2.2.2.2.2.2.2.2.2.2.2.2.2.2.2.2.2.2.2.2.2.2.2.2.2.2.2.2.2.2.2.2.2.2.2.2.2.2.2.2.2.2.2.2.2.2.2.2.2.2.1 s.2.2.2.2.2.2.2.2.2.2.2.2.2.2.2.2.2.2.2.2.2.2.2.2.2.2.2.2.2.2.2.2.2.2.2.2.2.2.2.2.2.2.2.2.2.2.2.2.2.2.2.2.2.2.2.2.2.2.2.2.2.2.2.2.2.2.2.2.2.2.2.2.2.2.2.2.2.2.2.2.2.2.2.1 s.2.2.2.2.2.2.2.2.2.2.2.2.2.2.2.2.2.2.2.2.2.2.2.2.2.2.2.2.2.2.2.2.2.2.2.2.2.2.2.2.2.2.2.2.2.2.2.2.2.2.2.2.2.2.2.2.2.2.2.2.2.2.2.2.2.2.2.2.2.2.2.2.2.2.2.2.2.2.2.2.2.2.2.2.2.1 s.2.2.2.2.2.2.2.2.2.2.2.2.2.2.2.2.2.2.2.2.2.2.2.2.2.2.2.2.2.2.2.2.2.2.2.2.2.2.2.2.2.2.2.2.2.2.2.2.2.2.2.2.2.2.2.2.2.2.2.2.2.2.2.2.2.2.2.2.2.2.2.2.2.2.2.2.2.2.2.2.2.2.2.2.2.2.1 s.2.2.2.2.2.2.2.2.2.2.2.2.2.2.2.2.2.2.2.2.2.2.2.2.2.2.2.2.2.2.2.2.2.2.2.2.2.2.2.2.2.2.2.2.2.2.2.2.2.2.2.2.2.2.2.2.2.2.2.2.2.2.2.2.2.2.2.2.2.2.2.2.2.2.2.2.2.2.2.2.2.2.2.2.2.2.2.1 s.2.2.2.2.2.2.2.2.2.2.2.2.2.2.2.2.2.2.2.2.2.2.2.2.2.2.2.2.2.2.2.2.2.2.2.2.2.2.2.2.2.2.2.2.2.2.2.2.2.2.2.2.2.2.2.2.2.2.2.2.2.2.2.2.2.2.2.2.2.2.2.2.2.2.2.2.2.2.2.2.2.2.2.2.2.2.2.2.1 s.2.2.2.2.2.2.2.2.2.2.2.2.2.2.2.2.2.2.2.2.2.2.2.2.2.2.2.2.2.2.2.2.2.2.2.2.2.2.2.2.2.2.2.2.2.2.2.2.2.2.2.2.2.2.2.2.2.2.2.2.2.2.2.2.2.2.2.2.2.2.2.2.2.2.2.2.2.2.2.2.2.2.2.2.2.2.2.2.2.1 s.2.2.2.2.2.2.2.2.2.2.2.2.2.2.2.2.2.2.2.2.2.2.2.2.2.2.2.2.2.2.2.2.2.2.2.2.2.2.2.2.2.2.2.2.2.2.2.2.2.2.2.2.2.2.2.2.2.2.2.2.2.2.2.2.2.2.2.2.2.2.2.2.2.2.2.2.2.2.2.2.2.2.2.2.2.2.2.2.2.2.2.1 s.2.2.2.2.2.2.2.2.2.2.2.2.2.2.2.2.2.2.2.2.2.2.2.2.2.2.2.2.2.2.2.2.2.2.2.2.2.2.2.2.2.2.2.2.2.2.2.2.2.2.2.2.2.2.2.2.2.2.2.2.2.2.2.2.2.2.2.2.2.2.2.2.2.2.2.2.2.2.2.2.2.2.2.2.2.2.2.2.2.2.2.2.1 s.2.2.2.2.2.2.2.2.2.2.2.2.2.2.2.2.2.2.2.2.2.2.2.2.2.2.2.2.2.2.2.2.2.2.2.2.2.2.2.2.2.2.2.2.2.2.2.2.2.2.2.2.2.2.2.2.2.2.2.2.2.2.2.2.2.2.2.2.2.2.2.2.2.2.2.2.2.2.2.2.2.2.2.2.2.2.2.2.2.2.2.2.2.1 s.2.2.2.2.2.2.2.2.2.2.2.2.2.2.2.2.2.2.2.2.2.2.2.2.2.2.2.2.2.2.2.2.2.2.2.2.2.2.2.2.2.2.2.2.2.2.2.2.2.2.2.2.2.2.2.2.2.2.2.2.2.2.2.2.2.2.2.2.2.2.2.2.2.2.2.2.2.2.2.2.2.2.2.2.2.2.2.2.2.2.2.2.2.2.1 s.2.2.2.2.2.2.2.2.2.2.2.2.2.2.2.2.2.2.2.2.2.2.2.2.2.2.2.2.2.2.2.2.2.2.2.2.2.2.2.2.2.2.2.2.2.2.2.2.2.2.2.2.2.2.2.2.2.2.2.2.2.2.2.2.2.2.2.2.2.2.2.2.2.2.2.2.2.2.2.2.2.2.2.2.2.2.2.2.2.2.2.2.2.2.2.2.2.1 s.2.2.2.2.2.2.2.2.2.2.2.2.2.2.2.2.2.2.2.2.2.2.2.2.2.2.2.2.2.2.2.2.2.2.2.2.2.2.2.2.2.2.2.2.2.2.2.2.2.2.2.2.2.2.2.2.2.2.2.2.2.2.2.2.2.2.2.2.2.2.2.2.2.2.2.2.2.2.2.2.2.2.2.2.2.2.2.2.2.2.2.2.2.2.2.2.2.2.2.1 s.2.2.2.2.2.2.2.2.2.2.2.2.2.2.2.2.2.2.2.2.2.2.2.2.2.2.2.2.2.2.2.2.2.2.2.2.2.2.2.2.2.2.2.2.2.2.2.2.2.2.2.2.2.2.2.2.2.2.2.2.2.2.2.2.2.2.2.2.2.2.2.2.2.2.2.2.2.2.2.2.2.2.2.2.2.2.2.2.2.2.2.2.2.2.2.2.2.2.2.2.1 s.2.2.2.2.2.2.2.2.2.2.2.2.2.2.2.2.2.2.2.2.2.2.2.2.2.2.2.2.2.2.2.2.2.2.2.2.2.2.2.2.2.2.2.2.2.2.2.2.2.2.2.2.2.2.2.2.2.2.2.2.2.2.2.2.2.2.2.2.2.2.2.2.2.2.2.2.2.2.2.2.2.2.2.2.2.2.2.2.2.2.2.2.2.2.2.2.2.2.2.2.2) 65 ⟨0, 0, by omega, by omega, rfl, ?_⟩ (by omega) ?_ ?_
  · refine ⟨rfl, rfl, ⟨0, fun _ => 0, by omega, rfl, rfl, fun i _ => ⟨show (0 : Nat) < 127 by decide, rfl⟩, fun i _ => ⟨show (0 : Nat) < 127 by decide, rfl⟩⟩, ⟨0, by omega, rfl, rfl⟩, ⟨0, by omega, rfl, rfl⟩, rfl, rfl, rfl, ⟨0, rfl, rfl, by omega, fun i _ => ⟨rfl, rfl, rfl, rfl⟩, fun i hi => absurd hi (Nat.not_lt_zero _)⟩, ⟨fun d _ => ⟨0, by omega, rfl⟩, fun d _ => ⟨0, by omega, rfl⟩, rfl, rfl⟩, Or.inl ⟨rfl, rfl, rfl, rfl, rfl, ?_, rfl⟩, Or.inl ⟨rfl, Or.inl rfl⟩⟩
    intro d hd
    dsimp only
    have : d = 0 ∨ d = 1 ∨ d = 2 ∨ d = 3 ∨ d = 4 ∨ d = 5 ∨ d = 6 := by omega
    rcases this with rfl | rfl | rfl | rfl | rfl | rfl | rfl <;> simp [upd]
  · rintro g s ⟨i, t, hi, ht, hx, -⟩
    unfold b_L_law_L18
    rw [hx, if_pos ((lt_5 hL (by omega)).mpr (by omega))]
    exact ⟨_, rfl, rfl⟩
  · rintro g j ⟨z_x3, z_f_x_imageKept, z_f_x_tablesRead, z_f_x_plansDone, z_f_x_safesDone, z_f_xP_size, z_v_xPl, z_f_xG_seen, z_f_xG_score, z_f_xG_strokes, z_f_xG_fouls, z_f_xGT_taken, z_f_xGT_size, z_f_xGT_spot, z_v_xGTc, z_v_xGTk, z_v_xGTw, z_v_xGb, z_v_xGd, z_v_xGe, z_v_xGf, z_f_xK_seen, z_f_xK_score, z_f_xK_strokes, z_f_xK_fouls, z_f_xKT_taken, z_f_xKT_size, z_f_xKT_spot, z_v_xKTc, z_v_xKTk, z_v_xKTw, z_v_xKb, z_v_xKd, z_v_xKe, z_v_xKf, z_f_xR_moves, z_f_xR_bounces, z_f_xR_potted, z_f_xR_brings, z_f_xR_firstHitDirection, z_f_xR_firstHitPower, z_f_xR_foul, z_f_xRT_taken, z_f_xRT_size, z_f_xRT_spot, z_v_xRTc, z_v_xRTk, z_v_xRTw, z_f_xA_chosen, z_f_xA_value, z_f_xAS_moves, z_f_xAS_bounces, z_f_xAS_potted, z_f_xAS_brings, z_f_xAS_firstHitDirection, z_f_xAS_firstHitPower, z_f_xAS_foul, z_f_xAST_taken, z_f_xAST_size, z_f_xAST_spot, z_v_xASTc, z_v_xASTk, z_v_xASTw, z_v_xUn, z_f_m_pageMany, z_f_m_balls, z_f_m_spot, z_f_m_score, z_f_m_strokesNow, z_f_m_fouls, z_f_m_tablesRead, z_f_m_potted, z_f_m_moves, z_f_m_bounces, z_f_m_hitFirst, z_f_m_hitPower, z_f_m_hitDown, z_f_m_hitRight, z_f_m_isFoul, z_f_m_bestCode, z_f_m_bestBrings, z_f_m_plansDone, z_f_m_safesDone, z_f_m_seenMany, z_f_m_seedNow, z_f_m_keptTable, z_f_m_keptScore, z_f_m_keptStrokes, z_f_m_keptFouls, z_f_m_keptSeen, z_f_m_hash, z_v_mP, z_v_mk, z_v_mw, z_v_mc, z_v_mo, z_v_mt, z_v_ms, z_v_mb, z_v_mK, z_v_mC, z_v_mS⟩ ⟨i, t, hi, ht, hx, hR⟩
    dsimp only at hx hR ⊢
    unfold b_L_law_L18
    subst hx
    by_cases hend : L < 5 * i + 5
    · rw [if_pos ((lt_5 hL (by omega)).mpr hend)]
      exact Or.inr ⟨_, rfl, rfl⟩
    rw [if_neg (fun z => hend ((lt_5 hL (by omega)).mp z))]
    left
    have ht9 : t < 1000 := by omega
    have hxs := t_x i (by omega)
    obtain ⟨rfl, rfl, hPg, hC1, hC2, rfl, rfl, rfl, hS, hK, hT, hP⟩ := hR
    simp only [gd, inb_nI (show 5 * i < L by omega) (by omega), hxs.1, hxs.2.1, hxs.2.2.1, hxs.2.2.2.1, hxs.2.2.2.2, inb_nI (show 5 * i + 1 < L by omega) (by omega), inb_nI (show 5 * i + 2 < L by omega) (by omega), inb_nI (show 5 * i + 3 < L by omega) (by omega), inb_nI (show 5 * i + 4 < L by omega) (by omega), if_true, bnd, jn]
    generalize xs (nI (5 * i)).toNatClampNeg &&& 31 = W
    by_cases hw0 : W = 0
    · rw [if_pos hw0]
      refine two_l (m_letter hPg _) (fun r r' h => ?_)
      rw [if_pos h.1]
      refine ⟨_, ?_, rfl⟩
      exact ⟨i + 1, t, by omega, by omega, rfl, rfl, rfl, h.2, hC1, hC2, rfl, rfl, rfl, hS, hK, hT, hP⟩
    rw [if_neg hw0]
    by_cases hw1 : W = 1
    · rw [if_pos hw1]
      refine two_l (m_blank hPg) (fun r r' h => ?_)
      rw [if_pos h.1]
      refine ⟨_, ?_, rfl⟩
      exact ⟨i + 1, t, by omega, by omega, rfl, rfl, rfl, h.2, hC1, hC2, rfl, rfl, rfl, hS, hK, hT, hP⟩
    rw [if_neg hw1]
    by_cases hw2 : W = 2
    · rw [if_pos hw2]
      refine two_l (m_fault hn hPg) (fun r r' h => ?_)
      rw [if_pos h]
      refine ⟨_, ?_, rfl⟩
      exact ⟨i + 1, t, by omega, by omega, rfl, rfl, rfl, hPg, hC1, hC2, rfl, rfl, rfl, hS, hK, hT, hP⟩
    rw [if_neg hw2]
    by_cases hw3 : W = 3
    · rw [if_pos hw3]
      refine two_l (m_table hn hPg hT hK hS hP) (fun r r' h => ?_)
      obtain ⟨h1, t2, ht2, q1, q2, q3, q4, q5, q6, q7, q8, q9, q10⟩ := h
      rw [if_pos h1]
      refine ⟨_, ?_, rfl⟩
      exact ⟨i + 1, t2, by omega, by omega, rfl, q1, q2, q3, hC1, hC2, q5, q6, q7, q4, q9, q8, q10⟩
    rw [if_neg hw3]
    by_cases hw4 : W = 4
    · rw [if_pos hw4]
      refine two_l (m_ball hn ht9 hT hK hS _ _) (fun r r' h => ?_)
      rw [if_pos h.1]
      refine ⟨_, ?_, rfl⟩
      exact ⟨i + 1, t, by omega, by omega, rfl, rfl, rfl, hPg, hC1, hC2, rfl, rfl, rfl, hS, hK, by rw [h.2]; exact hT, hP⟩
    rw [if_neg hw4]
    by_cases hw5 : W = 5
    · rw [if_pos hw5]
      refine two_l (m_as ht9 hT hK _ _) (fun r r' h => ?_)
      rw [if_pos h]
      refine ⟨_, ?_, rfl⟩
      exact ⟨i + 1, t, by omega, by omega, rfl, rfl, rfl, hPg, hC1, hC2, rfl, rfl, rfl, hS, hK, hT, hP⟩
    rw [if_neg hw5]
    by_cases hw6 : W = 6
    · rw [if_pos hw6]
      refine two_l (m_cell hn ht9 hT _) (fun r r' h => ?_)
      rw [if_pos h]
      refine ⟨_, ?_, rfl⟩
      exact ⟨i + 1, t, by omega, by omega, rfl, rfl, rfl, hPg, hC1, hC2, rfl, rfl, rfl, hS, hK, hT, hP⟩
    rw [if_neg hw6]
    by_cases hw7 : W = 7
    · rw [if_pos hw7]
      refine two_l (m_sees hn ht9 hT _) (fun r r' h => ?_)
      rw [if_pos h]
      refine ⟨_, ?_, rfl⟩
      exact ⟨i + 1, t, by omega, by omega, rfl, rfl, rfl, hPg, hC1, hC2, rfl, rfl, rfl, hS, hK, hT, hP⟩
    rw [if_neg hw7]
    by_cases hw8 : W = 8
    · rw [if_pos hw8]
      refine two_l (m_put hn ht9 hT _ _) (fun r r' h => ?_)
      rw [if_pos h.1]
      refine ⟨_, ?_, rfl⟩
      exact ⟨i + 1, t, by omega, by omega, rfl, rfl, rfl, hPg, hC1, hC2, rfl, rfl, rfl, hS, hK, h.2, hP⟩
    rw [if_neg hw8]
    by_cases hw9 : W = 9
    · rw [if_pos hw9]
      refine two_l (m_lift ht9 hT _) (fun r r' h => ?_)
      rw [if_pos h.1]
      refine ⟨_, ?_, rfl⟩
      exact ⟨i + 1, t, by omega, by omega, rfl, rfl, rfl, hPg, hC1, hC2, rfl, rfl, rfl, hS, hK, h.2, hP⟩
    rw [if_neg hw9]
    by_cases hw10 : W = 10
    · rw [if_pos hw10]
      refine two_l (m_change ht9 hT hK _ _) (fun r r' h => ?_)
      rw [if_pos h.1]
      refine ⟨_, ?_, rfl⟩
      exact ⟨i + 1, t, by omega, by omega, rfl, rfl, rfl, hPg, hC1, hC2, rfl, rfl, rfl, hS, h.2.2, h.2.1, hP⟩
    rw [if_neg hw10]
    by_cases hw11 : W = 11
    · rw [if_pos hw11]
      refine two_l (m_stroke hn ht9 hT hK _ _ _) (fun r r' h => ?_)
      rw [if_pos h.1]
      refine ⟨_, ?_, rfl⟩
      exact ⟨i + 1, t, by omega, by omega, rfl, rfl, rfl, hPg, hC1, hC2, h.2.1, h.2.2.1, h.2.2.2.1, hS, h.2.2.2.2.2, h.2.2.2.2.1, hP⟩
    rw [if_neg hw11]
    by_cases hw12 : W = 12
    · rw [if_pos hw12]
      refine two_l (m_would hn ht9 hT hK _ _ _ _) (fun r r' h => ?_)
      rw [if_pos h]
      refine ⟨_, ?_, rfl⟩
      exact ⟨i + 1, t, by omega, by omega, rfl, rfl, rfl, hPg, hC1, hC2, rfl, rfl, rfl, hS, hK, hT, hP⟩
    rw [if_neg hw12]
    by_cases hw13 : W = 13
    · rw [if_pos hw13]
      refine two_l (m_best hn ht9 hT hK _) (fun r r' h => ?_)
      rw [if_pos h]
      refine ⟨_, ?_, rfl⟩
      exact ⟨i + 1, t, by omega, by omega, rfl, rfl, rfl, hPg, hC1, hC2, rfl, rfl, rfl, hS, hK, hT, hP⟩
    rw [if_neg hw13]
    by_cases hw14 : W = 14
    · rw [if_pos hw14]
      refine two_l (m_plan hn ht9 hT hK hC1 _) (fun r r' h => ?_)
      rw [if_pos h.1]
      refine ⟨_, ?_, rfl⟩
      exact ⟨i + 1, t, by omega, by omega, rfl, rfl, rfl, hPg, h.2, hC2, rfl, rfl, rfl, hS, hK, hT, hP⟩
    rw [if_neg hw14]
    by_cases hw15 : W = 15
    · rw [if_pos hw15]
      refine two_l (m_safe hn ht9 hT hK hC2 _) (fun r r' h => ?_)
      rw [if_pos h.1]
      refine ⟨_, ?_, rfl⟩
      exact ⟨i + 1, t, by omega, by omega, rfl, rfl, rfl, hPg, hC1, h.2, rfl, rfl, rfl, hS, hK, hT, hP⟩
    rw [if_neg hw15]
    by_cases hw16 : W = 16
    · rw [if_pos hw16]
      refine two_l (m_wanted hn ht9 hT hK _) (fun r r' h => ?_)
      rw [if_pos ((lg_cmp_eq _ _).mpr h)]
      refine ⟨_, ?_, rfl⟩
      exact ⟨i + 1, t, by omega, by omega, rfl, rfl, rfl, hPg, hC1, hC2, rfl, rfl, rfl, hS, hK, hT, hP⟩
    rw [if_neg hw16]
    by_cases hw17 : W = 17
    · rw [if_pos hw17]
      refine two_l (m_see ht9 hT hS _ _ _ _) (fun r r' h => ?_)
      rw [if_pos h.1]
      refine ⟨_, ?_, rfl⟩
      exact ⟨i + 1, t, by omega, by omega, rfl, rfl, rfl, hPg, hC1, hC2, rfl, rfl, rfl, h.2, hK, hT, hP⟩
    rw [if_neg hw17]
    by_cases hw18 : W = 18
    · rw [if_pos hw18]
      refine two_l (m_forget hS) (fun r r' h => ?_)
      rw [if_pos h.1]
      refine ⟨_, ?_, rfl⟩
      exact ⟨i + 1, t, by omega, by omega, rfl, rfl, rfl, hPg, hC1, hC2, rfl, rfl, rfl, h.2, hK, hT, hP⟩
    rw [if_neg hw18]
    by_cases hw19 : W = 19
    · rw [if_pos hw19]
      refine two_l (m_frames hn ht9 hT hK _ _ _) (fun r r' h => ?_)
      rw [if_pos h]
      refine ⟨_, ?_, rfl⟩
      exact ⟨i + 1, t, by omega, by omega, rfl, rfl, rfl, hPg, hC1, hC2, rfl, rfl, rfl, hS, hK, hT, hP⟩
    rw [if_neg hw19]
    by_cases hw20 : W = 20
    · rw [if_pos hw20]
      refine two_l (m_image hn ht9 hT hK hS hP) (fun r r' h => ?_)
      rw [if_pos h.1]
      refine ⟨_, ?_, rfl⟩
      exact ⟨i + 1, t, by omega, by omega, rfl, rfl, rfl, hPg, hC1, hC2, rfl, rfl, rfl, hS, hK, hT, h.2⟩
    rw [if_neg hw20]
    by_cases hw21 : W = 21
    · rw [if_pos hw21]
      refine two_l (m_restore hn ht9 hT hK hS hP) (fun r r' h => ?_)
      rw [if_pos h.1]
      refine ⟨_, ?_, rfl⟩
      exact ⟨i + 1, t, by omega, by omega, rfl, rfl, rfl, hPg, hC1, hC2, h.2.2.1, h.2.2.2.1, h.2.2.2.2.1, h.2.1, h.2.2.2.2.2.2, h.2.2.2.2.2.1, hP⟩
    rw [if_neg hw21]
    by_cases hw22 : W = 22
    · rw [if_pos hw22]
      refine two_l (m_count hn ht9 hT hK hPg hC1 hC2 hS _) (fun r r' h => ?_)
      rw [if_pos h]
      refine ⟨_, ?_, rfl⟩
      exact ⟨i + 1, t, by omega, by omega, rfl, rfl, rfl, hPg, hC1, hC2, rfl, rfl, rfl, hS, hK, hT, hP⟩
    rw [if_neg hw22]
    by_cases hw23 : W = 23
    · rw [if_pos hw23]
      refine two_l (m_digest hn ht9 hT hK hPg hC1 hC2 hS) (fun r r' h => ?_)
      rw [if_pos ((lg_cmp_eq _ _).mpr h.1)]
      refine ⟨_, ?_, rfl⟩
      exact ⟨i + 1, t, by omega, by omega, rfl, rfl, rfl, hPg, hC1, hC2, rfl, rfl, rfl, hS, hK, by rw [h.2]; exact hT, hP⟩
    rw [if_neg hw23]
    refine ⟨_, ?_, rfl⟩
    exact ⟨i + 1, t, by omega, by omega, rfl, rfl, rfl, hPg, hC1, hC2, rfl, rfl, rfl, hS, hK, hT, hP⟩
