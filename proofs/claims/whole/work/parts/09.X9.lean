theorem tsw_0_3 {x : Int32} (h0 : ¬ x = 0) (h1 : ¬ x = 1) (h2 : ¬ x = 2) : x.toInt < 0 ∨ 2 < x.toInt := by
  have g0 : ¬ x.toInt = 0 := fun q => h0 (Int32.toInt_inj.mp (q.trans (by decide)))
  have g1 : ¬ x.toInt = 1 := fun q => h1 (Int32.toInt_inj.mp (q.trans (by decide)))
  have g2 : ¬ x.toInt = 2 := fun q => h2 (Int32.toInt_inj.mp (q.trans (by decide)))
  omega
theorem tsw_0_4 {x : Int32} (h0 : ¬ x = 0) (h1 : ¬ x = 1) (h2 : ¬ x = 2) (h3 : ¬ x = 3) : x.toInt < 0 ∨ 3 < x.toInt := by
  have g0 : ¬ x.toInt = 0 := fun q => h0 (Int32.toInt_inj.mp (q.trans (by decide)))
  have g1 : ¬ x.toInt = 1 := fun q => h1 (Int32.toInt_inj.mp (q.trans (by decide)))
  have g2 : ¬ x.toInt = 2 := fun q => h2 (Int32.toInt_inj.mp (q.trans (by decide)))
  have g3 : ¬ x.toInt = 3 := fun q => h3 (Int32.toInt_inj.mp (q.trans (by decide)))
  omega
theorem tsw_0_5 {x : Int32} (h0 : ¬ x = 0) (h1 : ¬ x = 1) (h2 : ¬ x = 2) (h3 : ¬ x = 3) (h4 : ¬ x = 4) : x.toInt < 0 ∨ 4 < x.toInt := by
  have g0 : ¬ x.toInt = 0 := fun q => h0 (Int32.toInt_inj.mp (q.trans (by decide)))
  have g1 : ¬ x.toInt = 1 := fun q => h1 (Int32.toInt_inj.mp (q.trans (by decide)))
  have g2 : ¬ x.toInt = 2 := fun q => h2 (Int32.toInt_inj.mp (q.trans (by decide)))
  have g3 : ¬ x.toInt = 3 := fun q => h3 (Int32.toInt_inj.mp (q.trans (by decide)))
  have g4 : ¬ x.toInt = 4 := fun q => h4 (Int32.toInt_inj.mp (q.trans (by decide)))
  omega
theorem tsw_0_6 {x : Int32} (h0 : ¬ x = 0) (h1 : ¬ x = 1) (h2 : ¬ x = 2) (h3 : ¬ x = 3) (h4 : ¬ x = 4) (h5 : ¬ x = 5) : x.toInt < 0 ∨ 5 < x.toInt := by
  have g0 : ¬ x.toInt = 0 := fun q => h0 (Int32.toInt_inj.mp (q.trans (by decide)))
  have g1 : ¬ x.toInt = 1 := fun q => h1 (Int32.toInt_inj.mp (q.trans (by decide)))
  have g2 : ¬ x.toInt = 2 := fun q => h2 (Int32.toInt_inj.mp (q.trans (by decide)))
  have g3 : ¬ x.toInt = 3 := fun q => h3 (Int32.toInt_inj.mp (q.trans (by decide)))
  have g4 : ¬ x.toInt = 4 := fun q => h4 (Int32.toInt_inj.mp (q.trans (by decide)))
  have g5 : ¬ x.toInt = 5 := fun q => h5 (Int32.toInt_inj.mp (q.trans (by decide)))
  omega
theorem tsw_0_14 {x : Int32} (h0 : ¬ x = 0) (h1 : ¬ x = 1) (h2 : ¬ x = 2) (h3 : ¬ x = 3) (h4 : ¬ x = 4) (h5 : ¬ x = 5) (h6 : ¬ x = 6) (h7 : ¬ x = 7) (h8 : ¬ x = 8) (h9 : ¬ x = 9) (h10 : ¬ x = 10) (h11 : ¬ x = 11) (h12 : ¬ x = 12) (h13 : ¬ x = 13) : x.toInt < 0 ∨ 13 < x.toInt := by
  have g0 : ¬ x.toInt = 0 := fun q => h0 (Int32.toInt_inj.mp (q.trans (by decide)))
  have g1 : ¬ x.toInt = 1 := fun q => h1 (Int32.toInt_inj.mp (q.trans (by decide)))
  have g2 : ¬ x.toInt = 2 := fun q => h2 (Int32.toInt_inj.mp (q.trans (by decide)))
  have g3 : ¬ x.toInt = 3 := fun q => h3 (Int32.toInt_inj.mp (q.trans (by decide)))
  have g4 : ¬ x.toInt = 4 := fun q => h4 (Int32.toInt_inj.mp (q.trans (by decide)))
  have g5 : ¬ x.toInt = 5 := fun q => h5 (Int32.toInt_inj.mp (q.trans (by decide)))
  have g6 : ¬ x.toInt = 6 := fun q => h6 (Int32.toInt_inj.mp (q.trans (by decide)))
  have g7 : ¬ x.toInt = 7 := fun q => h7 (Int32.toInt_inj.mp (q.trans (by decide)))
  have g8 : ¬ x.toInt = 8 := fun q => h8 (Int32.toInt_inj.mp (q.trans (by decide)))
  have g9 : ¬ x.toInt = 9 := fun q => h9 (Int32.toInt_inj.mp (q.trans (by decide)))
  have g10 : ¬ x.toInt = 10 := fun q => h10 (Int32.toInt_inj.mp (q.trans (by decide)))
  have g11 : ¬ x.toInt = 11 := fun q => h11 (Int32.toInt_inj.mp (q.trans (by decide)))
  have g12 : ¬ x.toInt = 12 := fun q => h12 (Int32.toInt_inj.mp (q.trans (by decide)))
  have g13 : ¬ x.toInt = 13 := fun q => h13 (Int32.toInt_inj.mp (q.trans (by decide)))
  omega
def f_X9_begin (f_sT_taken : Int64) (f_sT_size : Int32) (f_sT_spot : Int32) (v_sTc : Nat → Int32) (v_sTk : Nat → Int32) (v_sTw : Nat → Int32) (f_o_taken : Int64) (f_o_size : Int32) (f_o_spot : Int32) (v_oc : Nat → Int32) (v_ok : Nat → Int32) (v_ow : Nat → Int32) : Option (Int64 × Int32 × Int32 × (Nat → Int32) × (Nat → Int32) × (Nat → Int32)) :=
  ((f_X10_copy f_sT_taken f_sT_size f_sT_spot v_sTc v_sTk v_sTw f_o_taken f_o_size f_o_spot v_oc v_ok v_ow).bind (fun u_1 => (some (u_1.1, u_1.2.1, u_1.2.2.1, u_1.2.2.2.1, u_1.2.2.2.2.1, u_1.2.2.2.2.2))))
theorem hd_X9_begin : yX9_begin.cls ≠ "java/lang/invoke/MethodHandle" ∧ yX9_begin.cls ≠ "java/lang/invoke/VarHandle" ∧ (parseMethodDescriptor yX9_begin.desc).map (fun d => d.parameters.length) = some 1 := ⟨by decide +kernel, by decide +kernel, by decide +kernel⟩
set_option maxHeartbeats 4000000 in
set_option maxRecDepth 100000 in
theorem c_X9_begin (X : CXp) (l : Launch) (a_s a_sT a_sTc a_sTk a_sTw a_kb a_o a_oc a_ok a_ow : Nat) (f_s_moves : Int32) (f_s_bounces : Int32) (f_s_potted : Int32) (f_s_brings : Int32) (f_s_firstHitDirection : Int32) (f_s_firstHitPower : Int32) (f_s_foul : Int32) (f_sT_taken : Int64) (f_sT_size : Int32) (f_sT_spot : Int32) (v_sTc : Nat → Int32) (v_sTk : Nat → Int32) (v_sTw : Nat → Int32) (f_o_taken : Int64) (f_o_size : Int32) (f_o_spot : Int32) (v_oc : Nat → Int32) (v_ok : Nat → Int32) (v_ow : Nat → Int32) (res : Int64 × Int32 × Int32 × (Nat → Int32) × (Nat → Int32) × (Nat → Int32)) (h : f_X9_begin f_sT_taken f_sT_size f_sT_spot v_sTc v_sTk v_sTw f_o_taken f_o_size f_o_spot v_oc v_ok v_ow = some res) : CTg X l yX9_begin cX9_begin 2 none 2 61 [.ref a_s, .ref a_o] [(a_s, .inr (9, [.ref a_sT, .ref a_kb, .int f_s_moves, .int f_s_bounces, .int f_s_potted, .int f_s_brings, .int f_s_firstHitDirection, .int f_s_firstHitPower, .int f_s_foul])), (a_sT, .inr (10, [.ref a_sTc, .ref a_sTk, .ref a_sTw, .long f_sT_taken, .int f_sT_size, .int f_sT_spot])), (a_sTc, .inl (xI X, 7, .inl v_sTc)), (a_sTk, .inl (xI X, 7, .inl v_sTk)), (a_sTw, .inl (xI X, 7, .inl v_sTw)), (a_o, .inr (10, [.ref a_oc, .ref a_ok, .ref a_ow, .long f_o_taken, .int f_o_size, .int f_o_spot])), (a_oc, .inl (xI X, 7, .inl v_oc)), (a_ok, .inl (xI X, 7, .inl v_ok)), (a_ow, .inl (xI X, 7, .inl v_ow))] (QcV X [(a_s, .inr (9, [.ref a_sT, .ref a_kb, .int f_s_moves, .int f_s_bounces, .int f_s_potted, .int f_s_brings, .int f_s_firstHitDirection, .int f_s_firstHitPower, .int f_s_foul])), (a_sT, .inr (10, [.ref a_sTc, .ref a_sTk, .ref a_sTw, .long res.1, .int res.2.1, .int res.2.2.1])), (a_sTc, .inl (xI X, 7, .inl res.2.2.2.1)), (a_sTk, .inl (xI X, 7, .inl res.2.2.2.2.1)), (a_sTw, .inl (xI X, 7, .inl res.2.2.2.2.2)), (a_o, .inr (10, [.ref a_oc, .ref a_ok, .ref a_ow, .long f_o_taken, .int f_o_size, .int f_o_spot])), (a_oc, .inl (xI X, 7, .inl v_oc)), (a_ok, .inl (xI X, 7, .inl v_ok)), (a_ow, .inl (xI X, 7, .inl v_ow))]) := by
  refine CTg.mk (own := RX9) (by decide) rfl (Nat.le_of_ble_eq_true rfl) ?_
  intro p e s m args below meth c A hB hP hD hS ls hl
  obtain ⟨hx, hb, hr, hml, hown, hts, hlocks, hcx, hA, hAB⟩ := id hB
  have hK := hcx.1
  generalize hQ : MQ below (QcV X [(a_s, .inr (9, [.ref a_sT, .ref a_kb, .int f_s_moves, .int f_s_bounces, .int f_s_potted, .int f_s_brings, .int f_s_firstHitDirection, .int f_s_firstHitPower, .int f_s_foul])), (a_sT, .inr (10, [.ref a_sTc, .ref a_sTk, .ref a_sTw, .long res.1, .int res.2.1, .int res.2.2.1])), (a_sTc, .inl (xI X, 7, .inl res.2.2.2.1)), (a_sTk, .inl (xI X, 7, .inl res.2.2.2.2.1)), (a_sTw, .inl (xI X, 7, .inl res.2.2.2.2.2)), (a_o, .inr (10, [.ref a_oc, .ref a_ok, .ref a_ow, .long f_o_taken, .int f_o_size, .int f_o_spot])), (a_oc, .inl (xI X, 7, .inl v_oc)), (a_ok, .inl (xI X, 7, .inl v_ok)), (a_ow, .inl (xI X, 7, .inl v_ow))] A) args s 0 0 A = Q
  replace hl : lv_has ls 2 [(0, .ref a_s), (1, .ref a_o)] := hl
  unfold f_X9_begin at h
  refine lv_aload_n hx hb dX9_begin_0 rfl (lv_at hl 0 rfl) ?_
  refine va_get (D := xD X) (ci := 9) (v := .ref a_sT) (C := RX9) (T := TX9) (N := 9) hx hb hts inX9 hown hK hP 0 rfl rfl 0 (by decide) (hts _ wq_1_167) (fun _ h9 => h9) rfl dX9_begin_1 ?_
  refine lv_aload_n hx hb dX9_begin_4 rfl (lv_at hl 1 rfl) ?_
  obtain ⟨u_1, hu_1, h⟩ := ob_s h
  refine cVv (C := RX10) (As := [.ref a_o]) (rest := []) [(a_s, .inr (9, [.ref a_sT, .ref a_kb, .int f_s_moves, .int f_s_bounces, .int f_s_potted, .int f_s_brings, .int f_s_firstHitDirection, .int f_s_firstHitPower, .int f_s_foul])), (a_sT, .inr (10, [.ref a_sTc, .ref a_sTk, .ref a_sTw, .long u_1.1, .int u_1.2.1, .int u_1.2.2.1])), (a_sTc, .inl (xI X, 7, .inl u_1.2.2.2.1)), (a_sTk, .inl (xI X, 7, .inl u_1.2.2.2.2.1)), (a_sTw, .inl (xI X, 7, .inl u_1.2.2.2.2.2)), (a_o, .inr (10, [.ref a_oc, .ref a_ok, .ref a_ow, .long f_o_taken, .int f_o_size, .int f_o_spot])), (a_oc, .inl (xI X, 7, .inl v_oc)), (a_ok, .inl (xI X, 7, .inl v_ok)), (a_ow, .inl (xI X, 7, .inl v_ow))] hB (c_X10_copy X l a_sT a_sTc a_sTk a_sTw a_o a_oc a_ok a_ow f_sT_taken f_sT_size f_sT_spot v_sTc v_sTk v_sTw f_o_taken f_o_size f_o_spot v_oc v_ok v_ow u_1 hu_1) wq_3_9 wq_1_9 wq_3_6 wq_3_7 wq_3_8 hd_X10_copy (by decide) hP hD hS hl.1 [1, 2, 3, 4, 5, 6, 7, 8] [0] [(a_s, .inr (9, [.ref a_sT, .ref a_kb, .int f_s_moves, .int f_s_bounces, .int f_s_potted, .int f_s_brings, .int f_s_firstHitDirection, .int f_s_firstHitPower, .int f_s_foul]))] rfl (by decide +kernel) rfl rfl rfl (nn := 9) rfl (by decide +kernel) [a_s, a_sT, a_sTc, a_sTk, a_sTw, a_o, a_oc, a_ok, a_ow] rfl rfl (q0 := 1) rfl rfl rfl rfl (Nat.le_of_ble_eq_true rfl) dX9_begin_5 ⟨Nat.zero_le _, Nat.zero_le _⟩ (fun H locs hP hD hS => ?_)
  obtain rfl := Option.some.inj h
  rw [← hQ]
  exact retV hB hS hP dX9_begin_8


def f_X9_kind (p1 : Int32) : Option (Nat) :=
  (jn (fun (k_1 : Int32) => (gd (inb k_1 5) (some k_1.toNatClampNeg))) (fun (j22_2 : Int32 → Option (Nat)) => (jn ((j22_2 0)) (fun (j21_4 : Option (Nat)) => (if p1 < 0 then j21_4 else (if 5 ≤ p1 then j21_4 else (j22_2 p1)))))))
theorem hd_X9_kind : yX9_kind.cls ≠ "java/lang/invoke/MethodHandle" ∧ yX9_kind.cls ≠ "java/lang/invoke/VarHandle" ∧ (parseMethodDescriptor yX9_kind.desc).map (fun d => d.parameters.length) = some 1 := ⟨by decide +kernel, by decide +kernel, by decide +kernel⟩
set_option maxHeartbeats 4000000 in
set_option maxRecDepth 100000 in
theorem c_X9_kind (X : CXp) (l : Launch) (a_s a_sT a_kb : Nat) (a_b : Nat → Nat) (f_s_moves : Int32) (f_s_bounces : Int32) (f_s_potted : Int32) (f_s_brings : Int32) (f_s_firstHitDirection : Int32) (f_s_firstHitPower : Int32) (f_s_foul : Int32) (p1 : Int32) (res : Nat) (h : f_X9_kind p1 = some res) : CTg X l yX9_kind cX9_kind 2 (some (.object "WhiteWanted$Ball")) 0 0 [.ref a_s, .int p1] [(a_s, .inr (9, [.ref a_sT, .ref a_kb, .int f_s_moves, .int f_s_bounces, .int f_s_potted, .int f_s_brings, .int f_s_firstHitDirection, .int f_s_firstHitPower, .int f_s_foul])), (a_kb, .inl (xB X, 5, .inr (.inr (.inr (.inr (fun j => some (a_b j)))))))] (QcR X (a_b res) [(a_s, .inr (9, [.ref a_sT, .ref a_kb, .int f_s_moves, .int f_s_bounces, .int f_s_potted, .int f_s_brings, .int f_s_firstHitDirection, .int f_s_firstHitPower, .int f_s_foul])), (a_kb, .inl (xB X, 5, .inr (.inr (.inr (.inr (fun j => some (a_b j)))))))]) := by
  refine CTg.mk (own := RX9) (by decide) rfl (Nat.le_of_ble_eq_true rfl) ?_
  intro p e s m args below meth c A hB hP hD hS ls hl
  obtain ⟨hx, hb, hr, hml, hown, hts, hlocks, hcx, hA, hAB⟩ := id hB
  have hK := hcx.1
  generalize hQ : MQ below (QcR X (a_b res) [(a_s, .inr (9, [.ref a_sT, .ref a_kb, .int f_s_moves, .int f_s_bounces, .int f_s_potted, .int f_s_brings, .int f_s_firstHitDirection, .int f_s_firstHitPower, .int f_s_foul])), (a_kb, .inl (xB X, 5, .inr (.inr (.inr (.inr (fun j => some (a_b j)))))))] A) args s 0 0 A = Q
  replace hl : lv_has ls 2 [(0, .ref a_s), (1, .int p1)] := hl
  unfold f_X9_kind at h
  refine lv_aload_n hx hb dX9_kind_0 rfl (lv_at hl 0 rfl) ?_
  refine va_get (D := xD X) (ci := 9) (v := .ref a_kb) (C := RX9) (T := TX9) (N := 9) hx hb hts inX9 hown hK hP 0 rfl rfl 1 (by decide) (hts _ wq_1_172) (fun _ h9 => h9) rfl dX9_kind_1 ?_
  refine lv_iload_n hx hb dX9_kind_4 rfl (lv_at hl 1 rfl) ?_
  obtain ⟨j22_2, ej22_2, h⟩ := jn_s h
  have J22_2 : ∀ (k_1 : Int32), j22_2 k_1 = some res → ∀ (H : Heap) (locs : List Loc) (ls : Array Slot), va_P (xD X) vwCl [(a_s, .inr (9, [.ref a_sT, .ref a_kb, .int f_s_moves, .int f_s_bounces, .int f_s_potted, .int f_s_brings, .int f_s_firstHitDirection, .int f_s_firstHitPower, .int f_s_foul])), (a_kb, .inl (xB X, 5, .inr (.inr (.inr (.inr (fun j => some (a_b j)))))))] H → va_D A [(a_s, .inr (9, [.ref a_sT, .ref a_kb, .int f_s_moves, .int f_s_bounces, .int f_s_potted, .int f_s_brings, .int f_s_firstHitDirection, .int f_s_firstHitPower, .int f_s_foul])), (a_kb, .inl (xB X, 5, .inr (.inr (.inr (.inr (fun j => some (a_b j)))))))] → va_S A s.heap H locs → lv_has ls 2 [] → W p l e (rmF 0 0) s m args below meth c H locs 0 0 Q (F0 m 22 ls [.int k_1, .ref a_kb]) := by
    clear h
    intro k_1 h H locs ls hP hD hS hl
    rw [ej22_2] at h
    replace h := id h
    obtain ⟨z_3, h⟩ := gd_s h
    refine va_aldq hx hb hK hP 1 1 rfl rfl (inb_vp z_3) dX9_kind_22 ?_
    obtain rfl := Option.some.inj h
    rw [← hQ]
    exact retR hB hS hP dX9_kind_23
  clear ej22_2
  obtain ⟨j21_4, ej21_4, h⟩ := jn_s h
  have J21_4 : j21_4 = some res → ∀ (H : Heap) (locs : List Loc) (ls : Array Slot), va_P (xD X) vwCl [(a_s, .inr (9, [.ref a_sT, .ref a_kb, .int f_s_moves, .int f_s_bounces, .int f_s_potted, .int f_s_brings, .int f_s_firstHitDirection, .int f_s_firstHitPower, .int f_s_foul])), (a_kb, .inl (xB X, 5, .inr (.inr (.inr (.inr (fun j => some (a_b j)))))))] H → va_D A [(a_s, .inr (9, [.ref a_sT, .ref a_kb, .int f_s_moves, .int f_s_bounces, .int f_s_potted, .int f_s_brings, .int f_s_firstHitDirection, .int f_s_firstHitPower, .int f_s_foul])), (a_kb, .inl (xB X, 5, .inr (.inr (.inr (.inr (fun j => some (a_b j)))))))] → va_S A s.heap H locs → lv_has ls 2 [] → W p l e (rmF 0 0) s m args below meth c H locs 0 0 Q (F0 m 21 ls [.ref a_kb]) := by
    clear h
    intro h H locs ls hP hD hS hl
    rw [ej21_4] at h
    refine lv_iconst (v := 0) hx hb dX9_kind_21 (by decide) ?_
    exact J22_2 0 h _ _ _ hP hD hS (lv_sub hl [] rfl)
  clear ej21_4
  refine lv_if_lt (tgt := 21) hx hb dX9_kind_5 (by decide) (fun c_5 => ?_) (fun c_5 => ?_)
  · replace h := it_p c_5 h
    exact J21_4 h _ _ _ hP hD hS (lv_sub hl [] rfl)
  · replace h := it_n c_5 h
    refine lv_iload_n hx hb dX9_kind_8 rfl (lv_at hl 1 rfl) ?_
    refine lv_aload_n hx hb dX9_kind_9 rfl (lv_at hl 0 rfl) ?_
    refine va_get (D := xD X) (ci := 9) (v := .ref a_kb) (C := RX9) (T := TX9) (N := 9) hx hb hts inX9 hown hK hP 0 rfl rfl 1 (by decide) (hts _ wq_1_172) (fun _ h9 => h9) rfl dX9_kind_10 ?_
    refine va_alen (v := 5) hx hb hK hP 1 1 rfl rfl rfl dX9_kind_13 ?_
    refine lv_icmp_ge (tgt := 21) hx hb dX9_kind_14 (by decide) (fun c_6 => ?_) (fun c_6 => ?_)
    · replace h := it_p c_6 h
      exact J21_4 h _ _ _ hP hD hS (lv_sub hl [] rfl)
    · replace h := it_n c_6 h
      refine lv_iload_n hx hb dX9_kind_17 rfl (lv_at hl 1 rfl) ?_
      refine lv_goto (tgt := 22) hx hb dX9_kind_18 (by decide) ?_
      exact J22_2 p1 h _ _ _ hP hD hS (lv_sub hl [] rfl)


def f_X9_turned (p0 : Int32) (p1 : Int32) (p2 : Int32) : Option (Int32) :=
  (jn (fun (x3_1 : Int32) => (if p2 = 0 then (some x3_1) else (bnd ((-x3_1) &&& 7) (fun x3_4 => (some x3_4))))) (fun (j13_2 : Int32 → Option (Int32)) => (if p1 = 0 then (j13_2 p0) else (bnd ((4 - p0) &&& 7) (fun x3_6 => (j13_2 x3_6))))))
theorem hd_X9_turned : yX9_turned.cls ≠ "java/lang/invoke/MethodHandle" ∧ yX9_turned.cls ≠ "java/lang/invoke/VarHandle" ∧ (parseMethodDescriptor yX9_turned.desc).map (fun d => d.parameters.length) = some 3 := ⟨by decide +kernel, by decide +kernel, by decide +kernel⟩
set_option maxHeartbeats 4000000 in
set_option maxRecDepth 100000 in
theorem c_X9_turned (X : CXp) (l : Launch) (p0 : Int32) (p1 : Int32) (p2 : Int32) (res : Int32) (h : f_X9_turned p0 p1 p2 = some res) : CTg X l yX9_turned cX9_turned 4 (some .int) 0 0 [.int p0, .int p1, .int p2] [] (QcI X res []) := by
  refine CTg.mk (own := RX9) (by decide) rfl (Nat.le_of_ble_eq_true rfl) ?_
  intro p e s m args below meth c A hB hP hD hS ls hl
  obtain ⟨hx, hb, hr, hml, hown, hts, hlocks, hcx, hA, hAB⟩ := id hB
  have hK := hcx.1
  generalize hQ : MQ below (QcI X res [] A) args s 0 0 A = Q
  replace hl : lv_has ls 4 [(0, .int p0), (1, .int p1), (2, .int p2)] := hl
  unfold f_X9_turned at h
  refine lv_iload_n hx hb dX9_turned_0 rfl (lv_at hl 0 rfl) ?_
  refine lv_istore_n (lv' := [(3, .int p0), (0, .int p0), (1, .int p1), (2, .int p2)]) hx hb dX9_turned_1 rfl hl (by decide) rfl (fun ls hl => ?_)
  refine lv_iload_n hx hb dX9_turned_2 rfl (lv_at hl 2 rfl) ?_
  obtain ⟨j13_2, ej13_2, h⟩ := jn_s h
  have J13_2 : ∀ (x3_1 : Int32), j13_2 x3_1 = some res → ∀ (H : Heap) (locs : List Loc) (ls : Array Slot), va_P (xD X) vwCl [] H → va_D A [] → va_S A s.heap H locs → lv_has ls 4 [(2, .int p2), (3, .int x3_1)] → W p l e (rmF 0 0) s m args below meth c H locs 0 0 Q (F0 m 13 ls []) := by
    clear h
    intro x3_1 h H locs ls hP hD hS hl
    rw [ej13_2] at h
    replace h := id h
    refine lv_iload_n hx hb dX9_turned_13 rfl (lv_at hl 0 rfl) ?_
    refine lv_if_eq (tgt := 23) hx hb dX9_turned_14 (by decide) (fun c_3 => ?_) (fun c_3 => ?_)
    · replace h := it_p c_3 h
      refine lv_iload_n hx hb dX9_turned_23 rfl (lv_at hl 1 rfl) ?_
      obtain rfl := Option.some.inj h
      rw [← hQ]
      exact retI hB hS hP dX9_turned_24
    · replace h := it_n c_3 h
      refine lv_iload_n hx hb dX9_turned_17 rfl (lv_at hl 1 rfl) ?_
      refine lv_ineg hx hb dX9_turned_18 ?_
      refine lv_bipush (v := 7) hx hb dX9_turned_19 (by decide) ?_
      refine lv_iand hx hb dX9_turned_21 ?_
      refine lv_topi (fun x3_4 ex3_4 => ?_)
      replace h := bn_s h ex3_4
      refine lv_istore_n (lv' := [(3, .int x3_4), (2, .int p2)]) hx hb dX9_turned_22 rfl hl (by decide) rfl (fun ls hl => ?_)
      refine lv_iload_n hx hb dX9_turned_23 rfl (lv_at hl 0 rfl) ?_
      obtain rfl := Option.some.inj h
      rw [← hQ]
      exact retI hB hS hP dX9_turned_24
  clear ej13_2
  refine lv_if_eq (tgt := 13) hx hb dX9_turned_3 (by decide) (fun c_5 => ?_) (fun c_5 => ?_)
  · replace h := it_p c_5 h
    exact J13_2 p0 h _ _ _ hP hD hS (lv_sub hl [3, 0] rfl)
  · replace h := it_n c_5 h
    refine lv_iconst (v := 4) hx hb dX9_turned_6 (by decide) ?_
    refine lv_iload_n hx hb dX9_turned_7 rfl (lv_at hl 0 rfl) ?_
    refine lv_isub hx hb dX9_turned_8 ?_
    refine lv_bipush (v := 7) hx hb dX9_turned_9 (by decide) ?_
    refine lv_iand hx hb dX9_turned_11 ?_
    refine lv_topi (fun x3_6 ex3_6 => ?_)
    replace h := bn_s h ex3_6
    refine lv_istore_n (lv' := [(3, .int x3_6), (0, .int p0), (1, .int p1), (2, .int p2)]) hx hb dX9_turned_12 rfl hl (by decide) rfl (fun ls hl => ?_)
    exact J13_2 x3_6 h _ _ _ hP hD hS (lv_sub hl [3, 0] rfl)


def f_X9_noteWhiteHit (f_s_firstHitDirection : Int32) (f_s_firstHitPower : Int32) (p1 : Int32) (p2 : Int32) : Option (Int32 × Int32) :=
  (if f_s_firstHitDirection = (-1) then (some (p1, p2)) else (some (f_s_firstHitDirection, f_s_firstHitPower)))
theorem hd_X9_noteWhiteHit : yX9_noteWhiteHit.cls ≠ "java/lang/invoke/MethodHandle" ∧ yX9_noteWhiteHit.cls ≠ "java/lang/invoke/VarHandle" ∧ (parseMethodDescriptor yX9_noteWhiteHit.desc).map (fun d => d.parameters.length) = some 2 := ⟨by decide +kernel, by decide +kernel, by decide +kernel⟩
set_option maxHeartbeats 4000000 in
set_option maxRecDepth 100000 in
theorem c_X9_noteWhiteHit (X : CXp) (l : Launch) (a_s a_sT a_kb : Nat) (f_s_moves : Int32) (f_s_bounces : Int32) (f_s_potted : Int32) (f_s_brings : Int32) (f_s_firstHitDirection : Int32) (f_s_firstHitPower : Int32) (f_s_foul : Int32) (p1 : Int32) (p2 : Int32) (res : Int32 × Int32) (h : f_X9_noteWhiteHit f_s_firstHitDirection f_s_firstHitPower p1 p2 = some res) : CTg X l yX9_noteWhiteHit cX9_noteWhiteHit 3 none 0 0 [.ref a_s, .int p1, .int p2] [(a_s, .inr (9, [.ref a_sT, .ref a_kb, .int f_s_moves, .int f_s_bounces, .int f_s_potted, .int f_s_brings, .int f_s_firstHitDirection, .int f_s_firstHitPower, .int f_s_foul]))] (QcV X [(a_s, .inr (9, [.ref a_sT, .ref a_kb, .int f_s_moves, .int f_s_bounces, .int f_s_potted, .int f_s_brings, .int res.1, .int res.2, .int f_s_foul]))]) := by
  refine CTg.mk (own := RX9) (by decide) rfl (Nat.le_of_ble_eq_true rfl) ?_
  intro p e s m args below meth c A hB hP hD hS ls hl
  obtain ⟨hx, hb, hr, hml, hown, hts, hlocks, hcx, hA, hAB⟩ := id hB
  have hK := hcx.1
  generalize hQ : MQ below (QcV X [(a_s, .inr (9, [.ref a_sT, .ref a_kb, .int f_s_moves, .int f_s_bounces, .int f_s_potted, .int f_s_brings, .int res.1, .int res.2, .int f_s_foul]))] A) args s 0 0 A = Q
  replace hl : lv_has ls 3 [(0, .ref a_s), (1, .int p1), (2, .int p2)] := hl
  unfold f_X9_noteWhiteHit at h
  refine lv_aload_n hx hb dX9_noteWhiteHit_0 rfl (lv_at hl 0 rfl) ?_
  refine va_get (D := xD X) (ci := 9) (v := .int f_s_firstHitDirection) (C := RX9) (T := TX9) (N := 9) hx hb hts inX9 hown hK hP 0 rfl rfl 6 (by decide) (hts _ wq_1_180) (fun _ h9 => h9) rfl dX9_noteWhiteHit_1 ?_
  refine lv_iconst (v := (-1)) hx hb dX9_noteWhiteHit_4 (by decide) ?_
  refine lv_icmp_eq (tgt := 9) hx hb dX9_noteWhiteHit_5 (by decide) (fun c_1 => ?_) (fun c_1 => ?_)
  · replace h := it_p c_1 h
    refine lv_aload_n hx hb dX9_noteWhiteHit_9 rfl (lv_at hl 0 rfl) ?_
    refine lv_iload_n hx hb dX9_noteWhiteHit_10 rfl (lv_at hl 1 rfl) ?_
    refine va_put (D := xD X) (ci := 9) (v := .int p1) (ty := .int) (C := RX9) (T := TX9) (N := 9) hx hb hts inX9 tyX9 tyX9_ok nmX9 hown hK hP hD hS 0 rfl rfl 6 (by decide) (hts _ wq_1_180) (fun _ h9 => h9) rfl (by decide +kernel) rfl rfl (Nat.le_of_ble_eq_true rfl) dX9_noteWhiteHit_11 (fun H locs (hP : va_P (xD X) vwCl [(a_s, .inr (9, [.ref a_sT, .ref a_kb, .int f_s_moves, .int f_s_bounces, .int f_s_potted, .int f_s_brings, .int p1, .int f_s_firstHitPower, .int f_s_foul]))] H) (hD : va_D A [(a_s, .inr (9, [.ref a_sT, .ref a_kb, .int f_s_moves, .int f_s_bounces, .int f_s_potted, .int f_s_brings, .int p1, .int f_s_firstHitPower, .int f_s_foul]))]) hS => ?_)
    refine lv_aload_n hx hb dX9_noteWhiteHit_14 rfl (lv_at hl 0 rfl) ?_
    refine lv_iload_n hx hb dX9_noteWhiteHit_15 rfl (lv_at hl 2 rfl) ?_
    refine va_put (D := xD X) (ci := 9) (v := .int p2) (ty := .int) (C := RX9) (T := TX9) (N := 9) hx hb hts inX9 tyX9 tyX9_ok nmX9 hown hK hP hD hS 0 rfl rfl 7 (by decide) (hts _ wq_1_181) (fun _ h9 => h9) rfl (by decide +kernel) rfl rfl (Nat.le_of_ble_eq_true rfl) dX9_noteWhiteHit_16 (fun H locs (hP : va_P (xD X) vwCl [(a_s, .inr (9, [.ref a_sT, .ref a_kb, .int f_s_moves, .int f_s_bounces, .int f_s_potted, .int f_s_brings, .int p1, .int p2, .int f_s_foul]))] H) (hD : va_D A [(a_s, .inr (9, [.ref a_sT, .ref a_kb, .int f_s_moves, .int f_s_bounces, .int f_s_potted, .int f_s_brings, .int p1, .int p2, .int f_s_foul]))]) hS => ?_)
    obtain rfl := Option.some.inj h
    rw [← hQ]
    exact retV hB hS hP dX9_noteWhiteHit_19
  · replace h := it_n c_1 h
    obtain rfl := Option.some.inj h
    rw [← hQ]
    exact retV hB hS hP dX9_noteWhiteHit_8


def f_X9_notePotted (f_s_potted : Int32) (p1 : Int32) : Option (Int32) :=
  (some (f_s_potted ||| (1 <<< (p1 &&& 31))))
theorem hd_X9_notePotted : yX9_notePotted.cls ≠ "java/lang/invoke/MethodHandle" ∧ yX9_notePotted.cls ≠ "java/lang/invoke/VarHandle" ∧ (parseMethodDescriptor yX9_notePotted.desc).map (fun d => d.parameters.length) = some 1 := ⟨by decide +kernel, by decide +kernel, by decide +kernel⟩
set_option maxHeartbeats 4000000 in
set_option maxRecDepth 100000 in
theorem c_X9_notePotted (X : CXp) (l : Launch) (a_s a_sT a_kb : Nat) (f_s_moves : Int32) (f_s_bounces : Int32) (f_s_potted : Int32) (f_s_brings : Int32) (f_s_firstHitDirection : Int32) (f_s_firstHitPower : Int32) (f_s_foul : Int32) (p1 : Int32) (res : Int32) (h : f_X9_notePotted f_s_potted p1 = some res) : CTg X l yX9_notePotted cX9_notePotted 2 none 0 0 [.ref a_s, .int p1] [(a_s, .inr (9, [.ref a_sT, .ref a_kb, .int f_s_moves, .int f_s_bounces, .int f_s_potted, .int f_s_brings, .int f_s_firstHitDirection, .int f_s_firstHitPower, .int f_s_foul]))] (QcV X [(a_s, .inr (9, [.ref a_sT, .ref a_kb, .int f_s_moves, .int f_s_bounces, .int res, .int f_s_brings, .int f_s_firstHitDirection, .int f_s_firstHitPower, .int f_s_foul]))]) := by
  refine CTg.mk (own := RX9) (by decide) rfl (Nat.le_of_ble_eq_true rfl) ?_
  intro p e s m args below meth c A hB hP hD hS ls hl
  obtain ⟨hx, hb, hr, hml, hown, hts, hlocks, hcx, hA, hAB⟩ := id hB
  have hK := hcx.1
  generalize hQ : MQ below (QcV X [(a_s, .inr (9, [.ref a_sT, .ref a_kb, .int f_s_moves, .int f_s_bounces, .int res, .int f_s_brings, .int f_s_firstHitDirection, .int f_s_firstHitPower, .int f_s_foul]))] A) args s 0 0 A = Q
  replace hl : lv_has ls 2 [(0, .ref a_s), (1, .int p1)] := hl
  unfold f_X9_notePotted at h
  refine lv_aload_n hx hb dX9_notePotted_0 rfl (lv_at hl 0 rfl) ?_
  refine lv_dup hx hb dX9_notePotted_1 rfl ?_
  refine va_get (D := xD X) (ci := 9) (v := .int f_s_potted) (C := RX9) (T := TX9) (N := 9) hx hb hts inX9 hown hK hP 0 rfl rfl 4 (by decide) (hts _ wq_1_175) (fun _ h9 => h9) rfl dX9_notePotted_2 ?_
  refine lv_iconst (v := 1) hx hb dX9_notePotted_5 (by decide) ?_
  refine lv_iload_n hx hb dX9_notePotted_6 rfl (lv_at hl 1 rfl) ?_
  refine lv_ishl hx hb dX9_notePotted_7 ?_
  refine lv_ior hx hb dX9_notePotted_8 ?_
  refine va_put (D := xD X) (ci := 9) (v := .int (f_s_potted ||| (1 <<< (p1 &&& 31)))) (ty := .int) (C := RX9) (T := TX9) (N := 9) hx hb hts inX9 tyX9 tyX9_ok nmX9 hown hK hP hD hS 0 rfl rfl 4 (by decide) (hts _ wq_1_175) (fun _ h9 => h9) rfl (by decide +kernel) rfl rfl (Nat.le_of_ble_eq_true rfl) dX9_notePotted_9 (fun H locs (hP : va_P (xD X) vwCl [(a_s, .inr (9, [.ref a_sT, .ref a_kb, .int f_s_moves, .int f_s_bounces, .int (f_s_potted ||| (1 <<< (p1 &&& 31))), .int f_s_brings, .int f_s_firstHitDirection, .int f_s_firstHitPower, .int f_s_foul]))] H) (hD : va_D A [(a_s, .inr (9, [.ref a_sT, .ref a_kb, .int f_s_moves, .int f_s_bounces, .int (f_s_potted ||| (1 <<< (p1 &&& 31))), .int f_s_brings, .int f_s_firstHitDirection, .int f_s_firstHitPower, .int f_s_foul]))]) hS => ?_)
  obtain rfl := Option.some.inj h
  rw [← hQ]
  exact retV hB hS hP dX9_notePotted_12


def b_X9_roll_L12 (v_sTk : Nat → Int32) (n : Nat) (go_12 : Int32 → Int32 → Int32 → Int32 → Int32 → Int32 → Int32 → Int32 → Int32 → Int64 → (Nat → Int32) → Option (Int32 × Int32 × Int32 × Int32 × Int32 × Int64 × (Nat → Int32))) (x4_1 : Int32) (x5_2 : Int32) (x6_3 : Int32) (x7_4 : Int32) (f_s_moves_5 : Int32) (f_s_bounces_6 : Int32) (f_s_potted_7 : Int32) (f_s_firstHitDirection_8 : Int32) (f_s_firstHitPower_9 : Int32) (f_sT_taken_10 : Int64) (v_sTc_11 : Nat → Int32) : Option (Int32 × Int32 × Int32 × Int32 × Int32 × Int64 × (Nat → Int32)) :=
  (if 1000 ≤ x7_4 then (some (f_s_moves_5, f_s_bounces_6, f_s_potted_7, f_s_firstHitDirection_8, f_s_firstHitPower_9, f_sT_taken_10, v_sTc_11)) else (if x6_3 ≤ 0 then (some (f_s_moves_5, f_s_bounces_6, f_s_potted_7, f_s_firstHitDirection_8, f_s_firstHitPower_9, f_sT_taken_10, v_sTc_11)) else ((f_X10_cellOf v_sTc_11 x4_1).bind (fun u_16 => ((f_X10_rowStep x5_2).bind (fun u_17 => (bnd ((u_16 / 9) + u_17) (fun x8_18 => ((f_X10_cellOf v_sTc_11 x4_1).bind (fun u_19 => ((f_X10_columnStep x5_2).bind (fun u_20 => (bnd ((u_19 - u_19 / 9 * 9) + u_20) (fun x9_21 => (bnd ((9 * x8_18) + x9_21) (fun x10_22 => ((f_X11_isRow x8_18).bind (fun u_23 => (jn (fun (x4_24 : Int32) (x5_25 : Int32) (x6_26 : Int32) (f_s_moves_27 : Int32) (f_s_bounces_28 : Int32) (f_s_potted_29 : Int32) (f_s_firstHitDirection_30 : Int32) (f_s_firstHitPower_31 : Int32) (f_sT_taken_32 : Int64) (v_sTc_33 : Nat → Int32) => (bnd (x7_4 + 1) (fun x7_35 => (go_12 x4_24 x5_25 x6_26 x7_35 f_s_moves_27 f_s_bounces_28 f_s_potted_29 f_s_firstHitDirection_30 f_s_firstHitPower_31 f_sT_taken_32 v_sTc_33)))) (fun (j301_34 : Int32 → Int32 → Int32 → Int32 → Int32 → Int32 → Int32 → Int32 → Int64 → (Nat → Int32) → Option (Int32 × Int32 × Int32 × Int32 × Int32 × Int64 × (Nat → Int32))) => (jn (((f_X10_kindOf v_sTk x4_1).bind (fun u_37 => ((f_X9_kind u_37).bind (fun u_38 => (gd (decide (u_38 < 5)) (bnd (stopsF u_38) (fun x11_40 => (jn (fun (f_s_bounces_41 : Int32) => ((f_X11_isRow x8_18).bind (fun u_43 => (jn (fun (k_44 : Int32) (k_45 : Int32) => ((f_X11_isColumn x9_21).bind (fun u_47 => (jn (fun (k_48 : Int32) (k_49 : Int32) (k_50 : Int32) => ((f_X9_turned k_48 k_49 k_50).bind (fun u_52 => (jn (fun (k_53 : Int32) => (j301_34 x4_1 u_52 k_53 f_s_moves_5 f_s_bounces_41 f_s_potted_7 f_s_firstHitDirection_8 f_s_firstHitPower_9 f_sT_taken_10 v_sTc_11)) (fun (j170_54 : Int32 → Option (Int32 × Int32 × Int32 × Int32 × Int32 × Int64 × (Nat → Int32))) => (if x11_40 = 0 then (j170_54 (x6_3 - 1)) else (j170_54 0))))))) (fun (j152_51 : Int32 → Int32 → Int32 → Option (Int32 × Int32 × Int32 × Int32 × Int32 × Int64 × (Nat → Int32))) => (if u_47 = 0 then (j152_51 k_44 k_45 1) else (j152_51 k_44 k_45 0))))))) (fun (j139_46 : Int32 → Int32 → Option (Int32 × Int32 × Int32 × Int32 × Int32 × Int64 × (Nat → Int32))) => (if u_43 = 0 then (j139_46 x5_2 1) else (j139_46 x5_2 0))))))) (fun (j124_42 : Int32 → Option (Int32 × Int32 × Int32 × Int32 × Int32 × Int64 × (Nat → Int32))) => (if x11_40 = 0 then (j124_42 (f_s_bounces_6 + 1)) else (j124_42 f_s_bounces_6)))))))))))) (fun (j91_36 : Option (Int32 × Int32 × Int32 × Int32 × Int32 × Int64 × (Nat → Int32))) => (if u_23 = 0 then j91_36 else ((f_X11_isColumn x9_21).bind (fun u_60 => (if u_60 = 0 then j91_36 else ((f_X10_ballIn n f_sT_taken_10 v_sTc_11 x10_22).bind (fun u_62 => (if u_62 = (-1) then ((f_X11_isPocket x10_22).bind (fun u_64 => (jn (fun (k_65 : Int32) => (jn (fun (k_67 : Int32) (k_68 : Int32) => ((f_X10_lay f_sT_taken_10 v_sTc_11 k_67 k_68).bind (fun u_70 => (if u_64 = 0 then (j301_34 x4_1 x5_2 k_65 (f_s_moves_5 + 1) f_s_bounces_6 f_s_potted_7 f_s_firstHitDirection_8 f_s_firstHitPower_9 u_70.1 u_70.2) else ((f_X9_notePotted f_s_potted_7 x4_1).bind (fun u_72 => (j301_34 x4_1 x5_2 k_65 (f_s_moves_5 + 1) f_s_bounces_6 u_72 f_s_firstHitDirection_8 f_s_firstHitPower_9 u_70.1 u_70.2))))))) (fun (j287_69 : Int32 → Int32 → Option (Int32 × Int32 × Int32 × Int32 × Int32 × Int64 × (Nat → Int32))) => (if u_64 = 0 then (j287_69 x4_1 x10_22) else (j287_69 x4_1 (-1)))))) (fun (j268_66 : Int32 → Option (Int32 × Int32 × Int32 × Int32 × Int32 × Int64 × (Nat → Int32))) => (if u_64 = 0 then (j268_66 (x6_3 - 1)) else (j268_66 0)))))) else (bnd (x6_3 + (-1)) (fun x6_75 => (jn (fun (f_s_firstHitDirection_76 : Int32) (f_s_firstHitPower_77 : Int32) => ((f_X10_ballIn n f_sT_taken_10 v_sTc_11 x10_22).bind (fun u_79 => ((f_X10_kindOf v_sTk u_79).bind (fun u_80 => ((f_X9_kind u_80).bind (fun u_81 => (gd (decide (u_81 < 5)) (bnd (powerF u_81 x6_75) (fun x6_83 => (j301_34 u_79 x5_2 x6_83 f_s_moves_5 f_s_bounces_6 f_s_potted_7 f_s_firstHitDirection_76 f_s_firstHitPower_77 f_sT_taken_10 v_sTc_11))))))))))) (fun (j204_78 : Int32 → Int32 → Option (Int32 × Int32 × Int32 × Int32 × Int32 × Int64 × (Nat → Int32))) => (if x4_1 = 0 then ((f_X9_noteWhiteHit f_s_firstHitDirection_8 f_s_firstHitPower_9 x5_2 x6_75).bind (fun u_85 => (j204_78 u_85.1 u_85.2))) else (j204_78 f_s_firstHitDirection_8 f_s_firstHitPower_9)))))))))))))))))))))))))))))))))))
def f_X9_roll_L12 (v_sTk : Nat → Int32) (n : Nat) (k : Nat) (x4_1 : Int32) (x5_2 : Int32) (x6_3 : Int32) (x7_4 : Int32) (f_s_moves_5 : Int32) (f_s_bounces_6 : Int32) (f_s_potted_7 : Int32) (f_s_firstHitDirection_8 : Int32) (f_s_firstHitPower_9 : Int32) (f_sT_taken_10 : Int64) (v_sTc_11 : Nat → Int32) : Option (Int32 × Int32 × Int32 × Int32 × Int32 × Int64 × (Nat → Int32)) :=
  lpF (fun (self : (Int32 × Int32 × Int32 × Int32 × Int32 × Int32 × Int32 × Int32 × Int32 × Int64 × (Nat → Int32)) → Option (Int32 × Int32 × Int32 × Int32 × Int32 × Int64 × (Nat → Int32))) (a : Int32 × Int32 × Int32 × Int32 × Int32 × Int32 × Int32 × Int32 × Int32 × Int64 × (Nat → Int32)) => b_X9_roll_L12 v_sTk n (fun x4_1 x5_2 x6_3 x7_4 f_s_moves_5 f_s_bounces_6 f_s_potted_7 f_s_firstHitDirection_8 f_s_firstHitPower_9 f_sT_taken_10 v_sTc_11 => self (x4_1, x5_2, x6_3, x7_4, f_s_moves_5, f_s_bounces_6, f_s_potted_7, f_s_firstHitDirection_8, f_s_firstHitPower_9, f_sT_taken_10, v_sTc_11)) a.1 a.2.1 a.2.2.1 a.2.2.2.1 a.2.2.2.2.1 a.2.2.2.2.2.1 a.2.2.2.2.2.2.1 a.2.2.2.2.2.2.2.1 a.2.2.2.2.2.2.2.2.1 a.2.2.2.2.2.2.2.2.2.1 a.2.2.2.2.2.2.2.2.2.2) k (x4_1, x5_2, x6_3, x7_4, f_s_moves_5, f_s_bounces_6, f_s_potted_7, f_s_firstHitDirection_8, f_s_firstHitPower_9, f_sT_taken_10, v_sTc_11)
def f_X9_roll (n : Nat) (f_s_moves : Int32) (f_s_bounces : Int32) (f_s_potted : Int32) (f_s_firstHitDirection : Int32) (f_s_firstHitPower : Int32) (f_sT_taken : Int64) (v_sTc : Nat → Int32) (v_sTk : Nat → Int32) (p1 : Int32) (p2 : Int32) (p3 : Int32) : Option (Int32 × Int32 × Int32 × Int32 × Int32 × Int64 × (Nat → Int32)) :=
  (f_X9_roll_L12 v_sTk n n p1 p2 p3 0 f_s_moves f_s_bounces f_s_potted f_s_firstHitDirection f_s_firstHitPower f_sT_taken v_sTc)
theorem hd_X9_roll : yX9_roll.cls ≠ "java/lang/invoke/MethodHandle" ∧ yX9_roll.cls ≠ "java/lang/invoke/VarHandle" ∧ (parseMethodDescriptor yX9_roll.desc).map (fun d => d.parameters.length) = some 3 := ⟨by decide +kernel, by decide +kernel, by decide +kernel⟩
set_option maxHeartbeats 4000000 in
set_option maxRecDepth 100000 in
theorem c_X9_roll (X : CXp) (l : Launch) (n : Nat) (a_s a_sT a_sTc a_sTk a_sTw a_kb : Nat) (a_b : Nat → Nat) (f_s_moves : Int32) (f_s_bounces : Int32) (f_s_potted : Int32) (f_s_brings : Int32) (f_s_firstHitDirection : Int32) (f_s_firstHitPower : Int32) (f_s_foul : Int32) (f_sT_taken : Int64) (f_sT_size : Int32) (f_sT_spot : Int32) (v_sTc : Nat → Int32) (v_sTk : Nat → Int32) (p1 : Int32) (p2 : Int32) (p3 : Int32) (res : Int32 × Int32 × Int32 × Int32 × Int32 × Int64 × (Nat → Int32)) (h : f_X9_roll n f_s_moves f_s_bounces f_s_potted f_s_firstHitDirection f_s_firstHitPower f_sT_taken v_sTc v_sTk p1 p2 p3 = some res) : CTg X l yX9_roll cX9_roll 12 none 1 23 [.ref a_s, .int p1, .int p2, .int p3] [(a_s, .inr (9, [.ref a_sT, .ref a_kb, .int f_s_moves, .int f_s_bounces, .int f_s_potted, .int f_s_brings, .int f_s_firstHitDirection, .int f_s_firstHitPower, .int f_s_foul])), (a_sT, .inr (10, [.ref a_sTc, .ref a_sTk, .ref a_sTw, .long f_sT_taken, .int f_sT_size, .int f_sT_spot])), (a_sTc, .inl (xI X, 7, .inl v_sTc)), (a_sTk, .inl (xI X, 7, .inl v_sTk)), (a_kb, .inl (xB X, 5, .inr (.inr (.inr (.inr (fun j => some (a_b j))))))), ((a_b 0), .inr (1, [])), ((a_b 1), .inr (5, [])), ((a_b 2), .inr (6, [])), ((a_b 3), .inr (2, [])), ((a_b 4), .inr (8, []))] (QcV X [(a_s, .inr (9, [.ref a_sT, .ref a_kb, .int res.1, .int res.2.1, .int res.2.2.1, .int f_s_brings, .int res.2.2.2.1, .int res.2.2.2.2.1, .int f_s_foul])), (a_sT, .inr (10, [.ref a_sTc, .ref a_sTk, .ref a_sTw, .long res.2.2.2.2.2.1, .int f_sT_size, .int f_sT_spot])), (a_sTc, .inl (xI X, 7, .inl res.2.2.2.2.2.2)), (a_sTk, .inl (xI X, 7, .inl v_sTk)), (a_kb, .inl (xB X, 5, .inr (.inr (.inr (.inr (fun j => some (a_b j))))))), ((a_b 0), .inr (1, [])), ((a_b 1), .inr (5, [])), ((a_b 2), .inr (6, [])), ((a_b 3), .inr (2, [])), ((a_b 4), .inr (8, []))]) := by
  refine CTg.mk (own := RX9) (by decide) rfl (Nat.le_of_ble_eq_true rfl) ?_
  intro p e s m args below meth c A hB hP hD hS ls hl
  obtain ⟨hx, hb, hr, hml, hown, hts, hlocks, hcx, hA, hAB⟩ := id hB
  have hK := hcx.1
  generalize hQ : MQ below (QcV X [(a_s, .inr (9, [.ref a_sT, .ref a_kb, .int res.1, .int res.2.1, .int res.2.2.1, .int f_s_brings, .int res.2.2.2.1, .int res.2.2.2.2.1, .int f_s_foul])), (a_sT, .inr (10, [.ref a_sTc, .ref a_sTk, .ref a_sTw, .long res.2.2.2.2.2.1, .int f_sT_size, .int f_sT_spot])), (a_sTc, .inl (xI X, 7, .inl res.2.2.2.2.2.2)), (a_sTk, .inl (xI X, 7, .inl v_sTk)), (a_kb, .inl (xB X, 5, .inr (.inr (.inr (.inr (fun j => some (a_b j))))))), ((a_b 0), .inr (1, [])), ((a_b 1), .inr (5, [])), ((a_b 2), .inr (6, [])), ((a_b 3), .inr (2, [])), ((a_b 4), .inr (8, []))] A) args s 0 0 A = Q
  replace hl : lv_has ls 12 [(0, .ref a_s), (1, .int p1), (2, .int p2), (3, .int p3)] := hl
  unfold f_X9_roll at h
  refine lv_iload_n hx hb dX9_roll_0 rfl (lv_at hl 1 rfl) ?_
  refine lv_istore (lv' := [(4, .int p1), (0, .ref a_s), (1, .int p1), (2, .int p2), (3, .int p3)]) hx hb dX9_roll_1 hl (by decide) rfl (fun ls hl => ?_)
  refine lv_iload_n hx hb dX9_roll_3 rfl (lv_at hl 3 rfl) ?_
  refine lv_istore (lv' := [(5, .int p2), (4, .int p1), (0, .ref a_s), (1, .int p1), (2, .int p2), (3, .int p3)]) hx hb dX9_roll_4 hl (by decide) rfl (fun ls hl => ?_)
  refine lv_iload_n hx hb dX9_roll_6 rfl (lv_at hl 5 rfl) ?_
  refine lv_istore (lv' := [(6, .int p3), (5, .int p2), (4, .int p1), (0, .ref a_s), (1, .int p1), (2, .int p2), (3, .int p3)]) hx hb dX9_roll_7 hl (by decide) rfl (fun ls hl => ?_)
  refine lv_iconst (v := 0) hx hb dX9_roll_9 (by decide) ?_
  refine lv_istore (lv' := [(7, .int 0), (6, .int p3), (5, .int p2), (4, .int p1), (0, .ref a_s), (1, .int p1), (2, .int p2), (3, .int p3)]) hx hb dX9_roll_10 hl (by decide) rfl (fun ls hl => ?_)
  have L12_go_12 : ∀ (k : Nat), ∀ (x4_1 : Int32) (x5_2 : Int32) (x6_3 : Int32) (x7_4 : Int32) (f_s_moves_5 : Int32) (f_s_bounces_6 : Int32) (f_s_potted_7 : Int32) (f_s_firstHitDirection_8 : Int32) (f_s_firstHitPower_9 : Int32) (f_sT_taken_10 : Int64) (v_sTc_11 : Nat → Int32), f_X9_roll_L12 v_sTk n k x4_1 x5_2 x6_3 x7_4 f_s_moves_5 f_s_bounces_6 f_s_potted_7 f_s_firstHitDirection_8 f_s_firstHitPower_9 f_sT_taken_10 v_sTc_11 = some res → ∀ (H : Heap) (locs : List Loc) (ls : Array Slot), va_P (xD X) vwCl [(a_s, .inr (9, [.ref a_sT, .ref a_kb, .int f_s_moves_5, .int f_s_bounces_6, .int f_s_potted_7, .int f_s_brings, .int f_s_firstHitDirection_8, .int f_s_firstHitPower_9, .int f_s_foul])), (a_sT, .inr (10, [.ref a_sTc, .ref a_sTk, .ref a_sTw, .long f_sT_taken_10, .int f_sT_size, .int f_sT_spot])), (a_sTc, .inl (xI X, 7, .inl v_sTc_11)), (a_sTk, .inl (xI X, 7, .inl v_sTk)), (a_kb, .inl (xB X, 5, .inr (.inr (.inr (.inr (fun j => some (a_b j))))))), ((a_b 0), .inr (1, [])), ((a_b 1), .inr (5, [])), ((a_b 2), .inr (6, [])), ((a_b 3), .inr (2, [])), ((a_b 4), .inr (8, []))] H → va_D A [(a_s, .inr (9, [.ref a_sT, .ref a_kb, .int f_s_moves_5, .int f_s_bounces_6, .int f_s_potted_7, .int f_s_brings, .int f_s_firstHitDirection_8, .int f_s_firstHitPower_9, .int f_s_foul])), (a_sT, .inr (10, [.ref a_sTc, .ref a_sTk, .ref a_sTw, .long f_sT_taken_10, .int f_sT_size, .int f_sT_spot])), (a_sTc, .inl (xI X, 7, .inl v_sTc_11)), (a_sTk, .inl (xI X, 7, .inl v_sTk)), (a_kb, .inl (xB X, 5, .inr (.inr (.inr (.inr (fun j => some (a_b j))))))), ((a_b 0), .inr (1, [])), ((a_b 1), .inr (5, [])), ((a_b 2), .inr (6, [])), ((a_b 3), .inr (2, [])), ((a_b 4), .inr (8, []))] → va_S A s.heap H locs → lv_has ls 12 [(0, .ref a_s), (4, .int x4_1), (5, .int x5_2), (6, .int x6_3), (7, .int x7_4)] → W p l e (rmF 1 23) s m args below meth c H locs 0 0 Q (F0 m 12 ls []) := by
    clear h
    intro k
    induction k with
    | zero => intro x4_1 x5_2 x6_3 x7_4 f_s_moves_5 f_s_bounces_6 f_s_potted_7 f_s_firstHitDirection_8 f_s_firstHitPower_9 f_sT_taken_10 v_sTc_11 h; cases h
    | succ k ih_13 =>
      intro x4_1 x5_2 x6_3 x7_4 f_s_moves_5 f_s_bounces_6 f_s_potted_7 f_s_firstHitDirection_8 f_s_firstHitPower_9 f_sT_taken_10 v_sTc_11 h H locs ls hP hD hS hl
      replace h : b_X9_roll_L12 v_sTk n (fun x4_1 x5_2 x6_3 x7_4 f_s_moves_5 f_s_bounces_6 f_s_potted_7 f_s_firstHitDirection_8 f_s_firstHitPower_9 f_sT_taken_10 v_sTc_11 => f_X9_roll_L12 v_sTk n k x4_1 x5_2 x6_3 x7_4 f_s_moves_5 f_s_bounces_6 f_s_potted_7 f_s_firstHitDirection_8 f_s_firstHitPower_9 f_sT_taken_10 v_sTc_11) x4_1 x5_2 x6_3 x7_4 f_s_moves_5 f_s_bounces_6 f_s_potted_7 f_s_firstHitDirection_8 f_s_firstHitPower_9 f_sT_taken_10 v_sTc_11 = some res := h
      unfold b_X9_roll_L12 at h
      refine lv_iload hx hb dX9_roll_12 (lv_at hl 4 rfl) ?_
      refine lv_sipush (v := 1000) hx hb dX9_roll_14 (by decide) ?_
      refine lv_icmp_ge (tgt := 307) hx hb dX9_roll_17 (by decide) (fun c_14 => ?_) (fun c_14 => ?_)
      · replace h := it_p c_14 h
        obtain rfl := Option.some.inj h
        rw [← hQ]
        exact retV hB hS hP dX9_roll_307
      · replace h := it_n c_14 h
        refine lv_iload hx hb dX9_roll_20 (lv_at hl 3 rfl) ?_
        refine lv_if_le (tgt := 307) hx hb dX9_roll_22 (by decide) (fun c_15 => ?_) (fun c_15 => ?_)
        · replace h := it_p c_15 h
          obtain rfl := Option.some.inj h
          rw [← hQ]
          exact retV hB hS hP dX9_roll_307
        · replace h := it_n c_15 h
          refine lv_aload_n hx hb dX9_roll_25 rfl (lv_at hl 0 rfl) ?_
          refine va_get (D := xD X) (ci := 9) (v := .ref a_sT) (C := RX9) (T := TX9) (N := 9) hx hb hts inX9 hown hK hP 0 rfl rfl 0 (by decide) (hts _ wq_1_167) (fun _ h9 => h9) rfl dX9_roll_26 ?_
          refine lv_iload hx hb dX9_roll_29 (lv_at hl 1 rfl) ?_
          obtain ⟨u_16, hu_16, h⟩ := ob_s h
          refine cVi (C := RX10) (As := [.int x4_1]) (rest := []) [(a_s, .inr (9, [.ref a_sT, .ref a_kb, .int f_s_moves_5, .int f_s_bounces_6, .int f_s_potted_7, .int f_s_brings, .int f_s_firstHitDirection_8, .int f_s_firstHitPower_9, .int f_s_foul])), (a_sT, .inr (10, [.ref a_sTc, .ref a_sTk, .ref a_sTw, .long f_sT_taken_10, .int f_sT_size, .int f_sT_spot])), (a_sTc, .inl (xI X, 7, .inl v_sTc_11)), (a_sTk, .inl (xI X, 7, .inl v_sTk)), (a_kb, .inl (xB X, 5, .inr (.inr (.inr (.inr (fun j => some (a_b j))))))), ((a_b 0), .inr (1, [])), ((a_b 1), .inr (5, [])), ((a_b 2), .inr (6, [])), ((a_b 3), .inr (2, [])), ((a_b 4), .inr (8, []))] hB (c_X10_cellOf X l a_sT a_sTc a_sTk a_sTw f_sT_taken_10 f_sT_size f_sT_spot v_sTc_11 x4_1 u_16 hu_16) wq_2_233 wq_1_9 wq_3_22 wq_2_231 wq_2_232 hd_X10_cellOf (by decide) hP hD hS hl.1 [1, 2] [0, 3, 4, 5, 6, 7, 8, 9] [(a_s, .inr (9, [.ref a_sT, .ref a_kb, .int f_s_moves_5, .int f_s_bounces_6, .int f_s_potted_7, .int f_s_brings, .int f_s_firstHitDirection_8, .int f_s_firstHitPower_9, .int f_s_foul])), (a_sTk, .inl (xI X, 7, .inl v_sTk)), (a_kb, .inl (xB X, 5, .inr (.inr (.inr (.inr (fun j => some (a_b j))))))), ((a_b 0), .inr (1, [])), ((a_b 1), .inr (5, [])), ((a_b 2), .inr (6, [])), ((a_b 3), .inr (2, [])), ((a_b 4), .inr (8, []))] rfl (by decide +kernel) rfl rfl rfl (nn := 10) rfl (by decide +kernel) [a_s, a_sT, a_sTc, a_sTk, a_kb, (a_b 0), (a_b 1), (a_b 2), (a_b 3), (a_b 4)] rfl rfl (q0 := 1) rfl rfl rfl rfl (Nat.le_of_ble_eq_true rfl) dX9_roll_31 ⟨Nat.zero_le _, Nat.zero_le _⟩ (fun H locs hP hD hS => ?_)
          refine lv_bipush (v := 9) hx hb dX9_roll_34 (by decide) ?_
          refine lv_idiv hx hb dX9_roll_36 (by decide) ?_
          refine lv_iload hx hb dX9_roll_37 (lv_at hl 2 rfl) ?_
          obtain ⟨u_17, hu_17, h⟩ := ob_s h
          refine cSi (As := [.int x5_2]) (rest := [.int (u_16 / 9)]) [(a_s, .inr (9, [.ref a_sT, .ref a_kb, .int f_s_moves_5, .int f_s_bounces_6, .int f_s_potted_7, .int f_s_brings, .int f_s_firstHitDirection_8, .int f_s_firstHitPower_9, .int f_s_foul])), (a_sT, .inr (10, [.ref a_sTc, .ref a_sTk, .ref a_sTw, .long f_sT_taken_10, .int f_sT_size, .int f_sT_spot])), (a_sTc, .inl (xI X, 7, .inl v_sTc_11)), (a_sTk, .inl (xI X, 7, .inl v_sTk)), (a_kb, .inl (xB X, 5, .inr (.inr (.inr (.inr (fun j => some (a_b j))))))), ((a_b 0), .inr (1, [])), ((a_b 1), .inr (5, [])), ((a_b 2), .inr (6, [])), ((a_b 3), .inr (2, [])), ((a_b 4), .inr (8, []))] hB (c_X10_rowStep X l x5_2 u_17 hu_17) wq_3_25 wq_1_9 wq_3_23 wq_3_24 hd_X10_rowStep (by decide) hP hD hS hl.1 [] [0, 1, 2, 3, 4, 5, 6, 7, 8, 9] [(a_s, .inr (9, [.ref a_sT, .ref a_kb, .int f_s_moves_5, .int f_s_bounces_6, .int f_s_potted_7, .int f_s_brings, .int f_s_firstHitDirection_8, .int f_s_firstHitPower_9, .int f_s_foul])), (a_sT, .inr (10, [.ref a_sTc, .ref a_sTk, .ref a_sTw, .long f_sT_taken_10, .int f_sT_size, .int f_sT_spot])), (a_sTc, .inl (xI X, 7, .inl v_sTc_11)), (a_sTk, .inl (xI X, 7, .inl v_sTk)), (a_kb, .inl (xB X, 5, .inr (.inr (.inr (.inr (fun j => some (a_b j))))))), ((a_b 0), .inr (1, [])), ((a_b 1), .inr (5, [])), ((a_b 2), .inr (6, [])), ((a_b 3), .inr (2, [])), ((a_b 4), .inr (8, []))] rfl (by decide +kernel) rfl rfl rfl (nn := 10) rfl (by decide +kernel) [a_s, a_sT, a_sTc, a_sTk, a_kb, (a_b 0), (a_b 1), (a_b 2), (a_b 3), (a_b 4)] rfl rfl rfl rfl (Nat.le_of_ble_eq_true rfl) dX9_roll_39 ⟨Nat.zero_le _, Nat.zero_le _⟩ (fun H locs hP hD hS => ?_)
          refine lv_iadd hx hb dX9_roll_42 ?_
          refine lv_topi (fun x8_18 ex8_18 => ?_)
          replace h := bn_s h ex8_18
          refine lv_istore (lv' := [(8, .int x8_18), (0, .ref a_s), (4, .int x4_1), (5, .int x5_2), (6, .int x6_3), (7, .int x7_4)]) hx hb dX9_roll_43 hl (by decide) rfl (fun ls hl => ?_)
          refine lv_aload_n hx hb dX9_roll_45 rfl (lv_at hl 1 rfl) ?_
          refine va_get (D := xD X) (ci := 9) (v := .ref a_sT) (C := RX9) (T := TX9) (N := 9) hx hb hts inX9 hown hK hP 0 rfl rfl 0 (by decide) (hts _ wq_1_167) (fun _ h9 => h9) rfl dX9_roll_46 ?_
          refine lv_iload hx hb dX9_roll_49 (lv_at hl 2 rfl) ?_
          obtain ⟨u_19, hu_19, h⟩ := ob_s h
          refine cVi (C := RX10) (As := [.int x4_1]) (rest := []) [(a_s, .inr (9, [.ref a_sT, .ref a_kb, .int f_s_moves_5, .int f_s_bounces_6, .int f_s_potted_7, .int f_s_brings, .int f_s_firstHitDirection_8, .int f_s_firstHitPower_9, .int f_s_foul])), (a_sT, .inr (10, [.ref a_sTc, .ref a_sTk, .ref a_sTw, .long f_sT_taken_10, .int f_sT_size, .int f_sT_spot])), (a_sTc, .inl (xI X, 7, .inl v_sTc_11)), (a_sTk, .inl (xI X, 7, .inl v_sTk)), (a_kb, .inl (xB X, 5, .inr (.inr (.inr (.inr (fun j => some (a_b j))))))), ((a_b 0), .inr (1, [])), ((a_b 1), .inr (5, [])), ((a_b 2), .inr (6, [])), ((a_b 3), .inr (2, [])), ((a_b 4), .inr (8, []))] hB (c_X10_cellOf X l a_sT a_sTc a_sTk a_sTw f_sT_taken_10 f_sT_size f_sT_spot v_sTc_11 x4_1 u_19 hu_19) wq_2_233 wq_1_9 wq_3_22 wq_2_231 wq_2_232 hd_X10_cellOf (by decide) hP hD hS hl.1 [1, 2] [0, 3, 4, 5, 6, 7, 8, 9] [(a_s, .inr (9, [.ref a_sT, .ref a_kb, .int f_s_moves_5, .int f_s_bounces_6, .int f_s_potted_7, .int f_s_brings, .int f_s_firstHitDirection_8, .int f_s_firstHitPower_9, .int f_s_foul])), (a_sTk, .inl (xI X, 7, .inl v_sTk)), (a_kb, .inl (xB X, 5, .inr (.inr (.inr (.inr (fun j => some (a_b j))))))), ((a_b 0), .inr (1, [])), ((a_b 1), .inr (5, [])), ((a_b 2), .inr (6, [])), ((a_b 3), .inr (2, [])), ((a_b 4), .inr (8, []))] rfl (by decide +kernel) rfl rfl rfl (nn := 10) rfl (by decide +kernel) [a_s, a_sT, a_sTc, a_sTk, a_kb, (a_b 0), (a_b 1), (a_b 2), (a_b 3), (a_b 4)] rfl rfl (q0 := 1) rfl rfl rfl rfl (Nat.le_of_ble_eq_true rfl) dX9_roll_51 ⟨Nat.zero_le _, Nat.zero_le _⟩ (fun H locs hP hD hS => ?_)
          refine lv_bipush (v := 9) hx hb dX9_roll_54 (by decide) ?_
          refine lv_irem hx hb dX9_roll_56 (by decide) ?_
          refine lv_iload hx hb dX9_roll_57 (lv_at hl 3 rfl) ?_
          obtain ⟨u_20, hu_20, h⟩ := ob_s h
          refine cSi (As := [.int x5_2]) (rest := [.int (u_19 - u_19 / 9 * 9)]) [(a_s, .inr (9, [.ref a_sT, .ref a_kb, .int f_s_moves_5, .int f_s_bounces_6, .int f_s_potted_7, .int f_s_brings, .int f_s_firstHitDirection_8, .int f_s_firstHitPower_9, .int f_s_foul])), (a_sT, .inr (10, [.ref a_sTc, .ref a_sTk, .ref a_sTw, .long f_sT_taken_10, .int f_sT_size, .int f_sT_spot])), (a_sTc, .inl (xI X, 7, .inl v_sTc_11)), (a_sTk, .inl (xI X, 7, .inl v_sTk)), (a_kb, .inl (xB X, 5, .inr (.inr (.inr (.inr (fun j => some (a_b j))))))), ((a_b 0), .inr (1, [])), ((a_b 1), .inr (5, [])), ((a_b 2), .inr (6, [])), ((a_b 3), .inr (2, [])), ((a_b 4), .inr (8, []))] hB (c_X10_columnStep X l x5_2 u_20 hu_20) wq_3_30 wq_1_9 wq_3_28 wq_3_29 hd_X10_columnStep (by decide) hP hD hS hl.1 [] [0, 1, 2, 3, 4, 5, 6, 7, 8, 9] [(a_s, .inr (9, [.ref a_sT, .ref a_kb, .int f_s_moves_5, .int f_s_bounces_6, .int f_s_potted_7, .int f_s_brings, .int f_s_firstHitDirection_8, .int f_s_firstHitPower_9, .int f_s_foul])), (a_sT, .inr (10, [.ref a_sTc, .ref a_sTk, .ref a_sTw, .long f_sT_taken_10, .int f_sT_size, .int f_sT_spot])), (a_sTc, .inl (xI X, 7, .inl v_sTc_11)), (a_sTk, .inl (xI X, 7, .inl v_sTk)), (a_kb, .inl (xB X, 5, .inr (.inr (.inr (.inr (fun j => some (a_b j))))))), ((a_b 0), .inr (1, [])), ((a_b 1), .inr (5, [])), ((a_b 2), .inr (6, [])), ((a_b 3), .inr (2, [])), ((a_b 4), .inr (8, []))] rfl (by decide +kernel) rfl rfl rfl (nn := 10) rfl (by decide +kernel) [a_s, a_sT, a_sTc, a_sTk, a_kb, (a_b 0), (a_b 1), (a_b 2), (a_b 3), (a_b 4)] rfl rfl rfl rfl (Nat.le_of_ble_eq_true rfl) dX9_roll_59 ⟨Nat.zero_le _, Nat.zero_le _⟩ (fun H locs hP hD hS => ?_)
          refine lv_iadd hx hb dX9_roll_62 ?_
          refine lv_topi (fun x9_21 ex9_21 => ?_)
          replace h := bn_s h ex9_21
          refine lv_istore (lv' := [(9, .int x9_21), (8, .int x8_18), (0, .ref a_s), (4, .int x4_1), (5, .int x5_2), (6, .int x6_3), (7, .int x7_4)]) hx hb dX9_roll_63 hl (by decide) rfl (fun ls hl => ?_)
          refine lv_bipush (v := 9) hx hb dX9_roll_65 (by decide) ?_
          refine lv_iload hx hb dX9_roll_67 (lv_at hl 1 rfl) ?_
          refine lv_imul hx hb dX9_roll_69 ?_
          refine lv_iload hx hb dX9_roll_70 (lv_at hl 0 rfl) ?_
          refine lv_iadd hx hb dX9_roll_72 ?_
          refine lv_topi (fun x10_22 ex10_22 => ?_)
          replace h := bn_s h ex10_22
          refine lv_istore (lv' := [(10, .int x10_22), (9, .int x9_21), (8, .int x8_18), (0, .ref a_s), (4, .int x4_1), (5, .int x5_2), (6, .int x6_3), (7, .int x7_4)]) hx hb dX9_roll_73 hl (by decide) rfl (fun ls hl => ?_)
          refine lv_iload hx hb dX9_roll_75 (lv_at hl 2 rfl) ?_
          obtain ⟨u_23, hu_23, h⟩ := ob_s h
          refine cNi (host := "WhiteWanted") (As := [.int x8_18]) (rest := []) [(a_s, .inr (9, [.ref a_sT, .ref a_kb, .int f_s_moves_5, .int f_s_bounces_6, .int f_s_potted_7, .int f_s_brings, .int f_s_firstHitDirection_8, .int f_s_firstHitPower_9, .int f_s_foul])), (a_sT, .inr (10, [.ref a_sTc, .ref a_sTk, .ref a_sTw, .long f_sT_taken_10, .int f_sT_size, .int f_sT_spot])), (a_sTc, .inl (xI X, 7, .inl v_sTc_11)), (a_sTk, .inl (xI X, 7, .inl v_sTk)), (a_kb, .inl (xB X, 5, .inr (.inr (.inr (.inr (fun j => some (a_b j))))))), ((a_b 0), .inr (1, [])), ((a_b 1), .inr (5, [])), ((a_b 2), .inr (6, [])), ((a_b 3), .inr (2, [])), ((a_b 4), .inr (8, []))] hB (c_X11_isRow X l x8_18 u_23 hu_23) wq_2_72 wq_1_1 wq_3_33 wq_2_71 hd_X11_isRow (by decide) hP hD hS hl.1 [] [0, 1, 2, 3, 4, 5, 6, 7, 8, 9] [(a_s, .inr (9, [.ref a_sT, .ref a_kb, .int f_s_moves_5, .int f_s_bounces_6, .int f_s_potted_7, .int f_s_brings, .int f_s_firstHitDirection_8, .int f_s_firstHitPower_9, .int f_s_foul])), (a_sT, .inr (10, [.ref a_sTc, .ref a_sTk, .ref a_sTw, .long f_sT_taken_10, .int f_sT_size, .int f_sT_spot])), (a_sTc, .inl (xI X, 7, .inl v_sTc_11)), (a_sTk, .inl (xI X, 7, .inl v_sTk)), (a_kb, .inl (xB X, 5, .inr (.inr (.inr (.inr (fun j => some (a_b j))))))), ((a_b 0), .inr (1, [])), ((a_b 1), .inr (5, [])), ((a_b 2), .inr (6, [])), ((a_b 3), .inr (2, [])), ((a_b 4), .inr (8, []))] rfl (by decide +kernel) rfl rfl rfl (nn := 10) rfl (by decide +kernel) [a_s, a_sT, a_sTc, a_sTk, a_kb, (a_b 0), (a_b 1), (a_b 2), (a_b 3), (a_b 4)] rfl rfl rfl rfl (Nat.le_of_ble_eq_true rfl) dX9_roll_77 ⟨Nat.zero_le _, Nat.zero_le _⟩ (fun H locs hP hD hS => ?_)
          obtain ⟨j301_34, ej301_34, h⟩ := jn_s h
          have J301_34 : ∀ (x4_24 : Int32) (x5_25 : Int32) (x6_26 : Int32) (f_s_moves_27 : Int32) (f_s_bounces_28 : Int32) (f_s_potted_29 : Int32) (f_s_firstHitDirection_30 : Int32) (f_s_firstHitPower_31 : Int32) (f_sT_taken_32 : Int64) (v_sTc_33 : Nat → Int32), j301_34 x4_24 x5_25 x6_26 f_s_moves_27 f_s_bounces_28 f_s_potted_29 f_s_firstHitDirection_30 f_s_firstHitPower_31 f_sT_taken_32 v_sTc_33 = some res → ∀ (H : Heap) (locs : List Loc) (ls : Array Slot), va_P (xD X) vwCl [(a_s, .inr (9, [.ref a_sT, .ref a_kb, .int f_s_moves_27, .int f_s_bounces_28, .int f_s_potted_29, .int f_s_brings, .int f_s_firstHitDirection_30, .int f_s_firstHitPower_31, .int f_s_foul])), (a_sT, .inr (10, [.ref a_sTc, .ref a_sTk, .ref a_sTw, .long f_sT_taken_32, .int f_sT_size, .int f_sT_spot])), (a_sTc, .inl (xI X, 7, .inl v_sTc_33)), (a_sTk, .inl (xI X, 7, .inl v_sTk)), (a_kb, .inl (xB X, 5, .inr (.inr (.inr (.inr (fun j => some (a_b j))))))), ((a_b 0), .inr (1, [])), ((a_b 1), .inr (5, [])), ((a_b 2), .inr (6, [])), ((a_b 3), .inr (2, [])), ((a_b 4), .inr (8, []))] H → va_D A [(a_s, .inr (9, [.ref a_sT, .ref a_kb, .int f_s_moves_27, .int f_s_bounces_28, .int f_s_potted_29, .int f_s_brings, .int f_s_firstHitDirection_30, .int f_s_firstHitPower_31, .int f_s_foul])), (a_sT, .inr (10, [.ref a_sTc, .ref a_sTk, .ref a_sTw, .long f_sT_taken_32, .int f_sT_size, .int f_sT_spot])), (a_sTc, .inl (xI X, 7, .inl v_sTc_33)), (a_sTk, .inl (xI X, 7, .inl v_sTk)), (a_kb, .inl (xB X, 5, .inr (.inr (.inr (.inr (fun j => some (a_b j))))))), ((a_b 0), .inr (1, [])), ((a_b 1), .inr (5, [])), ((a_b 2), .inr (6, [])), ((a_b 3), .inr (2, [])), ((a_b 4), .inr (8, []))] → va_S A s.heap H locs → lv_has ls 12 [(0, .ref a_s), (4, .int x4_24), (5, .int x5_25), (6, .int x6_26), (7, .int x7_4)] → W p l e (rmF 1 23) s m args below meth c H locs 0 0 Q (F0 m 301 ls []) := by
            clear h
            intro x4_24 x5_25 x6_26 f_s_moves_27 f_s_bounces_28 f_s_potted_29 f_s_firstHitDirection_30 f_s_firstHitPower_31 f_sT_taken_32 v_sTc_33 h H locs ls hP hD hS hl
            rw [ej301_34] at h
            replace h := id h
            obtain ⟨x7_35, ex7_35⟩ : ∃ y : Int32, y = x7_4 + 1 := ⟨_, rfl⟩
            replace h := bn_s h ex7_35
            refine lv_iinc (v := x7_35) (lv' := [(7, .int x7_35), (0, .ref a_s), (4, .int x4_24), (5, .int x5_25), (6, .int x6_26)]) hx hb dX9_roll_301 hl (k := 4) rfl (by rw [ex7_35]; rfl) (by decide) rfl (fun ls hl => ?_)
            refine lv_goto (tgt := 12) hx hb dX9_roll_304 (by decide) ?_
            exact ih_13 x4_24 x5_25 x6_26 x7_35 f_s_moves_27 f_s_bounces_28 f_s_potted_29 f_s_firstHitDirection_30 f_s_firstHitPower_31 f_sT_taken_32 v_sTc_33 h _ _ _ hP hD hS (lv_sub hl [1, 2, 3, 4, 0] rfl)
          clear ej301_34
          obtain ⟨j91_36, ej91_36, h⟩ := jn_s h
          have J91_36 : j91_36 = some res → ∀ (H : Heap) (locs : List Loc) (ls : Array Slot), va_P (xD X) vwCl [(a_s, .inr (9, [.ref a_sT, .ref a_kb, .int f_s_moves_5, .int f_s_bounces_6, .int f_s_potted_7, .int f_s_brings, .int f_s_firstHitDirection_8, .int f_s_firstHitPower_9, .int f_s_foul])), (a_sT, .inr (10, [.ref a_sTc, .ref a_sTk, .ref a_sTw, .long f_sT_taken_10, .int f_sT_size, .int f_sT_spot])), (a_sTc, .inl (xI X, 7, .inl v_sTc_11)), (a_sTk, .inl (xI X, 7, .inl v_sTk)), (a_kb, .inl (xB X, 5, .inr (.inr (.inr (.inr (fun j => some (a_b j))))))), ((a_b 0), .inr (1, [])), ((a_b 1), .inr (5, [])), ((a_b 2), .inr (6, [])), ((a_b 3), .inr (2, [])), ((a_b 4), .inr (8, []))] H → va_D A [(a_s, .inr (9, [.ref a_sT, .ref a_kb, .int f_s_moves_5, .int f_s_bounces_6, .int f_s_potted_7, .int f_s_brings, .int f_s_firstHitDirection_8, .int f_s_firstHitPower_9, .int f_s_foul])), (a_sT, .inr (10, [.ref a_sTc, .ref a_sTk, .ref a_sTw, .long f_sT_taken_10, .int f_sT_size, .int f_sT_spot])), (a_sTc, .inl (xI X, 7, .inl v_sTc_11)), (a_sTk, .inl (xI X, 7, .inl v_sTk)), (a_kb, .inl (xB X, 5, .inr (.inr (.inr (.inr (fun j => some (a_b j))))))), ((a_b 0), .inr (1, [])), ((a_b 1), .inr (5, [])), ((a_b 2), .inr (6, [])), ((a_b 3), .inr (2, [])), ((a_b 4), .inr (8, []))] → va_S A s.heap H locs → lv_has ls 12 [(0, .ref a_s), (4, .int x4_1), (5, .int x5_2), (6, .int x6_3), (7, .int x7_4), (8, .int x8_18), (9, .int x9_21)] → W p l e (rmF 1 23) s m args below meth c H locs 0 0 Q (F0 m 91 ls []) := by
            clear h
            intro h H locs ls hP hD hS hl
            rw [ej91_36] at h
            refine lv_aload_n hx hb dX9_roll_91 rfl (lv_at hl 0 rfl) ?_
            refine lv_aload_n hx hb dX9_roll_92 rfl (lv_at hl 0 rfl) ?_
            refine va_get (D := xD X) (ci := 9) (v := .ref a_sT) (C := RX9) (T := TX9) (N := 9) hx hb hts inX9 hown hK hP 0 rfl rfl 0 (by decide) (hts _ wq_1_167) (fun _ h9 => h9) rfl dX9_roll_93 ?_
            refine lv_iload hx hb dX9_roll_96 (lv_at hl 1 rfl) ?_
            obtain ⟨u_37, hu_37, h⟩ := ob_s h
            refine cVi (C := RX10) (As := [.int x4_1]) (rest := [.ref a_s]) [(a_s, .inr (9, [.ref a_sT, .ref a_kb, .int f_s_moves_5, .int f_s_bounces_6, .int f_s_potted_7, .int f_s_brings, .int f_s_firstHitDirection_8, .int f_s_firstHitPower_9, .int f_s_foul])), (a_sT, .inr (10, [.ref a_sTc, .ref a_sTk, .ref a_sTw, .long f_sT_taken_10, .int f_sT_size, .int f_sT_spot])), (a_sTc, .inl (xI X, 7, .inl v_sTc_11)), (a_sTk, .inl (xI X, 7, .inl v_sTk)), (a_kb, .inl (xB X, 5, .inr (.inr (.inr (.inr (fun j => some (a_b j))))))), ((a_b 0), .inr (1, [])), ((a_b 1), .inr (5, [])), ((a_b 2), .inr (6, [])), ((a_b 3), .inr (2, [])), ((a_b 4), .inr (8, []))] hB (c_X10_kindOf X l a_sT a_sTc a_sTk a_sTw f_sT_taken_10 f_sT_size f_sT_spot v_sTc_11 v_sTk x4_1 u_37 hu_37) wq_2_225 wq_1_9 wq_3_35 wq_2_223 wq_2_224 hd_X10_kindOf (by decide) hP hD hS hl.1 [1, 2, 3] [0, 4, 5, 6, 7, 8, 9] [(a_s, .inr (9, [.ref a_sT, .ref a_kb, .int f_s_moves_5, .int f_s_bounces_6, .int f_s_potted_7, .int f_s_brings, .int f_s_firstHitDirection_8, .int f_s_firstHitPower_9, .int f_s_foul])), (a_kb, .inl (xB X, 5, .inr (.inr (.inr (.inr (fun j => some (a_b j))))))), ((a_b 0), .inr (1, [])), ((a_b 1), .inr (5, [])), ((a_b 2), .inr (6, [])), ((a_b 3), .inr (2, [])), ((a_b 4), .inr (8, []))] rfl (by decide +kernel) rfl rfl rfl (nn := 10) rfl (by decide +kernel) [a_s, a_sT, a_sTc, a_sTk, a_kb, (a_b 0), (a_b 1), (a_b 2), (a_b 3), (a_b 4)] rfl rfl (q0 := 1) rfl rfl rfl rfl (Nat.le_of_ble_eq_true rfl) dX9_roll_98 ⟨Nat.zero_le _, Nat.zero_le _⟩ (fun H locs hP hD hS => ?_)
            obtain ⟨u_38, hu_38, h⟩ := ob_s h
            refine cVr (C := RX9) (As := [.int u_37]) (rest := []) [(a_s, .inr (9, [.ref a_sT, .ref a_kb, .int f_s_moves_5, .int f_s_bounces_6, .int f_s_potted_7, .int f_s_brings, .int f_s_firstHitDirection_8, .int f_s_firstHitPower_9, .int f_s_foul])), (a_sT, .inr (10, [.ref a_sTc, .ref a_sTk, .ref a_sTw, .long f_sT_taken_10, .int f_sT_size, .int f_sT_spot])), (a_sTc, .inl (xI X, 7, .inl v_sTc_11)), (a_sTk, .inl (xI X, 7, .inl v_sTk)), (a_kb, .inl (xB X, 5, .inr (.inr (.inr (.inr (fun j => some (a_b j))))))), ((a_b 0), .inr (1, [])), ((a_b 1), .inr (5, [])), ((a_b 2), .inr (6, [])), ((a_b 3), .inr (2, [])), ((a_b 4), .inr (8, []))] hB (c_X9_kind X l a_s a_sT a_kb a_b f_s_moves_5 f_s_bounces_6 f_s_potted_7 f_s_brings f_s_firstHitDirection_8 f_s_firstHitPower_9 f_s_foul u_37 u_38 hu_38) wq_3_39 wq_1_11 wq_3_36 wq_3_38 wp_9 hd_X9_kind (by decide) hP hD hS hl.1 [0, 4] [1, 2, 3, 5, 6, 7, 8, 9] [(a_sT, .inr (10, [.ref a_sTc, .ref a_sTk, .ref a_sTw, .long f_sT_taken_10, .int f_sT_size, .int f_sT_spot])), (a_sTc, .inl (xI X, 7, .inl v_sTc_11)), (a_sTk, .inl (xI X, 7, .inl v_sTk)), ((a_b 0), .inr (1, [])), ((a_b 1), .inr (5, [])), ((a_b 2), .inr (6, [])), ((a_b 3), .inr (2, [])), ((a_b 4), .inr (8, []))] rfl (by decide +kernel) rfl rfl rfl (nn := 10) rfl (by decide +kernel) [a_s, a_sT, a_sTc, a_sTk, a_kb, (a_b 0), (a_b 1), (a_b 2), (a_b 3), (a_b 4)] rfl rfl (q0 := 0) rfl rfl rfl rfl (Nat.le_of_ble_eq_true rfl) dX9_roll_101 ⟨Nat.zero_le _, Nat.zero_le _⟩ (fun H locs hP hD hS => ?_)
            obtain ⟨z_39, h⟩ := gd_s h
            refine poly_stopsAtCushion hB hP hD hS hl.1 (of_decide_eq_true z_39) 5 rfl rfl rfl rfl rfl wq_3_40 ⟨Nat.le_of_ble_eq_true rfl, Nat.le_of_ble_eq_true rfl⟩ dX9_roll_104 (Nat.le_of_ble_eq_true rfl) ⟨Nat.zero_le _, Nat.zero_le _⟩ (fun H locs hP hD hS => ?_)
            refine lv_topi (fun x11_40 ex11_40 => ?_)
            replace h := bn_s h ex11_40
            refine lv_istore (lv' := [(11, .int x11_40), (0, .ref a_s), (4, .int x4_1), (5, .int x5_2), (6, .int x6_3), (7, .int x7_4), (8, .int x8_18), (9, .int x9_21)]) hx hb dX9_roll_107 hl (by decide) rfl (fun ls hl => ?_)
            refine lv_iload hx hb dX9_roll_109 (lv_at hl 0 rfl) ?_
            obtain ⟨j124_42, ej124_42, h⟩ := jn_s h
            have J124_42 : ∀ (f_s_bounces_41 : Int32), j124_42 f_s_bounces_41 = some res → ∀ (H : Heap) (locs : List Loc) (ls : Array Slot), va_P (xD X) vwCl [(a_s, .inr (9, [.ref a_sT, .ref a_kb, .int f_s_moves_5, .int f_s_bounces_41, .int f_s_potted_7, .int f_s_brings, .int f_s_firstHitDirection_8, .int f_s_firstHitPower_9, .int f_s_foul])), (a_sT, .inr (10, [.ref a_sTc, .ref a_sTk, .ref a_sTw, .long f_sT_taken_10, .int f_sT_size, .int f_sT_spot])), (a_sTc, .inl (xI X, 7, .inl v_sTc_11)), (a_sTk, .inl (xI X, 7, .inl v_sTk)), (a_kb, .inl (xB X, 5, .inr (.inr (.inr (.inr (fun j => some (a_b j))))))), ((a_b 0), .inr (1, [])), ((a_b 1), .inr (5, [])), ((a_b 2), .inr (6, [])), ((a_b 3), .inr (2, [])), ((a_b 4), .inr (8, []))] H → va_D A [(a_s, .inr (9, [.ref a_sT, .ref a_kb, .int f_s_moves_5, .int f_s_bounces_41, .int f_s_potted_7, .int f_s_brings, .int f_s_firstHitDirection_8, .int f_s_firstHitPower_9, .int f_s_foul])), (a_sT, .inr (10, [.ref a_sTc, .ref a_sTk, .ref a_sTw, .long f_sT_taken_10, .int f_sT_size, .int f_sT_spot])), (a_sTc, .inl (xI X, 7, .inl v_sTc_11)), (a_sTk, .inl (xI X, 7, .inl v_sTk)), (a_kb, .inl (xB X, 5, .inr (.inr (.inr (.inr (fun j => some (a_b j))))))), ((a_b 0), .inr (1, [])), ((a_b 1), .inr (5, [])), ((a_b 2), .inr (6, [])), ((a_b 3), .inr (2, [])), ((a_b 4), .inr (8, []))] → va_S A s.heap H locs → lv_has ls 12 [(0, .ref a_s), (4, .int x4_1), (5, .int x5_2), (6, .int x6_3), (7, .int x7_4), (8, .int x8_18), (9, .int x9_21), (11, .int x11_40)] → W p l e (rmF 1 23) s m args below meth c H locs 0 0 Q (F0 m 124 ls []) := by
              clear h
              intro f_s_bounces_41 h H locs ls hP hD hS hl
              rw [ej124_42] at h
              replace h := id h
              refine lv_iload hx hb dX9_roll_124 (lv_at hl 2 rfl) ?_
              refine lv_iload hx hb dX9_roll_126 (lv_at hl 5 rfl) ?_
              obtain ⟨u_43, hu_43, h⟩ := ob_s h
              refine cNi (host := "WhiteWanted") (As := [.int x8_18]) (rest := [.int x5_2]) [(a_s, .inr (9, [.ref a_sT, .ref a_kb, .int f_s_moves_5, .int f_s_bounces_41, .int f_s_potted_7, .int f_s_brings, .int f_s_firstHitDirection_8, .int f_s_firstHitPower_9, .int f_s_foul])), (a_sT, .inr (10, [.ref a_sTc, .ref a_sTk, .ref a_sTw, .long f_sT_taken_10, .int f_sT_size, .int f_sT_spot])), (a_sTc, .inl (xI X, 7, .inl v_sTc_11)), (a_sTk, .inl (xI X, 7, .inl v_sTk)), (a_kb, .inl (xB X, 5, .inr (.inr (.inr (.inr (fun j => some (a_b j))))))), ((a_b 0), .inr (1, [])), ((a_b 1), .inr (5, [])), ((a_b 2), .inr (6, [])), ((a_b 3), .inr (2, [])), ((a_b 4), .inr (8, []))] hB (c_X11_isRow X l x8_18 u_43 hu_43) wq_2_72 wq_1_1 wq_3_33 wq_2_71 hd_X11_isRow (by decide) hP hD hS hl.1 [] [0, 1, 2, 3, 4, 5, 6, 7, 8, 9] [(a_s, .inr (9, [.ref a_sT, .ref a_kb, .int f_s_moves_5, .int f_s_bounces_41, .int f_s_potted_7, .int f_s_brings, .int f_s_firstHitDirection_8, .int f_s_firstHitPower_9, .int f_s_foul])), (a_sT, .inr (10, [.ref a_sTc, .ref a_sTk, .ref a_sTw, .long f_sT_taken_10, .int f_sT_size, .int f_sT_spot])), (a_sTc, .inl (xI X, 7, .inl v_sTc_11)), (a_sTk, .inl (xI X, 7, .inl v_sTk)), (a_kb, .inl (xB X, 5, .inr (.inr (.inr (.inr (fun j => some (a_b j))))))), ((a_b 0), .inr (1, [])), ((a_b 1), .inr (5, [])), ((a_b 2), .inr (6, [])), ((a_b 3), .inr (2, [])), ((a_b 4), .inr (8, []))] rfl (by decide +kernel) rfl rfl rfl (nn := 10) rfl (by decide +kernel) [a_s, a_sT, a_sTc, a_sTk, a_kb, (a_b 0), (a_b 1), (a_b 2), (a_b 3), (a_b 4)] rfl rfl rfl rfl (Nat.le_of_ble_eq_true rfl) dX9_roll_128 ⟨Nat.zero_le _, Nat.zero_le _⟩ (fun H locs hP hD hS => ?_)
              obtain ⟨j139_46, ej139_46, h⟩ := jn_s h
              have J139_46 : ∀ (k_44 : Int32) (k_45 : Int32), j139_46 k_44 k_45 = some res → ∀ (H : Heap) (locs : List Loc) (ls : Array Slot), va_P (xD X) vwCl [(a_s, .inr (9, [.ref a_sT, .ref a_kb, .int f_s_moves_5, .int f_s_bounces_41, .int f_s_potted_7, .int f_s_brings, .int f_s_firstHitDirection_8, .int f_s_firstHitPower_9, .int f_s_foul])), (a_sT, .inr (10, [.ref a_sTc, .ref a_sTk, .ref a_sTw, .long f_sT_taken_10, .int f_sT_size, .int f_sT_spot])), (a_sTc, .inl (xI X, 7, .inl v_sTc_11)), (a_sTk, .inl (xI X, 7, .inl v_sTk)), (a_kb, .inl (xB X, 5, .inr (.inr (.inr (.inr (fun j => some (a_b j))))))), ((a_b 0), .inr (1, [])), ((a_b 1), .inr (5, [])), ((a_b 2), .inr (6, [])), ((a_b 3), .inr (2, [])), ((a_b 4), .inr (8, []))] H → va_D A [(a_s, .inr (9, [.ref a_sT, .ref a_kb, .int f_s_moves_5, .int f_s_bounces_41, .int f_s_potted_7, .int f_s_brings, .int f_s_firstHitDirection_8, .int f_s_firstHitPower_9, .int f_s_foul])), (a_sT, .inr (10, [.ref a_sTc, .ref a_sTk, .ref a_sTw, .long f_sT_taken_10, .int f_sT_size, .int f_sT_spot])), (a_sTc, .inl (xI X, 7, .inl v_sTc_11)), (a_sTk, .inl (xI X, 7, .inl v_sTk)), (a_kb, .inl (xB X, 5, .inr (.inr (.inr (.inr (fun j => some (a_b j))))))), ((a_b 0), .inr (1, [])), ((a_b 1), .inr (5, [])), ((a_b 2), .inr (6, [])), ((a_b 3), .inr (2, [])), ((a_b 4), .inr (8, []))] → va_S A s.heap H locs → lv_has ls 12 [(0, .ref a_s), (4, .int x4_1), (6, .int x6_3), (7, .int x7_4), (9, .int x9_21), (11, .int x11_40)] → W p l e (rmF 1 23) s m args below meth c H locs 0 0 Q (F0 m 139 ls [.int k_45, .int k_44]) := by
                clear h
                intro k_44 k_45 h H locs ls hP hD hS hl
                rw [ej139_46] at h
                replace h := id h
                refine lv_iload hx hb dX9_roll_139 (lv_at hl 4 rfl) ?_
                obtain ⟨u_47, hu_47, h⟩ := ob_s h
                refine cNi (host := "WhiteWanted") (As := [.int x9_21]) (rest := [.int k_45, .int k_44]) [(a_s, .inr (9, [.ref a_sT, .ref a_kb, .int f_s_moves_5, .int f_s_bounces_41, .int f_s_potted_7, .int f_s_brings, .int f_s_firstHitDirection_8, .int f_s_firstHitPower_9, .int f_s_foul])), (a_sT, .inr (10, [.ref a_sTc, .ref a_sTk, .ref a_sTw, .long f_sT_taken_10, .int f_sT_size, .int f_sT_spot])), (a_sTc, .inl (xI X, 7, .inl v_sTc_11)), (a_sTk, .inl (xI X, 7, .inl v_sTk)), (a_kb, .inl (xB X, 5, .inr (.inr (.inr (.inr (fun j => some (a_b j))))))), ((a_b 0), .inr (1, [])), ((a_b 1), .inr (5, [])), ((a_b 2), .inr (6, [])), ((a_b 3), .inr (2, [])), ((a_b 4), .inr (8, []))] hB (c_X11_isColumn X l x9_21 u_47 hu_47) wq_2_75 wq_1_1 wq_3_34 wq_2_74 hd_X11_isColumn (by decide) hP hD hS hl.1 [] [0, 1, 2, 3, 4, 5, 6, 7, 8, 9] [(a_s, .inr (9, [.ref a_sT, .ref a_kb, .int f_s_moves_5, .int f_s_bounces_41, .int f_s_potted_7, .int f_s_brings, .int f_s_firstHitDirection_8, .int f_s_firstHitPower_9, .int f_s_foul])), (a_sT, .inr (10, [.ref a_sTc, .ref a_sTk, .ref a_sTw, .long f_sT_taken_10, .int f_sT_size, .int f_sT_spot])), (a_sTc, .inl (xI X, 7, .inl v_sTc_11)), (a_sTk, .inl (xI X, 7, .inl v_sTk)), (a_kb, .inl (xB X, 5, .inr (.inr (.inr (.inr (fun j => some (a_b j))))))), ((a_b 0), .inr (1, [])), ((a_b 1), .inr (5, [])), ((a_b 2), .inr (6, [])), ((a_b 3), .inr (2, [])), ((a_b 4), .inr (8, []))] rfl (by decide +kernel) rfl rfl rfl (nn := 10) rfl (by decide +kernel) [a_s, a_sT, a_sTc, a_sTk, a_kb, (a_b 0), (a_b 1), (a_b 2), (a_b 3), (a_b 4)] rfl rfl rfl rfl (Nat.le_of_ble_eq_true rfl) dX9_roll_141 ⟨Nat.zero_le _, Nat.zero_le _⟩ (fun H locs hP hD hS => ?_)
                obtain ⟨j152_51, ej152_51, h⟩ := jn_s h
                have J152_51 : ∀ (k_48 : Int32) (k_49 : Int32) (k_50 : Int32), j152_51 k_48 k_49 k_50 = some res → ∀ (H : Heap) (locs : List Loc) (ls : Array Slot), va_P (xD X) vwCl [(a_s, .inr (9, [.ref a_sT, .ref a_kb, .int f_s_moves_5, .int f_s_bounces_41, .int f_s_potted_7, .int f_s_brings, .int f_s_firstHitDirection_8, .int f_s_firstHitPower_9, .int f_s_foul])), (a_sT, .inr (10, [.ref a_sTc, .ref a_sTk, .ref a_sTw, .long f_sT_taken_10, .int f_sT_size, .int f_sT_spot])), (a_sTc, .inl (xI X, 7, .inl v_sTc_11)), (a_sTk, .inl (xI X, 7, .inl v_sTk)), (a_kb, .inl (xB X, 5, .inr (.inr (.inr (.inr (fun j => some (a_b j))))))), ((a_b 0), .inr (1, [])), ((a_b 1), .inr (5, [])), ((a_b 2), .inr (6, [])), ((a_b 3), .inr (2, [])), ((a_b 4), .inr (8, []))] H → va_D A [(a_s, .inr (9, [.ref a_sT, .ref a_kb, .int f_s_moves_5, .int f_s_bounces_41, .int f_s_potted_7, .int f_s_brings, .int f_s_firstHitDirection_8, .int f_s_firstHitPower_9, .int f_s_foul])), (a_sT, .inr (10, [.ref a_sTc, .ref a_sTk, .ref a_sTw, .long f_sT_taken_10, .int f_sT_size, .int f_sT_spot])), (a_sTc, .inl (xI X, 7, .inl v_sTc_11)), (a_sTk, .inl (xI X, 7, .inl v_sTk)), (a_kb, .inl (xB X, 5, .inr (.inr (.inr (.inr (fun j => some (a_b j))))))), ((a_b 0), .inr (1, [])), ((a_b 1), .inr (5, [])), ((a_b 2), .inr (6, [])), ((a_b 3), .inr (2, [])), ((a_b 4), .inr (8, []))] → va_S A s.heap H locs → lv_has ls 12 [(0, .ref a_s), (4, .int x4_1), (6, .int x6_3), (7, .int x7_4), (11, .int x11_40)] → W p l e (rmF 1 23) s m args below meth c H locs 0 0 Q (F0 m 152 ls [.int k_50, .int k_49, .int k_48]) := by
                  clear h
                  intro k_48 k_49 k_50 h H locs ls hP hD hS hl
                  rw [ej152_51] at h
                  replace h := id h
                  obtain ⟨u_52, hu_52, h⟩ := ob_s h
                  refine cSi (As := [.int k_48, .int k_49, .int k_50]) (rest := []) [(a_s, .inr (9, [.ref a_sT, .ref a_kb, .int f_s_moves_5, .int f_s_bounces_41, .int f_s_potted_7, .int f_s_brings, .int f_s_firstHitDirection_8, .int f_s_firstHitPower_9, .int f_s_foul])), (a_sT, .inr (10, [.ref a_sTc, .ref a_sTk, .ref a_sTw, .long f_sT_taken_10, .int f_sT_size, .int f_sT_spot])), (a_sTc, .inl (xI X, 7, .inl v_sTc_11)), (a_sTk, .inl (xI X, 7, .inl v_sTk)), (a_kb, .inl (xB X, 5, .inr (.inr (.inr (.inr (fun j => some (a_b j))))))), ((a_b 0), .inr (1, [])), ((a_b 1), .inr (5, [])), ((a_b 2), .inr (6, [])), ((a_b 3), .inr (2, [])), ((a_b 4), .inr (8, []))] hB (c_X9_turned X l k_48 k_49 k_50 u_52 hu_52) wq_3_53 wq_1_11 wq_3_51 wq_3_52 hd_X9_turned (by decide) hP hD hS hl.1 [] [0, 1, 2, 3, 4, 5, 6, 7, 8, 9] [(a_s, .inr (9, [.ref a_sT, .ref a_kb, .int f_s_moves_5, .int f_s_bounces_41, .int f_s_potted_7, .int f_s_brings, .int f_s_firstHitDirection_8, .int f_s_firstHitPower_9, .int f_s_foul])), (a_sT, .inr (10, [.ref a_sTc, .ref a_sTk, .ref a_sTw, .long f_sT_taken_10, .int f_sT_size, .int f_sT_spot])), (a_sTc, .inl (xI X, 7, .inl v_sTc_11)), (a_sTk, .inl (xI X, 7, .inl v_sTk)), (a_kb, .inl (xB X, 5, .inr (.inr (.inr (.inr (fun j => some (a_b j))))))), ((a_b 0), .inr (1, [])), ((a_b 1), .inr (5, [])), ((a_b 2), .inr (6, [])), ((a_b 3), .inr (2, [])), ((a_b 4), .inr (8, []))] rfl (by decide +kernel) rfl rfl rfl (nn := 10) rfl (by decide +kernel) [a_s, a_sT, a_sTc, a_sTk, a_kb, (a_b 0), (a_b 1), (a_b 2), (a_b 3), (a_b 4)] rfl rfl rfl rfl (Nat.le_of_ble_eq_true rfl) dX9_roll_152 ⟨Nat.zero_le _, Nat.zero_le _⟩ (fun H locs hP hD hS => ?_)
                  refine lv_istore (lv' := [(5, .int u_52), (0, .ref a_s), (4, .int x4_1), (6, .int x6_3), (7, .int x7_4), (11, .int x11_40)]) hx hb dX9_roll_155 hl (by decide) rfl (fun ls hl => ?_)
                  refine lv_iload hx hb dX9_roll_157 (lv_at hl 5 rfl) ?_
                  obtain ⟨j170_54, ej170_54, h⟩ := jn_s h
                  have J170_54 : ∀ (k_53 : Int32), j170_54 k_53 = some res → ∀ (H : Heap) (locs : List Loc) (ls : Array Slot), va_P (xD X) vwCl [(a_s, .inr (9, [.ref a_sT, .ref a_kb, .int f_s_moves_5, .int f_s_bounces_41, .int f_s_potted_7, .int f_s_brings, .int f_s_firstHitDirection_8, .int f_s_firstHitPower_9, .int f_s_foul])), (a_sT, .inr (10, [.ref a_sTc, .ref a_sTk, .ref a_sTw, .long f_sT_taken_10, .int f_sT_size, .int f_sT_spot])), (a_sTc, .inl (xI X, 7, .inl v_sTc_11)), (a_sTk, .inl (xI X, 7, .inl v_sTk)), (a_kb, .inl (xB X, 5, .inr (.inr (.inr (.inr (fun j => some (a_b j))))))), ((a_b 0), .inr (1, [])), ((a_b 1), .inr (5, [])), ((a_b 2), .inr (6, [])), ((a_b 3), .inr (2, [])), ((a_b 4), .inr (8, []))] H → va_D A [(a_s, .inr (9, [.ref a_sT, .ref a_kb, .int f_s_moves_5, .int f_s_bounces_41, .int f_s_potted_7, .int f_s_brings, .int f_s_firstHitDirection_8, .int f_s_firstHitPower_9, .int f_s_foul])), (a_sT, .inr (10, [.ref a_sTc, .ref a_sTk, .ref a_sTw, .long f_sT_taken_10, .int f_sT_size, .int f_sT_spot])), (a_sTc, .inl (xI X, 7, .inl v_sTc_11)), (a_sTk, .inl (xI X, 7, .inl v_sTk)), (a_kb, .inl (xB X, 5, .inr (.inr (.inr (.inr (fun j => some (a_b j))))))), ((a_b 0), .inr (1, [])), ((a_b 1), .inr (5, [])), ((a_b 2), .inr (6, [])), ((a_b 3), .inr (2, [])), ((a_b 4), .inr (8, []))] → va_S A s.heap H locs → lv_has ls 12 [(0, .ref a_s), (4, .int x4_1), (5, .int u_52), (7, .int x7_4)] → W p l e (rmF 1 23) s m args below meth c H locs 0 0 Q (F0 m 170 ls [.int k_53]) := by
                    clear h
                    intro k_53 h H locs ls hP hD hS hl
                    rw [ej170_54] at h
                    replace h := id h
                    refine lv_istore (lv' := [(6, .int k_53), (0, .ref a_s), (4, .int x4_1), (5, .int u_52), (7, .int x7_4)]) hx hb dX9_roll_170 hl (by decide) rfl (fun ls hl => ?_)
                    refine lv_goto (tgt := 301) hx hb dX9_roll_172 (by decide) ?_
                    exact J301_34 x4_1 u_52 k_53 f_s_moves_5 f_s_bounces_41 f_s_potted_7 f_s_firstHitDirection_8 f_s_firstHitPower_9 f_sT_taken_10 v_sTc_11 h _ _ _ hP hD hS (lv_sub hl [1, 2, 3, 0, 4] rfl)
                  clear ej170_54
                  refine lv_if_eq (tgt := 166) hx hb dX9_roll_159 (by decide) (fun c_55 => ?_) (fun c_55 => ?_)
                  · replace h := it_p c_55 h
                    refine lv_iload hx hb dX9_roll_166 (lv_at hl 3 rfl) ?_
                    refine lv_iconst (v := 1) hx hb dX9_roll_168 (by decide) ?_
                    refine lv_isub hx hb dX9_roll_169 ?_
                    exact J170_54 (x6_3 - 1) h _ _ _ hP hD hS (lv_sub hl [1, 2, 0, 4] rfl)
                  · replace h := it_n c_55 h
                    refine lv_iconst (v := 0) hx hb dX9_roll_162 (by decide) ?_
                    refine lv_goto (tgt := 170) hx hb dX9_roll_163 (by decide) ?_
                    exact J170_54 0 h _ _ _ hP hD hS (lv_sub hl [1, 2, 0, 4] rfl)
                clear ej152_51
                refine lv_if_ne (tgt := 151) hx hb dX9_roll_144 (by decide) (fun c_56 => ?_) (fun c_56 => ?_)
                · replace h := it_n c_56 h
                  refine lv_iconst (v := 0) hx hb dX9_roll_151 (by decide) ?_
                  exact J152_51 k_44 k_45 0 h _ _ _ hP hD hS (lv_sub hl [0, 1, 2, 3, 5] rfl)
                · replace h := it_p c_56 h
                  refine lv_iconst (v := 1) hx hb dX9_roll_147 (by decide) ?_
                  refine lv_goto (tgt := 152) hx hb dX9_roll_148 (by decide) ?_
                  exact J152_51 k_44 k_45 1 h _ _ _ hP hD hS (lv_sub hl [0, 1, 2, 3, 5] rfl)
              clear ej139_46
              refine lv_if_ne (tgt := 138) hx hb dX9_roll_131 (by decide) (fun c_57 => ?_) (fun c_57 => ?_)
              · replace h := it_n c_57 h
                refine lv_iconst (v := 0) hx hb dX9_roll_138 (by decide) ?_
                exact J139_46 x5_2 0 h _ _ _ hP hD hS (lv_sub hl [0, 1, 3, 4, 6, 7] rfl)
              · replace h := it_p c_57 h
                refine lv_iconst (v := 1) hx hb dX9_roll_134 (by decide) ?_
                refine lv_goto (tgt := 139) hx hb dX9_roll_135 (by decide) ?_
                exact J139_46 x5_2 1 h _ _ _ hP hD hS (lv_sub hl [0, 1, 3, 4, 6, 7] rfl)
            clear ej124_42
            refine lv_if_ne (tgt := 124) hx hb dX9_roll_111 (by decide) (fun c_58 => ?_) (fun c_58 => ?_)
            · replace h := it_n c_58 h
              exact J124_42 f_s_bounces_6 h _ _ _ hP hD hS (lv_sub hl [1, 2, 3, 4, 5, 6, 7, 0] rfl)
            · replace h := it_p c_58 h
              refine lv_aload_n hx hb dX9_roll_114 rfl (lv_at hl 1 rfl) ?_
              refine lv_dup hx hb dX9_roll_115 rfl ?_
              refine va_get (D := xD X) (ci := 9) (v := .int f_s_bounces_6) (C := RX9) (T := TX9) (N := 9) hx hb hts inX9 hown hK hP 0 rfl rfl 3 (by decide) (hts _ wq_1_174) (fun _ h9 => h9) rfl dX9_roll_116 ?_
              refine lv_iconst (v := 1) hx hb dX9_roll_119 (by decide) ?_
              refine lv_iadd hx hb dX9_roll_120 ?_
              refine va_put (D := xD X) (ci := 9) (v := .int (f_s_bounces_6 + 1)) (ty := .int) (C := RX9) (T := TX9) (N := 9) hx hb hts inX9 tyX9 tyX9_ok nmX9 hown hK hP hD hS 0 rfl rfl 3 (by decide) (hts _ wq_1_174) (fun _ h9 => h9) rfl (by decide +kernel) rfl rfl (Nat.le_of_ble_eq_true rfl) dX9_roll_121 (fun H locs (hP : va_P (xD X) vwCl [(a_s, .inr (9, [.ref a_sT, .ref a_kb, .int f_s_moves_5, .int (f_s_bounces_6 + 1), .int f_s_potted_7, .int f_s_brings, .int f_s_firstHitDirection_8, .int f_s_firstHitPower_9, .int f_s_foul])), (a_sT, .inr (10, [.ref a_sTc, .ref a_sTk, .ref a_sTw, .long f_sT_taken_10, .int f_sT_size, .int f_sT_spot])), (a_sTc, .inl (xI X, 7, .inl v_sTc_11)), (a_sTk, .inl (xI X, 7, .inl v_sTk)), (a_kb, .inl (xB X, 5, .inr (.inr (.inr (.inr (fun j => some (a_b j))))))), ((a_b 0), .inr (1, [])), ((a_b 1), .inr (5, [])), ((a_b 2), .inr (6, [])), ((a_b 3), .inr (2, [])), ((a_b 4), .inr (8, []))] H) (hD : va_D A [(a_s, .inr (9, [.ref a_sT, .ref a_kb, .int f_s_moves_5, .int (f_s_bounces_6 + 1), .int f_s_potted_7, .int f_s_brings, .int f_s_firstHitDirection_8, .int f_s_firstHitPower_9, .int f_s_foul])), (a_sT, .inr (10, [.ref a_sTc, .ref a_sTk, .ref a_sTw, .long f_sT_taken_10, .int f_sT_size, .int f_sT_spot])), (a_sTc, .inl (xI X, 7, .inl v_sTc_11)), (a_sTk, .inl (xI X, 7, .inl v_sTk)), (a_kb, .inl (xB X, 5, .inr (.inr (.inr (.inr (fun j => some (a_b j))))))), ((a_b 0), .inr (1, [])), ((a_b 1), .inr (5, [])), ((a_b 2), .inr (6, [])), ((a_b 3), .inr (2, [])), ((a_b 4), .inr (8, []))]) hS => ?_)
              exact J124_42 (f_s_bounces_6 + 1) h _ _ _ hP hD hS (lv_sub hl [1, 2, 3, 4, 5, 6, 7, 0] rfl)
          clear ej91_36
          refine lv_if_eq (tgt := 91) hx hb dX9_roll_80 (by decide) (fun c_59 => ?_) (fun c_59 => ?_)
          · replace h := it_p c_59 h
            exact J91_36 h _ _ _ hP hD hS (lv_sub hl [3, 4, 5, 6, 7, 2, 1] rfl)
          · replace h := it_n c_59 h
            refine lv_iload hx hb dX9_roll_83 (lv_at hl 1 rfl) ?_
            obtain ⟨u_60, hu_60, h⟩ := ob_s h
            refine cNi (host := "WhiteWanted") (As := [.int x9_21]) (rest := []) [(a_s, .inr (9, [.ref a_sT, .ref a_kb, .int f_s_moves_5, .int f_s_bounces_6, .int f_s_potted_7, .int f_s_brings, .int f_s_firstHitDirection_8, .int f_s_firstHitPower_9, .int f_s_foul])), (a_sT, .inr (10, [.ref a_sTc, .ref a_sTk, .ref a_sTw, .long f_sT_taken_10, .int f_sT_size, .int f_sT_spot])), (a_sTc, .inl (xI X, 7, .inl v_sTc_11)), (a_sTk, .inl (xI X, 7, .inl v_sTk)), (a_kb, .inl (xB X, 5, .inr (.inr (.inr (.inr (fun j => some (a_b j))))))), ((a_b 0), .inr (1, [])), ((a_b 1), .inr (5, [])), ((a_b 2), .inr (6, [])), ((a_b 3), .inr (2, [])), ((a_b 4), .inr (8, []))] hB (c_X11_isColumn X l x9_21 u_60 hu_60) wq_2_75 wq_1_1 wq_3_34 wq_2_74 hd_X11_isColumn (by decide) hP hD hS hl.1 [] [0, 1, 2, 3, 4, 5, 6, 7, 8, 9] [(a_s, .inr (9, [.ref a_sT, .ref a_kb, .int f_s_moves_5, .int f_s_bounces_6, .int f_s_potted_7, .int f_s_brings, .int f_s_firstHitDirection_8, .int f_s_firstHitPower_9, .int f_s_foul])), (a_sT, .inr (10, [.ref a_sTc, .ref a_sTk, .ref a_sTw, .long f_sT_taken_10, .int f_sT_size, .int f_sT_spot])), (a_sTc, .inl (xI X, 7, .inl v_sTc_11)), (a_sTk, .inl (xI X, 7, .inl v_sTk)), (a_kb, .inl (xB X, 5, .inr (.inr (.inr (.inr (fun j => some (a_b j))))))), ((a_b 0), .inr (1, [])), ((a_b 1), .inr (5, [])), ((a_b 2), .inr (6, [])), ((a_b 3), .inr (2, [])), ((a_b 4), .inr (8, []))] rfl (by decide +kernel) rfl rfl rfl (nn := 10) rfl (by decide +kernel) [a_s, a_sT, a_sTc, a_sTk, a_kb, (a_b 0), (a_b 1), (a_b 2), (a_b 3), (a_b 4)] rfl rfl rfl rfl (Nat.le_of_ble_eq_true rfl) dX9_roll_85 ⟨Nat.zero_le _, Nat.zero_le _⟩ (fun H locs hP hD hS => ?_)
            refine lv_if_ne (tgt := 175) hx hb dX9_roll_88 (by decide) (fun c_61 => ?_) (fun c_61 => ?_)
            · replace h := it_n c_61 h
              refine lv_aload_n hx hb dX9_roll_175 rfl (lv_at hl 3 rfl) ?_
              refine va_get (D := xD X) (ci := 9) (v := .ref a_sT) (C := RX9) (T := TX9) (N := 9) hx hb hts inX9 hown hK hP 0 rfl rfl 0 (by decide) (hts _ wq_1_167) (fun _ h9 => h9) rfl dX9_roll_176 ?_
              refine lv_iload hx hb dX9_roll_179 (lv_at hl 0 rfl) ?_
              obtain ⟨u_62, hu_62, h⟩ := ob_s h
              refine cVi (C := RX10) (As := [.int x10_22]) (rest := []) [(a_s, .inr (9, [.ref a_sT, .ref a_kb, .int f_s_moves_5, .int f_s_bounces_6, .int f_s_potted_7, .int f_s_brings, .int f_s_firstHitDirection_8, .int f_s_firstHitPower_9, .int f_s_foul])), (a_sT, .inr (10, [.ref a_sTc, .ref a_sTk, .ref a_sTw, .long f_sT_taken_10, .int f_sT_size, .int f_sT_spot])), (a_sTc, .inl (xI X, 7, .inl v_sTc_11)), (a_sTk, .inl (xI X, 7, .inl v_sTk)), (a_kb, .inl (xB X, 5, .inr (.inr (.inr (.inr (fun j => some (a_b j))))))), ((a_b 0), .inr (1, [])), ((a_b 1), .inr (5, [])), ((a_b 2), .inr (6, [])), ((a_b 3), .inr (2, [])), ((a_b 4), .inr (8, []))] hB (c_X10_ballIn X l n a_sT a_sTc a_sTk a_sTw f_sT_taken_10 f_sT_size f_sT_spot v_sTc_11 x10_22 u_62 hu_62) wq_3_57 wq_1_9 wq_3_54 wq_3_55 wq_3_56 hd_X10_ballIn (by decide) hP hD hS hl.1 [1, 2] [0, 3, 4, 5, 6, 7, 8, 9] [(a_s, .inr (9, [.ref a_sT, .ref a_kb, .int f_s_moves_5, .int f_s_bounces_6, .int f_s_potted_7, .int f_s_brings, .int f_s_firstHitDirection_8, .int f_s_firstHitPower_9, .int f_s_foul])), (a_sTk, .inl (xI X, 7, .inl v_sTk)), (a_kb, .inl (xB X, 5, .inr (.inr (.inr (.inr (fun j => some (a_b j))))))), ((a_b 0), .inr (1, [])), ((a_b 1), .inr (5, [])), ((a_b 2), .inr (6, [])), ((a_b 3), .inr (2, [])), ((a_b 4), .inr (8, []))] rfl (by decide +kernel) rfl rfl rfl (nn := 10) rfl (by decide +kernel) [a_s, a_sT, a_sTc, a_sTk, a_kb, (a_b 0), (a_b 1), (a_b 2), (a_b 3), (a_b 4)] rfl rfl (q0 := 1) rfl rfl rfl rfl (Nat.le_of_ble_eq_true rfl) dX9_roll_181 ⟨Nat.zero_le _, Nat.zero_le _⟩ (fun H locs hP hD hS => ?_)
              refine lv_iconst (v := (-1)) hx hb dX9_roll_184 (by decide) ?_
              refine lv_icmp_eq (tgt := 238) hx hb dX9_roll_185 (by decide) (fun c_63 => ?_) (fun c_63 => ?_)
              · replace h := it_p c_63 h
                refine lv_iload hx hb dX9_roll_238 (lv_at hl 0 rfl) ?_
                obtain ⟨u_64, hu_64, h⟩ := ob_s h
                refine cNi (host := "WhiteWanted") (As := [.int x10_22]) (rest := []) [(a_s, .inr (9, [.ref a_sT, .ref a_kb, .int f_s_moves_5, .int f_s_bounces_6, .int f_s_potted_7, .int f_s_brings, .int f_s_firstHitDirection_8, .int f_s_firstHitPower_9, .int f_s_foul])), (a_sT, .inr (10, [.ref a_sTc, .ref a_sTk, .ref a_sTw, .long f_sT_taken_10, .int f_sT_size, .int f_sT_spot])), (a_sTc, .inl (xI X, 7, .inl v_sTc_11)), (a_sTk, .inl (xI X, 7, .inl v_sTk)), (a_kb, .inl (xB X, 5, .inr (.inr (.inr (.inr (fun j => some (a_b j))))))), ((a_b 0), .inr (1, [])), ((a_b 1), .inr (5, [])), ((a_b 2), .inr (6, [])), ((a_b 3), .inr (2, [])), ((a_b 4), .inr (8, []))] hB (c_X11_isPocket X l x10_22 u_64 hu_64) wq_2_86 wq_1_1 wq_3_77 wq_2_85 hd_X11_isPocket (by decide) hP hD hS hl.1 [] [0, 1, 2, 3, 4, 5, 6, 7, 8, 9] [(a_s, .inr (9, [.ref a_sT, .ref a_kb, .int f_s_moves_5, .int f_s_bounces_6, .int f_s_potted_7, .int f_s_brings, .int f_s_firstHitDirection_8, .int f_s_firstHitPower_9, .int f_s_foul])), (a_sT, .inr (10, [.ref a_sTc, .ref a_sTk, .ref a_sTw, .long f_sT_taken_10, .int f_sT_size, .int f_sT_spot])), (a_sTc, .inl (xI X, 7, .inl v_sTc_11)), (a_sTk, .inl (xI X, 7, .inl v_sTk)), (a_kb, .inl (xB X, 5, .inr (.inr (.inr (.inr (fun j => some (a_b j))))))), ((a_b 0), .inr (1, [])), ((a_b 1), .inr (5, [])), ((a_b 2), .inr (6, [])), ((a_b 3), .inr (2, [])), ((a_b 4), .inr (8, []))] rfl (by decide +kernel) rfl rfl rfl (nn := 10) rfl (by decide +kernel) [a_s, a_sT, a_sTc, a_sTk, a_kb, (a_b 0), (a_b 1), (a_b 2), (a_b 3), (a_b 4)] rfl rfl rfl rfl (Nat.le_of_ble_eq_true rfl) dX9_roll_240 ⟨Nat.zero_le _, Nat.zero_le _⟩ (fun H locs hP hD hS => ?_)
                refine lv_istore (lv' := [(11, .int u_64), (10, .int x10_22), (9, .int x9_21), (8, .int x8_18), (0, .ref a_s), (4, .int x4_1), (5, .int x5_2), (6, .int x6_3), (7, .int x7_4)]) hx hb dX9_roll_243 hl (by decide) rfl (fun ls hl => ?_)
                refine lv_aload_n hx hb dX9_roll_245 rfl (lv_at hl 4 rfl) ?_
                refine lv_dup hx hb dX9_roll_246 rfl ?_
                refine va_get (D := xD X) (ci := 9) (v := .int f_s_moves_5) (C := RX9) (T := TX9) (N := 9) hx hb hts inX9 hown hK hP 0 rfl rfl 2 (by decide) (hts _ wq_1_173) (fun _ h9 => h9) rfl dX9_roll_247 ?_
                refine lv_iconst (v := 1) hx hb dX9_roll_250 (by decide) ?_
                refine lv_iadd hx hb dX9_roll_251 ?_
                refine va_put (D := xD X) (ci := 9) (v := .int (f_s_moves_5 + 1)) (ty := .int) (C := RX9) (T := TX9) (N := 9) hx hb hts inX9 tyX9 tyX9_ok nmX9 hown hK hP hD hS 0 rfl rfl 2 (by decide) (hts _ wq_1_173) (fun _ h9 => h9) rfl (by decide +kernel) rfl rfl (Nat.le_of_ble_eq_true rfl) dX9_roll_252 (fun H locs (hP : va_P (xD X) vwCl [(a_s, .inr (9, [.ref a_sT, .ref a_kb, .int (f_s_moves_5 + 1), .int f_s_bounces_6, .int f_s_potted_7, .int f_s_brings, .int f_s_firstHitDirection_8, .int f_s_firstHitPower_9, .int f_s_foul])), (a_sT, .inr (10, [.ref a_sTc, .ref a_sTk, .ref a_sTw, .long f_sT_taken_10, .int f_sT_size, .int f_sT_spot])), (a_sTc, .inl (xI X, 7, .inl v_sTc_11)), (a_sTk, .inl (xI X, 7, .inl v_sTk)), (a_kb, .inl (xB X, 5, .inr (.inr (.inr (.inr (fun j => some (a_b j))))))), ((a_b 0), .inr (1, [])), ((a_b 1), .inr (5, [])), ((a_b 2), .inr (6, [])), ((a_b 3), .inr (2, [])), ((a_b 4), .inr (8, []))] H) (hD : va_D A [(a_s, .inr (9, [.ref a_sT, .ref a_kb, .int (f_s_moves_5 + 1), .int f_s_bounces_6, .int f_s_potted_7, .int f_s_brings, .int f_s_firstHitDirection_8, .int f_s_firstHitPower_9, .int f_s_foul])), (a_sT, .inr (10, [.ref a_sTc, .ref a_sTk, .ref a_sTw, .long f_sT_taken_10, .int f_sT_size, .int f_sT_spot])), (a_sTc, .inl (xI X, 7, .inl v_sTc_11)), (a_sTk, .inl (xI X, 7, .inl v_sTk)), (a_kb, .inl (xB X, 5, .inr (.inr (.inr (.inr (fun j => some (a_b j))))))), ((a_b 0), .inr (1, [])), ((a_b 1), .inr (5, [])), ((a_b 2), .inr (6, [])), ((a_b 3), .inr (2, [])), ((a_b 4), .inr (8, []))]) hS => ?_)
                refine lv_iload hx hb dX9_roll_255 (lv_at hl 0 rfl) ?_
                obtain ⟨j268_66, ej268_66, h⟩ := jn_s h
                have J268_66 : ∀ (k_65 : Int32), j268_66 k_65 = some res → ∀ (H : Heap) (locs : List Loc) (ls : Array Slot), va_P (xD X) vwCl [(a_s, .inr (9, [.ref a_sT, .ref a_kb, .int (f_s_moves_5 + 1), .int f_s_bounces_6, .int f_s_potted_7, .int f_s_brings, .int f_s_firstHitDirection_8, .int f_s_firstHitPower_9, .int f_s_foul])), (a_sT, .inr (10, [.ref a_sTc, .ref a_sTk, .ref a_sTw, .long f_sT_taken_10, .int f_sT_size, .int f_sT_spot])), (a_sTc, .inl (xI X, 7, .inl v_sTc_11)), (a_sTk, .inl (xI X, 7, .inl v_sTk)), (a_kb, .inl (xB X, 5, .inr (.inr (.inr (.inr (fun j => some (a_b j))))))), ((a_b 0), .inr (1, [])), ((a_b 1), .inr (5, [])), ((a_b 2), .inr (6, [])), ((a_b 3), .inr (2, [])), ((a_b 4), .inr (8, []))] H → va_D A [(a_s, .inr (9, [.ref a_sT, .ref a_kb, .int (f_s_moves_5 + 1), .int f_s_bounces_6, .int f_s_potted_7, .int f_s_brings, .int f_s_firstHitDirection_8, .int f_s_firstHitPower_9, .int f_s_foul])), (a_sT, .inr (10, [.ref a_sTc, .ref a_sTk, .ref a_sTw, .long f_sT_taken_10, .int f_sT_size, .int f_sT_spot])), (a_sTc, .inl (xI X, 7, .inl v_sTc_11)), (a_sTk, .inl (xI X, 7, .inl v_sTk)), (a_kb, .inl (xB X, 5, .inr (.inr (.inr (.inr (fun j => some (a_b j))))))), ((a_b 0), .inr (1, [])), ((a_b 1), .inr (5, [])), ((a_b 2), .inr (6, [])), ((a_b 3), .inr (2, [])), ((a_b 4), .inr (8, []))] → va_S A s.heap H locs → lv_has ls 12 [(0, .ref a_s), (4, .int x4_1), (5, .int x5_2), (7, .int x7_4), (10, .int x10_22), (11, .int u_64)] → W p l e (rmF 1 23) s m args below meth c H locs 0 0 Q (F0 m 268 ls [.int k_65]) := by
                  clear h
                  intro k_65 h H locs ls hP hD hS hl
                  rw [ej268_66] at h
                  replace h := id h
                  refine lv_istore (lv' := [(6, .int k_65), (0, .ref a_s), (4, .int x4_1), (5, .int x5_2), (7, .int x7_4), (10, .int x10_22), (11, .int u_64)]) hx hb dX9_roll_268 hl (by decide) rfl (fun ls hl => ?_)
                  refine lv_aload_n hx hb dX9_roll_270 rfl (lv_at hl 1 rfl) ?_
                  refine va_get (D := xD X) (ci := 9) (v := .ref a_sT) (C := RX9) (T := TX9) (N := 9) hx hb hts inX9 hown hK hP 0 rfl rfl 0 (by decide) (hts _ wq_1_167) (fun _ h9 => h9) rfl dX9_roll_271 ?_
                  refine lv_iload hx hb dX9_roll_274 (lv_at hl 2 rfl) ?_
                  refine lv_iload hx hb dX9_roll_276 (lv_at hl 6 rfl) ?_
                  obtain ⟨j287_69, ej287_69, h⟩ := jn_s h
                  have J287_69 : ∀ (k_67 : Int32) (k_68 : Int32), j287_69 k_67 k_68 = some res → ∀ (H : Heap) (locs : List Loc) (ls : Array Slot), va_P (xD X) vwCl [(a_s, .inr (9, [.ref a_sT, .ref a_kb, .int (f_s_moves_5 + 1), .int f_s_bounces_6, .int f_s_potted_7, .int f_s_brings, .int f_s_firstHitDirection_8, .int f_s_firstHitPower_9, .int f_s_foul])), (a_sT, .inr (10, [.ref a_sTc, .ref a_sTk, .ref a_sTw, .long f_sT_taken_10, .int f_sT_size, .int f_sT_spot])), (a_sTc, .inl (xI X, 7, .inl v_sTc_11)), (a_sTk, .inl (xI X, 7, .inl v_sTk)), (a_kb, .inl (xB X, 5, .inr (.inr (.inr (.inr (fun j => some (a_b j))))))), ((a_b 0), .inr (1, [])), ((a_b 1), .inr (5, [])), ((a_b 2), .inr (6, [])), ((a_b 3), .inr (2, [])), ((a_b 4), .inr (8, []))] H → va_D A [(a_s, .inr (9, [.ref a_sT, .ref a_kb, .int (f_s_moves_5 + 1), .int f_s_bounces_6, .int f_s_potted_7, .int f_s_brings, .int f_s_firstHitDirection_8, .int f_s_firstHitPower_9, .int f_s_foul])), (a_sT, .inr (10, [.ref a_sTc, .ref a_sTk, .ref a_sTw, .long f_sT_taken_10, .int f_sT_size, .int f_sT_spot])), (a_sTc, .inl (xI X, 7, .inl v_sTc_11)), (a_sTk, .inl (xI X, 7, .inl v_sTk)), (a_kb, .inl (xB X, 5, .inr (.inr (.inr (.inr (fun j => some (a_b j))))))), ((a_b 0), .inr (1, [])), ((a_b 1), .inr (5, [])), ((a_b 2), .inr (6, [])), ((a_b 3), .inr (2, [])), ((a_b 4), .inr (8, []))] → va_S A s.heap H locs → lv_has ls 12 [(0, .ref a_s), (4, .int x4_1), (5, .int x5_2), (6, .int k_65), (7, .int x7_4), (11, .int u_64)] → W p l e (rmF 1 23) s m args below meth c H locs 0 0 Q (F0 m 287 ls [.int k_68, .int k_67, .ref a_sT]) := by
                    clear h
                    intro k_67 k_68 h H locs ls hP hD hS hl
                    rw [ej287_69] at h
                    replace h := id h
                    obtain ⟨u_70, hu_70, h⟩ := ob_s h
                    refine cVv (C := RX10) (As := [.int k_67, .int k_68]) (rest := []) [(a_s, .inr (9, [.ref a_sT, .ref a_kb, .int (f_s_moves_5 + 1), .int f_s_bounces_6, .int f_s_potted_7, .int f_s_brings, .int f_s_firstHitDirection_8, .int f_s_firstHitPower_9, .int f_s_foul])), (a_sT, .inr (10, [.ref a_sTc, .ref a_sTk, .ref a_sTw, .long u_70.1, .int f_sT_size, .int f_sT_spot])), (a_sTc, .inl (xI X, 7, .inl u_70.2)), (a_sTk, .inl (xI X, 7, .inl v_sTk)), (a_kb, .inl (xB X, 5, .inr (.inr (.inr (.inr (fun j => some (a_b j))))))), ((a_b 0), .inr (1, [])), ((a_b 1), .inr (5, [])), ((a_b 2), .inr (6, [])), ((a_b 3), .inr (2, [])), ((a_b 4), .inr (8, []))] hB (c_X10_lay X l a_sT a_sTc a_sTk a_sTw f_sT_taken_10 f_sT_size f_sT_spot v_sTc_11 k_67 k_68 u_70 hu_70) wq_2_200 wq_1_9 wq_3_78 wq_2_198 wq_2_199 hd_X10_lay (by decide) hP hD hS hl.1 [1, 2] [0, 3, 4, 5, 6, 7, 8, 9] [(a_s, .inr (9, [.ref a_sT, .ref a_kb, .int (f_s_moves_5 + 1), .int f_s_bounces_6, .int f_s_potted_7, .int f_s_brings, .int f_s_firstHitDirection_8, .int f_s_firstHitPower_9, .int f_s_foul])), (a_sTk, .inl (xI X, 7, .inl v_sTk)), (a_kb, .inl (xB X, 5, .inr (.inr (.inr (.inr (fun j => some (a_b j))))))), ((a_b 0), .inr (1, [])), ((a_b 1), .inr (5, [])), ((a_b 2), .inr (6, [])), ((a_b 3), .inr (2, [])), ((a_b 4), .inr (8, []))] rfl (by decide +kernel) rfl rfl rfl (nn := 10) rfl (by decide +kernel) [a_s, a_sT, a_sTc, a_sTk, a_kb, (a_b 0), (a_b 1), (a_b 2), (a_b 3), (a_b 4)] rfl rfl (q0 := 1) rfl rfl rfl rfl (Nat.le_of_ble_eq_true rfl) dX9_roll_287 ⟨Nat.zero_le _, Nat.zero_le _⟩ (fun H locs hP hD hS => ?_)
                    refine lv_iload hx hb dX9_roll_290 (lv_at hl 5 rfl) ?_
                    refine lv_if_eq (tgt := 301) hx hb dX9_roll_292 (by decide) (fun c_71 => ?_) (fun c_71 => ?_)
                    · replace h := it_p c_71 h
                      exact J301_34 x4_1 x5_2 k_65 (f_s_moves_5 + 1) f_s_bounces_6 f_s_potted_7 f_s_firstHitDirection_8 f_s_firstHitPower_9 u_70.1 u_70.2 h _ _ _ hP hD hS (lv_sub hl [0, 1, 2, 3, 4] rfl)
                    · replace h := it_n c_71 h
                      refine lv_aload_n hx hb dX9_roll_295 rfl (lv_at hl 0 rfl) ?_
                      refine lv_iload hx hb dX9_roll_296 (lv_at hl 1 rfl) ?_
                      obtain ⟨u_72, hu_72, h⟩ := ob_s h
                      refine cVv (C := RX9) (As := [.int x4_1]) (rest := []) [(a_s, .inr (9, [.ref a_sT, .ref a_kb, .int (f_s_moves_5 + 1), .int f_s_bounces_6, .int u_72, .int f_s_brings, .int f_s_firstHitDirection_8, .int f_s_firstHitPower_9, .int f_s_foul])), (a_sT, .inr (10, [.ref a_sTc, .ref a_sTk, .ref a_sTw, .long u_70.1, .int f_sT_size, .int f_sT_spot])), (a_sTc, .inl (xI X, 7, .inl u_70.2)), (a_sTk, .inl (xI X, 7, .inl v_sTk)), (a_kb, .inl (xB X, 5, .inr (.inr (.inr (.inr (fun j => some (a_b j))))))), ((a_b 0), .inr (1, [])), ((a_b 1), .inr (5, [])), ((a_b 2), .inr (6, [])), ((a_b 3), .inr (2, [])), ((a_b 4), .inr (8, []))] hB (c_X9_notePotted X l a_s a_sT a_kb (f_s_moves_5 + 1) f_s_bounces_6 f_s_potted_7 f_s_brings f_s_firstHitDirection_8 f_s_firstHitPower_9 f_s_foul x4_1 u_72 hu_72) wq_3_82 wq_1_11 wq_3_79 wq_3_81 wp_11 hd_X9_notePotted (by decide) hP hD hS hl.1 [0] [1, 2, 3, 4, 5, 6, 7, 8, 9] [(a_sT, .inr (10, [.ref a_sTc, .ref a_sTk, .ref a_sTw, .long u_70.1, .int f_sT_size, .int f_sT_spot])), (a_sTc, .inl (xI X, 7, .inl u_70.2)), (a_sTk, .inl (xI X, 7, .inl v_sTk)), (a_kb, .inl (xB X, 5, .inr (.inr (.inr (.inr (fun j => some (a_b j))))))), ((a_b 0), .inr (1, [])), ((a_b 1), .inr (5, [])), ((a_b 2), .inr (6, [])), ((a_b 3), .inr (2, [])), ((a_b 4), .inr (8, []))] rfl (by decide +kernel) rfl rfl rfl (nn := 10) rfl (by decide +kernel) [a_s, a_sT, a_sTc, a_sTk, a_kb, (a_b 0), (a_b 1), (a_b 2), (a_b 3), (a_b 4)] rfl rfl (q0 := 0) rfl rfl rfl rfl (Nat.le_of_ble_eq_true rfl) dX9_roll_298 ⟨Nat.zero_le _, Nat.zero_le _⟩ (fun H locs hP hD hS => ?_)
                      exact J301_34 x4_1 x5_2 k_65 (f_s_moves_5 + 1) f_s_bounces_6 u_72 f_s_firstHitDirection_8 f_s_firstHitPower_9 u_70.1 u_70.2 h _ _ _ hP hD hS (lv_sub hl [0, 1, 2, 3, 4] rfl)
                  clear ej287_69
                  refine lv_if_eq (tgt := 285) hx hb dX9_roll_278 (by decide) (fun c_73 => ?_) (fun c_73 => ?_)
                  · replace h := it_p c_73 h
                    refine lv_iload hx hb dX9_roll_285 (lv_at hl 5 rfl) ?_
                    exact J287_69 x4_1 x10_22 h _ _ _ hP hD hS (lv_sub hl [1, 2, 3, 0, 4, 6] rfl)
                  · replace h := it_n c_73 h
                    refine lv_iconst (v := (-1)) hx hb dX9_roll_281 (by decide) ?_
                    refine lv_goto (tgt := 287) hx hb dX9_roll_282 (by decide) ?_
                    exact J287_69 x4_1 (-1) h _ _ _ hP hD hS (lv_sub hl [1, 2, 3, 0, 4, 6] rfl)
                clear ej268_66
                refine lv_if_eq (tgt := 264) hx hb dX9_roll_257 (by decide) (fun c_74 => ?_) (fun c_74 => ?_)
                · replace h := it_p c_74 h
                  refine lv_iload hx hb dX9_roll_264 (lv_at hl 7 rfl) ?_
                  refine lv_iconst (v := 1) hx hb dX9_roll_266 (by decide) ?_
                  refine lv_isub hx hb dX9_roll_267 ?_
                  exact J268_66 (x6_3 - 1) h _ _ _ hP hD hS (lv_sub hl [4, 5, 6, 8, 1, 0] rfl)
                · replace h := it_n c_74 h
                  refine lv_iconst (v := 0) hx hb dX9_roll_260 (by decide) ?_
                  refine lv_goto (tgt := 268) hx hb dX9_roll_261 (by decide) ?_
                  exact J268_66 0 h _ _ _ hP hD hS (lv_sub hl [4, 5, 6, 8, 1, 0] rfl)
              · replace h := it_n c_63 h
                obtain ⟨x6_75, ex6_75⟩ : ∃ y : Int32, y = x6_3 + (-1) := ⟨_, rfl⟩
                replace h := bn_s h ex6_75
                refine lv_iinc (v := x6_75) (lv' := [(6, .int x6_75), (10, .int x10_22), (9, .int x9_21), (8, .int x8_18), (0, .ref a_s), (4, .int x4_1), (5, .int x5_2), (7, .int x7_4)]) hx hb dX9_roll_188 hl (k := 6) rfl (by rw [ex6_75]; rfl) (by decide) rfl (fun ls hl => ?_)
                refine lv_iload hx hb dX9_roll_191 (lv_at hl 5 rfl) ?_
                obtain ⟨j204_78, ej204_78, h⟩ := jn_s h
                have J204_78 : ∀ (f_s_firstHitDirection_76 : Int32) (f_s_firstHitPower_77 : Int32), j204_78 f_s_firstHitDirection_76 f_s_firstHitPower_77 = some res → ∀ (H : Heap) (locs : List Loc) (ls : Array Slot), va_P (xD X) vwCl [(a_s, .inr (9, [.ref a_sT, .ref a_kb, .int f_s_moves_5, .int f_s_bounces_6, .int f_s_potted_7, .int f_s_brings, .int f_s_firstHitDirection_76, .int f_s_firstHitPower_77, .int f_s_foul])), (a_sT, .inr (10, [.ref a_sTc, .ref a_sTk, .ref a_sTw, .long f_sT_taken_10, .int f_sT_size, .int f_sT_spot])), (a_sTc, .inl (xI X, 7, .inl v_sTc_11)), (a_sTk, .inl (xI X, 7, .inl v_sTk)), (a_kb, .inl (xB X, 5, .inr (.inr (.inr (.inr (fun j => some (a_b j))))))), ((a_b 0), .inr (1, [])), ((a_b 1), .inr (5, [])), ((a_b 2), .inr (6, [])), ((a_b 3), .inr (2, [])), ((a_b 4), .inr (8, []))] H → va_D A [(a_s, .inr (9, [.ref a_sT, .ref a_kb, .int f_s_moves_5, .int f_s_bounces_6, .int f_s_potted_7, .int f_s_brings, .int f_s_firstHitDirection_76, .int f_s_firstHitPower_77, .int f_s_foul])), (a_sT, .inr (10, [.ref a_sTc, .ref a_sTk, .ref a_sTw, .long f_sT_taken_10, .int f_sT_size, .int f_sT_spot])), (a_sTc, .inl (xI X, 7, .inl v_sTc_11)), (a_sTk, .inl (xI X, 7, .inl v_sTk)), (a_kb, .inl (xB X, 5, .inr (.inr (.inr (.inr (fun j => some (a_b j))))))), ((a_b 0), .inr (1, [])), ((a_b 1), .inr (5, [])), ((a_b 2), .inr (6, [])), ((a_b 3), .inr (2, [])), ((a_b 4), .inr (8, []))] → va_S A s.heap H locs → lv_has ls 12 [(0, .ref a_s), (5, .int x5_2), (6, .int x6_75), (7, .int x7_4), (10, .int x10_22)] → W p l e (rmF 1 23) s m args below meth c H locs 0 0 Q (F0 m 204 ls []) := by
                  clear h
                  intro f_s_firstHitDirection_76 f_s_firstHitPower_77 h H locs ls hP hD hS hl
                  rw [ej204_78] at h
                  replace h := id h
                  refine lv_aload_n hx hb dX9_roll_204 rfl (lv_at hl 0 rfl) ?_
                  refine va_get (D := xD X) (ci := 9) (v := .ref a_sT) (C := RX9) (T := TX9) (N := 9) hx hb hts inX9 hown hK hP 0 rfl rfl 0 (by decide) (hts _ wq_1_167) (fun _ h9 => h9) rfl dX9_roll_205 ?_
                  refine lv_iload hx hb dX9_roll_208 (lv_at hl 4 rfl) ?_
                  obtain ⟨u_79, hu_79, h⟩ := ob_s h
                  refine cVi (C := RX10) (As := [.int x10_22]) (rest := []) [(a_s, .inr (9, [.ref a_sT, .ref a_kb, .int f_s_moves_5, .int f_s_bounces_6, .int f_s_potted_7, .int f_s_brings, .int f_s_firstHitDirection_76, .int f_s_firstHitPower_77, .int f_s_foul])), (a_sT, .inr (10, [.ref a_sTc, .ref a_sTk, .ref a_sTw, .long f_sT_taken_10, .int f_sT_size, .int f_sT_spot])), (a_sTc, .inl (xI X, 7, .inl v_sTc_11)), (a_sTk, .inl (xI X, 7, .inl v_sTk)), (a_kb, .inl (xB X, 5, .inr (.inr (.inr (.inr (fun j => some (a_b j))))))), ((a_b 0), .inr (1, [])), ((a_b 1), .inr (5, [])), ((a_b 2), .inr (6, [])), ((a_b 3), .inr (2, [])), ((a_b 4), .inr (8, []))] hB (c_X10_ballIn X l n a_sT a_sTc a_sTk a_sTw f_sT_taken_10 f_sT_size f_sT_spot v_sTc_11 x10_22 u_79 hu_79) wq_3_57 wq_1_9 wq_3_54 wq_3_55 wq_3_56 hd_X10_ballIn (by decide) hP hD hS hl.1 [1, 2] [0, 3, 4, 5, 6, 7, 8, 9] [(a_s, .inr (9, [.ref a_sT, .ref a_kb, .int f_s_moves_5, .int f_s_bounces_6, .int f_s_potted_7, .int f_s_brings, .int f_s_firstHitDirection_76, .int f_s_firstHitPower_77, .int f_s_foul])), (a_sTk, .inl (xI X, 7, .inl v_sTk)), (a_kb, .inl (xB X, 5, .inr (.inr (.inr (.inr (fun j => some (a_b j))))))), ((a_b 0), .inr (1, [])), ((a_b 1), .inr (5, [])), ((a_b 2), .inr (6, [])), ((a_b 3), .inr (2, [])), ((a_b 4), .inr (8, []))] rfl (by decide +kernel) rfl rfl rfl (nn := 10) rfl (by decide +kernel) [a_s, a_sT, a_sTc, a_sTk, a_kb, (a_b 0), (a_b 1), (a_b 2), (a_b 3), (a_b 4)] rfl rfl (q0 := 1) rfl rfl rfl rfl (Nat.le_of_ble_eq_true rfl) dX9_roll_210 ⟨Nat.zero_le _, Nat.zero_le _⟩ (fun H locs hP hD hS => ?_)
                  refine lv_istore (lv' := [(4, .int u_79), (0, .ref a_s), (5, .int x5_2), (6, .int x6_75), (7, .int x7_4), (10, .int x10_22)]) hx hb dX9_roll_213 hl (by decide) rfl (fun ls hl => ?_)
                  refine lv_aload_n hx hb dX9_roll_215 rfl (lv_at hl 1 rfl) ?_
                  refine lv_aload_n hx hb dX9_roll_216 rfl (lv_at hl 1 rfl) ?_
                  refine va_get (D := xD X) (ci := 9) (v := .ref a_sT) (C := RX9) (T := TX9) (N := 9) hx hb hts inX9 hown hK hP 0 rfl rfl 0 (by decide) (hts _ wq_1_167) (fun _ h9 => h9) rfl dX9_roll_217 ?_
                  refine lv_iload hx hb dX9_roll_220 (lv_at hl 0 rfl) ?_
                  obtain ⟨u_80, hu_80, h⟩ := ob_s h
                  refine cVi (C := RX10) (As := [.int u_79]) (rest := [.ref a_s]) [(a_s, .inr (9, [.ref a_sT, .ref a_kb, .int f_s_moves_5, .int f_s_bounces_6, .int f_s_potted_7, .int f_s_brings, .int f_s_firstHitDirection_76, .int f_s_firstHitPower_77, .int f_s_foul])), (a_sT, .inr (10, [.ref a_sTc, .ref a_sTk, .ref a_sTw, .long f_sT_taken_10, .int f_sT_size, .int f_sT_spot])), (a_sTc, .inl (xI X, 7, .inl v_sTc_11)), (a_sTk, .inl (xI X, 7, .inl v_sTk)), (a_kb, .inl (xB X, 5, .inr (.inr (.inr (.inr (fun j => some (a_b j))))))), ((a_b 0), .inr (1, [])), ((a_b 1), .inr (5, [])), ((a_b 2), .inr (6, [])), ((a_b 3), .inr (2, [])), ((a_b 4), .inr (8, []))] hB (c_X10_kindOf X l a_sT a_sTc a_sTk a_sTw f_sT_taken_10 f_sT_size f_sT_spot v_sTc_11 v_sTk u_79 u_80 hu_80) wq_2_225 wq_1_9 wq_3_35 wq_2_223 wq_2_224 hd_X10_kindOf (by decide) hP hD hS hl.1 [1, 2, 3] [0, 4, 5, 6, 7, 8, 9] [(a_s, .inr (9, [.ref a_sT, .ref a_kb, .int f_s_moves_5, .int f_s_bounces_6, .int f_s_potted_7, .int f_s_brings, .int f_s_firstHitDirection_76, .int f_s_firstHitPower_77, .int f_s_foul])), (a_kb, .inl (xB X, 5, .inr (.inr (.inr (.inr (fun j => some (a_b j))))))), ((a_b 0), .inr (1, [])), ((a_b 1), .inr (5, [])), ((a_b 2), .inr (6, [])), ((a_b 3), .inr (2, [])), ((a_b 4), .inr (8, []))] rfl (by decide +kernel) rfl rfl rfl (nn := 10) rfl (by decide +kernel) [a_s, a_sT, a_sTc, a_sTk, a_kb, (a_b 0), (a_b 1), (a_b 2), (a_b 3), (a_b 4)] rfl rfl (q0 := 1) rfl rfl rfl rfl (Nat.le_of_ble_eq_true rfl) dX9_roll_222 ⟨Nat.zero_le _, Nat.zero_le _⟩ (fun H locs hP hD hS => ?_)
                  obtain ⟨u_81, hu_81, h⟩ := ob_s h
                  refine cVr (C := RX9) (As := [.int u_80]) (rest := []) [(a_s, .inr (9, [.ref a_sT, .ref a_kb, .int f_s_moves_5, .int f_s_bounces_6, .int f_s_potted_7, .int f_s_brings, .int f_s_firstHitDirection_76, .int f_s_firstHitPower_77, .int f_s_foul])), (a_sT, .inr (10, [.ref a_sTc, .ref a_sTk, .ref a_sTw, .long f_sT_taken_10, .int f_sT_size, .int f_sT_spot])), (a_sTc, .inl (xI X, 7, .inl v_sTc_11)), (a_sTk, .inl (xI X, 7, .inl v_sTk)), (a_kb, .inl (xB X, 5, .inr (.inr (.inr (.inr (fun j => some (a_b j))))))), ((a_b 0), .inr (1, [])), ((a_b 1), .inr (5, [])), ((a_b 2), .inr (6, [])), ((a_b 3), .inr (2, [])), ((a_b 4), .inr (8, []))] hB (c_X9_kind X l a_s a_sT a_kb a_b f_s_moves_5 f_s_bounces_6 f_s_potted_7 f_s_brings f_s_firstHitDirection_76 f_s_firstHitPower_77 f_s_foul u_80 u_81 hu_81) wq_3_39 wq_1_11 wq_3_36 wq_3_38 wp_9 hd_X9_kind (by decide) hP hD hS hl.1 [0, 4] [1, 2, 3, 5, 6, 7, 8, 9] [(a_sT, .inr (10, [.ref a_sTc, .ref a_sTk, .ref a_sTw, .long f_sT_taken_10, .int f_sT_size, .int f_sT_spot])), (a_sTc, .inl (xI X, 7, .inl v_sTc_11)), (a_sTk, .inl (xI X, 7, .inl v_sTk)), ((a_b 0), .inr (1, [])), ((a_b 1), .inr (5, [])), ((a_b 2), .inr (6, [])), ((a_b 3), .inr (2, [])), ((a_b 4), .inr (8, []))] rfl (by decide +kernel) rfl rfl rfl (nn := 10) rfl (by decide +kernel) [a_s, a_sT, a_sTc, a_sTk, a_kb, (a_b 0), (a_b 1), (a_b 2), (a_b 3), (a_b 4)] rfl rfl (q0 := 0) rfl rfl rfl rfl (Nat.le_of_ble_eq_true rfl) dX9_roll_225 ⟨Nat.zero_le _, Nat.zero_le _⟩ (fun H locs hP hD hS => ?_)
                  refine lv_iload hx hb dX9_roll_228 (lv_at hl 3 rfl) ?_
                  obtain ⟨z_82, h⟩ := gd_s h
                  refine poly_powerWhenHit hB hP hD hS hl.1 (of_decide_eq_true z_82) 5 rfl rfl rfl rfl rfl wq_3_62 ⟨Nat.le_of_ble_eq_true rfl, Nat.le_of_ble_eq_true rfl⟩ dX9_roll_230 (Nat.le_of_ble_eq_true rfl) ⟨Nat.zero_le _, Nat.zero_le _⟩ (fun H locs hP hD hS => ?_)
                  refine lv_topi (fun x6_83 ex6_83 => ?_)
                  replace h := bn_s h ex6_83
                  refine lv_istore (lv' := [(6, .int x6_83), (4, .int u_79), (0, .ref a_s), (5, .int x5_2), (7, .int x7_4), (10, .int x10_22)]) hx hb dX9_roll_233 hl (by decide) rfl (fun ls hl => ?_)
                  refine lv_goto (tgt := 301) hx hb dX9_roll_235 (by decide) ?_
                  exact J301_34 u_79 x5_2 x6_83 f_s_moves_5 f_s_bounces_6 f_s_potted_7 f_s_firstHitDirection_76 f_s_firstHitPower_77 f_sT_taken_10 v_sTc_11 h _ _ _ hP hD hS (lv_sub hl [2, 1, 3, 0, 4] rfl)
                clear ej204_78
                refine lv_if_ne (tgt := 204) hx hb dX9_roll_193 (by decide) (fun c_84 => ?_) (fun c_84 => ?_)
                · replace h := it_n c_84 h
                  exact J204_78 f_s_firstHitDirection_8 f_s_firstHitPower_9 h _ _ _ hP hD hS (lv_sub hl [4, 6, 0, 7, 1] rfl)
                · replace h := it_p c_84 h
                  refine lv_aload_n hx hb dX9_roll_196 rfl (lv_at hl 4 rfl) ?_
                  refine lv_iload hx hb dX9_roll_197 (lv_at hl 6 rfl) ?_
                  refine lv_iload hx hb dX9_roll_199 (lv_at hl 0 rfl) ?_
                  obtain ⟨u_85, hu_85, h⟩ := ob_s h
                  refine cVv (C := RX9) (As := [.int x5_2, .int x6_75]) (rest := []) [(a_s, .inr (9, [.ref a_sT, .ref a_kb, .int f_s_moves_5, .int f_s_bounces_6, .int f_s_potted_7, .int f_s_brings, .int u_85.1, .int u_85.2, .int f_s_foul])), (a_sT, .inr (10, [.ref a_sTc, .ref a_sTk, .ref a_sTw, .long f_sT_taken_10, .int f_sT_size, .int f_sT_spot])), (a_sTc, .inl (xI X, 7, .inl v_sTc_11)), (a_sTk, .inl (xI X, 7, .inl v_sTk)), (a_kb, .inl (xB X, 5, .inr (.inr (.inr (.inr (fun j => some (a_b j))))))), ((a_b 0), .inr (1, [])), ((a_b 1), .inr (5, [])), ((a_b 2), .inr (6, [])), ((a_b 3), .inr (2, [])), ((a_b 4), .inr (8, []))] hB (c_X9_noteWhiteHit X l a_s a_sT a_kb f_s_moves_5 f_s_bounces_6 f_s_potted_7 f_s_brings f_s_firstHitDirection_8 f_s_firstHitPower_9 f_s_foul x5_2 x6_75 u_85 hu_85) wq_3_61 wq_1_11 wq_3_58 wq_3_60 wp_10 hd_X9_noteWhiteHit (by decide) hP hD hS hl.1 [0] [1, 2, 3, 4, 5, 6, 7, 8, 9] [(a_sT, .inr (10, [.ref a_sTc, .ref a_sTk, .ref a_sTw, .long f_sT_taken_10, .int f_sT_size, .int f_sT_spot])), (a_sTc, .inl (xI X, 7, .inl v_sTc_11)), (a_sTk, .inl (xI X, 7, .inl v_sTk)), (a_kb, .inl (xB X, 5, .inr (.inr (.inr (.inr (fun j => some (a_b j))))))), ((a_b 0), .inr (1, [])), ((a_b 1), .inr (5, [])), ((a_b 2), .inr (6, [])), ((a_b 3), .inr (2, [])), ((a_b 4), .inr (8, []))] rfl (by decide +kernel) rfl rfl rfl (nn := 10) rfl (by decide +kernel) [a_s, a_sT, a_sTc, a_sTk, a_kb, (a_b 0), (a_b 1), (a_b 2), (a_b 3), (a_b 4)] rfl rfl (q0 := 0) rfl rfl rfl rfl (Nat.le_of_ble_eq_true rfl) dX9_roll_201 ⟨Nat.zero_le _, Nat.zero_le _⟩ (fun H locs hP hD hS => ?_)
                  exact J204_78 u_85.1 u_85.2 h _ _ _ hP hD hS (lv_sub hl [4, 6, 0, 7, 1] rfl)
            · replace h := it_p c_61 h
              exact J91_36 h _ _ _ hP hD hS (lv_sub hl [3, 4, 5, 6, 7, 2, 1] rfl)
  exact L12_go_12 n p1 p2 p3 0 f_s_moves f_s_bounces f_s_potted f_s_firstHitDirection f_s_firstHitPower f_sT_taken v_sTc h _ _ _ hP hD hS (lv_sub hl [4, 3, 2, 1, 0] rfl)


def f_X9_isWhitePotted (f_s_potted : Int32) : Option (Int32) :=
  (if (f_s_potted &&& 1) = 0 then (some 0) else (some 1))
theorem hd_X9_isWhitePotted : yX9_isWhitePotted.cls ≠ "java/lang/invoke/MethodHandle" ∧ yX9_isWhitePotted.cls ≠ "java/lang/invoke/VarHandle" ∧ (parseMethodDescriptor yX9_isWhitePotted.desc).map (fun d => d.parameters.length) = some 0 := ⟨by decide +kernel, by decide +kernel, by decide +kernel⟩
set_option maxHeartbeats 4000000 in
set_option maxRecDepth 100000 in
theorem c_X9_isWhitePotted (X : CXp) (l : Launch) (a_s a_sT a_kb : Nat) (f_s_moves : Int32) (f_s_bounces : Int32) (f_s_potted : Int32) (f_s_brings : Int32) (f_s_firstHitDirection : Int32) (f_s_firstHitPower : Int32) (f_s_foul : Int32) (res : Int32) (h : f_X9_isWhitePotted f_s_potted = some res) : CTg X l yX9_isWhitePotted cX9_isWhitePotted 1 (some .boolean) 0 0 [.ref a_s] [(a_s, .inr (9, [.ref a_sT, .ref a_kb, .int f_s_moves, .int f_s_bounces, .int f_s_potted, .int f_s_brings, .int f_s_firstHitDirection, .int f_s_firstHitPower, .int f_s_foul]))] (QcI X res [(a_s, .inr (9, [.ref a_sT, .ref a_kb, .int f_s_moves, .int f_s_bounces, .int f_s_potted, .int f_s_brings, .int f_s_firstHitDirection, .int f_s_firstHitPower, .int f_s_foul]))]) := by
  refine CTg.mk (own := RX9) (by decide) rfl (Nat.le_of_ble_eq_true rfl) ?_
  intro p e s m args below meth c A hB hP hD hS ls hl
  obtain ⟨hx, hb, hr, hml, hown, hts, hlocks, hcx, hA, hAB⟩ := id hB
  have hK := hcx.1
  generalize hQ : MQ below (QcI X res [(a_s, .inr (9, [.ref a_sT, .ref a_kb, .int f_s_moves, .int f_s_bounces, .int f_s_potted, .int f_s_brings, .int f_s_firstHitDirection, .int f_s_firstHitPower, .int f_s_foul]))] A) args s 0 0 A = Q
  replace hl : lv_has ls 1 [(0, .ref a_s)] := hl
  unfold f_X9_isWhitePotted at h
  refine lv_aload_n hx hb dX9_isWhitePotted_0 rfl (lv_at hl 0 rfl) ?_
  refine va_get (D := xD X) (ci := 9) (v := .int f_s_potted) (C := RX9) (T := TX9) (N := 9) hx hb hts inX9 hown hK hP 0 rfl rfl 4 (by decide) (hts _ wq_1_175) (fun _ h9 => h9) rfl dX9_isWhitePotted_1 ?_
  refine lv_iconst (v := 1) hx hb dX9_isWhitePotted_4 (by decide) ?_
  refine lv_iand hx hb dX9_isWhitePotted_5 ?_
  refine lv_if_eq (tgt := 13) hx hb dX9_isWhitePotted_6 (by decide) (fun c_1 => ?_) (fun c_1 => ?_)
  · replace h := it_p c_1 h
    refine lv_iconst (v := 0) hx hb dX9_isWhitePotted_13 (by decide) ?_
    obtain rfl := Option.some.inj h
    rw [← hQ]
    exact retZ (r := 0) hB rfl hS hP dX9_isWhitePotted_14
  · replace h := it_n c_1 h
    refine lv_iconst (v := 1) hx hb dX9_isWhitePotted_9 (by decide) ?_
    refine lv_goto (tgt := 14) hx hb dX9_isWhitePotted_10 (by decide) ?_
    obtain rfl := Option.some.inj h
    rw [← hQ]
    exact retZ (r := 1) hB rfl hS hP dX9_isWhitePotted_14


def b_X9_worthPotted_L4 (f_s_potted : Int32) (v_sTw : Nat → Int32) (go_3 : Int32 → Int32 → Option (Int32)) (x1_1 : Int32) (x2_2 : Int32) : Option (Int32) :=
  (if 6 < x2_2 then (some x1_1) else (if (f_s_potted >>> (x2_2 &&& 31)) = 0 then (some x1_1) else (jn (fun (x1_7 : Int32) => (bnd (x2_2 + 1) (fun x2_9 => (go_3 x1_7 x2_9)))) (fun (j41_8 : Int32 → Option (Int32)) => (if ((f_s_potted >>> (x2_2 &&& 31)) &&& 1) = 0 then (j41_8 x1_1) else ((f_X10_worthOf v_sTw x2_2).bind (fun u_11 => (bnd (x1_1 + u_11) (fun x1_12 => (j41_8 x1_12))))))))))
def f_X9_worthPotted_L4 (f_s_potted : Int32) (v_sTw : Nat → Int32) (k : Nat) (x1_1 : Int32) (x2_2 : Int32) : Option (Int32) :=
  lpF (fun (self : (Int32 × Int32) → Option (Int32)) (a : Int32 × Int32) => b_X9_worthPotted_L4 f_s_potted v_sTw (fun x1_1 x2_2 => self (x1_1, x2_2)) a.1 a.2) k (x1_1, x2_2)
def f_X9_worthPotted (n : Nat) (f_s_potted : Int32) (v_sTw : Nat → Int32) : Option (Int32) :=
  (f_X9_worthPotted_L4 f_s_potted v_sTw n 0 1)
theorem hd_X9_worthPotted : yX9_worthPotted.cls ≠ "java/lang/invoke/MethodHandle" ∧ yX9_worthPotted.cls ≠ "java/lang/invoke/VarHandle" ∧ (parseMethodDescriptor yX9_worthPotted.desc).map (fun d => d.parameters.length) = some 0 := ⟨by decide +kernel, by decide +kernel, by decide +kernel⟩
set_option maxHeartbeats 4000000 in
set_option maxRecDepth 100000 in
theorem c_X9_worthPotted (X : CXp) (l : Launch) (n : Nat) (a_s a_sT a_sTc a_sTk a_sTw a_kb : Nat) (f_s_moves : Int32) (f_s_bounces : Int32) (f_s_potted : Int32) (f_s_brings : Int32) (f_s_firstHitDirection : Int32) (f_s_firstHitPower : Int32) (f_s_foul : Int32) (f_sT_taken : Int64) (f_sT_size : Int32) (f_sT_spot : Int32) (v_sTc : Nat → Int32) (v_sTw : Nat → Int32) (res : Int32) (h : f_X9_worthPotted n f_s_potted v_sTw = some res) : CTg X l yX9_worthPotted cX9_worthPotted 3 (some .int) 1 21 [.ref a_s] [(a_s, .inr (9, [.ref a_sT, .ref a_kb, .int f_s_moves, .int f_s_bounces, .int f_s_potted, .int f_s_brings, .int f_s_firstHitDirection, .int f_s_firstHitPower, .int f_s_foul])), (a_sT, .inr (10, [.ref a_sTc, .ref a_sTk, .ref a_sTw, .long f_sT_taken, .int f_sT_size, .int f_sT_spot])), (a_sTc, .inl (xI X, 7, .inl v_sTc)), (a_sTw, .inl (xI X, 7, .inl v_sTw))] (QcI X res [(a_s, .inr (9, [.ref a_sT, .ref a_kb, .int f_s_moves, .int f_s_bounces, .int f_s_potted, .int f_s_brings, .int f_s_firstHitDirection, .int f_s_firstHitPower, .int f_s_foul])), (a_sT, .inr (10, [.ref a_sTc, .ref a_sTk, .ref a_sTw, .long f_sT_taken, .int f_sT_size, .int f_sT_spot])), (a_sTc, .inl (xI X, 7, .inl v_sTc)), (a_sTw, .inl (xI X, 7, .inl v_sTw))]) := by
  refine CTg.mk (own := RX9) (by decide) rfl (Nat.le_of_ble_eq_true rfl) ?_
  intro p e s m args below meth c A hB hP hD hS ls hl
  obtain ⟨hx, hb, hr, hml, hown, hts, hlocks, hcx, hA, hAB⟩ := id hB
  have hK := hcx.1
  generalize hQ : MQ below (QcI X res [(a_s, .inr (9, [.ref a_sT, .ref a_kb, .int f_s_moves, .int f_s_bounces, .int f_s_potted, .int f_s_brings, .int f_s_firstHitDirection, .int f_s_firstHitPower, .int f_s_foul])), (a_sT, .inr (10, [.ref a_sTc, .ref a_sTk, .ref a_sTw, .long f_sT_taken, .int f_sT_size, .int f_sT_spot])), (a_sTc, .inl (xI X, 7, .inl v_sTc)), (a_sTw, .inl (xI X, 7, .inl v_sTw))] A) args s 0 0 A = Q
  replace hl : lv_has ls 3 [(0, .ref a_s)] := hl
  unfold f_X9_worthPotted at h
  refine lv_iconst (v := 0) hx hb dX9_worthPotted_0 (by decide) ?_
  refine lv_istore_n (lv' := [(1, .int 0), (0, .ref a_s)]) hx hb dX9_worthPotted_1 rfl hl (by decide) rfl (fun ls hl => ?_)
  refine lv_iconst (v := 1) hx hb dX9_worthPotted_2 (by decide) ?_
  refine lv_istore_n (lv' := [(2, .int 1), (1, .int 0), (0, .ref a_s)]) hx hb dX9_worthPotted_3 rfl hl (by decide) rfl (fun ls hl => ?_)
  have L4_go_3 : ∀ (k : Nat), ∀ (x1_1 : Int32) (x2_2 : Int32), f_X9_worthPotted_L4 f_s_potted v_sTw k x1_1 x2_2 = some res → ∀ (H : Heap) (locs : List Loc) (ls : Array Slot), va_P (xD X) vwCl [(a_s, .inr (9, [.ref a_sT, .ref a_kb, .int f_s_moves, .int f_s_bounces, .int f_s_potted, .int f_s_brings, .int f_s_firstHitDirection, .int f_s_firstHitPower, .int f_s_foul])), (a_sT, .inr (10, [.ref a_sTc, .ref a_sTk, .ref a_sTw, .long f_sT_taken, .int f_sT_size, .int f_sT_spot])), (a_sTc, .inl (xI X, 7, .inl v_sTc)), (a_sTw, .inl (xI X, 7, .inl v_sTw))] H → va_D A [(a_s, .inr (9, [.ref a_sT, .ref a_kb, .int f_s_moves, .int f_s_bounces, .int f_s_potted, .int f_s_brings, .int f_s_firstHitDirection, .int f_s_firstHitPower, .int f_s_foul])), (a_sT, .inr (10, [.ref a_sTc, .ref a_sTk, .ref a_sTw, .long f_sT_taken, .int f_sT_size, .int f_sT_spot])), (a_sTc, .inl (xI X, 7, .inl v_sTc)), (a_sTw, .inl (xI X, 7, .inl v_sTw))] → va_S A s.heap H locs → lv_has ls 3 [(0, .ref a_s), (1, .int x1_1), (2, .int x2_2)] → W p l e (rmF 1 21) s m args below meth c H locs 0 0 Q (F0 m 4 ls []) := by
    clear h
    intro k
    induction k with
    | zero => intro x1_1 x2_2 h; cases h
    | succ k ih_4 =>
      intro x1_1 x2_2 h H locs ls hP hD hS hl
      replace h : b_X9_worthPotted_L4 f_s_potted v_sTw (fun x1_1 x2_2 => f_X9_worthPotted_L4 f_s_potted v_sTw k x1_1 x2_2) x1_1 x2_2 = some res := h
      unfold b_X9_worthPotted_L4 at h
      refine lv_iload_n hx hb dX9_worthPotted_4 rfl (lv_at hl 2 rfl) ?_
      refine lv_bipush (v := 6) hx hb dX9_worthPotted_5 (by decide) ?_
      refine lv_icmp_gt (tgt := 47) hx hb dX9_worthPotted_7 (by decide) (fun c_5 => ?_) (fun c_5 => ?_)
      · replace h := it_p c_5 h
        refine lv_iload_n hx hb dX9_worthPotted_47 rfl (lv_at hl 1 rfl) ?_
        obtain rfl := Option.some.inj h
        rw [← hQ]
        exact retI hB hS hP dX9_worthPotted_48
      · replace h := it_n c_5 h
        refine lv_aload_n hx hb dX9_worthPotted_10 rfl (lv_at hl 0 rfl) ?_
        refine va_get (D := xD X) (ci := 9) (v := .int f_s_potted) (C := RX9) (T := TX9) (N := 9) hx hb hts inX9 hown hK hP 0 rfl rfl 4 (by decide) (hts _ wq_1_175) (fun _ h9 => h9) rfl dX9_worthPotted_11 ?_
        refine lv_iload_n hx hb dX9_worthPotted_14 rfl (lv_at hl 2 rfl) ?_
        refine lv_ishr hx hb dX9_worthPotted_15 ?_
        refine lv_if_eq (tgt := 47) hx hb dX9_worthPotted_16 (by decide) (fun c_6 => ?_) (fun c_6 => ?_)
        · replace h := it_p c_6 h
          refine lv_iload_n hx hb dX9_worthPotted_47 rfl (lv_at hl 1 rfl) ?_
          obtain rfl := Option.some.inj h
          rw [← hQ]
          exact retI hB hS hP dX9_worthPotted_48
        · replace h := it_n c_6 h
          refine lv_aload_n hx hb dX9_worthPotted_19 rfl (lv_at hl 0 rfl) ?_
          refine va_get (D := xD X) (ci := 9) (v := .int f_s_potted) (C := RX9) (T := TX9) (N := 9) hx hb hts inX9 hown hK hP 0 rfl rfl 4 (by decide) (hts _ wq_1_175) (fun _ h9 => h9) rfl dX9_worthPotted_20 ?_
          refine lv_iload_n hx hb dX9_worthPotted_23 rfl (lv_at hl 2 rfl) ?_
          refine lv_ishr hx hb dX9_worthPotted_24 ?_
          refine lv_iconst (v := 1) hx hb dX9_worthPotted_25 (by decide) ?_
          refine lv_iand hx hb dX9_worthPotted_26 ?_
          obtain ⟨j41_8, ej41_8, h⟩ := jn_s h
          have J41_8 : ∀ (x1_7 : Int32), j41_8 x1_7 = some res → ∀ (H : Heap) (locs : List Loc) (ls : Array Slot), va_P (xD X) vwCl [(a_s, .inr (9, [.ref a_sT, .ref a_kb, .int f_s_moves, .int f_s_bounces, .int f_s_potted, .int f_s_brings, .int f_s_firstHitDirection, .int f_s_firstHitPower, .int f_s_foul])), (a_sT, .inr (10, [.ref a_sTc, .ref a_sTk, .ref a_sTw, .long f_sT_taken, .int f_sT_size, .int f_sT_spot])), (a_sTc, .inl (xI X, 7, .inl v_sTc)), (a_sTw, .inl (xI X, 7, .inl v_sTw))] H → va_D A [(a_s, .inr (9, [.ref a_sT, .ref a_kb, .int f_s_moves, .int f_s_bounces, .int f_s_potted, .int f_s_brings, .int f_s_firstHitDirection, .int f_s_firstHitPower, .int f_s_foul])), (a_sT, .inr (10, [.ref a_sTc, .ref a_sTk, .ref a_sTw, .long f_sT_taken, .int f_sT_size, .int f_sT_spot])), (a_sTc, .inl (xI X, 7, .inl v_sTc)), (a_sTw, .inl (xI X, 7, .inl v_sTw))] → va_S A s.heap H locs → lv_has ls 3 [(0, .ref a_s), (1, .int x1_7), (2, .int x2_2)] → W p l e (rmF 1 21) s m args below meth c H locs 0 0 Q (F0 m 41 ls []) := by
            clear h
            intro x1_7 h H locs ls hP hD hS hl
            rw [ej41_8] at h
            replace h := id h
            obtain ⟨x2_9, ex2_9⟩ : ∃ y : Int32, y = x2_2 + 1 := ⟨_, rfl⟩
            replace h := bn_s h ex2_9
            refine lv_iinc (v := x2_9) (lv' := [(2, .int x2_9), (0, .ref a_s), (1, .int x1_7)]) hx hb dX9_worthPotted_41 hl (k := 2) rfl (by rw [ex2_9]; rfl) (by decide) rfl (fun ls hl => ?_)
            refine lv_goto (tgt := 4) hx hb dX9_worthPotted_44 (by decide) ?_
            exact ih_4 x1_7 x2_9 h _ _ _ hP hD hS (lv_sub hl [1, 2, 0] rfl)
          clear ej41_8
          refine lv_if_eq (tgt := 41) hx hb dX9_worthPotted_27 (by decide) (fun c_10 => ?_) (fun c_10 => ?_)
          · replace h := it_p c_10 h
            exact J41_8 x1_1 h _ _ _ hP hD hS (lv_sub hl [0, 1, 2] rfl)
          · replace h := it_n c_10 h
            refine lv_iload_n hx hb dX9_worthPotted_30 rfl (lv_at hl 1 rfl) ?_
            refine lv_aload_n hx hb dX9_worthPotted_31 rfl (lv_at hl 0 rfl) ?_
            refine va_get (D := xD X) (ci := 9) (v := .ref a_sT) (C := RX9) (T := TX9) (N := 9) hx hb hts inX9 hown hK hP 0 rfl rfl 0 (by decide) (hts _ wq_1_167) (fun _ h9 => h9) rfl dX9_worthPotted_32 ?_
            refine lv_iload_n hx hb dX9_worthPotted_35 rfl (lv_at hl 2 rfl) ?_
            obtain ⟨u_11, hu_11, h⟩ := ob_s h
            refine cVi (C := RX10) (As := [.int x2_2]) (rest := [.int x1_1]) [(a_s, .inr (9, [.ref a_sT, .ref a_kb, .int f_s_moves, .int f_s_bounces, .int f_s_potted, .int f_s_brings, .int f_s_firstHitDirection, .int f_s_firstHitPower, .int f_s_foul])), (a_sT, .inr (10, [.ref a_sTc, .ref a_sTk, .ref a_sTw, .long f_sT_taken, .int f_sT_size, .int f_sT_spot])), (a_sTc, .inl (xI X, 7, .inl v_sTc)), (a_sTw, .inl (xI X, 7, .inl v_sTw))] hB (c_X10_worthOf X l a_sT a_sTc a_sTk a_sTw f_sT_taken f_sT_size f_sT_spot v_sTc v_sTw x2_2 u_11 hu_11) wq_2_229 wq_1_9 wq_3_91 wq_2_227 wq_2_228 hd_X10_worthOf (by decide) hP hD hS hl.1 [1, 2, 3] [0] [(a_s, .inr (9, [.ref a_sT, .ref a_kb, .int f_s_moves, .int f_s_bounces, .int f_s_potted, .int f_s_brings, .int f_s_firstHitDirection, .int f_s_firstHitPower, .int f_s_foul]))] rfl (by decide +kernel) rfl rfl rfl (nn := 4) rfl (by decide +kernel) [a_s, a_sT, a_sTc, a_sTw] rfl rfl (q0 := 1) rfl rfl rfl rfl (Nat.le_of_ble_eq_true rfl) dX9_worthPotted_36 ⟨Nat.zero_le _, Nat.zero_le _⟩ (fun H locs hP hD hS => ?_)
            refine lv_iadd hx hb dX9_worthPotted_39 ?_
            refine lv_topi (fun x1_12 ex1_12 => ?_)
            replace h := bn_s h ex1_12
            refine lv_istore_n (lv' := [(1, .int x1_12), (0, .ref a_s), (2, .int x2_2)]) hx hb dX9_worthPotted_40 rfl hl (by decide) rfl (fun ls hl => ?_)
            exact J41_8 x1_12 h _ _ _ hP hD hS (lv_sub hl [1, 0, 2] rfl)
  exact L4_go_3 n 0 1 h _ _ _ hP hD hS (lv_sub hl [2, 1, 0] rfl)


def f_X9_shoot (n : Nat) (f_s_moves : Int32) (f_s_bounces : Int32) (f_s_potted : Int32) (f_s_brings : Int32) (f_s_firstHitDirection : Int32) (f_s_firstHitPower : Int32) (f_s_foul : Int32) (f_sT_taken : Int64) (f_sT_spot : Int32) (v_sTc : Nat → Int32) (v_sTk : Nat → Int32) (v_sTw : Nat → Int32) (p1 : Int32) (p2 : Int32) (p3 : Int32) : Option (Int32 × Int32 × Int32 × Int32 × Int32 × Int32 × Int32 × Int64 × (Nat → Int32)) :=
  ((f_X9_roll n 0 0 0 (-1) 0 f_sT_taken v_sTc v_sTk 0 p1 p2).bind (fun u_1 => (jn (fun (k_2 : Int32) => (jn (fun (f_s_moves_4 : Int32) (f_s_bounces_5 : Int32) (f_s_potted_6 : Int32) (f_s_firstHitDirection_7 : Int32) (f_s_firstHitPower_8 : Int32) (f_sT_taken_9 : Int64) (v_sTc_10 : Nat → Int32) => (jn (fun (k_12 : Int32) => (gd (isb k_12) ((f_X9_worthPotted n f_s_potted_6 v_sTw).bind (fun u_15 => (jn (fun (k_16 : Int32) (k_17 : Int32) => ((f_X9_isWhitePotted f_s_potted_6).bind (fun u_19 => (if u_19 = 0 then (some (f_s_moves_4, f_s_bounces_5, f_s_potted_6, (k_16 - k_17), f_s_firstHitDirection_7, f_s_firstHitPower_8, k_12, f_sT_taken_9, v_sTc_10)) else ((f_X10_returnWhite n f_sT_taken_9 f_sT_spot v_sTc_10).bind (fun u_21 => (some (f_s_moves_4, f_s_bounces_5, f_s_potted_6, (k_16 - k_17), f_s_firstHitDirection_7, f_s_firstHitPower_8, k_12, u_21.1, u_21.2)))))))) (fun (j133_18 : Int32 → Int32 → Option (Int32 × Int32 × Int32 × Int32 × Int32 × Int32 × Int32 × Int64 × (Nat → Int32))) => (if k_12 = 0 then (j133_18 u_15 0) else (j133_18 u_15 4)))))))) (fun (j113_13 : Int32 → Option (Int32 × Int32 × Int32 × Int32 × Int32 × Int32 × Int32 × Int64 × (Nat → Int32))) => (jn ((j113_13 1)) (fun (j108_23 : Option (Int32 × Int32 × Int32 × Int32 × Int32 × Int32 × Int32 × Int64 × (Nat → Int32))) => (if k_2 = 0 then ((f_X9_isWhitePotted f_s_potted_6).bind (fun u_25 => (if u_25 = 0 then (j113_13 0) else j108_23))) else j108_23)))))) (fun (j95_11 : Int32 → Int32 → Int32 → Int32 → Int32 → Int64 → (Nat → Int32) → Option (Int32 × Int32 × Int32 × Int32 × Int32 × Int32 × Int32 × Int64 × (Nat → Int32))) => (if p3 = 0 then (j95_11 u_1.1 u_1.2.1 u_1.2.2.1 u_1.2.2.2.1 u_1.2.2.2.2.1 u_1.2.2.2.2.2.1 u_1.2.2.2.2.2.2) else (if k_2 = 0 then ((f_X9_isWhitePotted u_1.2.2.1).bind (fun u_29 => (if u_29 = 0 then (jn (fun (k_31 : Int32) (k_32 : Int32) => ((f_X9_roll n u_1.1 u_1.2.1 u_1.2.2.1 u_1.2.2.2.1 u_1.2.2.2.2.1 u_1.2.2.2.2.2.1 u_1.2.2.2.2.2.2 v_sTk k_31 k_32 (u_1.2.2.2.2.1 / 2)).bind (fun u_34 => (j95_11 u_34.1 u_34.2.1 u_34.2.2.1 u_34.2.2.2.1 u_34.2.2.2.2.1 u_34.2.2.2.2.2.1 u_34.2.2.2.2.2.2)))) (fun (j86_33 : Int32 → Int32 → Option (Int32 × Int32 × Int32 × Int32 × Int32 × Int32 × Int32 × Int64 × (Nat → Int32))) => (if p3 = 1 then (j86_33 0 u_1.2.2.2.1) else (j86_33 0 ((u_1.2.2.2.1 + 4) &&& 7))))) else (j95_11 u_1.1 u_1.2.1 u_1.2.2.1 u_1.2.2.2.1 u_1.2.2.2.2.1 u_1.2.2.2.2.2.1 u_1.2.2.2.2.2.2)))) else (j95_11 u_1.1 u_1.2.1 u_1.2.2.1 u_1.2.2.2.1 u_1.2.2.2.2.1 u_1.2.2.2.2.2.1 u_1.2.2.2.2.2.2)))))) (fun (j45_3 : Int32 → Option (Int32 × Int32 × Int32 × Int32 × Int32 × Int32 × Int32 × Int64 × (Nat → Int32))) => (if u_1.2.2.2.1 = (-1) then (j45_3 1) else (j45_3 0))))))
theorem hd_X9_shoot : yX9_shoot.cls ≠ "java/lang/invoke/MethodHandle" ∧ yX9_shoot.cls ≠ "java/lang/invoke/VarHandle" ∧ (parseMethodDescriptor yX9_shoot.desc).map (fun d => d.parameters.length) = some 3 := ⟨by decide +kernel, by decide +kernel, by decide +kernel⟩
set_option maxHeartbeats 4000000 in
set_option maxRecDepth 100000 in
theorem c_X9_shoot (X : CXp) (l : Launch) (n : Nat) (a_s a_sT a_sTc a_sTk a_sTw a_kb : Nat) (a_b : Nat → Nat) (f_s_moves : Int32) (f_s_bounces : Int32) (f_s_potted : Int32) (f_s_brings : Int32) (f_s_firstHitDirection : Int32) (f_s_firstHitPower : Int32) (f_s_foul : Int32) (f_sT_taken : Int64) (f_sT_size : Int32) (f_sT_spot : Int32) (v_sTc : Nat → Int32) (v_sTk : Nat → Int32) (v_sTw : Nat → Int32) (p1 : Int32) (p2 : Int32) (p3 : Int32) (res : Int32 × Int32 × Int32 × Int32 × Int32 × Int32 × Int32 × Int64 × (Nat → Int32)) (h : f_X9_shoot n f_s_moves f_s_bounces f_s_potted f_s_brings f_s_firstHitDirection f_s_firstHitPower f_s_foul f_sT_taken f_sT_spot v_sTc v_sTk v_sTw p1 p2 p3 = some res) : CTg X l yX9_shoot cX9_shoot 5 none 2 54 [.ref a_s, .int p1, .int p2, .int p3] [(a_s, .inr (9, [.ref a_sT, .ref a_kb, .int f_s_moves, .int f_s_bounces, .int f_s_potted, .int f_s_brings, .int f_s_firstHitDirection, .int f_s_firstHitPower, .int f_s_foul])), (a_sT, .inr (10, [.ref a_sTc, .ref a_sTk, .ref a_sTw, .long f_sT_taken, .int f_sT_size, .int f_sT_spot])), (a_sTc, .inl (xI X, 7, .inl v_sTc)), (a_sTk, .inl (xI X, 7, .inl v_sTk)), (a_sTw, .inl (xI X, 7, .inl v_sTw)), (a_kb, .inl (xB X, 5, .inr (.inr (.inr (.inr (fun j => some (a_b j))))))), ((a_b 0), .inr (1, [])), ((a_b 1), .inr (5, [])), ((a_b 2), .inr (6, [])), ((a_b 3), .inr (2, [])), ((a_b 4), .inr (8, []))] (QcV X [(a_s, .inr (9, [.ref a_sT, .ref a_kb, .int res.1, .int res.2.1, .int res.2.2.1, .int res.2.2.2.1, .int res.2.2.2.2.1, .int res.2.2.2.2.2.1, .int res.2.2.2.2.2.2.1])), (a_sT, .inr (10, [.ref a_sTc, .ref a_sTk, .ref a_sTw, .long res.2.2.2.2.2.2.2.1, .int f_sT_size, .int f_sT_spot])), (a_sTc, .inl (xI X, 7, .inl res.2.2.2.2.2.2.2.2)), (a_sTk, .inl (xI X, 7, .inl v_sTk)), (a_sTw, .inl (xI X, 7, .inl v_sTw)), (a_kb, .inl (xB X, 5, .inr (.inr (.inr (.inr (fun j => some (a_b j))))))), ((a_b 0), .inr (1, [])), ((a_b 1), .inr (5, [])), ((a_b 2), .inr (6, [])), ((a_b 3), .inr (2, [])), ((a_b 4), .inr (8, []))]) := by
  refine CTg.mk (own := RX9) (by decide) rfl (Nat.le_of_ble_eq_true rfl) ?_
  intro p e s m args below meth c A hB hP hD hS ls hl
  obtain ⟨hx, hb, hr, hml, hown, hts, hlocks, hcx, hA, hAB⟩ := id hB
  have hK := hcx.1
  generalize hQ : MQ below (QcV X [(a_s, .inr (9, [.ref a_sT, .ref a_kb, .int res.1, .int res.2.1, .int res.2.2.1, .int res.2.2.2.1, .int res.2.2.2.2.1, .int res.2.2.2.2.2.1, .int res.2.2.2.2.2.2.1])), (a_sT, .inr (10, [.ref a_sTc, .ref a_sTk, .ref a_sTw, .long res.2.2.2.2.2.2.2.1, .int f_sT_size, .int f_sT_spot])), (a_sTc, .inl (xI X, 7, .inl res.2.2.2.2.2.2.2.2)), (a_sTk, .inl (xI X, 7, .inl v_sTk)), (a_sTw, .inl (xI X, 7, .inl v_sTw)), (a_kb, .inl (xB X, 5, .inr (.inr (.inr (.inr (fun j => some (a_b j))))))), ((a_b 0), .inr (1, [])), ((a_b 1), .inr (5, [])), ((a_b 2), .inr (6, [])), ((a_b 3), .inr (2, [])), ((a_b 4), .inr (8, []))] A) args s 0 0 A = Q
  replace hl : lv_has ls 5 [(0, .ref a_s), (1, .int p1), (2, .int p2), (3, .int p3)] := hl
  unfold f_X9_shoot at h
  refine lv_aload_n hx hb dX9_shoot_0 rfl (lv_at hl 0 rfl) ?_
  refine lv_iconst (v := 0) hx hb dX9_shoot_1 (by decide) ?_
  refine va_put (D := xD X) (ci := 9) (v := .int 0) (ty := .int) (C := RX9) (T := TX9) (N := 9) hx hb hts inX9 tyX9 tyX9_ok nmX9 hown hK hP hD hS 0 rfl rfl 2 (by decide) (hts _ wq_1_173) (fun _ h9 => h9) rfl (by decide +kernel) rfl rfl (Nat.le_of_ble_eq_true rfl) dX9_shoot_2 (fun H locs (hP : va_P (xD X) vwCl [(a_s, .inr (9, [.ref a_sT, .ref a_kb, .int 0, .int f_s_bounces, .int f_s_potted, .int f_s_brings, .int f_s_firstHitDirection, .int f_s_firstHitPower, .int f_s_foul])), (a_sT, .inr (10, [.ref a_sTc, .ref a_sTk, .ref a_sTw, .long f_sT_taken, .int f_sT_size, .int f_sT_spot])), (a_sTc, .inl (xI X, 7, .inl v_sTc)), (a_sTk, .inl (xI X, 7, .inl v_sTk)), (a_sTw, .inl (xI X, 7, .inl v_sTw)), (a_kb, .inl (xB X, 5, .inr (.inr (.inr (.inr (fun j => some (a_b j))))))), ((a_b 0), .inr (1, [])), ((a_b 1), .inr (5, [])), ((a_b 2), .inr (6, [])), ((a_b 3), .inr (2, [])), ((a_b 4), .inr (8, []))] H) (hD : va_D A [(a_s, .inr (9, [.ref a_sT, .ref a_kb, .int 0, .int f_s_bounces, .int f_s_potted, .int f_s_brings, .int f_s_firstHitDirection, .int f_s_firstHitPower, .int f_s_foul])), (a_sT, .inr (10, [.ref a_sTc, .ref a_sTk, .ref a_sTw, .long f_sT_taken, .int f_sT_size, .int f_sT_spot])), (a_sTc, .inl (xI X, 7, .inl v_sTc)), (a_sTk, .inl (xI X, 7, .inl v_sTk)), (a_sTw, .inl (xI X, 7, .inl v_sTw)), (a_kb, .inl (xB X, 5, .inr (.inr (.inr (.inr (fun j => some (a_b j))))))), ((a_b 0), .inr (1, [])), ((a_b 1), .inr (5, [])), ((a_b 2), .inr (6, [])), ((a_b 3), .inr (2, [])), ((a_b 4), .inr (8, []))]) hS => ?_)
  refine lv_aload_n hx hb dX9_shoot_5 rfl (lv_at hl 0 rfl) ?_
  refine lv_iconst (v := 0) hx hb dX9_shoot_6 (by decide) ?_
  refine va_put (D := xD X) (ci := 9) (v := .int 0) (ty := .int) (C := RX9) (T := TX9) (N := 9) hx hb hts inX9 tyX9 tyX9_ok nmX9 hown hK hP hD hS 0 rfl rfl 3 (by decide) (hts _ wq_1_174) (fun _ h9 => h9) rfl (by decide +kernel) rfl rfl (Nat.le_of_ble_eq_true rfl) dX9_shoot_7 (fun H locs (hP : va_P (xD X) vwCl [(a_s, .inr (9, [.ref a_sT, .ref a_kb, .int 0, .int 0, .int f_s_potted, .int f_s_brings, .int f_s_firstHitDirection, .int f_s_firstHitPower, .int f_s_foul])), (a_sT, .inr (10, [.ref a_sTc, .ref a_sTk, .ref a_sTw, .long f_sT_taken, .int f_sT_size, .int f_sT_spot])), (a_sTc, .inl (xI X, 7, .inl v_sTc)), (a_sTk, .inl (xI X, 7, .inl v_sTk)), (a_sTw, .inl (xI X, 7, .inl v_sTw)), (a_kb, .inl (xB X, 5, .inr (.inr (.inr (.inr (fun j => some (a_b j))))))), ((a_b 0), .inr (1, [])), ((a_b 1), .inr (5, [])), ((a_b 2), .inr (6, [])), ((a_b 3), .inr (2, [])), ((a_b 4), .inr (8, []))] H) (hD : va_D A [(a_s, .inr (9, [.ref a_sT, .ref a_kb, .int 0, .int 0, .int f_s_potted, .int f_s_brings, .int f_s_firstHitDirection, .int f_s_firstHitPower, .int f_s_foul])), (a_sT, .inr (10, [.ref a_sTc, .ref a_sTk, .ref a_sTw, .long f_sT_taken, .int f_sT_size, .int f_sT_spot])), (a_sTc, .inl (xI X, 7, .inl v_sTc)), (a_sTk, .inl (xI X, 7, .inl v_sTk)), (a_sTw, .inl (xI X, 7, .inl v_sTw)), (a_kb, .inl (xB X, 5, .inr (.inr (.inr (.inr (fun j => some (a_b j))))))), ((a_b 0), .inr (1, [])), ((a_b 1), .inr (5, [])), ((a_b 2), .inr (6, [])), ((a_b 3), .inr (2, [])), ((a_b 4), .inr (8, []))]) hS => ?_)
  refine lv_aload_n hx hb dX9_shoot_10 rfl (lv_at hl 0 rfl) ?_
  refine lv_iconst (v := 0) hx hb dX9_shoot_11 (by decide) ?_
  refine va_put (D := xD X) (ci := 9) (v := .int 0) (ty := .int) (C := RX9) (T := TX9) (N := 9) hx hb hts inX9 tyX9 tyX9_ok nmX9 hown hK hP hD hS 0 rfl rfl 4 (by decide) (hts _ wq_1_175) (fun _ h9 => h9) rfl (by decide +kernel) rfl rfl (Nat.le_of_ble_eq_true rfl) dX9_shoot_12 (fun H locs (hP : va_P (xD X) vwCl [(a_s, .inr (9, [.ref a_sT, .ref a_kb, .int 0, .int 0, .int 0, .int f_s_brings, .int f_s_firstHitDirection, .int f_s_firstHitPower, .int f_s_foul])), (a_sT, .inr (10, [.ref a_sTc, .ref a_sTk, .ref a_sTw, .long f_sT_taken, .int f_sT_size, .int f_sT_spot])), (a_sTc, .inl (xI X, 7, .inl v_sTc)), (a_sTk, .inl (xI X, 7, .inl v_sTk)), (a_sTw, .inl (xI X, 7, .inl v_sTw)), (a_kb, .inl (xB X, 5, .inr (.inr (.inr (.inr (fun j => some (a_b j))))))), ((a_b 0), .inr (1, [])), ((a_b 1), .inr (5, [])), ((a_b 2), .inr (6, [])), ((a_b 3), .inr (2, [])), ((a_b 4), .inr (8, []))] H) (hD : va_D A [(a_s, .inr (9, [.ref a_sT, .ref a_kb, .int 0, .int 0, .int 0, .int f_s_brings, .int f_s_firstHitDirection, .int f_s_firstHitPower, .int f_s_foul])), (a_sT, .inr (10, [.ref a_sTc, .ref a_sTk, .ref a_sTw, .long f_sT_taken, .int f_sT_size, .int f_sT_spot])), (a_sTc, .inl (xI X, 7, .inl v_sTc)), (a_sTk, .inl (xI X, 7, .inl v_sTk)), (a_sTw, .inl (xI X, 7, .inl v_sTw)), (a_kb, .inl (xB X, 5, .inr (.inr (.inr (.inr (fun j => some (a_b j))))))), ((a_b 0), .inr (1, [])), ((a_b 1), .inr (5, [])), ((a_b 2), .inr (6, [])), ((a_b 3), .inr (2, [])), ((a_b 4), .inr (8, []))]) hS => ?_)
  refine lv_aload_n hx hb dX9_shoot_15 rfl (lv_at hl 0 rfl) ?_
  refine lv_iconst (v := (-1)) hx hb dX9_shoot_16 (by decide) ?_
  refine va_put (D := xD X) (ci := 9) (v := .int (-1)) (ty := .int) (C := RX9) (T := TX9) (N := 9) hx hb hts inX9 tyX9 tyX9_ok nmX9 hown hK hP hD hS 0 rfl rfl 6 (by decide) (hts _ wq_1_180) (fun _ h9 => h9) rfl (by decide +kernel) rfl rfl (Nat.le_of_ble_eq_true rfl) dX9_shoot_17 (fun H locs (hP : va_P (xD X) vwCl [(a_s, .inr (9, [.ref a_sT, .ref a_kb, .int 0, .int 0, .int 0, .int f_s_brings, .int (-1), .int f_s_firstHitPower, .int f_s_foul])), (a_sT, .inr (10, [.ref a_sTc, .ref a_sTk, .ref a_sTw, .long f_sT_taken, .int f_sT_size, .int f_sT_spot])), (a_sTc, .inl (xI X, 7, .inl v_sTc)), (a_sTk, .inl (xI X, 7, .inl v_sTk)), (a_sTw, .inl (xI X, 7, .inl v_sTw)), (a_kb, .inl (xB X, 5, .inr (.inr (.inr (.inr (fun j => some (a_b j))))))), ((a_b 0), .inr (1, [])), ((a_b 1), .inr (5, [])), ((a_b 2), .inr (6, [])), ((a_b 3), .inr (2, [])), ((a_b 4), .inr (8, []))] H) (hD : va_D A [(a_s, .inr (9, [.ref a_sT, .ref a_kb, .int 0, .int 0, .int 0, .int f_s_brings, .int (-1), .int f_s_firstHitPower, .int f_s_foul])), (a_sT, .inr (10, [.ref a_sTc, .ref a_sTk, .ref a_sTw, .long f_sT_taken, .int f_sT_size, .int f_sT_spot])), (a_sTc, .inl (xI X, 7, .inl v_sTc)), (a_sTk, .inl (xI X, 7, .inl v_sTk)), (a_sTw, .inl (xI X, 7, .inl v_sTw)), (a_kb, .inl (xB X, 5, .inr (.inr (.inr (.inr (fun j => some (a_b j))))))), ((a_b 0), .inr (1, [])), ((a_b 1), .inr (5, [])), ((a_b 2), .inr (6, [])), ((a_b 3), .inr (2, [])), ((a_b 4), .inr (8, []))]) hS => ?_)
  refine lv_aload_n hx hb dX9_shoot_20 rfl (lv_at hl 0 rfl) ?_
  refine lv_iconst (v := 0) hx hb dX9_shoot_21 (by decide) ?_
  refine va_put (D := xD X) (ci := 9) (v := .int 0) (ty := .int) (C := RX9) (T := TX9) (N := 9) hx hb hts inX9 tyX9 tyX9_ok nmX9 hown hK hP hD hS 0 rfl rfl 7 (by decide) (hts _ wq_1_181) (fun _ h9 => h9) rfl (by decide +kernel) rfl rfl (Nat.le_of_ble_eq_true rfl) dX9_shoot_22 (fun H locs (hP : va_P (xD X) vwCl [(a_s, .inr (9, [.ref a_sT, .ref a_kb, .int 0, .int 0, .int 0, .int f_s_brings, .int (-1), .int 0, .int f_s_foul])), (a_sT, .inr (10, [.ref a_sTc, .ref a_sTk, .ref a_sTw, .long f_sT_taken, .int f_sT_size, .int f_sT_spot])), (a_sTc, .inl (xI X, 7, .inl v_sTc)), (a_sTk, .inl (xI X, 7, .inl v_sTk)), (a_sTw, .inl (xI X, 7, .inl v_sTw)), (a_kb, .inl (xB X, 5, .inr (.inr (.inr (.inr (fun j => some (a_b j))))))), ((a_b 0), .inr (1, [])), ((a_b 1), .inr (5, [])), ((a_b 2), .inr (6, [])), ((a_b 3), .inr (2, [])), ((a_b 4), .inr (8, []))] H) (hD : va_D A [(a_s, .inr (9, [.ref a_sT, .ref a_kb, .int 0, .int 0, .int 0, .int f_s_brings, .int (-1), .int 0, .int f_s_foul])), (a_sT, .inr (10, [.ref a_sTc, .ref a_sTk, .ref a_sTw, .long f_sT_taken, .int f_sT_size, .int f_sT_spot])), (a_sTc, .inl (xI X, 7, .inl v_sTc)), (a_sTk, .inl (xI X, 7, .inl v_sTk)), (a_sTw, .inl (xI X, 7, .inl v_sTw)), (a_kb, .inl (xB X, 5, .inr (.inr (.inr (.inr (fun j => some (a_b j))))))), ((a_b 0), .inr (1, [])), ((a_b 1), .inr (5, [])), ((a_b 2), .inr (6, [])), ((a_b 3), .inr (2, [])), ((a_b 4), .inr (8, []))]) hS => ?_)
  refine lv_aload_n hx hb dX9_shoot_25 rfl (lv_at hl 0 rfl) ?_
  refine lv_iconst (v := 0) hx hb dX9_shoot_26 (by decide) ?_
  refine lv_iload_n hx hb dX9_shoot_27 rfl (lv_at hl 1 rfl) ?_
  refine lv_iload_n hx hb dX9_shoot_28 rfl (lv_at hl 2 rfl) ?_
  obtain ⟨u_1, hu_1, h⟩ := ob_s h
  refine cVv (C := RX9) (As := [.int 0, .int p1, .int p2]) (rest := []) [(a_s, .inr (9, [.ref a_sT, .ref a_kb, .int u_1.1, .int u_1.2.1, .int u_1.2.2.1, .int f_s_brings, .int u_1.2.2.2.1, .int u_1.2.2.2.2.1, .int f_s_foul])), (a_sT, .inr (10, [.ref a_sTc, .ref a_sTk, .ref a_sTw, .long u_1.2.2.2.2.2.1, .int f_sT_size, .int f_sT_spot])), (a_sTc, .inl (xI X, 7, .inl u_1.2.2.2.2.2.2)), (a_sTk, .inl (xI X, 7, .inl v_sTk)), (a_sTw, .inl (xI X, 7, .inl v_sTw)), (a_kb, .inl (xB X, 5, .inr (.inr (.inr (.inr (fun j => some (a_b j))))))), ((a_b 0), .inr (1, [])), ((a_b 1), .inr (5, [])), ((a_b 2), .inr (6, [])), ((a_b 3), .inr (2, [])), ((a_b 4), .inr (8, []))] hB (c_X9_roll X l n a_s a_sT a_sTc a_sTk a_sTw a_kb a_b 0 0 0 f_s_brings (-1) 0 f_s_foul f_sT_taken f_sT_size f_sT_spot v_sTc v_sTk 0 p1 p2 u_1 hu_1) wq_3_21 wq_1_11 wq_3_18 wq_3_20 wp_8 hd_X9_roll (by decide) hP hD hS hl.1 [0, 1, 2, 3, 5, 6, 7, 8, 9, 10] [4] [(a_sTw, .inl (xI X, 7, .inl v_sTw))] rfl (by decide +kernel) rfl rfl rfl (nn := 11) rfl (by decide +kernel) [a_s, a_sT, a_sTc, a_sTk, a_sTw, a_kb, (a_b 0), (a_b 1), (a_b 2), (a_b 3), (a_b 4)] rfl rfl (q0 := 0) rfl rfl rfl rfl (Nat.le_of_ble_eq_true rfl) dX9_shoot_29 ⟨Nat.zero_le _, Nat.zero_le _⟩ (fun H locs hP hD hS => ?_)
  refine lv_aload_n hx hb dX9_shoot_32 rfl (lv_at hl 0 rfl) ?_
  refine va_get (D := xD X) (ci := 9) (v := .int u_1.2.2.2.1) (C := RX9) (T := TX9) (N := 9) hx hb hts inX9 hown hK hP 0 rfl rfl 6 (by decide) (hts _ wq_1_180) (fun _ h9 => h9) rfl dX9_shoot_33 ?_
  refine lv_iconst (v := (-1)) hx hb dX9_shoot_36 (by decide) ?_
  obtain ⟨j45_3, ej45_3, h⟩ := jn_s h
  have J45_3 : ∀ (k_2 : Int32), j45_3 k_2 = some res → ∀ (H : Heap) (locs : List Loc) (ls : Array Slot), va_P (xD X) vwCl [(a_s, .inr (9, [.ref a_sT, .ref a_kb, .int u_1.1, .int u_1.2.1, .int u_1.2.2.1, .int f_s_brings, .int u_1.2.2.2.1, .int u_1.2.2.2.2.1, .int f_s_foul])), (a_sT, .inr (10, [.ref a_sTc, .ref a_sTk, .ref a_sTw, .long u_1.2.2.2.2.2.1, .int f_sT_size, .int f_sT_spot])), (a_sTc, .inl (xI X, 7, .inl u_1.2.2.2.2.2.2)), (a_sTk, .inl (xI X, 7, .inl v_sTk)), (a_sTw, .inl (xI X, 7, .inl v_sTw)), (a_kb, .inl (xB X, 5, .inr (.inr (.inr (.inr (fun j => some (a_b j))))))), ((a_b 0), .inr (1, [])), ((a_b 1), .inr (5, [])), ((a_b 2), .inr (6, [])), ((a_b 3), .inr (2, [])), ((a_b 4), .inr (8, []))] H → va_D A [(a_s, .inr (9, [.ref a_sT, .ref a_kb, .int u_1.1, .int u_1.2.1, .int u_1.2.2.1, .int f_s_brings, .int u_1.2.2.2.1, .int u_1.2.2.2.2.1, .int f_s_foul])), (a_sT, .inr (10, [.ref a_sTc, .ref a_sTk, .ref a_sTw, .long u_1.2.2.2.2.2.1, .int f_sT_size, .int f_sT_spot])), (a_sTc, .inl (xI X, 7, .inl u_1.2.2.2.2.2.2)), (a_sTk, .inl (xI X, 7, .inl v_sTk)), (a_sTw, .inl (xI X, 7, .inl v_sTw)), (a_kb, .inl (xB X, 5, .inr (.inr (.inr (.inr (fun j => some (a_b j))))))), ((a_b 0), .inr (1, [])), ((a_b 1), .inr (5, [])), ((a_b 2), .inr (6, [])), ((a_b 3), .inr (2, [])), ((a_b 4), .inr (8, []))] → va_S A s.heap H locs → lv_has ls 5 [(0, .ref a_s), (3, .int p3)] → W p l e (rmF 2 54) s m args below meth c H locs 0 0 Q (F0 m 45 ls [.int k_2]) := by
    clear h
    intro k_2 h H locs ls hP hD hS hl
    rw [ej45_3] at h
    replace h := id h
    refine lv_istore (lv' := [(4, .int k_2), (0, .ref a_s), (3, .int p3)]) hx hb dX9_shoot_45 hl (by decide) rfl (fun ls hl => ?_)
    refine lv_iload_n hx hb dX9_shoot_47 rfl (lv_at hl 2 rfl) ?_
    obtain ⟨j95_11, ej95_11, h⟩ := jn_s h
    have J95_11 : ∀ (f_s_moves_4 : Int32) (f_s_bounces_5 : Int32) (f_s_potted_6 : Int32) (f_s_firstHitDirection_7 : Int32) (f_s_firstHitPower_8 : Int32) (f_sT_taken_9 : Int64) (v_sTc_10 : Nat → Int32), j95_11 f_s_moves_4 f_s_bounces_5 f_s_potted_6 f_s_firstHitDirection_7 f_s_firstHitPower_8 f_sT_taken_9 v_sTc_10 = some res → ∀ (H : Heap) (locs : List Loc) (ls : Array Slot), va_P (xD X) vwCl [(a_s, .inr (9, [.ref a_sT, .ref a_kb, .int f_s_moves_4, .int f_s_bounces_5, .int f_s_potted_6, .int f_s_brings, .int f_s_firstHitDirection_7, .int f_s_firstHitPower_8, .int f_s_foul])), (a_sT, .inr (10, [.ref a_sTc, .ref a_sTk, .ref a_sTw, .long f_sT_taken_9, .int f_sT_size, .int f_sT_spot])), (a_sTc, .inl (xI X, 7, .inl v_sTc_10)), (a_sTk, .inl (xI X, 7, .inl v_sTk)), (a_sTw, .inl (xI X, 7, .inl v_sTw)), (a_kb, .inl (xB X, 5, .inr (.inr (.inr (.inr (fun j => some (a_b j))))))), ((a_b 0), .inr (1, [])), ((a_b 1), .inr (5, [])), ((a_b 2), .inr (6, [])), ((a_b 3), .inr (2, [])), ((a_b 4), .inr (8, []))] H → va_D A [(a_s, .inr (9, [.ref a_sT, .ref a_kb, .int f_s_moves_4, .int f_s_bounces_5, .int f_s_potted_6, .int f_s_brings, .int f_s_firstHitDirection_7, .int f_s_firstHitPower_8, .int f_s_foul])), (a_sT, .inr (10, [.ref a_sTc, .ref a_sTk, .ref a_sTw, .long f_sT_taken_9, .int f_sT_size, .int f_sT_spot])), (a_sTc, .inl (xI X, 7, .inl v_sTc_10)), (a_sTk, .inl (xI X, 7, .inl v_sTk)), (a_sTw, .inl (xI X, 7, .inl v_sTw)), (a_kb, .inl (xB X, 5, .inr (.inr (.inr (.inr (fun j => some (a_b j))))))), ((a_b 0), .inr (1, [])), ((a_b 1), .inr (5, [])), ((a_b 2), .inr (6, [])), ((a_b 3), .inr (2, [])), ((a_b 4), .inr (8, []))] → va_S A s.heap H locs → lv_has ls 5 [(0, .ref a_s), (4, .int k_2)] → W p l e (rmF 2 54) s m args below meth c H locs 0 0 Q (F0 m 95 ls []) := by
      clear h
      intro f_s_moves_4 f_s_bounces_5 f_s_potted_6 f_s_firstHitDirection_7 f_s_firstHitPower_8 f_sT_taken_9 v_sTc_10 h H locs ls hP hD hS hl
      rw [ej95_11] at h
      replace h := id h
      refine lv_aload_n hx hb dX9_shoot_95 rfl (lv_at hl 0 rfl) ?_
      refine lv_iload hx hb dX9_shoot_96 (lv_at hl 1 rfl) ?_
      obtain ⟨j113_13, ej113_13, h⟩ := jn_s h
      have J113_13 : ∀ (k_12 : Int32), j113_13 k_12 = some res → ∀ (H : Heap) (locs : List Loc) (ls : Array Slot), va_P (xD X) vwCl [(a_s, .inr (9, [.ref a_sT, .ref a_kb, .int f_s_moves_4, .int f_s_bounces_5, .int f_s_potted_6, .int f_s_brings, .int f_s_firstHitDirection_7, .int f_s_firstHitPower_8, .int f_s_foul])), (a_sT, .inr (10, [.ref a_sTc, .ref a_sTk, .ref a_sTw, .long f_sT_taken_9, .int f_sT_size, .int f_sT_spot])), (a_sTc, .inl (xI X, 7, .inl v_sTc_10)), (a_sTk, .inl (xI X, 7, .inl v_sTk)), (a_sTw, .inl (xI X, 7, .inl v_sTw)), (a_kb, .inl (xB X, 5, .inr (.inr (.inr (.inr (fun j => some (a_b j))))))), ((a_b 0), .inr (1, [])), ((a_b 1), .inr (5, [])), ((a_b 2), .inr (6, [])), ((a_b 3), .inr (2, [])), ((a_b 4), .inr (8, []))] H → va_D A [(a_s, .inr (9, [.ref a_sT, .ref a_kb, .int f_s_moves_4, .int f_s_bounces_5, .int f_s_potted_6, .int f_s_brings, .int f_s_firstHitDirection_7, .int f_s_firstHitPower_8, .int f_s_foul])), (a_sT, .inr (10, [.ref a_sTc, .ref a_sTk, .ref a_sTw, .long f_sT_taken_9, .int f_sT_size, .int f_sT_spot])), (a_sTc, .inl (xI X, 7, .inl v_sTc_10)), (a_sTk, .inl (xI X, 7, .inl v_sTk)), (a_sTw, .inl (xI X, 7, .inl v_sTw)), (a_kb, .inl (xB X, 5, .inr (.inr (.inr (.inr (fun j => some (a_b j))))))), ((a_b 0), .inr (1, [])), ((a_b 1), .inr (5, [])), ((a_b 2), .inr (6, [])), ((a_b 3), .inr (2, [])), ((a_b 4), .inr (8, []))] → va_S A s.heap H locs → lv_has ls 5 [(0, .ref a_s)] → W p l e (rmF 2 54) s m args below meth c H locs 0 0 Q (F0 m 113 ls [.int k_12, .ref a_s]) := by
        clear h
        intro k_12 h H locs ls hP hD hS hl
        rw [ej113_13] at h
        replace h := id h
        obtain ⟨z_14, h⟩ := gd_s h
        refine va_put (D := xD X) (ci := 9) (v := .int k_12) (ty := .boolean) (C := RX9) (T := TX9) (N := 9) hx hb hts inX9 tyX9 tyX9_ok nmX9 hown hK hP hD hS 0 rfl rfl 8 (by decide) (hts _ wq_1_182) (fun _ h9 => h9) rfl (by decide +kernel) (isb_n z_14) (isb_f z_14) (Nat.le_of_ble_eq_true rfl) dX9_shoot_113 (fun H locs (hP : va_P (xD X) vwCl [(a_s, .inr (9, [.ref a_sT, .ref a_kb, .int f_s_moves_4, .int f_s_bounces_5, .int f_s_potted_6, .int f_s_brings, .int f_s_firstHitDirection_7, .int f_s_firstHitPower_8, .int k_12])), (a_sT, .inr (10, [.ref a_sTc, .ref a_sTk, .ref a_sTw, .long f_sT_taken_9, .int f_sT_size, .int f_sT_spot])), (a_sTc, .inl (xI X, 7, .inl v_sTc_10)), (a_sTk, .inl (xI X, 7, .inl v_sTk)), (a_sTw, .inl (xI X, 7, .inl v_sTw)), (a_kb, .inl (xB X, 5, .inr (.inr (.inr (.inr (fun j => some (a_b j))))))), ((a_b 0), .inr (1, [])), ((a_b 1), .inr (5, [])), ((a_b 2), .inr (6, [])), ((a_b 3), .inr (2, [])), ((a_b 4), .inr (8, []))] H) (hD : va_D A [(a_s, .inr (9, [.ref a_sT, .ref a_kb, .int f_s_moves_4, .int f_s_bounces_5, .int f_s_potted_6, .int f_s_brings, .int f_s_firstHitDirection_7, .int f_s_firstHitPower_8, .int k_12])), (a_sT, .inr (10, [.ref a_sTc, .ref a_sTk, .ref a_sTw, .long f_sT_taken_9, .int f_sT_size, .int f_sT_spot])), (a_sTc, .inl (xI X, 7, .inl v_sTc_10)), (a_sTk, .inl (xI X, 7, .inl v_sTk)), (a_sTw, .inl (xI X, 7, .inl v_sTw)), (a_kb, .inl (xB X, 5, .inr (.inr (.inr (.inr (fun j => some (a_b j))))))), ((a_b 0), .inr (1, [])), ((a_b 1), .inr (5, [])), ((a_b 2), .inr (6, [])), ((a_b 3), .inr (2, [])), ((a_b 4), .inr (8, []))]) hS => ?_)
        refine lv_aload_n hx hb dX9_shoot_116 rfl (lv_at hl 0 rfl) ?_
        refine lv_aload_n hx hb dX9_shoot_117 rfl (lv_at hl 0 rfl) ?_
        obtain ⟨u_15, hu_15, h⟩ := ob_s h
        refine cVi (C := RX9) (As := []) (rest := [.ref a_s]) [(a_s, .inr (9, [.ref a_sT, .ref a_kb, .int f_s_moves_4, .int f_s_bounces_5, .int f_s_potted_6, .int f_s_brings, .int f_s_firstHitDirection_7, .int f_s_firstHitPower_8, .int k_12])), (a_sT, .inr (10, [.ref a_sTc, .ref a_sTk, .ref a_sTw, .long f_sT_taken_9, .int f_sT_size, .int f_sT_spot])), (a_sTc, .inl (xI X, 7, .inl v_sTc_10)), (a_sTk, .inl (xI X, 7, .inl v_sTk)), (a_sTw, .inl (xI X, 7, .inl v_sTw)), (a_kb, .inl (xB X, 5, .inr (.inr (.inr (.inr (fun j => some (a_b j))))))), ((a_b 0), .inr (1, [])), ((a_b 1), .inr (5, [])), ((a_b 2), .inr (6, [])), ((a_b 3), .inr (2, [])), ((a_b 4), .inr (8, []))] hB (c_X9_worthPotted X l n a_s a_sT a_sTc a_sTk a_sTw a_kb f_s_moves_4 f_s_bounces_5 f_s_potted_6 f_s_brings f_s_firstHitDirection_7 f_s_firstHitPower_8 k_12 f_sT_taken_9 f_sT_size f_sT_spot v_sTc_10 v_sTw u_15 hu_15) wq_3_90 wq_1_11 wq_3_87 wq_3_89 wp_13 hd_X9_worthPotted (by decide) hP hD hS hl.1 [0, 1, 2, 4] [3, 5, 6, 7, 8, 9, 10] [(a_sTk, .inl (xI X, 7, .inl v_sTk)), (a_kb, .inl (xB X, 5, .inr (.inr (.inr (.inr (fun j => some (a_b j))))))), ((a_b 0), .inr (1, [])), ((a_b 1), .inr (5, [])), ((a_b 2), .inr (6, [])), ((a_b 3), .inr (2, [])), ((a_b 4), .inr (8, []))] rfl (by decide +kernel) rfl rfl rfl (nn := 11) rfl (by decide +kernel) [a_s, a_sT, a_sTc, a_sTk, a_sTw, a_kb, (a_b 0), (a_b 1), (a_b 2), (a_b 3), (a_b 4)] rfl rfl (q0 := 0) rfl rfl rfl rfl (Nat.le_of_ble_eq_true rfl) dX9_shoot_118 ⟨Nat.zero_le _, Nat.zero_le _⟩ (fun H locs hP hD hS => ?_)
        refine lv_aload_n hx hb dX9_shoot_121 rfl (lv_at hl 0 rfl) ?_
        refine va_get (D := xD X) (ci := 9) (v := .int k_12) (C := RX9) (T := TX9) (N := 9) hx hb hts inX9 hown hK hP 0 rfl rfl 8 (by decide) (hts _ wq_1_182) (fun _ h9 => h9) rfl dX9_shoot_122 ?_
        obtain ⟨j133_18, ej133_18, h⟩ := jn_s h
        have J133_18 : ∀ (k_16 : Int32) (k_17 : Int32), j133_18 k_16 k_17 = some res → ∀ (H : Heap) (locs : List Loc) (ls : Array Slot), va_P (xD X) vwCl [(a_s, .inr (9, [.ref a_sT, .ref a_kb, .int f_s_moves_4, .int f_s_bounces_5, .int f_s_potted_6, .int f_s_brings, .int f_s_firstHitDirection_7, .int f_s_firstHitPower_8, .int k_12])), (a_sT, .inr (10, [.ref a_sTc, .ref a_sTk, .ref a_sTw, .long f_sT_taken_9, .int f_sT_size, .int f_sT_spot])), (a_sTc, .inl (xI X, 7, .inl v_sTc_10)), (a_sTk, .inl (xI X, 7, .inl v_sTk)), (a_sTw, .inl (xI X, 7, .inl v_sTw)), (a_kb, .inl (xB X, 5, .inr (.inr (.inr (.inr (fun j => some (a_b j))))))), ((a_b 0), .inr (1, [])), ((a_b 1), .inr (5, [])), ((a_b 2), .inr (6, [])), ((a_b 3), .inr (2, [])), ((a_b 4), .inr (8, []))] H → va_D A [(a_s, .inr (9, [.ref a_sT, .ref a_kb, .int f_s_moves_4, .int f_s_bounces_5, .int f_s_potted_6, .int f_s_brings, .int f_s_firstHitDirection_7, .int f_s_firstHitPower_8, .int k_12])), (a_sT, .inr (10, [.ref a_sTc, .ref a_sTk, .ref a_sTw, .long f_sT_taken_9, .int f_sT_size, .int f_sT_spot])), (a_sTc, .inl (xI X, 7, .inl v_sTc_10)), (a_sTk, .inl (xI X, 7, .inl v_sTk)), (a_sTw, .inl (xI X, 7, .inl v_sTw)), (a_kb, .inl (xB X, 5, .inr (.inr (.inr (.inr (fun j => some (a_b j))))))), ((a_b 0), .inr (1, [])), ((a_b 1), .inr (5, [])), ((a_b 2), .inr (6, [])), ((a_b 3), .inr (2, [])), ((a_b 4), .inr (8, []))] → va_S A s.heap H locs → lv_has ls 5 [(0, .ref a_s)] → W p l e (rmF 2 54) s m args below meth c H locs 0 0 Q (F0 m 133 ls [.int k_17, .int k_16, .ref a_s]) := by
          clear h
          intro k_16 k_17 h H locs ls hP hD hS hl
          rw [ej133_18] at h
          replace h := id h
          refine lv_isub hx hb dX9_shoot_133 ?_
          refine va_put (D := xD X) (ci := 9) (v := .int (k_16 - k_17)) (ty := .int) (C := RX9) (T := TX9) (N := 9) hx hb hts inX9 tyX9 tyX9_ok nmX9 hown hK hP hD hS 0 rfl rfl 5 (by decide) (hts _ wq_1_177) (fun _ h9 => h9) rfl (by decide +kernel) rfl rfl (Nat.le_of_ble_eq_true rfl) dX9_shoot_134 (fun H locs (hP : va_P (xD X) vwCl [(a_s, .inr (9, [.ref a_sT, .ref a_kb, .int f_s_moves_4, .int f_s_bounces_5, .int f_s_potted_6, .int (k_16 - k_17), .int f_s_firstHitDirection_7, .int f_s_firstHitPower_8, .int k_12])), (a_sT, .inr (10, [.ref a_sTc, .ref a_sTk, .ref a_sTw, .long f_sT_taken_9, .int f_sT_size, .int f_sT_spot])), (a_sTc, .inl (xI X, 7, .inl v_sTc_10)), (a_sTk, .inl (xI X, 7, .inl v_sTk)), (a_sTw, .inl (xI X, 7, .inl v_sTw)), (a_kb, .inl (xB X, 5, .inr (.inr (.inr (.inr (fun j => some (a_b j))))))), ((a_b 0), .inr (1, [])), ((a_b 1), .inr (5, [])), ((a_b 2), .inr (6, [])), ((a_b 3), .inr (2, [])), ((a_b 4), .inr (8, []))] H) (hD : va_D A [(a_s, .inr (9, [.ref a_sT, .ref a_kb, .int f_s_moves_4, .int f_s_bounces_5, .int f_s_potted_6, .int (k_16 - k_17), .int f_s_firstHitDirection_7, .int f_s_firstHitPower_8, .int k_12])), (a_sT, .inr (10, [.ref a_sTc, .ref a_sTk, .ref a_sTw, .long f_sT_taken_9, .int f_sT_size, .int f_sT_spot])), (a_sTc, .inl (xI X, 7, .inl v_sTc_10)), (a_sTk, .inl (xI X, 7, .inl v_sTk)), (a_sTw, .inl (xI X, 7, .inl v_sTw)), (a_kb, .inl (xB X, 5, .inr (.inr (.inr (.inr (fun j => some (a_b j))))))), ((a_b 0), .inr (1, [])), ((a_b 1), .inr (5, [])), ((a_b 2), .inr (6, [])), ((a_b 3), .inr (2, [])), ((a_b 4), .inr (8, []))]) hS => ?_)
          refine lv_aload_n hx hb dX9_shoot_137 rfl (lv_at hl 0 rfl) ?_
          obtain ⟨u_19, hu_19, h⟩ := ob_s h
          refine cVi (C := RX9) (As := []) (rest := []) [(a_s, .inr (9, [.ref a_sT, .ref a_kb, .int f_s_moves_4, .int f_s_bounces_5, .int f_s_potted_6, .int (k_16 - k_17), .int f_s_firstHitDirection_7, .int f_s_firstHitPower_8, .int k_12])), (a_sT, .inr (10, [.ref a_sTc, .ref a_sTk, .ref a_sTw, .long f_sT_taken_9, .int f_sT_size, .int f_sT_spot])), (a_sTc, .inl (xI X, 7, .inl v_sTc_10)), (a_sTk, .inl (xI X, 7, .inl v_sTk)), (a_sTw, .inl (xI X, 7, .inl v_sTw)), (a_kb, .inl (xB X, 5, .inr (.inr (.inr (.inr (fun j => some (a_b j))))))), ((a_b 0), .inr (1, [])), ((a_b 1), .inr (5, [])), ((a_b 2), .inr (6, [])), ((a_b 3), .inr (2, [])), ((a_b 4), .inr (8, []))] hB (c_X9_isWhitePotted X l a_s a_sT a_kb f_s_moves_4 f_s_bounces_5 f_s_potted_6 (k_16 - k_17) f_s_firstHitDirection_7 f_s_firstHitPower_8 k_12 u_19 hu_19) wq_3_86 wq_1_11 wq_3_83 wq_3_85 wp_12 hd_X9_isWhitePotted (by decide) hP hD hS hl.1 [0] [1, 2, 3, 4, 5, 6, 7, 8, 9, 10] [(a_sT, .inr (10, [.ref a_sTc, .ref a_sTk, .ref a_sTw, .long f_sT_taken_9, .int f_sT_size, .int f_sT_spot])), (a_sTc, .inl (xI X, 7, .inl v_sTc_10)), (a_sTk, .inl (xI X, 7, .inl v_sTk)), (a_sTw, .inl (xI X, 7, .inl v_sTw)), (a_kb, .inl (xB X, 5, .inr (.inr (.inr (.inr (fun j => some (a_b j))))))), ((a_b 0), .inr (1, [])), ((a_b 1), .inr (5, [])), ((a_b 2), .inr (6, [])), ((a_b 3), .inr (2, [])), ((a_b 4), .inr (8, []))] rfl (by decide +kernel) rfl rfl rfl (nn := 11) rfl (by decide +kernel) [a_s, a_sT, a_sTc, a_sTk, a_sTw, a_kb, (a_b 0), (a_b 1), (a_b 2), (a_b 3), (a_b 4)] rfl rfl (q0 := 0) rfl rfl rfl rfl (Nat.le_of_ble_eq_true rfl) dX9_shoot_138 ⟨Nat.zero_le _, Nat.zero_le _⟩ (fun H locs hP hD hS => ?_)
          refine lv_if_eq (tgt := 151) hx hb dX9_shoot_141 (by decide) (fun c_20 => ?_) (fun c_20 => ?_)
          · replace h := it_p c_20 h
            obtain rfl := Option.some.inj h
            rw [← hQ]
            exact retV hB hS hP dX9_shoot_151
          · replace h := it_n c_20 h
            refine lv_aload_n hx hb dX9_shoot_144 rfl (lv_at hl 0 rfl) ?_
            refine va_get (D := xD X) (ci := 9) (v := .ref a_sT) (C := RX9) (T := TX9) (N := 9) hx hb hts inX9 hown hK hP 0 rfl rfl 0 (by decide) (hts _ wq_1_167) (fun _ h9 => h9) rfl dX9_shoot_145 ?_
            obtain ⟨u_21, hu_21, h⟩ := ob_s h
            refine cVv (C := RX10) (As := []) (rest := []) [(a_s, .inr (9, [.ref a_sT, .ref a_kb, .int f_s_moves_4, .int f_s_bounces_5, .int f_s_potted_6, .int (k_16 - k_17), .int f_s_firstHitDirection_7, .int f_s_firstHitPower_8, .int k_12])), (a_sT, .inr (10, [.ref a_sTc, .ref a_sTk, .ref a_sTw, .long u_21.1, .int f_sT_size, .int f_sT_spot])), (a_sTc, .inl (xI X, 7, .inl u_21.2)), (a_sTk, .inl (xI X, 7, .inl v_sTk)), (a_sTw, .inl (xI X, 7, .inl v_sTw)), (a_kb, .inl (xB X, 5, .inr (.inr (.inr (.inr (fun j => some (a_b j))))))), ((a_b 0), .inr (1, [])), ((a_b 1), .inr (5, [])), ((a_b 2), .inr (6, [])), ((a_b 3), .inr (2, [])), ((a_b 4), .inr (8, []))] hB (c_X10_returnWhite X l n a_sT a_sTc a_sTk a_sTw f_sT_taken_9 f_sT_size f_sT_spot v_sTc_10 u_21 hu_21) wq_3_95 wq_1_9 wq_3_92 wq_3_93 wq_3_94 hd_X10_returnWhite (by decide) hP hD hS hl.1 [1, 2] [0, 3, 4, 5, 6, 7, 8, 9, 10] [(a_s, .inr (9, [.ref a_sT, .ref a_kb, .int f_s_moves_4, .int f_s_bounces_5, .int f_s_potted_6, .int (k_16 - k_17), .int f_s_firstHitDirection_7, .int f_s_firstHitPower_8, .int k_12])), (a_sTk, .inl (xI X, 7, .inl v_sTk)), (a_sTw, .inl (xI X, 7, .inl v_sTw)), (a_kb, .inl (xB X, 5, .inr (.inr (.inr (.inr (fun j => some (a_b j))))))), ((a_b 0), .inr (1, [])), ((a_b 1), .inr (5, [])), ((a_b 2), .inr (6, [])), ((a_b 3), .inr (2, [])), ((a_b 4), .inr (8, []))] rfl (by decide +kernel) rfl rfl rfl (nn := 11) rfl (by decide +kernel) [a_s, a_sT, a_sTc, a_sTk, a_sTw, a_kb, (a_b 0), (a_b 1), (a_b 2), (a_b 3), (a_b 4)] rfl rfl (q0 := 1) rfl rfl rfl rfl (Nat.le_of_ble_eq_true rfl) dX9_shoot_148 ⟨Nat.zero_le _, Nat.zero_le _⟩ (fun H locs hP hD hS => ?_)
            obtain rfl := Option.some.inj h
            rw [← hQ]
            exact retV hB hS hP dX9_shoot_151
        clear ej133_18
        refine lv_if_eq (tgt := 132) hx hb dX9_shoot_125 (by decide) (fun c_22 => ?_) (fun c_22 => ?_)
        · replace h := it_p c_22 h
          refine lv_iconst (v := 0) hx hb dX9_shoot_132 (by decide) ?_
          exact J133_18 u_15 0 h _ _ _ hP hD hS (lv_sub hl [0] rfl)
        · replace h := it_n c_22 h
          refine lv_iconst (v := 4) hx hb dX9_shoot_128 (by decide) ?_
          refine lv_goto (tgt := 133) hx hb dX9_shoot_129 (by decide) ?_
          exact J133_18 u_15 4 h _ _ _ hP hD hS (lv_sub hl [0] rfl)
      clear ej113_13
      obtain ⟨j108_23, ej108_23, h⟩ := jn_s h
      have J108_23 : j108_23 = some res → ∀ (H : Heap) (locs : List Loc) (ls : Array Slot), va_P (xD X) vwCl [(a_s, .inr (9, [.ref a_sT, .ref a_kb, .int f_s_moves_4, .int f_s_bounces_5, .int f_s_potted_6, .int f_s_brings, .int f_s_firstHitDirection_7, .int f_s_firstHitPower_8, .int f_s_foul])), (a_sT, .inr (10, [.ref a_sTc, .ref a_sTk, .ref a_sTw, .long f_sT_taken_9, .int f_sT_size, .int f_sT_spot])), (a_sTc, .inl (xI X, 7, .inl v_sTc_10)), (a_sTk, .inl (xI X, 7, .inl v_sTk)), (a_sTw, .inl (xI X, 7, .inl v_sTw)), (a_kb, .inl (xB X, 5, .inr (.inr (.inr (.inr (fun j => some (a_b j))))))), ((a_b 0), .inr (1, [])), ((a_b 1), .inr (5, [])), ((a_b 2), .inr (6, [])), ((a_b 3), .inr (2, [])), ((a_b 4), .inr (8, []))] H → va_D A [(a_s, .inr (9, [.ref a_sT, .ref a_kb, .int f_s_moves_4, .int f_s_bounces_5, .int f_s_potted_6, .int f_s_brings, .int f_s_firstHitDirection_7, .int f_s_firstHitPower_8, .int f_s_foul])), (a_sT, .inr (10, [.ref a_sTc, .ref a_sTk, .ref a_sTw, .long f_sT_taken_9, .int f_sT_size, .int f_sT_spot])), (a_sTc, .inl (xI X, 7, .inl v_sTc_10)), (a_sTk, .inl (xI X, 7, .inl v_sTk)), (a_sTw, .inl (xI X, 7, .inl v_sTw)), (a_kb, .inl (xB X, 5, .inr (.inr (.inr (.inr (fun j => some (a_b j))))))), ((a_b 0), .inr (1, [])), ((a_b 1), .inr (5, [])), ((a_b 2), .inr (6, [])), ((a_b 3), .inr (2, [])), ((a_b 4), .inr (8, []))] → va_S A s.heap H locs → lv_has ls 5 [(0, .ref a_s)] → W p l e (rmF 2 54) s m args below meth c H locs 0 0 Q (F0 m 108 ls [.ref a_s]) := by
        clear h
        intro h H locs ls hP hD hS hl
        rw [ej108_23] at h
        refine lv_iconst (v := 1) hx hb dX9_shoot_108 (by decide) ?_
        refine lv_goto (tgt := 113) hx hb dX9_shoot_109 (by decide) ?_
        exact J113_13 1 h _ _ _ hP hD hS (lv_sub hl [0] rfl)
      clear ej108_23
      refine lv_if_ne (tgt := 108) hx hb dX9_shoot_98 (by decide) (fun c_24 => ?_) (fun c_24 => ?_)
      · replace h := it_n c_24 h
        exact J108_23 h _ _ _ hP hD hS (lv_sub hl [0] rfl)
      · replace h := it_p c_24 h
        refine lv_aload_n hx hb dX9_shoot_101 rfl (lv_at hl 0 rfl) ?_
        obtain ⟨u_25, hu_25, h⟩ := ob_s h
        refine cVi (C := RX9) (As := []) (rest := [.ref a_s]) [(a_s, .inr (9, [.ref a_sT, .ref a_kb, .int f_s_moves_4, .int f_s_bounces_5, .int f_s_potted_6, .int f_s_brings, .int f_s_firstHitDirection_7, .int f_s_firstHitPower_8, .int f_s_foul])), (a_sT, .inr (10, [.ref a_sTc, .ref a_sTk, .ref a_sTw, .long f_sT_taken_9, .int f_sT_size, .int f_sT_spot])), (a_sTc, .inl (xI X, 7, .inl v_sTc_10)), (a_sTk, .inl (xI X, 7, .inl v_sTk)), (a_sTw, .inl (xI X, 7, .inl v_sTw)), (a_kb, .inl (xB X, 5, .inr (.inr (.inr (.inr (fun j => some (a_b j))))))), ((a_b 0), .inr (1, [])), ((a_b 1), .inr (5, [])), ((a_b 2), .inr (6, [])), ((a_b 3), .inr (2, [])), ((a_b 4), .inr (8, []))] hB (c_X9_isWhitePotted X l a_s a_sT a_kb f_s_moves_4 f_s_bounces_5 f_s_potted_6 f_s_brings f_s_firstHitDirection_7 f_s_firstHitPower_8 f_s_foul u_25 hu_25) wq_3_86 wq_1_11 wq_3_83 wq_3_85 wp_12 hd_X9_isWhitePotted (by decide) hP hD hS hl.1 [0] [1, 2, 3, 4, 5, 6, 7, 8, 9, 10] [(a_sT, .inr (10, [.ref a_sTc, .ref a_sTk, .ref a_sTw, .long f_sT_taken_9, .int f_sT_size, .int f_sT_spot])), (a_sTc, .inl (xI X, 7, .inl v_sTc_10)), (a_sTk, .inl (xI X, 7, .inl v_sTk)), (a_sTw, .inl (xI X, 7, .inl v_sTw)), (a_kb, .inl (xB X, 5, .inr (.inr (.inr (.inr (fun j => some (a_b j))))))), ((a_b 0), .inr (1, [])), ((a_b 1), .inr (5, [])), ((a_b 2), .inr (6, [])), ((a_b 3), .inr (2, [])), ((a_b 4), .inr (8, []))] rfl (by decide +kernel) rfl rfl rfl (nn := 11) rfl (by decide +kernel) [a_s, a_sT, a_sTc, a_sTk, a_sTw, a_kb, (a_b 0), (a_b 1), (a_b 2), (a_b 3), (a_b 4)] rfl rfl (q0 := 0) rfl rfl rfl rfl (Nat.le_of_ble_eq_true rfl) dX9_shoot_102 ⟨Nat.zero_le _, Nat.zero_le _⟩ (fun H locs hP hD hS => ?_)
        refine lv_if_eq (tgt := 112) hx hb dX9_shoot_105 (by decide) (fun c_26 => ?_) (fun c_26 => ?_)
        · replace h := it_p c_26 h
          refine lv_iconst (v := 0) hx hb dX9_shoot_112 (by decide) ?_
          exact J113_13 0 h _ _ _ hP hD hS (lv_sub hl [0] rfl)
        · replace h := it_n c_26 h
          exact J108_23 h _ _ _ hP hD hS (lv_sub hl [0] rfl)
    clear ej95_11
    refine lv_if_eq (tgt := 95) hx hb dX9_shoot_48 (by decide) (fun c_27 => ?_) (fun c_27 => ?_)
    · replace h := it_p c_27 h
      exact J95_11 u_1.1 u_1.2.1 u_1.2.2.1 u_1.2.2.2.1 u_1.2.2.2.2.1 u_1.2.2.2.2.2.1 u_1.2.2.2.2.2.2 h _ _ _ hP hD hS (lv_sub hl [1, 0] rfl)
    · replace h := it_n c_27 h
      refine lv_iload hx hb dX9_shoot_51 (lv_at hl 0 rfl) ?_
      refine lv_if_ne (tgt := 95) hx hb dX9_shoot_53 (by decide) (fun c_28 => ?_) (fun c_28 => ?_)
      · replace h := it_n c_28 h
        exact J95_11 u_1.1 u_1.2.1 u_1.2.2.1 u_1.2.2.2.1 u_1.2.2.2.2.1 u_1.2.2.2.2.2.1 u_1.2.2.2.2.2.2 h _ _ _ hP hD hS (lv_sub hl [1, 0] rfl)
      · replace h := it_p c_28 h
        refine lv_aload_n hx hb dX9_shoot_56 rfl (lv_at hl 1 rfl) ?_
        obtain ⟨u_29, hu_29, h⟩ := ob_s h
        refine cVi (C := RX9) (As := []) (rest := []) [(a_s, .inr (9, [.ref a_sT, .ref a_kb, .int u_1.1, .int u_1.2.1, .int u_1.2.2.1, .int f_s_brings, .int u_1.2.2.2.1, .int u_1.2.2.2.2.1, .int f_s_foul])), (a_sT, .inr (10, [.ref a_sTc, .ref a_sTk, .ref a_sTw, .long u_1.2.2.2.2.2.1, .int f_sT_size, .int f_sT_spot])), (a_sTc, .inl (xI X, 7, .inl u_1.2.2.2.2.2.2)), (a_sTk, .inl (xI X, 7, .inl v_sTk)), (a_sTw, .inl (xI X, 7, .inl v_sTw)), (a_kb, .inl (xB X, 5, .inr (.inr (.inr (.inr (fun j => some (a_b j))))))), ((a_b 0), .inr (1, [])), ((a_b 1), .inr (5, [])), ((a_b 2), .inr (6, [])), ((a_b 3), .inr (2, [])), ((a_b 4), .inr (8, []))] hB (c_X9_isWhitePotted X l a_s a_sT a_kb u_1.1 u_1.2.1 u_1.2.2.1 f_s_brings u_1.2.2.2.1 u_1.2.2.2.2.1 f_s_foul u_29 hu_29) wq_3_86 wq_1_11 wq_3_83 wq_3_85 wp_12 hd_X9_isWhitePotted (by decide) hP hD hS hl.1 [0] [1, 2, 3, 4, 5, 6, 7, 8, 9, 10] [(a_sT, .inr (10, [.ref a_sTc, .ref a_sTk, .ref a_sTw, .long u_1.2.2.2.2.2.1, .int f_sT_size, .int f_sT_spot])), (a_sTc, .inl (xI X, 7, .inl u_1.2.2.2.2.2.2)), (a_sTk, .inl (xI X, 7, .inl v_sTk)), (a_sTw, .inl (xI X, 7, .inl v_sTw)), (a_kb, .inl (xB X, 5, .inr (.inr (.inr (.inr (fun j => some (a_b j))))))), ((a_b 0), .inr (1, [])), ((a_b 1), .inr (5, [])), ((a_b 2), .inr (6, [])), ((a_b 3), .inr (2, [])), ((a_b 4), .inr (8, []))] rfl (by decide +kernel) rfl rfl rfl (nn := 11) rfl (by decide +kernel) [a_s, a_sT, a_sTc, a_sTk, a_sTw, a_kb, (a_b 0), (a_b 1), (a_b 2), (a_b 3), (a_b 4)] rfl rfl (q0 := 0) rfl rfl rfl rfl (Nat.le_of_ble_eq_true rfl) dX9_shoot_57 ⟨Nat.zero_le _, Nat.zero_le _⟩ (fun H locs hP hD hS => ?_)
        refine lv_if_ne (tgt := 95) hx hb dX9_shoot_60 (by decide) (fun c_30 => ?_) (fun c_30 => ?_)
        · replace h := it_n c_30 h
          exact J95_11 u_1.1 u_1.2.1 u_1.2.2.1 u_1.2.2.2.1 u_1.2.2.2.2.1 u_1.2.2.2.2.2.1 u_1.2.2.2.2.2.2 h _ _ _ hP hD hS (lv_sub hl [1, 0] rfl)
        · replace h := it_p c_30 h
          refine lv_aload_n hx hb dX9_shoot_63 rfl (lv_at hl 1 rfl) ?_
          refine lv_iconst (v := 0) hx hb dX9_shoot_64 (by decide) ?_
          refine lv_iload_n hx hb dX9_shoot_65 rfl (lv_at hl 2 rfl) ?_
          refine lv_iconst (v := 1) hx hb dX9_shoot_66 (by decide) ?_
          obtain ⟨j86_33, ej86_33, h⟩ := jn_s h
          have J86_33 : ∀ (k_31 : Int32) (k_32 : Int32), j86_33 k_31 k_32 = some res → ∀ (H : Heap) (locs : List Loc) (ls : Array Slot), va_P (xD X) vwCl [(a_s, .inr (9, [.ref a_sT, .ref a_kb, .int u_1.1, .int u_1.2.1, .int u_1.2.2.1, .int f_s_brings, .int u_1.2.2.2.1, .int u_1.2.2.2.2.1, .int f_s_foul])), (a_sT, .inr (10, [.ref a_sTc, .ref a_sTk, .ref a_sTw, .long u_1.2.2.2.2.2.1, .int f_sT_size, .int f_sT_spot])), (a_sTc, .inl (xI X, 7, .inl u_1.2.2.2.2.2.2)), (a_sTk, .inl (xI X, 7, .inl v_sTk)), (a_sTw, .inl (xI X, 7, .inl v_sTw)), (a_kb, .inl (xB X, 5, .inr (.inr (.inr (.inr (fun j => some (a_b j))))))), ((a_b 0), .inr (1, [])), ((a_b 1), .inr (5, [])), ((a_b 2), .inr (6, [])), ((a_b 3), .inr (2, [])), ((a_b 4), .inr (8, []))] H → va_D A [(a_s, .inr (9, [.ref a_sT, .ref a_kb, .int u_1.1, .int u_1.2.1, .int u_1.2.2.1, .int f_s_brings, .int u_1.2.2.2.1, .int u_1.2.2.2.2.1, .int f_s_foul])), (a_sT, .inr (10, [.ref a_sTc, .ref a_sTk, .ref a_sTw, .long u_1.2.2.2.2.2.1, .int f_sT_size, .int f_sT_spot])), (a_sTc, .inl (xI X, 7, .inl u_1.2.2.2.2.2.2)), (a_sTk, .inl (xI X, 7, .inl v_sTk)), (a_sTw, .inl (xI X, 7, .inl v_sTw)), (a_kb, .inl (xB X, 5, .inr (.inr (.inr (.inr (fun j => some (a_b j))))))), ((a_b 0), .inr (1, [])), ((a_b 1), .inr (5, [])), ((a_b 2), .inr (6, [])), ((a_b 3), .inr (2, [])), ((a_b 4), .inr (8, []))] → va_S A s.heap H locs → lv_has ls 5 [(0, .ref a_s), (4, .int k_2)] → W p l e (rmF 2 54) s m args below meth c H locs 0 0 Q (F0 m 86 ls [.int k_32, .int k_31, .ref a_s]) := by
            clear h
            intro k_31 k_32 h H locs ls hP hD hS hl
            rw [ej86_33] at h
            replace h := id h
            refine lv_aload_n hx hb dX9_shoot_86 rfl (lv_at hl 0 rfl) ?_
            refine va_get (D := xD X) (ci := 9) (v := .int u_1.2.2.2.2.1) (C := RX9) (T := TX9) (N := 9) hx hb hts inX9 hown hK hP 0 rfl rfl 7 (by decide) (hts _ wq_1_181) (fun _ h9 => h9) rfl dX9_shoot_87 ?_
            refine lv_iconst (v := 2) hx hb dX9_shoot_90 (by decide) ?_
            refine lv_idiv hx hb dX9_shoot_91 (by decide) ?_
            obtain ⟨u_34, hu_34, h⟩ := ob_s h
            refine cVv (C := RX9) (As := [.int k_31, .int k_32, .int (u_1.2.2.2.2.1 / 2)]) (rest := []) [(a_s, .inr (9, [.ref a_sT, .ref a_kb, .int u_34.1, .int u_34.2.1, .int u_34.2.2.1, .int f_s_brings, .int u_34.2.2.2.1, .int u_34.2.2.2.2.1, .int f_s_foul])), (a_sT, .inr (10, [.ref a_sTc, .ref a_sTk, .ref a_sTw, .long u_34.2.2.2.2.2.1, .int f_sT_size, .int f_sT_spot])), (a_sTc, .inl (xI X, 7, .inl u_34.2.2.2.2.2.2)), (a_sTk, .inl (xI X, 7, .inl v_sTk)), (a_sTw, .inl (xI X, 7, .inl v_sTw)), (a_kb, .inl (xB X, 5, .inr (.inr (.inr (.inr (fun j => some (a_b j))))))), ((a_b 0), .inr (1, [])), ((a_b 1), .inr (5, [])), ((a_b 2), .inr (6, [])), ((a_b 3), .inr (2, [])), ((a_b 4), .inr (8, []))] hB (c_X9_roll X l n a_s a_sT a_sTc a_sTk a_sTw a_kb a_b u_1.1 u_1.2.1 u_1.2.2.1 f_s_brings u_1.2.2.2.1 u_1.2.2.2.2.1 f_s_foul u_1.2.2.2.2.2.1 f_sT_size f_sT_spot u_1.2.2.2.2.2.2 v_sTk k_31 k_32 (u_1.2.2.2.2.1 / 2) u_34 hu_34) wq_3_21 wq_1_11 wq_3_18 wq_3_20 wp_8 hd_X9_roll (by decide) hP hD hS hl.1 [0, 1, 2, 3, 5, 6, 7, 8, 9, 10] [4] [(a_sTw, .inl (xI X, 7, .inl v_sTw))] rfl (by decide +kernel) rfl rfl rfl (nn := 11) rfl (by decide +kernel) [a_s, a_sT, a_sTc, a_sTk, a_sTw, a_kb, (a_b 0), (a_b 1), (a_b 2), (a_b 3), (a_b 4)] rfl rfl (q0 := 0) rfl rfl rfl rfl (Nat.le_of_ble_eq_true rfl) dX9_shoot_92 ⟨Nat.zero_le _, Nat.zero_le _⟩ (fun H locs hP hD hS => ?_)
            exact J95_11 u_34.1 u_34.2.1 u_34.2.2.1 u_34.2.2.2.1 u_34.2.2.2.2.1 u_34.2.2.2.2.2.1 u_34.2.2.2.2.2.2 h _ _ _ hP hD hS (lv_sub hl [0, 1] rfl)
          clear ej86_33
          refine lv_icmp_ne (tgt := 77) hx hb dX9_shoot_67 (by decide) (fun c_35 => ?_) (fun c_35 => ?_)
          · replace h := it_n c_35 h
            refine lv_aload_n hx hb dX9_shoot_77 rfl (lv_at hl 1 rfl) ?_
            refine va_get (D := xD X) (ci := 9) (v := .int u_1.2.2.2.1) (C := RX9) (T := TX9) (N := 9) hx hb hts inX9 hown hK hP 0 rfl rfl 6 (by decide) (hts _ wq_1_180) (fun _ h9 => h9) rfl dX9_shoot_78 ?_
            refine lv_iconst (v := 4) hx hb dX9_shoot_81 (by decide) ?_
            refine lv_iadd hx hb dX9_shoot_82 ?_
            refine lv_bipush (v := 7) hx hb dX9_shoot_83 (by decide) ?_
            refine lv_iand hx hb dX9_shoot_85 ?_
            exact J86_33 0 ((u_1.2.2.2.1 + 4) &&& 7) h _ _ _ hP hD hS (lv_sub hl [1, 0] rfl)
          · replace h := it_p c_35 h
            refine lv_aload_n hx hb dX9_shoot_70 rfl (lv_at hl 1 rfl) ?_
            refine va_get (D := xD X) (ci := 9) (v := .int u_1.2.2.2.1) (C := RX9) (T := TX9) (N := 9) hx hb hts inX9 hown hK hP 0 rfl rfl 6 (by decide) (hts _ wq_1_180) (fun _ h9 => h9) rfl dX9_shoot_71 ?_
            refine lv_goto (tgt := 86) hx hb dX9_shoot_74 (by decide) ?_
            exact J86_33 0 u_1.2.2.2.1 h _ _ _ hP hD hS (lv_sub hl [1, 0] rfl)
  clear ej45_3
  refine lv_icmp_ne (tgt := 44) hx hb dX9_shoot_37 (by decide) (fun c_36 => ?_) (fun c_36 => ?_)
  · replace h := it_n c_36 h
    refine lv_iconst (v := 0) hx hb dX9_shoot_44 (by decide) ?_
    exact J45_3 0 h _ _ _ hP hD hS (lv_sub hl [0, 3] rfl)
  · replace h := it_p c_36 h
    refine lv_iconst (v := 1) hx hb dX9_shoot_40 (by decide) ?_
    refine lv_goto (tgt := 45) hx hb dX9_shoot_41 (by decide) ?_
    exact J45_3 1 h _ _ _ hP hD hS (lv_sub hl [0, 3] rfl)


def f_X9_tell (f_s_moves : Int32) (f_s_bounces : Int32) (f_s_potted : Int32) (f_s_brings : Int32) (f_s_foul : Int32) (v_sTc : Nat → Int32) (p1 : Int32) : Option (Int32) :=
  (if p1 = 0 then (some (f_s_brings + 100)) else (if p1 = 1 then ((f_X10_cellOf v_sTc 0).bind (fun u_3 => (some u_3))) else (if p1 = 2 then (some f_s_potted) else (if p1 = 3 then (if f_s_foul = 0 then (some 0) else (some 1)) else (if p1 = 4 then (some f_s_moves) else (if p1 = 5 then (some f_s_bounces) else ((f_X10_cellOf v_sTc (p1 - 9)).bind (fun u_9 => (some u_9)))))))))
theorem hd_X9_tell : yX9_tell.cls ≠ "java/lang/invoke/MethodHandle" ∧ yX9_tell.cls ≠ "java/lang/invoke/VarHandle" ∧ (parseMethodDescriptor yX9_tell.desc).map (fun d => d.parameters.length) = some 1 := ⟨by decide +kernel, by decide +kernel, by decide +kernel⟩
set_option maxHeartbeats 4000000 in
set_option maxRecDepth 100000 in
theorem c_X9_tell (X : CXp) (l : Launch) (a_s a_sT a_sTc a_sTk a_sTw a_kb : Nat) (f_s_moves : Int32) (f_s_bounces : Int32) (f_s_potted : Int32) (f_s_brings : Int32) (f_s_firstHitDirection : Int32) (f_s_firstHitPower : Int32) (f_s_foul : Int32) (f_sT_taken : Int64) (f_sT_size : Int32) (f_sT_spot : Int32) (v_sTc : Nat → Int32) (p1 : Int32) (res : Int32) (h : f_X9_tell f_s_moves f_s_bounces f_s_potted f_s_brings f_s_foul v_sTc p1 = some res) : CTg X l yX9_tell cX9_tell 2 (some .int) 1 21 [.ref a_s, .int p1] [(a_s, .inr (9, [.ref a_sT, .ref a_kb, .int f_s_moves, .int f_s_bounces, .int f_s_potted, .int f_s_brings, .int f_s_firstHitDirection, .int f_s_firstHitPower, .int f_s_foul])), (a_sT, .inr (10, [.ref a_sTc, .ref a_sTk, .ref a_sTw, .long f_sT_taken, .int f_sT_size, .int f_sT_spot])), (a_sTc, .inl (xI X, 7, .inl v_sTc))] (QcI X res [(a_s, .inr (9, [.ref a_sT, .ref a_kb, .int f_s_moves, .int f_s_bounces, .int f_s_potted, .int f_s_brings, .int f_s_firstHitDirection, .int f_s_firstHitPower, .int f_s_foul])), (a_sT, .inr (10, [.ref a_sTc, .ref a_sTk, .ref a_sTw, .long f_sT_taken, .int f_sT_size, .int f_sT_spot])), (a_sTc, .inl (xI X, 7, .inl v_sTc))]) := by
  refine CTg.mk (own := RX9) (by decide) rfl (Nat.le_of_ble_eq_true rfl) ?_
  intro p e s m args below meth c A hB hP hD hS ls hl
  obtain ⟨hx, hb, hr, hml, hown, hts, hlocks, hcx, hA, hAB⟩ := id hB
  have hK := hcx.1
  generalize hQ : MQ below (QcI X res [(a_s, .inr (9, [.ref a_sT, .ref a_kb, .int f_s_moves, .int f_s_bounces, .int f_s_potted, .int f_s_brings, .int f_s_firstHitDirection, .int f_s_firstHitPower, .int f_s_foul])), (a_sT, .inr (10, [.ref a_sTc, .ref a_sTk, .ref a_sTw, .long f_sT_taken, .int f_sT_size, .int f_sT_spot])), (a_sTc, .inl (xI X, 7, .inl v_sTc))] A) args s 0 0 A = Q
  replace hl : lv_has ls 2 [(0, .ref a_s), (1, .int p1)] := hl
  unfold f_X9_tell at h
  refine lv_iload_n hx hb dX9_tell_0 rfl (lv_at hl 1 rfl) ?_
  by_cases c_1 : p1 = 0
  · replace h := it_p c_1 h
    refine lv_tableIn (off := 39) (tgt := 40) hx hb dX9_tell_1 (by rw [c_1]; decide) (by rw [c_1]; decide) (by rw [c_1]; decide) (by decide) ?_
    refine lv_aload_n hx hb dX9_tell_40 rfl (lv_at hl 0 rfl) ?_
    refine va_get (D := xD X) (ci := 9) (v := .int f_s_brings) (C := RX9) (T := TX9) (N := 9) hx hb hts inX9 hown hK hP 0 rfl rfl 5 (by decide) (hts _ wq_1_177) (fun _ h9 => h9) rfl dX9_tell_41 ?_
    refine lv_bipush (v := 100) hx hb dX9_tell_44 (by decide) ?_
    refine lv_iadd hx hb dX9_tell_46 ?_
    obtain rfl := Option.some.inj h
    rw [← hQ]
    exact retI hB hS hP dX9_tell_47
  replace h := it_n c_1 h
  by_cases c_2 : p1 = 1
  · replace h := it_p c_2 h
    refine lv_tableIn (off := 47) (tgt := 48) hx hb dX9_tell_1 (by rw [c_2]; decide) (by rw [c_2]; decide) (by rw [c_2]; decide) (by decide) ?_
    refine lv_aload_n hx hb dX9_tell_48 rfl (lv_at hl 0 rfl) ?_
    refine va_get (D := xD X) (ci := 9) (v := .ref a_sT) (C := RX9) (T := TX9) (N := 9) hx hb hts inX9 hown hK hP 0 rfl rfl 0 (by decide) (hts _ wq_1_167) (fun _ h9 => h9) rfl dX9_tell_49 ?_
    refine lv_iconst (v := 0) hx hb dX9_tell_52 (by decide) ?_
    obtain ⟨u_3, hu_3, h⟩ := ob_s h
    refine cVi (C := RX10) (As := [.int 0]) (rest := []) [(a_s, .inr (9, [.ref a_sT, .ref a_kb, .int f_s_moves, .int f_s_bounces, .int f_s_potted, .int f_s_brings, .int f_s_firstHitDirection, .int f_s_firstHitPower, .int f_s_foul])), (a_sT, .inr (10, [.ref a_sTc, .ref a_sTk, .ref a_sTw, .long f_sT_taken, .int f_sT_size, .int f_sT_spot])), (a_sTc, .inl (xI X, 7, .inl v_sTc))] hB (c_X10_cellOf X l a_sT a_sTc a_sTk a_sTw f_sT_taken f_sT_size f_sT_spot v_sTc 0 u_3 hu_3) wq_2_233 wq_1_9 wq_3_22 wq_2_231 wq_2_232 hd_X10_cellOf (by decide) hP hD hS hl.1 [1, 2] [0] [(a_s, .inr (9, [.ref a_sT, .ref a_kb, .int f_s_moves, .int f_s_bounces, .int f_s_potted, .int f_s_brings, .int f_s_firstHitDirection, .int f_s_firstHitPower, .int f_s_foul]))] rfl (by decide +kernel) rfl rfl rfl (nn := 3) rfl (by decide +kernel) [a_s, a_sT, a_sTc] rfl rfl (q0 := 1) rfl rfl rfl rfl (Nat.le_of_ble_eq_true rfl) dX9_tell_53 ⟨Nat.zero_le _, Nat.zero_le _⟩ (fun H locs hP hD hS => ?_)
    obtain rfl := Option.some.inj h
    rw [← hQ]
    exact retI hB hS hP dX9_tell_56
  replace h := it_n c_2 h
  by_cases c_4 : p1 = 2
  · replace h := it_p c_4 h
    refine lv_tableIn (off := 56) (tgt := 57) hx hb dX9_tell_1 (by rw [c_4]; decide) (by rw [c_4]; decide) (by rw [c_4]; decide) (by decide) ?_
    refine lv_aload_n hx hb dX9_tell_57 rfl (lv_at hl 0 rfl) ?_
    refine va_get (D := xD X) (ci := 9) (v := .int f_s_potted) (C := RX9) (T := TX9) (N := 9) hx hb hts inX9 hown hK hP 0 rfl rfl 4 (by decide) (hts _ wq_1_175) (fun _ h9 => h9) rfl dX9_tell_58 ?_
    obtain rfl := Option.some.inj h
    rw [← hQ]
    exact retI hB hS hP dX9_tell_61
  replace h := it_n c_4 h
  by_cases c_5 : p1 = 3
  · replace h := it_p c_5 h
    refine lv_tableIn (off := 61) (tgt := 62) hx hb dX9_tell_1 (by rw [c_5]; decide) (by rw [c_5]; decide) (by rw [c_5]; decide) (by decide) ?_
    refine lv_aload_n hx hb dX9_tell_62 rfl (lv_at hl 0 rfl) ?_
    refine va_get (D := xD X) (ci := 9) (v := .int f_s_foul) (C := RX9) (T := TX9) (N := 9) hx hb hts inX9 hown hK hP 0 rfl rfl 8 (by decide) (hts _ wq_1_182) (fun _ h9 => h9) rfl dX9_tell_63 ?_
    refine lv_if_eq (tgt := 73) hx hb dX9_tell_66 (by decide) (fun c_6 => ?_) (fun c_6 => ?_)
    · replace h := it_p c_6 h
      refine lv_iconst (v := 0) hx hb dX9_tell_73 (by decide) ?_
      obtain rfl := Option.some.inj h
      rw [← hQ]
      exact retI hB hS hP dX9_tell_74
    · replace h := it_n c_6 h
      refine lv_iconst (v := 1) hx hb dX9_tell_69 (by decide) ?_
      refine lv_goto (tgt := 74) hx hb dX9_tell_70 (by decide) ?_
      obtain rfl := Option.some.inj h
      rw [← hQ]
      exact retI hB hS hP dX9_tell_74
  replace h := it_n c_5 h
  by_cases c_7 : p1 = 4
  · replace h := it_p c_7 h
    refine lv_tableIn (off := 74) (tgt := 75) hx hb dX9_tell_1 (by rw [c_7]; decide) (by rw [c_7]; decide) (by rw [c_7]; decide) (by decide) ?_
    refine lv_aload_n hx hb dX9_tell_75 rfl (lv_at hl 0 rfl) ?_
    refine va_get (D := xD X) (ci := 9) (v := .int f_s_moves) (C := RX9) (T := TX9) (N := 9) hx hb hts inX9 hown hK hP 0 rfl rfl 2 (by decide) (hts _ wq_1_173) (fun _ h9 => h9) rfl dX9_tell_76 ?_
    obtain rfl := Option.some.inj h
    rw [← hQ]
    exact retI hB hS hP dX9_tell_79
  replace h := it_n c_7 h
  by_cases c_8 : p1 = 5
  · replace h := it_p c_8 h
    refine lv_tableIn (off := 79) (tgt := 80) hx hb dX9_tell_1 (by rw [c_8]; decide) (by rw [c_8]; decide) (by rw [c_8]; decide) (by decide) ?_
    refine lv_aload_n hx hb dX9_tell_80 rfl (lv_at hl 0 rfl) ?_
    refine va_get (D := xD X) (ci := 9) (v := .int f_s_bounces) (C := RX9) (T := TX9) (N := 9) hx hb hts inX9 hown hK hP 0 rfl rfl 3 (by decide) (hts _ wq_1_174) (fun _ h9 => h9) rfl dX9_tell_81 ?_
    obtain rfl := Option.some.inj h
    rw [← hQ]
    exact retI hB hS hP dX9_tell_84
  replace h := it_n c_8 h
  refine lv_tableOut (tgt := 85) hx hb dX9_tell_1 (tsw_0_6 c_1 c_2 c_4 c_5 c_7 c_8) (by decide) ?_
  refine lv_aload_n hx hb dX9_tell_85 rfl (lv_at hl 0 rfl) ?_
  refine va_get (D := xD X) (ci := 9) (v := .ref a_sT) (C := RX9) (T := TX9) (N := 9) hx hb hts inX9 hown hK hP 0 rfl rfl 0 (by decide) (hts _ wq_1_167) (fun _ h9 => h9) rfl dX9_tell_86 ?_
  refine lv_iload_n hx hb dX9_tell_89 rfl (lv_at hl 1 rfl) ?_
  refine lv_bipush (v := 9) hx hb dX9_tell_90 (by decide) ?_
  refine lv_isub hx hb dX9_tell_92 ?_
  obtain ⟨u_9, hu_9, h⟩ := ob_s h
  refine cVi (C := RX10) (As := [.int (p1 - 9)]) (rest := []) [(a_s, .inr (9, [.ref a_sT, .ref a_kb, .int f_s_moves, .int f_s_bounces, .int f_s_potted, .int f_s_brings, .int f_s_firstHitDirection, .int f_s_firstHitPower, .int f_s_foul])), (a_sT, .inr (10, [.ref a_sTc, .ref a_sTk, .ref a_sTw, .long f_sT_taken, .int f_sT_size, .int f_sT_spot])), (a_sTc, .inl (xI X, 7, .inl v_sTc))] hB (c_X10_cellOf X l a_sT a_sTc a_sTk a_sTw f_sT_taken f_sT_size f_sT_spot v_sTc (p1 - 9) u_9 hu_9) wq_2_233 wq_1_9 wq_3_22 wq_2_231 wq_2_232 hd_X10_cellOf (by decide) hP hD hS hl.1 [1, 2] [0] [(a_s, .inr (9, [.ref a_sT, .ref a_kb, .int f_s_moves, .int f_s_bounces, .int f_s_potted, .int f_s_brings, .int f_s_firstHitDirection, .int f_s_firstHitPower, .int f_s_foul]))] rfl (by decide +kernel) rfl rfl rfl (nn := 3) rfl (by decide +kernel) [a_s, a_sT, a_sTc] rfl rfl (q0 := 1) rfl rfl rfl rfl (Nat.le_of_ble_eq_true rfl) dX9_tell_93 ⟨Nat.zero_le _, Nat.zero_le _⟩ (fun H locs hP hD hS => ?_)
  obtain rfl := Option.some.inj h
  rw [← hQ]
  exact retI hB hS hP dX9_tell_96


def f_X9_hasPotted (f_s_potted : Int32) (p1 : Int32) : Option (Int32) :=
  (if ((f_s_potted >>> (p1 &&& 31)) &&& 1) = 0 then (some 0) else (some 1))
theorem hd_X9_hasPotted : yX9_hasPotted.cls ≠ "java/lang/invoke/MethodHandle" ∧ yX9_hasPotted.cls ≠ "java/lang/invoke/VarHandle" ∧ (parseMethodDescriptor yX9_hasPotted.desc).map (fun d => d.parameters.length) = some 1 := ⟨by decide +kernel, by decide +kernel, by decide +kernel⟩
set_option maxHeartbeats 4000000 in
set_option maxRecDepth 100000 in
theorem c_X9_hasPotted (X : CXp) (l : Launch) (a_s a_sT a_kb : Nat) (f_s_moves : Int32) (f_s_bounces : Int32) (f_s_potted : Int32) (f_s_brings : Int32) (f_s_firstHitDirection : Int32) (f_s_firstHitPower : Int32) (f_s_foul : Int32) (p1 : Int32) (res : Int32) (h : f_X9_hasPotted f_s_potted p1 = some res) : CTg X l yX9_hasPotted cX9_hasPotted 2 (some .boolean) 0 0 [.ref a_s, .int p1] [(a_s, .inr (9, [.ref a_sT, .ref a_kb, .int f_s_moves, .int f_s_bounces, .int f_s_potted, .int f_s_brings, .int f_s_firstHitDirection, .int f_s_firstHitPower, .int f_s_foul]))] (QcI X res [(a_s, .inr (9, [.ref a_sT, .ref a_kb, .int f_s_moves, .int f_s_bounces, .int f_s_potted, .int f_s_brings, .int f_s_firstHitDirection, .int f_s_firstHitPower, .int f_s_foul]))]) := by
  refine CTg.mk (own := RX9) (by decide) rfl (Nat.le_of_ble_eq_true rfl) ?_
  intro p e s m args below meth c A hB hP hD hS ls hl
  obtain ⟨hx, hb, hr, hml, hown, hts, hlocks, hcx, hA, hAB⟩ := id hB
  have hK := hcx.1
  generalize hQ : MQ below (QcI X res [(a_s, .inr (9, [.ref a_sT, .ref a_kb, .int f_s_moves, .int f_s_bounces, .int f_s_potted, .int f_s_brings, .int f_s_firstHitDirection, .int f_s_firstHitPower, .int f_s_foul]))] A) args s 0 0 A = Q
  replace hl : lv_has ls 2 [(0, .ref a_s), (1, .int p1)] := hl
  unfold f_X9_hasPotted at h
  refine lv_aload_n hx hb dX9_hasPotted_0 rfl (lv_at hl 0 rfl) ?_
  refine va_get (D := xD X) (ci := 9) (v := .int f_s_potted) (C := RX9) (T := TX9) (N := 9) hx hb hts inX9 hown hK hP 0 rfl rfl 4 (by decide) (hts _ wq_1_175) (fun _ h9 => h9) rfl dX9_hasPotted_1 ?_
  refine lv_iload_n hx hb dX9_hasPotted_4 rfl (lv_at hl 1 rfl) ?_
  refine lv_ishr hx hb dX9_hasPotted_5 ?_
  refine lv_iconst (v := 1) hx hb dX9_hasPotted_6 (by decide) ?_
  refine lv_iand hx hb dX9_hasPotted_7 ?_
  refine lv_if_eq (tgt := 15) hx hb dX9_hasPotted_8 (by decide) (fun c_1 => ?_) (fun c_1 => ?_)
  · replace h := it_p c_1 h
    refine lv_iconst (v := 0) hx hb dX9_hasPotted_15 (by decide) ?_
    obtain rfl := Option.some.inj h
    rw [← hQ]
    exact retZ (r := 0) hB rfl hS hP dX9_hasPotted_16
  · replace h := it_n c_1 h
    refine lv_iconst (v := 1) hx hb dX9_hasPotted_11 (by decide) ?_
    refine lv_goto (tgt := 16) hx hb dX9_hasPotted_12 (by decide) ?_
    obtain rfl := Option.some.inj h
    rw [← hQ]
    exact retZ (r := 1) hB rfl hS hP dX9_hasPotted_16

