def f_X12_lacks (f_m_balls : Int32) : Option (Int32) :=
  (if f_m_balls = 0 then (some 1) else (some 0))
theorem hd_X12_lacks : yX12_lacks.cls ≠ "java/lang/invoke/MethodHandle" ∧ yX12_lacks.cls ≠ "java/lang/invoke/VarHandle" ∧ (parseMethodDescriptor yX12_lacks.desc).map (fun d => d.parameters.length) = some 0 := ⟨by decide +kernel, by decide +kernel, by decide +kernel⟩
set_option maxHeartbeats 4000000 in
set_option maxRecDepth 100000 in
theorem c_X12_lacks (X : CXp) (l : Launch) (a_m a_mP a_mk a_mw a_mc a_mo a_mt a_ms a_mb a_mK a_mC a_mS : Nat) (f_m_pageMany : Int32) (f_m_balls : Int32) (f_m_spot : Int32) (f_m_score : Int32) (f_m_strokesNow : Int32) (f_m_fouls : Int32) (f_m_tablesRead : Int32) (f_m_potted : Int32) (f_m_moves : Int32) (f_m_bounces : Int32) (f_m_hitFirst : Int32) (f_m_hitPower : Int32) (f_m_hitDown : Int32) (f_m_hitRight : Int32) (f_m_isFoul : Int32) (f_m_bestCode : Int32) (f_m_bestBrings : Int32) (f_m_plansDone : Int32) (f_m_safesDone : Int32) (f_m_seenMany : Int32) (f_m_seedNow : Int32) (f_m_keptTable : Int32) (f_m_keptScore : Int32) (f_m_keptStrokes : Int32) (f_m_keptFouls : Int32) (f_m_keptSeen : Int32) (f_m_hash : Int64) (res : Int32) (h : f_X12_lacks f_m_balls = some res) : CTg X l yX12_lacks cX12_lacks 1 (some .boolean) 0 0 [.ref a_m] [(a_m, .inr (12, (.ref a_mP :: .int f_m_pageMany :: .int f_m_balls :: .int f_m_spot :: .int f_m_score :: .int f_m_strokesNow :: .int f_m_fouls :: .int f_m_tablesRead :: .ref a_mk :: .ref a_mw :: .ref a_mc :: .int f_m_potted :: .int f_m_moves :: .int f_m_bounces :: .int f_m_hitFirst :: .int f_m_hitPower :: .int f_m_hitDown :: .int f_m_hitRight :: .int f_m_isFoul :: .ref a_mo :: .ref a_mt :: .int f_m_bestCode :: .int f_m_bestBrings :: .int f_m_plansDone :: .int f_m_safesDone :: .int f_m_seenMany :: .ref a_ms :: .ref a_mb :: .int f_m_seedNow :: .int f_m_keptTable :: .int f_m_keptScore :: .int f_m_keptStrokes :: .int f_m_keptFouls :: .int f_m_keptSeen :: .ref a_mK :: .ref a_mC :: .ref a_mS :: .long f_m_hash :: [])))] (QcI X res [(a_m, .inr (12, (.ref a_mP :: .int f_m_pageMany :: .int f_m_balls :: .int f_m_spot :: .int f_m_score :: .int f_m_strokesNow :: .int f_m_fouls :: .int f_m_tablesRead :: .ref a_mk :: .ref a_mw :: .ref a_mc :: .int f_m_potted :: .int f_m_moves :: .int f_m_bounces :: .int f_m_hitFirst :: .int f_m_hitPower :: .int f_m_hitDown :: .int f_m_hitRight :: .int f_m_isFoul :: .ref a_mo :: .ref a_mt :: .int f_m_bestCode :: .int f_m_bestBrings :: .int f_m_plansDone :: .int f_m_safesDone :: .int f_m_seenMany :: .ref a_ms :: .ref a_mb :: .int f_m_seedNow :: .int f_m_keptTable :: .int f_m_keptScore :: .int f_m_keptStrokes :: .int f_m_keptFouls :: .int f_m_keptSeen :: .ref a_mK :: .ref a_mC :: .ref a_mS :: .long f_m_hash :: [])))]) := by
  refine CTg.mk (own := RX12) (by decide) rfl (Nat.le_of_ble_eq_true rfl) ?_
  intro p e s m args below meth c A hB hP hD hS ls hl
  obtain ⟨hx, hb, hr, hml, hown, hts, hlocks, hcx, hA, hAB⟩ := id hB
  have hK := hcx.1
  generalize hQ : MQ below (QcI X res [(a_m, .inr (12, (.ref a_mP :: .int f_m_pageMany :: .int f_m_balls :: .int f_m_spot :: .int f_m_score :: .int f_m_strokesNow :: .int f_m_fouls :: .int f_m_tablesRead :: .ref a_mk :: .ref a_mw :: .ref a_mc :: .int f_m_potted :: .int f_m_moves :: .int f_m_bounces :: .int f_m_hitFirst :: .int f_m_hitPower :: .int f_m_hitDown :: .int f_m_hitRight :: .int f_m_isFoul :: .ref a_mo :: .ref a_mt :: .int f_m_bestCode :: .int f_m_bestBrings :: .int f_m_plansDone :: .int f_m_safesDone :: .int f_m_seenMany :: .ref a_ms :: .ref a_mb :: .int f_m_seedNow :: .int f_m_keptTable :: .int f_m_keptScore :: .int f_m_keptStrokes :: .int f_m_keptFouls :: .int f_m_keptSeen :: .ref a_mK :: .ref a_mC :: .ref a_mS :: .long f_m_hash :: [])))] A) args s 0 0 A = Q
  replace hl : lv_has ls 1 [(0, .ref a_m)] := hl
  unfold f_X12_lacks at h
  refine lv_aload_n hx hb dX12_lacks_0 rfl (lv_at hl 0 rfl) ?_
  refine va_get (D := xD X) (ci := 12) (v := .int f_m_balls) (C := RX12) (T := TX12) (N := 38) hx hb hts inX12 hown hK hP 0 rfl rfl 2 (by decide) (hts _ wq_4_109) (fun _ h9 => h9) rfl dX12_lacks_1 ?_
  refine lv_if_ne (tgt := 11) hx hb dX12_lacks_4 (by decide) (fun c_1 => ?_) (fun c_1 => ?_)
  · replace h := it_n c_1 h
    refine lv_iconst (v := 0) hx hb dX12_lacks_11 (by decide) ?_
    obtain rfl := Option.some.inj h
    rw [← hQ]
    exact retZ (r := 0) hB rfl hS hP dX12_lacks_12
  · replace h := it_p c_1 h
    refine lv_iconst (v := 1) hx hb dX12_lacks_7 (by decide) ?_
    refine lv_goto (tgt := 12) hx hb dX12_lacks_8 (by decide) ?_
    obtain rfl := Option.some.inj h
    rw [← hQ]
    exact retZ (r := 1) hB rfl hS hP dX12_lacks_12


def b_X12_liesIn_L5 (f_m_balls : Int32) (v_q1 : Nat → Int32) (p2 : Int32) (go_3 : Int32 → Int32 → Option (Int32)) (x3_1 : Int32) (x4_2 : Int32) : Option (Int32) :=
  (if f_m_balls < x4_2 then (some x3_1) else ((f_X12_lacks f_m_balls).bind (fun u_6 => (if u_6 = 0 then (gd (inb x4_2 7) (jn (fun (k_9 : Int32) => (bnd (x4_2 + 1) (fun x4_11 => (go_3 k_9 x4_11)))) (fun (j35_10 : Int32 → Option (Int32)) => (if (v_q1 x4_2.toNatClampNeg) = p2 then (j35_10 x4_2) else (j35_10 x3_1))))) else (some x3_1)))))
def f_X12_liesIn_L5 (f_m_balls : Int32) (v_q1 : Nat → Int32) (p2 : Int32) (k : Nat) (x3_1 : Int32) (x4_2 : Int32) : Option (Int32) :=
  lpF (fun (self : (Int32 × Int32) → Option (Int32)) (a : Int32 × Int32) => b_X12_liesIn_L5 f_m_balls v_q1 p2 (fun x3_1 x4_2 => self (x3_1, x4_2)) a.1 a.2) k (x3_1, x4_2)
def f_X12_liesIn (n : Nat) (f_m_balls : Int32) (v_q1 : Nat → Int32) (p2 : Int32) : Option (Int32) :=
  (f_X12_liesIn_L5 f_m_balls v_q1 p2 n (-1) 0)
theorem hd_X12_liesIn : yX12_liesIn.cls ≠ "java/lang/invoke/MethodHandle" ∧ yX12_liesIn.cls ≠ "java/lang/invoke/VarHandle" ∧ (parseMethodDescriptor yX12_liesIn.desc).map (fun d => d.parameters.length) = some 2 := ⟨by decide +kernel, by decide +kernel, by decide +kernel⟩
set_option maxHeartbeats 4000000 in
set_option maxRecDepth 100000 in
theorem c_X12_liesIn (X : CXp) (l : Launch) (n : Nat) (a_m a_mP a_mk a_mw a_mc a_mo a_mt a_ms a_mb a_mK a_mC a_mS a_q1 : Nat) (f_m_pageMany : Int32) (f_m_balls : Int32) (f_m_spot : Int32) (f_m_score : Int32) (f_m_strokesNow : Int32) (f_m_fouls : Int32) (f_m_tablesRead : Int32) (f_m_potted : Int32) (f_m_moves : Int32) (f_m_bounces : Int32) (f_m_hitFirst : Int32) (f_m_hitPower : Int32) (f_m_hitDown : Int32) (f_m_hitRight : Int32) (f_m_isFoul : Int32) (f_m_bestCode : Int32) (f_m_bestBrings : Int32) (f_m_plansDone : Int32) (f_m_safesDone : Int32) (f_m_seenMany : Int32) (f_m_seedNow : Int32) (f_m_keptTable : Int32) (f_m_keptScore : Int32) (f_m_keptStrokes : Int32) (f_m_keptFouls : Int32) (f_m_keptSeen : Int32) (f_m_hash : Int64) (v_q1 : Nat → Int32) (p2 : Int32) (res : Int32) (h : f_X12_liesIn n f_m_balls v_q1 p2 = some res) : CTg X l yX12_liesIn cX12_liesIn 5 (some .int) 1 20 [.ref a_m, .ref a_q1, .int p2] [(a_m, .inr (12, (.ref a_mP :: .int f_m_pageMany :: .int f_m_balls :: .int f_m_spot :: .int f_m_score :: .int f_m_strokesNow :: .int f_m_fouls :: .int f_m_tablesRead :: .ref a_mk :: .ref a_mw :: .ref a_mc :: .int f_m_potted :: .int f_m_moves :: .int f_m_bounces :: .int f_m_hitFirst :: .int f_m_hitPower :: .int f_m_hitDown :: .int f_m_hitRight :: .int f_m_isFoul :: .ref a_mo :: .ref a_mt :: .int f_m_bestCode :: .int f_m_bestBrings :: .int f_m_plansDone :: .int f_m_safesDone :: .int f_m_seenMany :: .ref a_ms :: .ref a_mb :: .int f_m_seedNow :: .int f_m_keptTable :: .int f_m_keptScore :: .int f_m_keptStrokes :: .int f_m_keptFouls :: .int f_m_keptSeen :: .ref a_mK :: .ref a_mC :: .ref a_mS :: .long f_m_hash :: []))), (a_q1, .inl (xI X, 7, .inl v_q1))] (QcI X res [(a_m, .inr (12, (.ref a_mP :: .int f_m_pageMany :: .int f_m_balls :: .int f_m_spot :: .int f_m_score :: .int f_m_strokesNow :: .int f_m_fouls :: .int f_m_tablesRead :: .ref a_mk :: .ref a_mw :: .ref a_mc :: .int f_m_potted :: .int f_m_moves :: .int f_m_bounces :: .int f_m_hitFirst :: .int f_m_hitPower :: .int f_m_hitDown :: .int f_m_hitRight :: .int f_m_isFoul :: .ref a_mo :: .ref a_mt :: .int f_m_bestCode :: .int f_m_bestBrings :: .int f_m_plansDone :: .int f_m_safesDone :: .int f_m_seenMany :: .ref a_ms :: .ref a_mb :: .int f_m_seedNow :: .int f_m_keptTable :: .int f_m_keptScore :: .int f_m_keptStrokes :: .int f_m_keptFouls :: .int f_m_keptSeen :: .ref a_mK :: .ref a_mC :: .ref a_mS :: .long f_m_hash :: []))), (a_q1, .inl (xI X, 7, .inl v_q1))]) := by
  refine CTg.mk (own := RX12) (by decide) rfl (Nat.le_of_ble_eq_true rfl) ?_
  intro p e s m args below meth c A hB hP hD hS ls hl
  obtain ⟨hx, hb, hr, hml, hown, hts, hlocks, hcx, hA, hAB⟩ := id hB
  have hK := hcx.1
  generalize hQ : MQ below (QcI X res [(a_m, .inr (12, (.ref a_mP :: .int f_m_pageMany :: .int f_m_balls :: .int f_m_spot :: .int f_m_score :: .int f_m_strokesNow :: .int f_m_fouls :: .int f_m_tablesRead :: .ref a_mk :: .ref a_mw :: .ref a_mc :: .int f_m_potted :: .int f_m_moves :: .int f_m_bounces :: .int f_m_hitFirst :: .int f_m_hitPower :: .int f_m_hitDown :: .int f_m_hitRight :: .int f_m_isFoul :: .ref a_mo :: .ref a_mt :: .int f_m_bestCode :: .int f_m_bestBrings :: .int f_m_plansDone :: .int f_m_safesDone :: .int f_m_seenMany :: .ref a_ms :: .ref a_mb :: .int f_m_seedNow :: .int f_m_keptTable :: .int f_m_keptScore :: .int f_m_keptStrokes :: .int f_m_keptFouls :: .int f_m_keptSeen :: .ref a_mK :: .ref a_mC :: .ref a_mS :: .long f_m_hash :: []))), (a_q1, .inl (xI X, 7, .inl v_q1))] A) args s 0 0 A = Q
  replace hl : lv_has ls 5 [(0, .ref a_m), (1, .ref a_q1), (2, .int p2)] := hl
  unfold f_X12_liesIn at h
  refine lv_iconst (v := (-1)) hx hb dX12_liesIn_0 (by decide) ?_
  refine lv_istore_n (lv' := [(3, .int (-1)), (0, .ref a_m), (1, .ref a_q1), (2, .int p2)]) hx hb dX12_liesIn_1 rfl hl (by decide) rfl (fun ls hl => ?_)
  refine lv_iconst (v := 0) hx hb dX12_liesIn_2 (by decide) ?_
  refine lv_istore (lv' := [(4, .int 0), (3, .int (-1)), (0, .ref a_m), (1, .ref a_q1), (2, .int p2)]) hx hb dX12_liesIn_3 hl (by decide) rfl (fun ls hl => ?_)
  have L5_go_3 : ∀ (k : Nat), ∀ (x3_1 : Int32) (x4_2 : Int32), f_X12_liesIn_L5 f_m_balls v_q1 p2 k x3_1 x4_2 = some res → ∀ (H : Heap) (locs : List Loc) (ls : Array Slot), va_P (xD X) vwCl [(a_m, .inr (12, (.ref a_mP :: .int f_m_pageMany :: .int f_m_balls :: .int f_m_spot :: .int f_m_score :: .int f_m_strokesNow :: .int f_m_fouls :: .int f_m_tablesRead :: .ref a_mk :: .ref a_mw :: .ref a_mc :: .int f_m_potted :: .int f_m_moves :: .int f_m_bounces :: .int f_m_hitFirst :: .int f_m_hitPower :: .int f_m_hitDown :: .int f_m_hitRight :: .int f_m_isFoul :: .ref a_mo :: .ref a_mt :: .int f_m_bestCode :: .int f_m_bestBrings :: .int f_m_plansDone :: .int f_m_safesDone :: .int f_m_seenMany :: .ref a_ms :: .ref a_mb :: .int f_m_seedNow :: .int f_m_keptTable :: .int f_m_keptScore :: .int f_m_keptStrokes :: .int f_m_keptFouls :: .int f_m_keptSeen :: .ref a_mK :: .ref a_mC :: .ref a_mS :: .long f_m_hash :: []))), (a_q1, .inl (xI X, 7, .inl v_q1))] H → va_D A [(a_m, .inr (12, (.ref a_mP :: .int f_m_pageMany :: .int f_m_balls :: .int f_m_spot :: .int f_m_score :: .int f_m_strokesNow :: .int f_m_fouls :: .int f_m_tablesRead :: .ref a_mk :: .ref a_mw :: .ref a_mc :: .int f_m_potted :: .int f_m_moves :: .int f_m_bounces :: .int f_m_hitFirst :: .int f_m_hitPower :: .int f_m_hitDown :: .int f_m_hitRight :: .int f_m_isFoul :: .ref a_mo :: .ref a_mt :: .int f_m_bestCode :: .int f_m_bestBrings :: .int f_m_plansDone :: .int f_m_safesDone :: .int f_m_seenMany :: .ref a_ms :: .ref a_mb :: .int f_m_seedNow :: .int f_m_keptTable :: .int f_m_keptScore :: .int f_m_keptStrokes :: .int f_m_keptFouls :: .int f_m_keptSeen :: .ref a_mK :: .ref a_mC :: .ref a_mS :: .long f_m_hash :: []))), (a_q1, .inl (xI X, 7, .inl v_q1))] → va_S A s.heap H locs → lv_has ls 5 [(0, .ref a_m), (1, .ref a_q1), (2, .int p2), (3, .int x3_1), (4, .int x4_2)] → W p l e (rmF 1 20) s m args below meth c H locs 0 0 Q (F0 m 5 ls []) := by
    clear h
    intro k
    induction k with
    | zero => intro x3_1 x4_2 h; cases h
    | succ k ih_4 =>
      intro x3_1 x4_2 h H locs ls hP hD hS hl
      replace h : b_X12_liesIn_L5 f_m_balls v_q1 p2 (fun x3_1 x4_2 => f_X12_liesIn_L5 f_m_balls v_q1 p2 k x3_1 x4_2) x3_1 x4_2 = some res := h
      unfold b_X12_liesIn_L5 at h
      refine lv_iload hx hb dX12_liesIn_5 (lv_at hl 4 rfl) ?_
      refine lv_aload_n hx hb dX12_liesIn_7 rfl (lv_at hl 0 rfl) ?_
      refine va_get (D := xD X) (ci := 12) (v := .int f_m_balls) (C := RX12) (T := TX12) (N := 38) hx hb hts inX12 hown hK hP 0 rfl rfl 2 (by decide) (hts _ wq_4_109) (fun _ h9 => h9) rfl dX12_liesIn_8 ?_
      refine lv_icmp_gt (tgt := 42) hx hb dX12_liesIn_11 (by decide) (fun c_5 => ?_) (fun c_5 => ?_)
      · replace h := it_p c_5 h
        refine lv_iload_n hx hb dX12_liesIn_42 rfl (lv_at hl 3 rfl) ?_
        obtain rfl := Option.some.inj h
        rw [← hQ]
        exact retI hB hS hP dX12_liesIn_43
      · replace h := it_n c_5 h
        refine lv_aload_n hx hb dX12_liesIn_14 rfl (lv_at hl 0 rfl) ?_
        obtain ⟨u_6, hu_6, h⟩ := ob_s h
        refine cVi (C := RX12) (As := []) (rest := []) [(a_m, .inr (12, (.ref a_mP :: .int f_m_pageMany :: .int f_m_balls :: .int f_m_spot :: .int f_m_score :: .int f_m_strokesNow :: .int f_m_fouls :: .int f_m_tablesRead :: .ref a_mk :: .ref a_mw :: .ref a_mc :: .int f_m_potted :: .int f_m_moves :: .int f_m_bounces :: .int f_m_hitFirst :: .int f_m_hitPower :: .int f_m_hitDown :: .int f_m_hitRight :: .int f_m_isFoul :: .ref a_mo :: .ref a_mt :: .int f_m_bestCode :: .int f_m_bestBrings :: .int f_m_plansDone :: .int f_m_safesDone :: .int f_m_seenMany :: .ref a_ms :: .ref a_mb :: .int f_m_seedNow :: .int f_m_keptTable :: .int f_m_keptScore :: .int f_m_keptStrokes :: .int f_m_keptFouls :: .int f_m_keptSeen :: .ref a_mK :: .ref a_mC :: .ref a_mS :: .long f_m_hash :: []))), (a_q1, .inl (xI X, 7, .inl v_q1))] hB (c_X12_lacks X l a_m a_mP a_mk a_mw a_mc a_mo a_mt a_ms a_mb a_mK a_mC a_mS f_m_pageMany f_m_balls f_m_spot f_m_score f_m_strokesNow f_m_fouls f_m_tablesRead f_m_potted f_m_moves f_m_bounces f_m_hitFirst f_m_hitPower f_m_hitDown f_m_hitRight f_m_isFoul f_m_bestCode f_m_bestBrings f_m_plansDone f_m_safesDone f_m_seenMany f_m_seedNow f_m_keptTable f_m_keptScore f_m_keptStrokes f_m_keptFouls f_m_keptSeen f_m_hash u_6 hu_6) wq_5_44 wq_1_14 wq_5_41 wq_5_43 wp_31 hd_X12_lacks (by decide) hP hD hS hl.1 [0] [1] [(a_q1, .inl (xI X, 7, .inl v_q1))] rfl (by decide +kernel) rfl rfl rfl (nn := 2) rfl (by decide +kernel) [a_m, a_q1] rfl rfl (q0 := 0) rfl rfl rfl rfl (Nat.le_of_ble_eq_true rfl) dX12_liesIn_15 ⟨Nat.zero_le _, Nat.zero_le _⟩ (fun H locs hP hD hS => ?_)
        refine lv_if_ne (tgt := 42) hx hb dX12_liesIn_18 (by decide) (fun c_7 => ?_) (fun c_7 => ?_)
        · replace h := it_n c_7 h
          refine lv_iload_n hx hb dX12_liesIn_42 rfl (lv_at hl 3 rfl) ?_
          obtain rfl := Option.some.inj h
          rw [← hQ]
          exact retI hB hS hP dX12_liesIn_43
        · replace h := it_p c_7 h
          refine lv_aload_n hx hb dX12_liesIn_21 rfl (lv_at hl 1 rfl) ?_
          refine lv_iload hx hb dX12_liesIn_22 (lv_at hl 4 rfl) ?_
          obtain ⟨z_8, h⟩ := gd_s h
          refine va_iald hx hb hK hP 1 0 rfl rfl (inb_vp z_8) dX12_liesIn_24 ?_
          refine lv_iload_n hx hb dX12_liesIn_25 rfl (lv_at hl 2 rfl) ?_
          obtain ⟨j35_10, ej35_10, h⟩ := jn_s h
          have J35_10 : ∀ (k_9 : Int32), j35_10 k_9 = some res → ∀ (H : Heap) (locs : List Loc) (ls : Array Slot), va_P (xD X) vwCl [(a_m, .inr (12, (.ref a_mP :: .int f_m_pageMany :: .int f_m_balls :: .int f_m_spot :: .int f_m_score :: .int f_m_strokesNow :: .int f_m_fouls :: .int f_m_tablesRead :: .ref a_mk :: .ref a_mw :: .ref a_mc :: .int f_m_potted :: .int f_m_moves :: .int f_m_bounces :: .int f_m_hitFirst :: .int f_m_hitPower :: .int f_m_hitDown :: .int f_m_hitRight :: .int f_m_isFoul :: .ref a_mo :: .ref a_mt :: .int f_m_bestCode :: .int f_m_bestBrings :: .int f_m_plansDone :: .int f_m_safesDone :: .int f_m_seenMany :: .ref a_ms :: .ref a_mb :: .int f_m_seedNow :: .int f_m_keptTable :: .int f_m_keptScore :: .int f_m_keptStrokes :: .int f_m_keptFouls :: .int f_m_keptSeen :: .ref a_mK :: .ref a_mC :: .ref a_mS :: .long f_m_hash :: []))), (a_q1, .inl (xI X, 7, .inl v_q1))] H → va_D A [(a_m, .inr (12, (.ref a_mP :: .int f_m_pageMany :: .int f_m_balls :: .int f_m_spot :: .int f_m_score :: .int f_m_strokesNow :: .int f_m_fouls :: .int f_m_tablesRead :: .ref a_mk :: .ref a_mw :: .ref a_mc :: .int f_m_potted :: .int f_m_moves :: .int f_m_bounces :: .int f_m_hitFirst :: .int f_m_hitPower :: .int f_m_hitDown :: .int f_m_hitRight :: .int f_m_isFoul :: .ref a_mo :: .ref a_mt :: .int f_m_bestCode :: .int f_m_bestBrings :: .int f_m_plansDone :: .int f_m_safesDone :: .int f_m_seenMany :: .ref a_ms :: .ref a_mb :: .int f_m_seedNow :: .int f_m_keptTable :: .int f_m_keptScore :: .int f_m_keptStrokes :: .int f_m_keptFouls :: .int f_m_keptSeen :: .ref a_mK :: .ref a_mC :: .ref a_mS :: .long f_m_hash :: []))), (a_q1, .inl (xI X, 7, .inl v_q1))] → va_S A s.heap H locs → lv_has ls 5 [(0, .ref a_m), (1, .ref a_q1), (2, .int p2), (4, .int x4_2)] → W p l e (rmF 1 20) s m args below meth c H locs 0 0 Q (F0 m 35 ls [.int k_9]) := by
            clear h
            intro k_9 h H locs ls hP hD hS hl
            rw [ej35_10] at h
            replace h := id h
            refine lv_istore_n (lv' := [(3, .int k_9), (0, .ref a_m), (1, .ref a_q1), (2, .int p2), (4, .int x4_2)]) hx hb dX12_liesIn_35 rfl hl (by decide) rfl (fun ls hl => ?_)
            obtain ⟨x4_11, ex4_11⟩ : ∃ y : Int32, y = x4_2 + 1 := ⟨_, rfl⟩
            replace h := bn_s h ex4_11
            refine lv_iinc (v := x4_11) (lv' := [(4, .int x4_11), (3, .int k_9), (0, .ref a_m), (1, .ref a_q1), (2, .int p2)]) hx hb dX12_liesIn_36 hl (k := 4) rfl (by rw [ex4_11]; rfl) (by decide) rfl (fun ls hl => ?_)
            refine lv_goto (tgt := 5) hx hb dX12_liesIn_39 (by decide) ?_
            exact ih_4 k_9 x4_11 h _ _ _ hP hD hS (lv_sub hl [2, 3, 4, 1, 0] rfl)
          clear ej35_10
          refine lv_icmp_ne (tgt := 34) hx hb dX12_liesIn_26 (by decide) (fun c_12 => ?_) (fun c_12 => ?_)
          · replace h := it_n c_12 h
            refine lv_iload_n hx hb dX12_liesIn_34 rfl (lv_at hl 3 rfl) ?_
            exact J35_10 x3_1 h _ _ _ hP hD hS (lv_sub hl [0, 1, 2, 4] rfl)
          · replace h := it_p c_12 h
            refine lv_iload hx hb dX12_liesIn_29 (lv_at hl 4 rfl) ?_
            refine lv_goto (tgt := 35) hx hb dX12_liesIn_31 (by decide) ?_
            exact J35_10 x4_2 h _ _ _ hP hD hS (lv_sub hl [0, 1, 2, 4] rfl)
  exact L5_go_3 n (-1) 0 h _ _ _ hP hD hS (lv_sub hl [2, 3, 4, 1, 0] rfl)


def f_X12_isPocket (p0 : Int32) : Option (Int32) :=
  (bnd (p0 / 9) (fun x1_1 => (bnd (p0 - p0 / 9 * 9) (fun x2_2 => (jn ((some 0)) (fun (j38_3 : Option (Int32)) => (jn ((jn ((some 1)) (fun (j34_5 : Option (Int32)) => (if x2_2 = 0 then j34_5 else (if x2_2 = 4 then j34_5 else (if x2_2 = 8 then j34_5 else j38_3)))))) (fun (j19_4 : Option (Int32)) => (if x1_1 = 0 then j19_4 else (if x1_1 = 4 then j19_4 else j38_3))))))))))
theorem hd_X12_isPocket : yX12_isPocket.cls ≠ "java/lang/invoke/MethodHandle" ∧ yX12_isPocket.cls ≠ "java/lang/invoke/VarHandle" ∧ (parseMethodDescriptor yX12_isPocket.desc).map (fun d => d.parameters.length) = some 1 := ⟨by decide +kernel, by decide +kernel, by decide +kernel⟩
set_option maxHeartbeats 4000000 in
set_option maxRecDepth 100000 in
theorem c_X12_isPocket (X : CXp) (l : Launch) (p0 : Int32) (res : Int32) (h : f_X12_isPocket p0 = some res) : CTg X l yX12_isPocket cX12_isPocket 3 (some .boolean) 0 0 [.int p0] [] (QcI X res []) := by
  refine CTg.mk (own := RX12) (by decide) rfl (Nat.le_of_ble_eq_true rfl) ?_
  intro p e s m args below meth c A hB hP hD hS ls hl
  obtain ⟨hx, hb, hr, hml, hown, hts, hlocks, hcx, hA, hAB⟩ := id hB
  have hK := hcx.1
  generalize hQ : MQ below (QcI X res [] A) args s 0 0 A = Q
  replace hl : lv_has ls 3 [(0, .int p0)] := hl
  unfold f_X12_isPocket at h
  refine lv_iload_n hx hb dX12_isPocket_0 rfl (lv_at hl 0 rfl) ?_
  refine lv_bipush (v := 9) hx hb dX12_isPocket_1 (by decide) ?_
  refine lv_idiv hx hb dX12_isPocket_3 (by decide) ?_
  refine lv_topi (fun x1_1 ex1_1 => ?_)
  replace h := bn_s h ex1_1
  refine lv_istore_n (lv' := [(1, .int x1_1), (0, .int p0)]) hx hb dX12_isPocket_4 rfl hl (by decide) rfl (fun ls hl => ?_)
  refine lv_iload_n hx hb dX12_isPocket_5 rfl (lv_at hl 1 rfl) ?_
  refine lv_bipush (v := 9) hx hb dX12_isPocket_6 (by decide) ?_
  refine lv_irem hx hb dX12_isPocket_8 (by decide) ?_
  refine lv_topi (fun x2_2 ex2_2 => ?_)
  replace h := bn_s h ex2_2
  refine lv_istore_n (lv' := [(2, .int x2_2), (1, .int x1_1), (0, .int p0)]) hx hb dX12_isPocket_9 rfl hl (by decide) rfl (fun ls hl => ?_)
  refine lv_iload_n hx hb dX12_isPocket_10 rfl (lv_at hl 1 rfl) ?_
  obtain ⟨j38_3, ej38_3, h⟩ := jn_s h
  have J38_3 : j38_3 = some res → ∀ (H : Heap) (locs : List Loc) (ls : Array Slot), va_P (xD X) vwCl [] H → va_D A [] → va_S A s.heap H locs → lv_has ls 3 [] → W p l e (rmF 0 0) s m args below meth c H locs 0 0 Q (F0 m 38 ls []) := by
    clear h
    intro h H locs ls hP hD hS hl
    rw [ej38_3] at h
    refine lv_iconst (v := 0) hx hb dX12_isPocket_38 (by decide) ?_
    obtain rfl := Option.some.inj h
    rw [← hQ]
    exact retZ (r := 0) hB rfl hS hP dX12_isPocket_39
  clear ej38_3
  obtain ⟨j19_4, ej19_4, h⟩ := jn_s h
  have J19_4 : j19_4 = some res → ∀ (H : Heap) (locs : List Loc) (ls : Array Slot), va_P (xD X) vwCl [] H → va_D A [] → va_S A s.heap H locs → lv_has ls 3 [(2, .int x2_2)] → W p l e (rmF 0 0) s m args below meth c H locs 0 0 Q (F0 m 19 ls []) := by
    clear h
    intro h H locs ls hP hD hS hl
    rw [ej19_4] at h
    refine lv_iload_n hx hb dX12_isPocket_19 rfl (lv_at hl 0 rfl) ?_
    obtain ⟨j34_5, ej34_5, h⟩ := jn_s h
    have J34_5 : j34_5 = some res → ∀ (H : Heap) (locs : List Loc) (ls : Array Slot), va_P (xD X) vwCl [] H → va_D A [] → va_S A s.heap H locs → lv_has ls 3 [] → W p l e (rmF 0 0) s m args below meth c H locs 0 0 Q (F0 m 34 ls []) := by
      clear h
      intro h H locs ls hP hD hS hl
      rw [ej34_5] at h
      refine lv_iconst (v := 1) hx hb dX12_isPocket_34 (by decide) ?_
      refine lv_goto (tgt := 39) hx hb dX12_isPocket_35 (by decide) ?_
      obtain rfl := Option.some.inj h
      rw [← hQ]
      exact retZ (r := 1) hB rfl hS hP dX12_isPocket_39
    clear ej34_5
    refine lv_if_eq (tgt := 34) hx hb dX12_isPocket_20 (by decide) (fun c_6 => ?_) (fun c_6 => ?_)
    · replace h := it_p c_6 h
      exact J34_5 h _ _ _ hP hD hS (lv_sub hl [] rfl)
    · replace h := it_n c_6 h
      refine lv_iload_n hx hb dX12_isPocket_23 rfl (lv_at hl 0 rfl) ?_
      refine lv_iconst (v := 4) hx hb dX12_isPocket_24 (by decide) ?_
      refine lv_icmp_eq (tgt := 34) hx hb dX12_isPocket_25 (by decide) (fun c_7 => ?_) (fun c_7 => ?_)
      · replace h := it_p c_7 h
        exact J34_5 h _ _ _ hP hD hS (lv_sub hl [] rfl)
      · replace h := it_n c_7 h
        refine lv_iload_n hx hb dX12_isPocket_28 rfl (lv_at hl 0 rfl) ?_
        refine lv_bipush (v := 8) hx hb dX12_isPocket_29 (by decide) ?_
        refine lv_icmp_ne (tgt := 38) hx hb dX12_isPocket_31 (by decide) (fun c_8 => ?_) (fun c_8 => ?_)
        · replace h := it_n c_8 h
          exact J38_3 h _ _ _ hP hD hS (lv_sub hl [] rfl)
        · replace h := it_p c_8 h
          exact J34_5 h _ _ _ hP hD hS (lv_sub hl [] rfl)
  clear ej19_4
  refine lv_if_eq (tgt := 19) hx hb dX12_isPocket_11 (by decide) (fun c_9 => ?_) (fun c_9 => ?_)
  · replace h := it_p c_9 h
    exact J19_4 h _ _ _ hP hD hS (lv_sub hl [0] rfl)
  · replace h := it_n c_9 h
    refine lv_iload_n hx hb dX12_isPocket_14 rfl (lv_at hl 1 rfl) ?_
    refine lv_iconst (v := 4) hx hb dX12_isPocket_15 (by decide) ?_
    refine lv_icmp_ne (tgt := 38) hx hb dX12_isPocket_16 (by decide) (fun c_10 => ?_) (fun c_10 => ?_)
    · replace h := it_n c_10 h
      exact J38_3 h _ _ _ hP hD hS (lv_sub hl [] rfl)
    · replace h := it_p c_10 h
      exact J19_4 h _ _ _ hP hD hS (lv_sub hl [0] rfl)


def b_X12_spotWhite_L22 (f_m_balls : Int32) (n : Nat) (go_6 : Int32 → (Nat → Int32) → Option ((Nat → Int32))) (x2_4 : Int32) (v_q1_5 : Nat → Int32) : Option ((Nat → Int32)) :=
  (if 45 ≤ x2_4 then (some v_q1_5) else (gd (inb 0 7) (if (v_q1_5 (0 : Int32).toNatClampNeg) = (-1) then ((f_X12_isPocket x2_4).bind (fun u_11 => (jn (fun (k_12 : Int32) (k_13 : Int32) => (gd (inb k_12 7) (bnd (x2_4 + 1) (fun x2_16 => (go_6 x2_16 (upd v_q1_5 k_12.toNatClampNeg k_13)))))) (fun (j59_14 : Int32 → Int32 → Option ((Nat → Int32))) => (jn (fun (k_17 : Int32) => (j59_14 k_17 (-1))) (fun (j58_18 : Int32 → Option ((Nat → Int32))) => (if u_11 = 0 then ((f_X12_liesIn n f_m_balls v_q1_5 x2_4).bind (fun u_20 => (if u_20 = (-1) then (j59_14 0 x2_4) else (j58_18 0)))) else (j58_18 0)))))))) else (some v_q1_5))))
def f_X12_spotWhite_L22 (f_m_balls : Int32) (n : Nat) (k : Nat) (x2_4 : Int32) (v_q1_5 : Nat → Int32) : Option ((Nat → Int32)) :=
  lpF (fun (self : (Int32 × (Nat → Int32)) → Option ((Nat → Int32))) (a : Int32 × (Nat → Int32)) => b_X12_spotWhite_L22 f_m_balls n (fun x2_4 v_q1_5 => self (x2_4, v_q1_5)) a.1 a.2) k (x2_4, v_q1_5)
def f_X12_spotWhite (n : Nat) (f_m_balls : Int32) (f_m_spot : Int32) (v_q1 : Nat → Int32) : Option ((Nat → Int32)) :=
  ((f_X12_liesIn n f_m_balls v_q1 f_m_spot).bind (fun u_1 => (jn (fun (v_q1_2 : Nat → Int32) => (f_X12_spotWhite_L22 f_m_balls n n 0 v_q1_2)) (fun (j20_3 : (Nat → Int32) → Option ((Nat → Int32))) => (if u_1 = (-1) then (gd (inb 0 7) (j20_3 (upd v_q1 (0 : Int32).toNatClampNeg f_m_spot))) else (j20_3 v_q1))))))
theorem hd_X12_spotWhite : yX12_spotWhite.cls ≠ "java/lang/invoke/MethodHandle" ∧ yX12_spotWhite.cls ≠ "java/lang/invoke/VarHandle" ∧ (parseMethodDescriptor yX12_spotWhite.desc).map (fun d => d.parameters.length) = some 1 := ⟨by decide +kernel, by decide +kernel, by decide +kernel⟩
set_option maxHeartbeats 4000000 in
set_option maxRecDepth 100000 in
theorem c_X12_spotWhite (X : CXp) (l : Launch) (n : Nat) (a_m a_mP a_mk a_mw a_mc a_mo a_mt a_ms a_mb a_mK a_mC a_mS a_q1 : Nat) (f_m_pageMany : Int32) (f_m_balls : Int32) (f_m_spot : Int32) (f_m_score : Int32) (f_m_strokesNow : Int32) (f_m_fouls : Int32) (f_m_tablesRead : Int32) (f_m_potted : Int32) (f_m_moves : Int32) (f_m_bounces : Int32) (f_m_hitFirst : Int32) (f_m_hitPower : Int32) (f_m_hitDown : Int32) (f_m_hitRight : Int32) (f_m_isFoul : Int32) (f_m_bestCode : Int32) (f_m_bestBrings : Int32) (f_m_plansDone : Int32) (f_m_safesDone : Int32) (f_m_seenMany : Int32) (f_m_seedNow : Int32) (f_m_keptTable : Int32) (f_m_keptScore : Int32) (f_m_keptStrokes : Int32) (f_m_keptFouls : Int32) (f_m_keptSeen : Int32) (f_m_hash : Int64) (v_q1 : Nat → Int32) (res : (Nat → Int32)) (h : f_X12_spotWhite n f_m_balls f_m_spot v_q1 = some res) : CTg X l yX12_spotWhite cX12_spotWhite 3 none 2 44 [.ref a_m, .ref a_q1] [(a_m, .inr (12, (.ref a_mP :: .int f_m_pageMany :: .int f_m_balls :: .int f_m_spot :: .int f_m_score :: .int f_m_strokesNow :: .int f_m_fouls :: .int f_m_tablesRead :: .ref a_mk :: .ref a_mw :: .ref a_mc :: .int f_m_potted :: .int f_m_moves :: .int f_m_bounces :: .int f_m_hitFirst :: .int f_m_hitPower :: .int f_m_hitDown :: .int f_m_hitRight :: .int f_m_isFoul :: .ref a_mo :: .ref a_mt :: .int f_m_bestCode :: .int f_m_bestBrings :: .int f_m_plansDone :: .int f_m_safesDone :: .int f_m_seenMany :: .ref a_ms :: .ref a_mb :: .int f_m_seedNow :: .int f_m_keptTable :: .int f_m_keptScore :: .int f_m_keptStrokes :: .int f_m_keptFouls :: .int f_m_keptSeen :: .ref a_mK :: .ref a_mC :: .ref a_mS :: .long f_m_hash :: []))), (a_q1, .inl (xI X, 7, .inl v_q1))] (QcV X [(a_m, .inr (12, (.ref a_mP :: .int f_m_pageMany :: .int f_m_balls :: .int f_m_spot :: .int f_m_score :: .int f_m_strokesNow :: .int f_m_fouls :: .int f_m_tablesRead :: .ref a_mk :: .ref a_mw :: .ref a_mc :: .int f_m_potted :: .int f_m_moves :: .int f_m_bounces :: .int f_m_hitFirst :: .int f_m_hitPower :: .int f_m_hitDown :: .int f_m_hitRight :: .int f_m_isFoul :: .ref a_mo :: .ref a_mt :: .int f_m_bestCode :: .int f_m_bestBrings :: .int f_m_plansDone :: .int f_m_safesDone :: .int f_m_seenMany :: .ref a_ms :: .ref a_mb :: .int f_m_seedNow :: .int f_m_keptTable :: .int f_m_keptScore :: .int f_m_keptStrokes :: .int f_m_keptFouls :: .int f_m_keptSeen :: .ref a_mK :: .ref a_mC :: .ref a_mS :: .long f_m_hash :: []))), (a_q1, .inl (xI X, 7, .inl res))]) := by
  refine CTg.mk (own := RX12) (by decide) rfl (Nat.le_of_ble_eq_true rfl) ?_
  intro p e s m args below meth c A hB hP hD hS ls hl
  obtain ⟨hx, hb, hr, hml, hown, hts, hlocks, hcx, hA, hAB⟩ := id hB
  have hK := hcx.1
  generalize hQ : MQ below (QcV X [(a_m, .inr (12, (.ref a_mP :: .int f_m_pageMany :: .int f_m_balls :: .int f_m_spot :: .int f_m_score :: .int f_m_strokesNow :: .int f_m_fouls :: .int f_m_tablesRead :: .ref a_mk :: .ref a_mw :: .ref a_mc :: .int f_m_potted :: .int f_m_moves :: .int f_m_bounces :: .int f_m_hitFirst :: .int f_m_hitPower :: .int f_m_hitDown :: .int f_m_hitRight :: .int f_m_isFoul :: .ref a_mo :: .ref a_mt :: .int f_m_bestCode :: .int f_m_bestBrings :: .int f_m_plansDone :: .int f_m_safesDone :: .int f_m_seenMany :: .ref a_ms :: .ref a_mb :: .int f_m_seedNow :: .int f_m_keptTable :: .int f_m_keptScore :: .int f_m_keptStrokes :: .int f_m_keptFouls :: .int f_m_keptSeen :: .ref a_mK :: .ref a_mC :: .ref a_mS :: .long f_m_hash :: []))), (a_q1, .inl (xI X, 7, .inl res))] A) args s 0 0 A = Q
  replace hl : lv_has ls 3 [(0, .ref a_m), (1, .ref a_q1)] := hl
  unfold f_X12_spotWhite at h
  refine lv_aload_n hx hb dX12_spotWhite_0 rfl (lv_at hl 0 rfl) ?_
  refine lv_aload_n hx hb dX12_spotWhite_1 rfl (lv_at hl 1 rfl) ?_
  refine lv_aload_n hx hb dX12_spotWhite_2 rfl (lv_at hl 0 rfl) ?_
  refine va_get (D := xD X) (ci := 12) (v := .int f_m_spot) (C := RX12) (T := TX12) (N := 38) hx hb hts inX12 hown hK hP 0 rfl rfl 3 (by decide) (hts _ wq_4_110) (fun _ h9 => h9) rfl dX12_spotWhite_3 ?_
  obtain ⟨u_1, hu_1, h⟩ := ob_s h
  refine cVi (C := RX12) (As := [.ref a_q1, .int f_m_spot]) (rest := []) [(a_m, .inr (12, (.ref a_mP :: .int f_m_pageMany :: .int f_m_balls :: .int f_m_spot :: .int f_m_score :: .int f_m_strokesNow :: .int f_m_fouls :: .int f_m_tablesRead :: .ref a_mk :: .ref a_mw :: .ref a_mc :: .int f_m_potted :: .int f_m_moves :: .int f_m_bounces :: .int f_m_hitFirst :: .int f_m_hitPower :: .int f_m_hitDown :: .int f_m_hitRight :: .int f_m_isFoul :: .ref a_mo :: .ref a_mt :: .int f_m_bestCode :: .int f_m_bestBrings :: .int f_m_plansDone :: .int f_m_safesDone :: .int f_m_seenMany :: .ref a_ms :: .ref a_mb :: .int f_m_seedNow :: .int f_m_keptTable :: .int f_m_keptScore :: .int f_m_keptStrokes :: .int f_m_keptFouls :: .int f_m_keptSeen :: .ref a_mK :: .ref a_mC :: .ref a_mS :: .long f_m_hash :: []))), (a_q1, .inl (xI X, 7, .inl v_q1))] hB (c_X12_liesIn X l n a_m a_mP a_mk a_mw a_mc a_mo a_mt a_ms a_mb a_mK a_mC a_mS a_q1 f_m_pageMany f_m_balls f_m_spot f_m_score f_m_strokesNow f_m_fouls f_m_tablesRead f_m_potted f_m_moves f_m_bounces f_m_hitFirst f_m_hitPower f_m_hitDown f_m_hitRight f_m_isFoul f_m_bestCode f_m_bestBrings f_m_plansDone f_m_safesDone f_m_seenMany f_m_seedNow f_m_keptTable f_m_keptScore f_m_keptStrokes f_m_keptFouls f_m_keptSeen f_m_hash v_q1 f_m_spot u_1 hu_1) wq_5_79 wq_1_14 wq_5_76 wq_5_78 wp_37 hd_X12_liesIn (by decide) hP hD hS hl.1 [0, 1] [] [] rfl (by decide +kernel) rfl rfl rfl (nn := 2) rfl (by decide +kernel) [a_m, a_q1] rfl rfl (q0 := 0) rfl rfl rfl rfl (Nat.le_of_ble_eq_true rfl) dX12_spotWhite_6 ⟨Nat.zero_le _, Nat.zero_le _⟩ (fun H locs hP hD hS => ?_)
  refine lv_iconst (v := (-1)) hx hb dX12_spotWhite_9 (by decide) ?_
  obtain ⟨j20_3, ej20_3, h⟩ := jn_s h
  have J20_3 : ∀ (v_q1_2 : Nat → Int32), j20_3 v_q1_2 = some res → ∀ (H : Heap) (locs : List Loc) (ls : Array Slot), va_P (xD X) vwCl [(a_m, .inr (12, (.ref a_mP :: .int f_m_pageMany :: .int f_m_balls :: .int f_m_spot :: .int f_m_score :: .int f_m_strokesNow :: .int f_m_fouls :: .int f_m_tablesRead :: .ref a_mk :: .ref a_mw :: .ref a_mc :: .int f_m_potted :: .int f_m_moves :: .int f_m_bounces :: .int f_m_hitFirst :: .int f_m_hitPower :: .int f_m_hitDown :: .int f_m_hitRight :: .int f_m_isFoul :: .ref a_mo :: .ref a_mt :: .int f_m_bestCode :: .int f_m_bestBrings :: .int f_m_plansDone :: .int f_m_safesDone :: .int f_m_seenMany :: .ref a_ms :: .ref a_mb :: .int f_m_seedNow :: .int f_m_keptTable :: .int f_m_keptScore :: .int f_m_keptStrokes :: .int f_m_keptFouls :: .int f_m_keptSeen :: .ref a_mK :: .ref a_mC :: .ref a_mS :: .long f_m_hash :: []))), (a_q1, .inl (xI X, 7, .inl v_q1_2))] H → va_D A [(a_m, .inr (12, (.ref a_mP :: .int f_m_pageMany :: .int f_m_balls :: .int f_m_spot :: .int f_m_score :: .int f_m_strokesNow :: .int f_m_fouls :: .int f_m_tablesRead :: .ref a_mk :: .ref a_mw :: .ref a_mc :: .int f_m_potted :: .int f_m_moves :: .int f_m_bounces :: .int f_m_hitFirst :: .int f_m_hitPower :: .int f_m_hitDown :: .int f_m_hitRight :: .int f_m_isFoul :: .ref a_mo :: .ref a_mt :: .int f_m_bestCode :: .int f_m_bestBrings :: .int f_m_plansDone :: .int f_m_safesDone :: .int f_m_seenMany :: .ref a_ms :: .ref a_mb :: .int f_m_seedNow :: .int f_m_keptTable :: .int f_m_keptScore :: .int f_m_keptStrokes :: .int f_m_keptFouls :: .int f_m_keptSeen :: .ref a_mK :: .ref a_mC :: .ref a_mS :: .long f_m_hash :: []))), (a_q1, .inl (xI X, 7, .inl v_q1_2))] → va_S A s.heap H locs → lv_has ls 3 [(0, .ref a_m), (1, .ref a_q1)] → W p l e (rmF 2 44) s m args below meth c H locs 0 0 Q (F0 m 20 ls []) := by
    clear h
    intro v_q1_2 h H locs ls hP hD hS hl
    rw [ej20_3] at h
    replace h := id h
    refine lv_iconst (v := 0) hx hb dX12_spotWhite_20 (by decide) ?_
    refine lv_istore_n (lv' := [(2, .int 0), (0, .ref a_m), (1, .ref a_q1)]) hx hb dX12_spotWhite_21 rfl hl (by decide) rfl (fun ls hl => ?_)
    have L22_go_6 : ∀ (k : Nat), ∀ (x2_4 : Int32) (v_q1_5 : Nat → Int32), f_X12_spotWhite_L22 f_m_balls n k x2_4 v_q1_5 = some res → ∀ (H : Heap) (locs : List Loc) (ls : Array Slot), va_P (xD X) vwCl [(a_m, .inr (12, (.ref a_mP :: .int f_m_pageMany :: .int f_m_balls :: .int f_m_spot :: .int f_m_score :: .int f_m_strokesNow :: .int f_m_fouls :: .int f_m_tablesRead :: .ref a_mk :: .ref a_mw :: .ref a_mc :: .int f_m_potted :: .int f_m_moves :: .int f_m_bounces :: .int f_m_hitFirst :: .int f_m_hitPower :: .int f_m_hitDown :: .int f_m_hitRight :: .int f_m_isFoul :: .ref a_mo :: .ref a_mt :: .int f_m_bestCode :: .int f_m_bestBrings :: .int f_m_plansDone :: .int f_m_safesDone :: .int f_m_seenMany :: .ref a_ms :: .ref a_mb :: .int f_m_seedNow :: .int f_m_keptTable :: .int f_m_keptScore :: .int f_m_keptStrokes :: .int f_m_keptFouls :: .int f_m_keptSeen :: .ref a_mK :: .ref a_mC :: .ref a_mS :: .long f_m_hash :: []))), (a_q1, .inl (xI X, 7, .inl v_q1_5))] H → va_D A [(a_m, .inr (12, (.ref a_mP :: .int f_m_pageMany :: .int f_m_balls :: .int f_m_spot :: .int f_m_score :: .int f_m_strokesNow :: .int f_m_fouls :: .int f_m_tablesRead :: .ref a_mk :: .ref a_mw :: .ref a_mc :: .int f_m_potted :: .int f_m_moves :: .int f_m_bounces :: .int f_m_hitFirst :: .int f_m_hitPower :: .int f_m_hitDown :: .int f_m_hitRight :: .int f_m_isFoul :: .ref a_mo :: .ref a_mt :: .int f_m_bestCode :: .int f_m_bestBrings :: .int f_m_plansDone :: .int f_m_safesDone :: .int f_m_seenMany :: .ref a_ms :: .ref a_mb :: .int f_m_seedNow :: .int f_m_keptTable :: .int f_m_keptScore :: .int f_m_keptStrokes :: .int f_m_keptFouls :: .int f_m_keptSeen :: .ref a_mK :: .ref a_mC :: .ref a_mS :: .long f_m_hash :: []))), (a_q1, .inl (xI X, 7, .inl v_q1_5))] → va_S A s.heap H locs → lv_has ls 3 [(0, .ref a_m), (1, .ref a_q1), (2, .int x2_4)] → W p l e (rmF 2 44) s m args below meth c H locs 0 0 Q (F0 m 22 ls []) := by
      clear h
      intro k
      induction k with
      | zero => intro x2_4 v_q1_5 h; cases h
      | succ k ih_7 =>
        intro x2_4 v_q1_5 h H locs ls hP hD hS hl
        replace h : b_X12_spotWhite_L22 f_m_balls n (fun x2_4 v_q1_5 => f_X12_spotWhite_L22 f_m_balls n k x2_4 v_q1_5) x2_4 v_q1_5 = some res := h
        unfold b_X12_spotWhite_L22 at h
        refine lv_iload_n hx hb dX12_spotWhite_22 rfl (lv_at hl 2 rfl) ?_
        refine lv_bipush (v := 45) hx hb dX12_spotWhite_23 (by decide) ?_
        refine lv_icmp_ge (tgt := 66) hx hb dX12_spotWhite_25 (by decide) (fun c_8 => ?_) (fun c_8 => ?_)
        · replace h := it_p c_8 h
          obtain rfl := Option.some.inj h
          rw [← hQ]
          exact retV hB hS hP dX12_spotWhite_66
        · replace h := it_n c_8 h
          refine lv_aload_n hx hb dX12_spotWhite_28 rfl (lv_at hl 1 rfl) ?_
          refine lv_iconst (v := 0) hx hb dX12_spotWhite_29 (by decide) ?_
          obtain ⟨z_9, h⟩ := gd_s h
          refine va_iald hx hb hK hP 1 0 rfl rfl (inb_vp z_9) dX12_spotWhite_30 ?_
          refine lv_iconst (v := (-1)) hx hb dX12_spotWhite_31 (by decide) ?_
          refine lv_icmp_ne (tgt := 66) hx hb dX12_spotWhite_32 (by decide) (fun c_10 => ?_) (fun c_10 => ?_)
          · replace h := it_n c_10 h
            obtain rfl := Option.some.inj h
            rw [← hQ]
            exact retV hB hS hP dX12_spotWhite_66
          · replace h := it_p c_10 h
            refine lv_aload_n hx hb dX12_spotWhite_35 rfl (lv_at hl 1 rfl) ?_
            refine lv_iconst (v := 0) hx hb dX12_spotWhite_36 (by decide) ?_
            refine lv_iload_n hx hb dX12_spotWhite_37 rfl (lv_at hl 2 rfl) ?_
            obtain ⟨u_11, hu_11, h⟩ := ob_s h
            refine cSi (As := [.int x2_4]) (rest := [.int 0, .ref a_q1]) [(a_m, .inr (12, (.ref a_mP :: .int f_m_pageMany :: .int f_m_balls :: .int f_m_spot :: .int f_m_score :: .int f_m_strokesNow :: .int f_m_fouls :: .int f_m_tablesRead :: .ref a_mk :: .ref a_mw :: .ref a_mc :: .int f_m_potted :: .int f_m_moves :: .int f_m_bounces :: .int f_m_hitFirst :: .int f_m_hitPower :: .int f_m_hitDown :: .int f_m_hitRight :: .int f_m_isFoul :: .ref a_mo :: .ref a_mt :: .int f_m_bestCode :: .int f_m_bestBrings :: .int f_m_plansDone :: .int f_m_safesDone :: .int f_m_seenMany :: .ref a_ms :: .ref a_mb :: .int f_m_seedNow :: .int f_m_keptTable :: .int f_m_keptScore :: .int f_m_keptStrokes :: .int f_m_keptFouls :: .int f_m_keptSeen :: .ref a_mK :: .ref a_mC :: .ref a_mS :: .long f_m_hash :: []))), (a_q1, .inl (xI X, 7, .inl v_q1_5))] hB (c_X12_isPocket X l x2_4 u_11 hu_11) wq_5_19 wq_1_14 wq_5_17 wq_5_18 hd_X12_isPocket (by decide) hP hD hS hl.1 [] [0, 1] [(a_m, .inr (12, (.ref a_mP :: .int f_m_pageMany :: .int f_m_balls :: .int f_m_spot :: .int f_m_score :: .int f_m_strokesNow :: .int f_m_fouls :: .int f_m_tablesRead :: .ref a_mk :: .ref a_mw :: .ref a_mc :: .int f_m_potted :: .int f_m_moves :: .int f_m_bounces :: .int f_m_hitFirst :: .int f_m_hitPower :: .int f_m_hitDown :: .int f_m_hitRight :: .int f_m_isFoul :: .ref a_mo :: .ref a_mt :: .int f_m_bestCode :: .int f_m_bestBrings :: .int f_m_plansDone :: .int f_m_safesDone :: .int f_m_seenMany :: .ref a_ms :: .ref a_mb :: .int f_m_seedNow :: .int f_m_keptTable :: .int f_m_keptScore :: .int f_m_keptStrokes :: .int f_m_keptFouls :: .int f_m_keptSeen :: .ref a_mK :: .ref a_mC :: .ref a_mS :: .long f_m_hash :: []))), (a_q1, .inl (xI X, 7, .inl v_q1_5))] rfl (by decide +kernel) rfl rfl rfl (nn := 2) rfl (by decide +kernel) [a_m, a_q1] rfl rfl rfl rfl (Nat.le_of_ble_eq_true rfl) dX12_spotWhite_38 ⟨Nat.zero_le _, Nat.zero_le _⟩ (fun H locs hP hD hS => ?_)
            obtain ⟨j59_14, ej59_14, h⟩ := jn_s h
            have J59_14 : ∀ (k_12 : Int32) (k_13 : Int32), j59_14 k_12 k_13 = some res → ∀ (H : Heap) (locs : List Loc) (ls : Array Slot), va_P (xD X) vwCl [(a_m, .inr (12, (.ref a_mP :: .int f_m_pageMany :: .int f_m_balls :: .int f_m_spot :: .int f_m_score :: .int f_m_strokesNow :: .int f_m_fouls :: .int f_m_tablesRead :: .ref a_mk :: .ref a_mw :: .ref a_mc :: .int f_m_potted :: .int f_m_moves :: .int f_m_bounces :: .int f_m_hitFirst :: .int f_m_hitPower :: .int f_m_hitDown :: .int f_m_hitRight :: .int f_m_isFoul :: .ref a_mo :: .ref a_mt :: .int f_m_bestCode :: .int f_m_bestBrings :: .int f_m_plansDone :: .int f_m_safesDone :: .int f_m_seenMany :: .ref a_ms :: .ref a_mb :: .int f_m_seedNow :: .int f_m_keptTable :: .int f_m_keptScore :: .int f_m_keptStrokes :: .int f_m_keptFouls :: .int f_m_keptSeen :: .ref a_mK :: .ref a_mC :: .ref a_mS :: .long f_m_hash :: []))), (a_q1, .inl (xI X, 7, .inl v_q1_5))] H → va_D A [(a_m, .inr (12, (.ref a_mP :: .int f_m_pageMany :: .int f_m_balls :: .int f_m_spot :: .int f_m_score :: .int f_m_strokesNow :: .int f_m_fouls :: .int f_m_tablesRead :: .ref a_mk :: .ref a_mw :: .ref a_mc :: .int f_m_potted :: .int f_m_moves :: .int f_m_bounces :: .int f_m_hitFirst :: .int f_m_hitPower :: .int f_m_hitDown :: .int f_m_hitRight :: .int f_m_isFoul :: .ref a_mo :: .ref a_mt :: .int f_m_bestCode :: .int f_m_bestBrings :: .int f_m_plansDone :: .int f_m_safesDone :: .int f_m_seenMany :: .ref a_ms :: .ref a_mb :: .int f_m_seedNow :: .int f_m_keptTable :: .int f_m_keptScore :: .int f_m_keptStrokes :: .int f_m_keptFouls :: .int f_m_keptSeen :: .ref a_mK :: .ref a_mC :: .ref a_mS :: .long f_m_hash :: []))), (a_q1, .inl (xI X, 7, .inl v_q1_5))] → va_S A s.heap H locs → lv_has ls 3 [(0, .ref a_m), (1, .ref a_q1), (2, .int x2_4)] → W p l e (rmF 2 44) s m args below meth c H locs 0 0 Q (F0 m 59 ls [.int k_13, .int k_12, .ref a_q1]) := by
              clear h
              intro k_12 k_13 h H locs ls hP hD hS hl
              rw [ej59_14] at h
              replace h := id h
              obtain ⟨z_15, h⟩ := gd_s h
              refine va_iast hx hb hK hP hD hS 1 0 rfl rfl (inb_vp z_15) dX12_spotWhite_59 (fun H locs (hP : va_P (xD X) vwCl [(a_m, .inr (12, (.ref a_mP :: .int f_m_pageMany :: .int f_m_balls :: .int f_m_spot :: .int f_m_score :: .int f_m_strokesNow :: .int f_m_fouls :: .int f_m_tablesRead :: .ref a_mk :: .ref a_mw :: .ref a_mc :: .int f_m_potted :: .int f_m_moves :: .int f_m_bounces :: .int f_m_hitFirst :: .int f_m_hitPower :: .int f_m_hitDown :: .int f_m_hitRight :: .int f_m_isFoul :: .ref a_mo :: .ref a_mt :: .int f_m_bestCode :: .int f_m_bestBrings :: .int f_m_plansDone :: .int f_m_safesDone :: .int f_m_seenMany :: .ref a_ms :: .ref a_mb :: .int f_m_seedNow :: .int f_m_keptTable :: .int f_m_keptScore :: .int f_m_keptStrokes :: .int f_m_keptFouls :: .int f_m_keptSeen :: .ref a_mK :: .ref a_mC :: .ref a_mS :: .long f_m_hash :: []))), (a_q1, .inl (xI X, 7, .inl (upd v_q1_5 k_12.toNatClampNeg k_13)))] H) (hD : va_D A [(a_m, .inr (12, (.ref a_mP :: .int f_m_pageMany :: .int f_m_balls :: .int f_m_spot :: .int f_m_score :: .int f_m_strokesNow :: .int f_m_fouls :: .int f_m_tablesRead :: .ref a_mk :: .ref a_mw :: .ref a_mc :: .int f_m_potted :: .int f_m_moves :: .int f_m_bounces :: .int f_m_hitFirst :: .int f_m_hitPower :: .int f_m_hitDown :: .int f_m_hitRight :: .int f_m_isFoul :: .ref a_mo :: .ref a_mt :: .int f_m_bestCode :: .int f_m_bestBrings :: .int f_m_plansDone :: .int f_m_safesDone :: .int f_m_seenMany :: .ref a_ms :: .ref a_mb :: .int f_m_seedNow :: .int f_m_keptTable :: .int f_m_keptScore :: .int f_m_keptStrokes :: .int f_m_keptFouls :: .int f_m_keptSeen :: .ref a_mK :: .ref a_mC :: .ref a_mS :: .long f_m_hash :: []))), (a_q1, .inl (xI X, 7, .inl (upd v_q1_5 k_12.toNatClampNeg k_13)))]) hS => ?_)
              obtain ⟨x2_16, ex2_16⟩ : ∃ y : Int32, y = x2_4 + 1 := ⟨_, rfl⟩
              replace h := bn_s h ex2_16
              refine lv_iinc (v := x2_16) (lv' := [(2, .int x2_16), (0, .ref a_m), (1, .ref a_q1)]) hx hb dX12_spotWhite_60 hl (k := 2) rfl (by rw [ex2_16]; rfl) (by decide) rfl (fun ls hl => ?_)
              refine lv_goto (tgt := 22) hx hb dX12_spotWhite_63 (by decide) ?_
              exact ih_7 x2_16 (upd v_q1_5 k_12.toNatClampNeg k_13) h _ _ _ hP hD hS (lv_sub hl [1, 2, 0] rfl)
            clear ej59_14
            obtain ⟨j58_18, ej58_18, h⟩ := jn_s h
            have J58_18 : ∀ (k_17 : Int32), j58_18 k_17 = some res → ∀ (H : Heap) (locs : List Loc) (ls : Array Slot), va_P (xD X) vwCl [(a_m, .inr (12, (.ref a_mP :: .int f_m_pageMany :: .int f_m_balls :: .int f_m_spot :: .int f_m_score :: .int f_m_strokesNow :: .int f_m_fouls :: .int f_m_tablesRead :: .ref a_mk :: .ref a_mw :: .ref a_mc :: .int f_m_potted :: .int f_m_moves :: .int f_m_bounces :: .int f_m_hitFirst :: .int f_m_hitPower :: .int f_m_hitDown :: .int f_m_hitRight :: .int f_m_isFoul :: .ref a_mo :: .ref a_mt :: .int f_m_bestCode :: .int f_m_bestBrings :: .int f_m_plansDone :: .int f_m_safesDone :: .int f_m_seenMany :: .ref a_ms :: .ref a_mb :: .int f_m_seedNow :: .int f_m_keptTable :: .int f_m_keptScore :: .int f_m_keptStrokes :: .int f_m_keptFouls :: .int f_m_keptSeen :: .ref a_mK :: .ref a_mC :: .ref a_mS :: .long f_m_hash :: []))), (a_q1, .inl (xI X, 7, .inl v_q1_5))] H → va_D A [(a_m, .inr (12, (.ref a_mP :: .int f_m_pageMany :: .int f_m_balls :: .int f_m_spot :: .int f_m_score :: .int f_m_strokesNow :: .int f_m_fouls :: .int f_m_tablesRead :: .ref a_mk :: .ref a_mw :: .ref a_mc :: .int f_m_potted :: .int f_m_moves :: .int f_m_bounces :: .int f_m_hitFirst :: .int f_m_hitPower :: .int f_m_hitDown :: .int f_m_hitRight :: .int f_m_isFoul :: .ref a_mo :: .ref a_mt :: .int f_m_bestCode :: .int f_m_bestBrings :: .int f_m_plansDone :: .int f_m_safesDone :: .int f_m_seenMany :: .ref a_ms :: .ref a_mb :: .int f_m_seedNow :: .int f_m_keptTable :: .int f_m_keptScore :: .int f_m_keptStrokes :: .int f_m_keptFouls :: .int f_m_keptSeen :: .ref a_mK :: .ref a_mC :: .ref a_mS :: .long f_m_hash :: []))), (a_q1, .inl (xI X, 7, .inl v_q1_5))] → va_S A s.heap H locs → lv_has ls 3 [(0, .ref a_m), (1, .ref a_q1), (2, .int x2_4)] → W p l e (rmF 2 44) s m args below meth c H locs 0 0 Q (F0 m 58 ls [.int k_17, .ref a_q1]) := by
              clear h
              intro k_17 h H locs ls hP hD hS hl
              rw [ej58_18] at h
              replace h := id h
              refine lv_iconst (v := (-1)) hx hb dX12_spotWhite_58 (by decide) ?_
              exact J59_14 k_17 (-1) h _ _ _ hP hD hS (lv_sub hl [0, 1, 2] rfl)
            clear ej58_18
            refine lv_if_ne (tgt := 58) hx hb dX12_spotWhite_41 (by decide) (fun c_19 => ?_) (fun c_19 => ?_)
            · replace h := it_n c_19 h
              exact J58_18 0 h _ _ _ hP hD hS (lv_sub hl [0, 1, 2] rfl)
            · replace h := it_p c_19 h
              refine lv_aload_n hx hb dX12_spotWhite_44 rfl (lv_at hl 0 rfl) ?_
              refine lv_aload_n hx hb dX12_spotWhite_45 rfl (lv_at hl 1 rfl) ?_
              refine lv_iload_n hx hb dX12_spotWhite_46 rfl (lv_at hl 2 rfl) ?_
              obtain ⟨u_20, hu_20, h⟩ := ob_s h
              refine cVi (C := RX12) (As := [.ref a_q1, .int x2_4]) (rest := [.int 0, .ref a_q1]) [(a_m, .inr (12, (.ref a_mP :: .int f_m_pageMany :: .int f_m_balls :: .int f_m_spot :: .int f_m_score :: .int f_m_strokesNow :: .int f_m_fouls :: .int f_m_tablesRead :: .ref a_mk :: .ref a_mw :: .ref a_mc :: .int f_m_potted :: .int f_m_moves :: .int f_m_bounces :: .int f_m_hitFirst :: .int f_m_hitPower :: .int f_m_hitDown :: .int f_m_hitRight :: .int f_m_isFoul :: .ref a_mo :: .ref a_mt :: .int f_m_bestCode :: .int f_m_bestBrings :: .int f_m_plansDone :: .int f_m_safesDone :: .int f_m_seenMany :: .ref a_ms :: .ref a_mb :: .int f_m_seedNow :: .int f_m_keptTable :: .int f_m_keptScore :: .int f_m_keptStrokes :: .int f_m_keptFouls :: .int f_m_keptSeen :: .ref a_mK :: .ref a_mC :: .ref a_mS :: .long f_m_hash :: []))), (a_q1, .inl (xI X, 7, .inl v_q1_5))] hB (c_X12_liesIn X l n a_m a_mP a_mk a_mw a_mc a_mo a_mt a_ms a_mb a_mK a_mC a_mS a_q1 f_m_pageMany f_m_balls f_m_spot f_m_score f_m_strokesNow f_m_fouls f_m_tablesRead f_m_potted f_m_moves f_m_bounces f_m_hitFirst f_m_hitPower f_m_hitDown f_m_hitRight f_m_isFoul f_m_bestCode f_m_bestBrings f_m_plansDone f_m_safesDone f_m_seenMany f_m_seedNow f_m_keptTable f_m_keptScore f_m_keptStrokes f_m_keptFouls f_m_keptSeen f_m_hash v_q1_5 x2_4 u_20 hu_20) wq_5_79 wq_1_14 wq_5_76 wq_5_78 wp_37 hd_X12_liesIn (by decide) hP hD hS hl.1 [0, 1] [] [] rfl (by decide +kernel) rfl rfl rfl (nn := 2) rfl (by decide +kernel) [a_m, a_q1] rfl rfl (q0 := 0) rfl rfl rfl rfl (Nat.le_of_ble_eq_true rfl) dX12_spotWhite_47 ⟨Nat.zero_le _, Nat.zero_le _⟩ (fun H locs hP hD hS => ?_)
              refine lv_iconst (v := (-1)) hx hb dX12_spotWhite_50 (by decide) ?_
              refine lv_icmp_ne (tgt := 58) hx hb dX12_spotWhite_51 (by decide) (fun c_21 => ?_) (fun c_21 => ?_)
              · replace h := it_n c_21 h
                exact J58_18 0 h _ _ _ hP hD hS (lv_sub hl [0, 1, 2] rfl)
              · replace h := it_p c_21 h
                refine lv_iload_n hx hb dX12_spotWhite_54 rfl (lv_at hl 2 rfl) ?_
                refine lv_goto (tgt := 59) hx hb dX12_spotWhite_55 (by decide) ?_
                exact J59_14 0 x2_4 h _ _ _ hP hD hS (lv_sub hl [0, 1, 2] rfl)
    exact L22_go_6 n 0 v_q1_2 h _ _ _ hP hD hS (lv_sub hl [1, 2, 0] rfl)
  clear ej20_3
  refine lv_icmp_ne (tgt := 20) hx hb dX12_spotWhite_10 (by decide) (fun c_22 => ?_) (fun c_22 => ?_)
  · replace h := it_n c_22 h
    exact J20_3 v_q1 h _ _ _ hP hD hS (lv_sub hl [0, 1] rfl)
  · replace h := it_p c_22 h
    refine lv_aload_n hx hb dX12_spotWhite_13 rfl (lv_at hl 1 rfl) ?_
    refine lv_iconst (v := 0) hx hb dX12_spotWhite_14 (by decide) ?_
    refine lv_aload_n hx hb dX12_spotWhite_15 rfl (lv_at hl 0 rfl) ?_
    refine va_get (D := xD X) (ci := 12) (v := .int f_m_spot) (C := RX12) (T := TX12) (N := 38) hx hb hts inX12 hown hK hP 0 rfl rfl 3 (by decide) (hts _ wq_4_110) (fun _ h9 => h9) rfl dX12_spotWhite_16 ?_
    obtain ⟨z_23, h⟩ := gd_s h
    refine va_iast hx hb hK hP hD hS 1 0 rfl rfl (inb_vp z_23) dX12_spotWhite_19 (fun H locs (hP : va_P (xD X) vwCl [(a_m, .inr (12, (.ref a_mP :: .int f_m_pageMany :: .int f_m_balls :: .int f_m_spot :: .int f_m_score :: .int f_m_strokesNow :: .int f_m_fouls :: .int f_m_tablesRead :: .ref a_mk :: .ref a_mw :: .ref a_mc :: .int f_m_potted :: .int f_m_moves :: .int f_m_bounces :: .int f_m_hitFirst :: .int f_m_hitPower :: .int f_m_hitDown :: .int f_m_hitRight :: .int f_m_isFoul :: .ref a_mo :: .ref a_mt :: .int f_m_bestCode :: .int f_m_bestBrings :: .int f_m_plansDone :: .int f_m_safesDone :: .int f_m_seenMany :: .ref a_ms :: .ref a_mb :: .int f_m_seedNow :: .int f_m_keptTable :: .int f_m_keptScore :: .int f_m_keptStrokes :: .int f_m_keptFouls :: .int f_m_keptSeen :: .ref a_mK :: .ref a_mC :: .ref a_mS :: .long f_m_hash :: []))), (a_q1, .inl (xI X, 7, .inl (upd v_q1 (0 : Int32).toNatClampNeg f_m_spot)))] H) (hD : va_D A [(a_m, .inr (12, (.ref a_mP :: .int f_m_pageMany :: .int f_m_balls :: .int f_m_spot :: .int f_m_score :: .int f_m_strokesNow :: .int f_m_fouls :: .int f_m_tablesRead :: .ref a_mk :: .ref a_mw :: .ref a_mc :: .int f_m_potted :: .int f_m_moves :: .int f_m_bounces :: .int f_m_hitFirst :: .int f_m_hitPower :: .int f_m_hitDown :: .int f_m_hitRight :: .int f_m_isFoul :: .ref a_mo :: .ref a_mt :: .int f_m_bestCode :: .int f_m_bestBrings :: .int f_m_plansDone :: .int f_m_safesDone :: .int f_m_seenMany :: .ref a_ms :: .ref a_mb :: .int f_m_seedNow :: .int f_m_keptTable :: .int f_m_keptScore :: .int f_m_keptStrokes :: .int f_m_keptFouls :: .int f_m_keptSeen :: .ref a_mK :: .ref a_mC :: .ref a_mS :: .long f_m_hash :: []))), (a_q1, .inl (xI X, 7, .inl (upd v_q1 (0 : Int32).toNatClampNeg f_m_spot)))]) hS => ?_)
    exact J20_3 (upd v_q1 (0 : Int32).toNatClampNeg f_m_spot) h _ _ _ hP hD hS (lv_sub hl [0, 1] rfl)


def f_X12_downBy (p0 : Int32) : Option (Int32) :=
  (jn ((some (-1))) (fun (j15_1 : Option (Int32)) => (if p0 = 0 then j15_1 else (if p0 = 1 then j15_1 else (if p0 = 7 then j15_1 else (jn ((some 0)) (fun (j30_5 : Option (Int32)) => (if p0 = 2 then j30_5 else (if p0 = 6 then j30_5 else (some 1))))))))))
theorem hd_X12_downBy : yX12_downBy.cls ≠ "java/lang/invoke/MethodHandle" ∧ yX12_downBy.cls ≠ "java/lang/invoke/VarHandle" ∧ (parseMethodDescriptor yX12_downBy.desc).map (fun d => d.parameters.length) = some 1 := ⟨by decide +kernel, by decide +kernel, by decide +kernel⟩
set_option maxHeartbeats 4000000 in
set_option maxRecDepth 100000 in
theorem c_X12_downBy (X : CXp) (l : Launch) (p0 : Int32) (res : Int32) (h : f_X12_downBy p0 = some res) : CTg X l yX12_downBy cX12_downBy 1 (some .int) 0 0 [.int p0] [] (QcI X res []) := by
  refine CTg.mk (own := RX12) (by decide) rfl (Nat.le_of_ble_eq_true rfl) ?_
  intro p e s m args below meth c A hB hP hD hS ls hl
  obtain ⟨hx, hb, hr, hml, hown, hts, hlocks, hcx, hA, hAB⟩ := id hB
  have hK := hcx.1
  generalize hQ : MQ below (QcI X res [] A) args s 0 0 A = Q
  replace hl : lv_has ls 1 [(0, .int p0)] := hl
  unfold f_X12_downBy at h
  refine lv_iload_n hx hb dX12_downBy_0 rfl (lv_at hl 0 rfl) ?_
  obtain ⟨j15_1, ej15_1, h⟩ := jn_s h
  have J15_1 : j15_1 = some res → ∀ (H : Heap) (locs : List Loc) (ls : Array Slot), va_P (xD X) vwCl [] H → va_D A [] → va_S A s.heap H locs → lv_has ls 1 [] → W p l e (rmF 0 0) s m args below meth c H locs 0 0 Q (F0 m 15 ls []) := by
    clear h
    intro h H locs ls hP hD hS hl
    rw [ej15_1] at h
    refine lv_iconst (v := (-1)) hx hb dX12_downBy_15 (by decide) ?_
    refine lv_goto (tgt := 35) hx hb dX12_downBy_16 (by decide) ?_
    obtain rfl := Option.some.inj h
    rw [← hQ]
    exact retI hB hS hP dX12_downBy_35
  clear ej15_1
  refine lv_if_eq (tgt := 15) hx hb dX12_downBy_1 (by decide) (fun c_2 => ?_) (fun c_2 => ?_)
  · replace h := it_p c_2 h
    exact J15_1 h _ _ _ hP hD hS (lv_sub hl [] rfl)
  · replace h := it_n c_2 h
    refine lv_iload_n hx hb dX12_downBy_4 rfl (lv_at hl 0 rfl) ?_
    refine lv_iconst (v := 1) hx hb dX12_downBy_5 (by decide) ?_
    refine lv_icmp_eq (tgt := 15) hx hb dX12_downBy_6 (by decide) (fun c_3 => ?_) (fun c_3 => ?_)
    · replace h := it_p c_3 h
      exact J15_1 h _ _ _ hP hD hS (lv_sub hl [] rfl)
    · replace h := it_n c_3 h
      refine lv_iload_n hx hb dX12_downBy_9 rfl (lv_at hl 0 rfl) ?_
      refine lv_bipush (v := 7) hx hb dX12_downBy_10 (by decide) ?_
      refine lv_icmp_ne (tgt := 19) hx hb dX12_downBy_12 (by decide) (fun c_4 => ?_) (fun c_4 => ?_)
      · replace h := it_n c_4 h
        refine lv_iload_n hx hb dX12_downBy_19 rfl (lv_at hl 0 rfl) ?_
        refine lv_iconst (v := 2) hx hb dX12_downBy_20 (by decide) ?_
        obtain ⟨j30_5, ej30_5, h⟩ := jn_s h
        have J30_5 : j30_5 = some res → ∀ (H : Heap) (locs : List Loc) (ls : Array Slot), va_P (xD X) vwCl [] H → va_D A [] → va_S A s.heap H locs → lv_has ls 1 [] → W p l e (rmF 0 0) s m args below meth c H locs 0 0 Q (F0 m 30 ls []) := by
          clear h
          intro h H locs ls hP hD hS hl
          rw [ej30_5] at h
          refine lv_iconst (v := 0) hx hb dX12_downBy_30 (by decide) ?_
          refine lv_goto (tgt := 35) hx hb dX12_downBy_31 (by decide) ?_
          obtain rfl := Option.some.inj h
          rw [← hQ]
          exact retI hB hS hP dX12_downBy_35
        clear ej30_5
        refine lv_icmp_eq (tgt := 30) hx hb dX12_downBy_21 (by decide) (fun c_6 => ?_) (fun c_6 => ?_)
        · replace h := it_p c_6 h
          exact J30_5 h _ _ _ hP hD hS (lv_sub hl [] rfl)
        · replace h := it_n c_6 h
          refine lv_iload_n hx hb dX12_downBy_24 rfl (lv_at hl 0 rfl) ?_
          refine lv_bipush (v := 6) hx hb dX12_downBy_25 (by decide) ?_
          refine lv_icmp_ne (tgt := 34) hx hb dX12_downBy_27 (by decide) (fun c_7 => ?_) (fun c_7 => ?_)
          · replace h := it_n c_7 h
            refine lv_iconst (v := 1) hx hb dX12_downBy_34 (by decide) ?_
            obtain rfl := Option.some.inj h
            rw [← hQ]
            exact retI hB hS hP dX12_downBy_35
          · replace h := it_p c_7 h
            exact J30_5 h _ _ _ hP hD hS (lv_sub hl [] rfl)
      · replace h := it_p c_4 h
        exact J15_1 h _ _ _ hP hD hS (lv_sub hl [] rfl)


def f_X12_rightBy (p0 : Int32) : Option (Int32) :=
  (jn ((some 0)) (fun (j9_1 : Option (Int32)) => (if p0 = 0 then j9_1 else (if p0 = 4 then j9_1 else (if 4 ≤ p0 then (some (-1)) else (some 1))))))
theorem hd_X12_rightBy : yX12_rightBy.cls ≠ "java/lang/invoke/MethodHandle" ∧ yX12_rightBy.cls ≠ "java/lang/invoke/VarHandle" ∧ (parseMethodDescriptor yX12_rightBy.desc).map (fun d => d.parameters.length) = some 1 := ⟨by decide +kernel, by decide +kernel, by decide +kernel⟩
set_option maxHeartbeats 4000000 in
set_option maxRecDepth 100000 in
theorem c_X12_rightBy (X : CXp) (l : Launch) (p0 : Int32) (res : Int32) (h : f_X12_rightBy p0 = some res) : CTg X l yX12_rightBy cX12_rightBy 1 (some .int) 0 0 [.int p0] [] (QcI X res []) := by
  refine CTg.mk (own := RX12) (by decide) rfl (Nat.le_of_ble_eq_true rfl) ?_
  intro p e s m args below meth c A hB hP hD hS ls hl
  obtain ⟨hx, hb, hr, hml, hown, hts, hlocks, hcx, hA, hAB⟩ := id hB
  have hK := hcx.1
  generalize hQ : MQ below (QcI X res [] A) args s 0 0 A = Q
  replace hl : lv_has ls 1 [(0, .int p0)] := hl
  unfold f_X12_rightBy at h
  refine lv_iload_n hx hb dX12_rightBy_0 rfl (lv_at hl 0 rfl) ?_
  obtain ⟨j9_1, ej9_1, h⟩ := jn_s h
  have J9_1 : j9_1 = some res → ∀ (H : Heap) (locs : List Loc) (ls : Array Slot), va_P (xD X) vwCl [] H → va_D A [] → va_S A s.heap H locs → lv_has ls 1 [] → W p l e (rmF 0 0) s m args below meth c H locs 0 0 Q (F0 m 9 ls []) := by
    clear h
    intro h H locs ls hP hD hS hl
    rw [ej9_1] at h
    refine lv_iconst (v := 0) hx hb dX12_rightBy_9 (by decide) ?_
    refine lv_goto (tgt := 23) hx hb dX12_rightBy_10 (by decide) ?_
    obtain rfl := Option.some.inj h
    rw [← hQ]
    exact retI hB hS hP dX12_rightBy_23
  clear ej9_1
  refine lv_if_eq (tgt := 9) hx hb dX12_rightBy_1 (by decide) (fun c_2 => ?_) (fun c_2 => ?_)
  · replace h := it_p c_2 h
    exact J9_1 h _ _ _ hP hD hS (lv_sub hl [] rfl)
  · replace h := it_n c_2 h
    refine lv_iload_n hx hb dX12_rightBy_4 rfl (lv_at hl 0 rfl) ?_
    refine lv_iconst (v := 4) hx hb dX12_rightBy_5 (by decide) ?_
    refine lv_icmp_ne (tgt := 13) hx hb dX12_rightBy_6 (by decide) (fun c_3 => ?_) (fun c_3 => ?_)
    · replace h := it_n c_3 h
      refine lv_iload_n hx hb dX12_rightBy_13 rfl (lv_at hl 0 rfl) ?_
      refine lv_iconst (v := 4) hx hb dX12_rightBy_14 (by decide) ?_
      refine lv_icmp_ge (tgt := 22) hx hb dX12_rightBy_15 (by decide) (fun c_4 => ?_) (fun c_4 => ?_)
      · replace h := it_p c_4 h
        refine lv_iconst (v := (-1)) hx hb dX12_rightBy_22 (by decide) ?_
        obtain rfl := Option.some.inj h
        rw [← hQ]
        exact retI hB hS hP dX12_rightBy_23
      · replace h := it_n c_4 h
        refine lv_iconst (v := 1) hx hb dX12_rightBy_18 (by decide) ?_
        refine lv_goto (tgt := 23) hx hb dX12_rightBy_19 (by decide) ?_
        obtain rfl := Option.some.inj h
        rw [← hQ]
        exact retI hB hS hP dX12_rightBy_23
    · replace h := it_p c_3 h
      exact J9_1 h _ _ _ hP hD hS (lv_sub hl [] rfl)


def f_X12_in (p0 : Int64) (p2 : Int64) (p4 : Int64) : Option (Int32) :=
  (jn ((some 0)) (fun (j17_1 : Option (Int32)) => (if (lg_cmp p0 p2) < 0 then j17_1 else (if 0 < (lg_cmp p0 p4) then j17_1 else (some 1)))))
theorem hd_X12_in : yX12_in.cls ≠ "java/lang/invoke/MethodHandle" ∧ yX12_in.cls ≠ "java/lang/invoke/VarHandle" ∧ (parseMethodDescriptor yX12_in.desc).map (fun d => d.parameters.length) = some 3 := ⟨by decide +kernel, by decide +kernel, by decide +kernel⟩
set_option maxHeartbeats 4000000 in
set_option maxRecDepth 100000 in
theorem c_X12_in (X : CXp) (l : Launch) (p0 : Int64) (p2 : Int64) (p4 : Int64) (res : Int32) (h : f_X12_in p0 p2 p4 = some res) : CTg X l yX12_in cX12_in 6 (some .boolean) 0 0 [.long p0, .long p2, .long p4] [] (QcI X res []) := by
  refine CTg.mk (own := RX12) (by decide) rfl (Nat.le_of_ble_eq_true rfl) ?_
  intro p e s m args below meth c A hB hP hD hS ls hl
  obtain ⟨hx, hb, hr, hml, hown, hts, hlocks, hcx, hA, hAB⟩ := id hB
  have hK := hcx.1
  generalize hQ : MQ below (QcI X res [] A) args s 0 0 A = Q
  replace hl : lv_has ls 6 [(0, .long p0), (2, .long p2), (4, .long p4)] := hl
  unfold f_X12_in at h
  refine lv_lload_n hx hb dX12_in_0 rfl (lv_at hl 0 rfl) ?_
  refine lv_lload_n hx hb dX12_in_1 rfl (lv_at hl 1 rfl) ?_
  refine W.lcmp hx hb dX12_in_2 ?_
  obtain ⟨j17_1, ej17_1, h⟩ := jn_s h
  have J17_1 : j17_1 = some res → ∀ (H : Heap) (locs : List Loc) (ls : Array Slot), va_P (xD X) vwCl [] H → va_D A [] → va_S A s.heap H locs → lv_has ls 6 [] → W p l e (rmF 0 0) s m args below meth c H locs 0 0 Q (F0 m 17 ls []) := by
    clear h
    intro h H locs ls hP hD hS hl
    rw [ej17_1] at h
    refine lv_iconst (v := 0) hx hb dX12_in_17 (by decide) ?_
    obtain rfl := Option.some.inj h
    rw [← hQ]
    exact retZ (r := 0) hB rfl hS hP dX12_in_18
  clear ej17_1
  refine lv_if_lt (tgt := 17) hx hb dX12_in_3 (by decide) (fun c_2 => ?_) (fun c_2 => ?_)
  · replace h := it_p c_2 h
    exact J17_1 h _ _ _ hP hD hS (lv_sub hl [] rfl)
  · replace h := it_n c_2 h
    refine lv_lload_n hx hb dX12_in_6 rfl (lv_at hl 0 rfl) ?_
    refine lv_lload hx hb dX12_in_7 (lv_at hl 2 rfl) ?_
    refine W.lcmp hx hb dX12_in_9 ?_
    refine lv_if_gt (tgt := 17) hx hb dX12_in_10 (by decide) (fun c_3 => ?_) (fun c_3 => ?_)
    · replace h := it_p c_3 h
      exact J17_1 h _ _ _ hP hD hS (lv_sub hl [] rfl)
    · replace h := it_n c_3 h
      refine lv_iconst (v := 1) hx hb dX12_in_13 (by decide) ?_
      refine lv_goto (tgt := 18) hx hb dX12_in_14 (by decide) ?_
      obtain rfl := Option.some.inj h
      rw [← hQ]
      exact retZ (r := 1) hB rfl hS hP dX12_in_18


def f_X12_rollsBy (p0 : Int32) (p1 : Int32) : Option (Int32) :=
  (if p0 = 1 then (some (p1 / 2)) else (if p0 = 4 then (some (p1 / 4)) else (if p0 = 2 then (some (p1 + 1)) else (some p1))))
theorem hd_X12_rollsBy : yX12_rollsBy.cls ≠ "java/lang/invoke/MethodHandle" ∧ yX12_rollsBy.cls ≠ "java/lang/invoke/VarHandle" ∧ (parseMethodDescriptor yX12_rollsBy.desc).map (fun d => d.parameters.length) = some 2 := ⟨by decide +kernel, by decide +kernel, by decide +kernel⟩
set_option maxHeartbeats 4000000 in
set_option maxRecDepth 100000 in
theorem c_X12_rollsBy (X : CXp) (l : Launch) (p0 : Int32) (p1 : Int32) (res : Int32) (h : f_X12_rollsBy p0 p1 = some res) : CTg X l yX12_rollsBy cX12_rollsBy 2 (some .int) 0 0 [.int p0, .int p1] [] (QcI X res []) := by
  refine CTg.mk (own := RX12) (by decide) rfl (Nat.le_of_ble_eq_true rfl) ?_
  intro p e s m args below meth c A hB hP hD hS ls hl
  obtain ⟨hx, hb, hr, hml, hown, hts, hlocks, hcx, hA, hAB⟩ := id hB
  have hK := hcx.1
  generalize hQ : MQ below (QcI X res [] A) args s 0 0 A = Q
  replace hl : lv_has ls 2 [(0, .int p0), (1, .int p1)] := hl
  unfold f_X12_rollsBy at h
  refine lv_iload_n hx hb dX12_rollsBy_0 rfl (lv_at hl 0 rfl) ?_
  refine lv_iconst (v := 1) hx hb dX12_rollsBy_1 (by decide) ?_
  refine lv_icmp_ne (tgt := 11) hx hb dX12_rollsBy_2 (by decide) (fun c_1 => ?_) (fun c_1 => ?_)
  · replace h := it_n c_1 h
    refine lv_iload_n hx hb dX12_rollsBy_11 rfl (lv_at hl 0 rfl) ?_
    refine lv_iconst (v := 4) hx hb dX12_rollsBy_12 (by decide) ?_
    refine lv_icmp_ne (tgt := 22) hx hb dX12_rollsBy_13 (by decide) (fun c_2 => ?_) (fun c_2 => ?_)
    · replace h := it_n c_2 h
      refine lv_iload_n hx hb dX12_rollsBy_22 rfl (lv_at hl 0 rfl) ?_
      refine lv_iconst (v := 2) hx hb dX12_rollsBy_23 (by decide) ?_
      refine lv_icmp_ne (tgt := 33) hx hb dX12_rollsBy_24 (by decide) (fun c_3 => ?_) (fun c_3 => ?_)
      · replace h := it_n c_3 h
        refine lv_iload_n hx hb dX12_rollsBy_33 rfl (lv_at hl 1 rfl) ?_
        obtain rfl := Option.some.inj h
        rw [← hQ]
        exact retI hB hS hP dX12_rollsBy_34
      · replace h := it_p c_3 h
        refine lv_iload_n hx hb dX12_rollsBy_27 rfl (lv_at hl 1 rfl) ?_
        refine lv_iconst (v := 1) hx hb dX12_rollsBy_28 (by decide) ?_
        refine lv_iadd hx hb dX12_rollsBy_29 ?_
        refine lv_goto (tgt := 34) hx hb dX12_rollsBy_30 (by decide) ?_
        obtain rfl := Option.some.inj h
        rw [← hQ]
        exact retI hB hS hP dX12_rollsBy_34
    · replace h := it_p c_2 h
      refine lv_iload_n hx hb dX12_rollsBy_16 rfl (lv_at hl 1 rfl) ?_
      refine lv_iconst (v := 4) hx hb dX12_rollsBy_17 (by decide) ?_
      refine lv_idiv hx hb dX12_rollsBy_18 (by decide) ?_
      refine lv_goto (tgt := 34) hx hb dX12_rollsBy_19 (by decide) ?_
      obtain rfl := Option.some.inj h
      rw [← hQ]
      exact retI hB hS hP dX12_rollsBy_34
  · replace h := it_p c_1 h
    refine lv_iload_n hx hb dX12_rollsBy_5 rfl (lv_at hl 1 rfl) ?_
    refine lv_iconst (v := 2) hx hb dX12_rollsBy_6 (by decide) ?_
    refine lv_idiv hx hb dX12_rollsBy_7 (by decide) ?_
    refine lv_goto (tgt := 34) hx hb dX12_rollsBy_8 (by decide) ?_
    obtain rfl := Option.some.inj h
    rw [← hQ]
    exact retI hB hS hP dX12_rollsBy_34


def b_X12_roll_L14 (f_m_balls : Int32) (v_mk : Nat → Int32) (n : Nat) (go_13 : Int32 → Int32 → Int32 → Int32 → Int32 → Int32 → Int32 → Int32 → Int32 → Int32 → Int32 → (Nat → Int32) → Option (Int32 × Int32 × Int32 × Int32 × Int32 × Int32 × Int32 × (Nat → Int32))) (x6_1 : Int32) (x7_2 : Int32) (x8_3 : Int32) (x9_4 : Int32) (f_m_potted_5 : Int32) (f_m_moves_6 : Int32) (f_m_bounces_7 : Int32) (f_m_hitFirst_8 : Int32) (f_m_hitPower_9 : Int32) (f_m_hitDown_10 : Int32) (f_m_hitRight_11 : Int32) (v_q1_12 : Nat → Int32) : Option (Int32 × Int32 × Int32 × Int32 × Int32 × Int32 × Int32 × (Nat → Int32)) :=
  (if x9_4 ≤ 0 then (some (f_m_potted_5, f_m_moves_6, f_m_bounces_7, f_m_hitFirst_8, f_m_hitPower_9, f_m_hitDown_10, f_m_hitRight_11, v_q1_12)) else (gd (inb x6_1 7) (bnd (((v_q1_12 x6_1.toNatClampNeg) / 9) + x7_2) (fun x10_17 => (gd (inb x6_1 7) (bnd (((v_q1_12 x6_1.toNatClampNeg) - (v_q1_12 x6_1.toNatClampNeg) / 9 * 9) + x8_3) (fun x11_19 => ((f_X12_in x10_17.toInt64 0 4).bind (fun u_20 => (jn (fun (k_21 : Int32) => ((f_X12_in x11_19.toInt64 0 8).bind (fun u_23 => (jn (fun (k_24 : Int32) => (jn (fun (k_26 : Int32) => (jn (fun (k_28 : Int32) => (jn (fun (x6_30 : Int32) (x7_31 : Int32) (x8_32 : Int32) (x9_33 : Int32) (f_m_potted_34 : Int32) (f_m_moves_35 : Int32) (f_m_bounces_36 : Int32) (f_m_hitFirst_37 : Int32) (f_m_hitPower_38 : Int32) (f_m_hitDown_39 : Int32) (f_m_hitRight_40 : Int32) (v_q1_41 : Nat → Int32) => (go_13 x6_30 x7_31 x8_32 x9_33 f_m_potted_34 f_m_moves_35 f_m_bounces_36 f_m_hitFirst_37 f_m_hitPower_38 f_m_hitDown_39 f_m_hitRight_40 v_q1_41)) (fun (j317_42 : Int32 → Int32 → Int32 → Int32 → Int32 → Int32 → Int32 → Int32 → Int32 → Int32 → Int32 → (Nat → Int32) → Option (Int32 × Int32 × Int32 × Int32 × Int32 × Int32 × Int32 × (Nat → Int32))) => (jn ((if k_26 = (-1) then (jn (fun (k_60 : Int32) => (jn (fun (k_62 : Int32) => (bnd (x9_4 + (-1)) (fun x9_64 => (j317_42 x6_1 k_60 k_62 x9_64 f_m_potted_5 f_m_moves_6 (f_m_bounces_7 + 1) f_m_hitFirst_8 f_m_hitPower_9 f_m_hitDown_10 f_m_hitRight_11 v_q1_12)))) (fun (j183_63 : Int32 → Option (Int32 × Int32 × Int32 × Int32 × Int32 × Int32 × Int32 × (Nat → Int32))) => (if k_24 = 0 then (j183_63 x8_3) else (j183_63 (-x8_3)))))) (fun (j168_61 : Int32 → Option (Int32 × Int32 × Int32 × Int32 × Int32 × Int32 × Int32 × (Nat → Int32))) => (if k_21 = 0 then (j168_61 x7_2) else (j168_61 (-x7_2))))) else (if k_28 = (-1) then (gd (inb x6_1 7) (bnd (x9_4 + (-1)) (fun x9_47 => ((f_X12_isPocket k_26).bind (fun u_48 => (if u_48 = 0 then (j317_42 x6_1 x7_2 x8_3 x9_47 f_m_potted_5 (f_m_moves_6 + 1) f_m_bounces_7 f_m_hitFirst_8 f_m_hitPower_9 f_m_hitDown_10 f_m_hitRight_11 (upd v_q1_12 x6_1.toNatClampNeg k_26)) else (gd (inb x6_1 7) (j317_42 x6_1 x7_2 x8_3 0 (f_m_potted_5 ||| (1 <<< (x6_1 &&& 31))) (f_m_moves_6 + 1) f_m_bounces_7 f_m_hitFirst_8 f_m_hitPower_9 f_m_hitDown_10 f_m_hitRight_11 (upd (upd v_q1_12 x6_1.toNatClampNeg k_26) x6_1.toNatClampNeg (-1)))))))))) else (jn (fun (f_m_hitFirst_51 : Int32) (f_m_hitPower_52 : Int32) (f_m_hitDown_53 : Int32) (f_m_hitRight_54 : Int32) => (gd (inb k_28 7) ((f_X12_rollsBy (v_mk k_28.toNatClampNeg) (x9_4 - 1)).bind (fun u_57 => (j317_42 k_28 x7_2 x8_3 u_57 f_m_potted_5 f_m_moves_6 f_m_bounces_7 f_m_hitFirst_51 f_m_hitPower_52 f_m_hitDown_53 f_m_hitRight_54 v_q1_12))))) (fun (j246_55 : Int32 → Int32 → Int32 → Int32 → Option (Int32 × Int32 × Int32 × Int32 × Int32 × Int32 × Int32 × (Nat → Int32))) => (if x6_1 = 0 then (if f_m_hitFirst_8 = (-1) then (j246_55 k_28 (x9_4 - 1) x7_2 x8_3) else (j246_55 f_m_hitFirst_8 f_m_hitPower_9 f_m_hitDown_10 f_m_hitRight_11)) else (j246_55 f_m_hitFirst_8 f_m_hitPower_9 f_m_hitDown_10 f_m_hitRight_11))))))) (fun (j149_43 : Option (Int32 × Int32 × Int32 × Int32 × Int32 × Int32 × Int32 × (Nat → Int32))) => (if k_26 = (-1) then (gd (inb x6_1 7) (if (v_mk x6_1.toNatClampNeg) = 3 then (j317_42 x6_1 x7_2 x8_3 0 f_m_potted_5 f_m_moves_6 f_m_bounces_7 f_m_hitFirst_8 f_m_hitPower_9 f_m_hitDown_10 f_m_hitRight_11 v_q1_12) else j149_43)) else j149_43)))))) (fun (j124_29 : Int32 → Option (Int32 × Int32 × Int32 × Int32 × Int32 × Int32 × Int32 × (Nat → Int32))) => (if k_26 = (-1) then (j124_29 (-1)) else ((f_X12_liesIn n f_m_balls v_q1_12 k_26).bind (fun u_71 => (j124_29 u_71))))))) (fun (j105_27 : Int32 → Option (Int32 × Int32 × Int32 × Int32 × Int32 × Int32 × Int32 × (Nat → Int32))) => (jn ((j105_27 (-1))) (fun (j93_72 : Option (Int32 × Int32 × Int32 × Int32 × Int32 × Int32 × Int32 × (Nat → Int32))) => (if k_21 = 0 then (if k_24 = 0 then (j105_27 ((9 * x10_17) + x11_19)) else j93_72) else j93_72)))))) (fun (j81_25 : Int32 → Option (Int32 × Int32 × Int32 × Int32 × Int32 × Int32 × Int32 × (Nat → Int32))) => (if u_23 = 0 then (j81_25 1) else (j81_25 0))))))) (fun (j61_22 : Int32 → Option (Int32 × Int32 × Int32 × Int32 × Int32 × Int32 × Int32 × (Nat → Int32))) => (if u_20 = 0 then (j61_22 1) else (j61_22 0)))))))))))))
def f_X12_roll_L14 (f_m_balls : Int32) (v_mk : Nat → Int32) (n : Nat) (k : Nat) (x6_1 : Int32) (x7_2 : Int32) (x8_3 : Int32) (x9_4 : Int32) (f_m_potted_5 : Int32) (f_m_moves_6 : Int32) (f_m_bounces_7 : Int32) (f_m_hitFirst_8 : Int32) (f_m_hitPower_9 : Int32) (f_m_hitDown_10 : Int32) (f_m_hitRight_11 : Int32) (v_q1_12 : Nat → Int32) : Option (Int32 × Int32 × Int32 × Int32 × Int32 × Int32 × Int32 × (Nat → Int32)) :=
  lpF (fun (self : (Int32 × Int32 × Int32 × Int32 × Int32 × Int32 × Int32 × Int32 × Int32 × Int32 × Int32 × (Nat → Int32)) → Option (Int32 × Int32 × Int32 × Int32 × Int32 × Int32 × Int32 × (Nat → Int32))) (a : Int32 × Int32 × Int32 × Int32 × Int32 × Int32 × Int32 × Int32 × Int32 × Int32 × Int32 × (Nat → Int32)) => b_X12_roll_L14 f_m_balls v_mk n (fun x6_1 x7_2 x8_3 x9_4 f_m_potted_5 f_m_moves_6 f_m_bounces_7 f_m_hitFirst_8 f_m_hitPower_9 f_m_hitDown_10 f_m_hitRight_11 v_q1_12 => self (x6_1, x7_2, x8_3, x9_4, f_m_potted_5, f_m_moves_6, f_m_bounces_7, f_m_hitFirst_8, f_m_hitPower_9, f_m_hitDown_10, f_m_hitRight_11, v_q1_12)) a.1 a.2.1 a.2.2.1 a.2.2.2.1 a.2.2.2.2.1 a.2.2.2.2.2.1 a.2.2.2.2.2.2.1 a.2.2.2.2.2.2.2.1 a.2.2.2.2.2.2.2.2.1 a.2.2.2.2.2.2.2.2.2.1 a.2.2.2.2.2.2.2.2.2.2.1 a.2.2.2.2.2.2.2.2.2.2.2) k (x6_1, x7_2, x8_3, x9_4, f_m_potted_5, f_m_moves_6, f_m_bounces_7, f_m_hitFirst_8, f_m_hitPower_9, f_m_hitDown_10, f_m_hitRight_11, v_q1_12)
def f_X12_roll (n : Nat) (f_m_balls : Int32) (f_m_potted : Int32) (f_m_moves : Int32) (f_m_bounces : Int32) (f_m_hitFirst : Int32) (f_m_hitPower : Int32) (f_m_hitDown : Int32) (f_m_hitRight : Int32) (v_mk : Nat → Int32) (v_q1 : Nat → Int32) (p2 : Int32) (p3 : Int32) (p4 : Int32) (p5 : Int32) : Option (Int32 × Int32 × Int32 × Int32 × Int32 × Int32 × Int32 × (Nat → Int32)) :=
  (f_X12_roll_L14 f_m_balls v_mk n n p2 p3 p4 p5 f_m_potted f_m_moves f_m_bounces f_m_hitFirst f_m_hitPower f_m_hitDown f_m_hitRight v_q1)
theorem hd_X12_roll : yX12_roll.cls ≠ "java/lang/invoke/MethodHandle" ∧ yX12_roll.cls ≠ "java/lang/invoke/VarHandle" ∧ (parseMethodDescriptor yX12_roll.desc).map (fun d => d.parameters.length) = some 5 := ⟨by decide +kernel, by decide +kernel, by decide +kernel⟩
set_option maxHeartbeats 4000000 in
set_option maxRecDepth 100000 in
theorem c_X12_roll (X : CXp) (l : Launch) (n : Nat) (a_m a_mP a_mk a_mw a_mc a_mo a_mt a_ms a_mb a_mK a_mC a_mS a_q1 : Nat) (f_m_pageMany : Int32) (f_m_balls : Int32) (f_m_spot : Int32) (f_m_score : Int32) (f_m_strokesNow : Int32) (f_m_fouls : Int32) (f_m_tablesRead : Int32) (f_m_potted : Int32) (f_m_moves : Int32) (f_m_bounces : Int32) (f_m_hitFirst : Int32) (f_m_hitPower : Int32) (f_m_hitDown : Int32) (f_m_hitRight : Int32) (f_m_isFoul : Int32) (f_m_bestCode : Int32) (f_m_bestBrings : Int32) (f_m_plansDone : Int32) (f_m_safesDone : Int32) (f_m_seenMany : Int32) (f_m_seedNow : Int32) (f_m_keptTable : Int32) (f_m_keptScore : Int32) (f_m_keptStrokes : Int32) (f_m_keptFouls : Int32) (f_m_keptSeen : Int32) (f_m_hash : Int64) (v_mk : Nat → Int32) (v_q1 : Nat → Int32) (p2 : Int32) (p3 : Int32) (p4 : Int32) (p5 : Int32) (res : Int32 × Int32 × Int32 × Int32 × Int32 × Int32 × Int32 × (Nat → Int32)) (h : f_X12_roll n f_m_balls f_m_potted f_m_moves f_m_bounces f_m_hitFirst f_m_hitPower f_m_hitDown f_m_hitRight v_mk v_q1 p2 p3 p4 p5 = some res) : CTg X l yX12_roll cX12_roll 16 none 2 44 [.ref a_m, .ref a_q1, .int p2, .int p3, .int p4, .int p5] [(a_m, .inr (12, (.ref a_mP :: .int f_m_pageMany :: .int f_m_balls :: .int f_m_spot :: .int f_m_score :: .int f_m_strokesNow :: .int f_m_fouls :: .int f_m_tablesRead :: .ref a_mk :: .ref a_mw :: .ref a_mc :: .int f_m_potted :: .int f_m_moves :: .int f_m_bounces :: .int f_m_hitFirst :: .int f_m_hitPower :: .int f_m_hitDown :: .int f_m_hitRight :: .int f_m_isFoul :: .ref a_mo :: .ref a_mt :: .int f_m_bestCode :: .int f_m_bestBrings :: .int f_m_plansDone :: .int f_m_safesDone :: .int f_m_seenMany :: .ref a_ms :: .ref a_mb :: .int f_m_seedNow :: .int f_m_keptTable :: .int f_m_keptScore :: .int f_m_keptStrokes :: .int f_m_keptFouls :: .int f_m_keptSeen :: .ref a_mK :: .ref a_mC :: .ref a_mS :: .long f_m_hash :: []))), (a_mk, .inl (xI X, 7, .inl v_mk)), (a_q1, .inl (xI X, 7, .inl v_q1))] (QcV X [(a_m, .inr (12, (.ref a_mP :: .int f_m_pageMany :: .int f_m_balls :: .int f_m_spot :: .int f_m_score :: .int f_m_strokesNow :: .int f_m_fouls :: .int f_m_tablesRead :: .ref a_mk :: .ref a_mw :: .ref a_mc :: .int res.1 :: .int res.2.1 :: .int res.2.2.1 :: .int res.2.2.2.1 :: .int res.2.2.2.2.1 :: .int res.2.2.2.2.2.1 :: .int res.2.2.2.2.2.2.1 :: .int f_m_isFoul :: .ref a_mo :: .ref a_mt :: .int f_m_bestCode :: .int f_m_bestBrings :: .int f_m_plansDone :: .int f_m_safesDone :: .int f_m_seenMany :: .ref a_ms :: .ref a_mb :: .int f_m_seedNow :: .int f_m_keptTable :: .int f_m_keptScore :: .int f_m_keptStrokes :: .int f_m_keptFouls :: .int f_m_keptSeen :: .ref a_mK :: .ref a_mC :: .ref a_mS :: .long f_m_hash :: []))), (a_mk, .inl (xI X, 7, .inl v_mk)), (a_q1, .inl (xI X, 7, .inl res.2.2.2.2.2.2.2))]) := by
  refine CTg.mk (own := RX12) (by decide) rfl (Nat.le_of_ble_eq_true rfl) ?_
  intro p e s m args below meth c A hB hP hD hS ls hl
  obtain ⟨hx, hb, hr, hml, hown, hts, hlocks, hcx, hA, hAB⟩ := id hB
  have hK := hcx.1
  generalize hQ : MQ below (QcV X [(a_m, .inr (12, (.ref a_mP :: .int f_m_pageMany :: .int f_m_balls :: .int f_m_spot :: .int f_m_score :: .int f_m_strokesNow :: .int f_m_fouls :: .int f_m_tablesRead :: .ref a_mk :: .ref a_mw :: .ref a_mc :: .int res.1 :: .int res.2.1 :: .int res.2.2.1 :: .int res.2.2.2.1 :: .int res.2.2.2.2.1 :: .int res.2.2.2.2.2.1 :: .int res.2.2.2.2.2.2.1 :: .int f_m_isFoul :: .ref a_mo :: .ref a_mt :: .int f_m_bestCode :: .int f_m_bestBrings :: .int f_m_plansDone :: .int f_m_safesDone :: .int f_m_seenMany :: .ref a_ms :: .ref a_mb :: .int f_m_seedNow :: .int f_m_keptTable :: .int f_m_keptScore :: .int f_m_keptStrokes :: .int f_m_keptFouls :: .int f_m_keptSeen :: .ref a_mK :: .ref a_mC :: .ref a_mS :: .long f_m_hash :: []))), (a_mk, .inl (xI X, 7, .inl v_mk)), (a_q1, .inl (xI X, 7, .inl res.2.2.2.2.2.2.2))] A) args s 0 0 A = Q
  replace hl : lv_has ls 16 [(0, .ref a_m), (1, .ref a_q1), (2, .int p2), (3, .int p3), (4, .int p4), (5, .int p5)] := hl
  unfold f_X12_roll at h
  refine lv_iload_n hx hb dX12_roll_0 rfl (lv_at hl 2 rfl) ?_
  refine lv_istore (lv' := [(6, .int p2), (0, .ref a_m), (1, .ref a_q1), (2, .int p2), (3, .int p3), (4, .int p4), (5, .int p5)]) hx hb dX12_roll_1 hl (by decide) rfl (fun ls hl => ?_)
  refine lv_iload_n hx hb dX12_roll_3 rfl (lv_at hl 4 rfl) ?_
  refine lv_istore (lv' := [(7, .int p3), (6, .int p2), (0, .ref a_m), (1, .ref a_q1), (2, .int p2), (3, .int p3), (4, .int p4), (5, .int p5)]) hx hb dX12_roll_4 hl (by decide) rfl (fun ls hl => ?_)
  refine lv_iload hx hb dX12_roll_6 (lv_at hl 6 rfl) ?_
  refine lv_istore (lv' := [(8, .int p4), (7, .int p3), (6, .int p2), (0, .ref a_m), (1, .ref a_q1), (2, .int p2), (3, .int p3), (4, .int p4), (5, .int p5)]) hx hb dX12_roll_8 hl (by decide) rfl (fun ls hl => ?_)
  refine lv_iload hx hb dX12_roll_10 (lv_at hl 8 rfl) ?_
  refine lv_istore (lv' := [(9, .int p5), (8, .int p4), (7, .int p3), (6, .int p2), (0, .ref a_m), (1, .ref a_q1), (2, .int p2), (3, .int p3), (4, .int p4), (5, .int p5)]) hx hb dX12_roll_12 hl (by decide) rfl (fun ls hl => ?_)
  have L14_go_13 : ∀ (k : Nat), ∀ (x6_1 : Int32) (x7_2 : Int32) (x8_3 : Int32) (x9_4 : Int32) (f_m_potted_5 : Int32) (f_m_moves_6 : Int32) (f_m_bounces_7 : Int32) (f_m_hitFirst_8 : Int32) (f_m_hitPower_9 : Int32) (f_m_hitDown_10 : Int32) (f_m_hitRight_11 : Int32) (v_q1_12 : Nat → Int32), f_X12_roll_L14 f_m_balls v_mk n k x6_1 x7_2 x8_3 x9_4 f_m_potted_5 f_m_moves_6 f_m_bounces_7 f_m_hitFirst_8 f_m_hitPower_9 f_m_hitDown_10 f_m_hitRight_11 v_q1_12 = some res → ∀ (H : Heap) (locs : List Loc) (ls : Array Slot), va_P (xD X) vwCl [(a_m, .inr (12, (.ref a_mP :: .int f_m_pageMany :: .int f_m_balls :: .int f_m_spot :: .int f_m_score :: .int f_m_strokesNow :: .int f_m_fouls :: .int f_m_tablesRead :: .ref a_mk :: .ref a_mw :: .ref a_mc :: .int f_m_potted_5 :: .int f_m_moves_6 :: .int f_m_bounces_7 :: .int f_m_hitFirst_8 :: .int f_m_hitPower_9 :: .int f_m_hitDown_10 :: .int f_m_hitRight_11 :: .int f_m_isFoul :: .ref a_mo :: .ref a_mt :: .int f_m_bestCode :: .int f_m_bestBrings :: .int f_m_plansDone :: .int f_m_safesDone :: .int f_m_seenMany :: .ref a_ms :: .ref a_mb :: .int f_m_seedNow :: .int f_m_keptTable :: .int f_m_keptScore :: .int f_m_keptStrokes :: .int f_m_keptFouls :: .int f_m_keptSeen :: .ref a_mK :: .ref a_mC :: .ref a_mS :: .long f_m_hash :: []))), (a_mk, .inl (xI X, 7, .inl v_mk)), (a_q1, .inl (xI X, 7, .inl v_q1_12))] H → va_D A [(a_m, .inr (12, (.ref a_mP :: .int f_m_pageMany :: .int f_m_balls :: .int f_m_spot :: .int f_m_score :: .int f_m_strokesNow :: .int f_m_fouls :: .int f_m_tablesRead :: .ref a_mk :: .ref a_mw :: .ref a_mc :: .int f_m_potted_5 :: .int f_m_moves_6 :: .int f_m_bounces_7 :: .int f_m_hitFirst_8 :: .int f_m_hitPower_9 :: .int f_m_hitDown_10 :: .int f_m_hitRight_11 :: .int f_m_isFoul :: .ref a_mo :: .ref a_mt :: .int f_m_bestCode :: .int f_m_bestBrings :: .int f_m_plansDone :: .int f_m_safesDone :: .int f_m_seenMany :: .ref a_ms :: .ref a_mb :: .int f_m_seedNow :: .int f_m_keptTable :: .int f_m_keptScore :: .int f_m_keptStrokes :: .int f_m_keptFouls :: .int f_m_keptSeen :: .ref a_mK :: .ref a_mC :: .ref a_mS :: .long f_m_hash :: []))), (a_mk, .inl (xI X, 7, .inl v_mk)), (a_q1, .inl (xI X, 7, .inl v_q1_12))] → va_S A s.heap H locs → lv_has ls 16 [(0, .ref a_m), (1, .ref a_q1), (6, .int x6_1), (7, .int x7_2), (8, .int x8_3), (9, .int x9_4)] → W p l e (rmF 2 44) s m args below meth c H locs 0 0 Q (F0 m 14 ls []) := by
    clear h
    intro k
    induction k with
    | zero => intro x6_1 x7_2 x8_3 x9_4 f_m_potted_5 f_m_moves_6 f_m_bounces_7 f_m_hitFirst_8 f_m_hitPower_9 f_m_hitDown_10 f_m_hitRight_11 v_q1_12 h; cases h
    | succ k ih_14 =>
      intro x6_1 x7_2 x8_3 x9_4 f_m_potted_5 f_m_moves_6 f_m_bounces_7 f_m_hitFirst_8 f_m_hitPower_9 f_m_hitDown_10 f_m_hitRight_11 v_q1_12 h H locs ls hP hD hS hl
      replace h : b_X12_roll_L14 f_m_balls v_mk n (fun x6_1 x7_2 x8_3 x9_4 f_m_potted_5 f_m_moves_6 f_m_bounces_7 f_m_hitFirst_8 f_m_hitPower_9 f_m_hitDown_10 f_m_hitRight_11 v_q1_12 => f_X12_roll_L14 f_m_balls v_mk n k x6_1 x7_2 x8_3 x9_4 f_m_potted_5 f_m_moves_6 f_m_bounces_7 f_m_hitFirst_8 f_m_hitPower_9 f_m_hitDown_10 f_m_hitRight_11 v_q1_12) x6_1 x7_2 x8_3 x9_4 f_m_potted_5 f_m_moves_6 f_m_bounces_7 f_m_hitFirst_8 f_m_hitPower_9 f_m_hitDown_10 f_m_hitRight_11 v_q1_12 = some res := h
      unfold b_X12_roll_L14 at h
      refine lv_iload hx hb dX12_roll_14 (lv_at hl 5 rfl) ?_
      refine lv_if_le (tgt := 320) hx hb dX12_roll_16 (by decide) (fun c_15 => ?_) (fun c_15 => ?_)
      · replace h := it_p c_15 h
        obtain rfl := Option.some.inj h
        rw [← hQ]
        exact retV hB hS hP dX12_roll_320
      · replace h := it_n c_15 h
        refine lv_aload_n hx hb dX12_roll_19 rfl (lv_at hl 1 rfl) ?_
        refine lv_iload hx hb dX12_roll_20 (lv_at hl 2 rfl) ?_
        obtain ⟨z_16, h⟩ := gd_s h
        refine va_iald hx hb hK hP 2 0 rfl rfl (inb_vp z_16) dX12_roll_22 ?_
        refine lv_bipush (v := 9) hx hb dX12_roll_23 (by decide) ?_
        refine lv_idiv hx hb dX12_roll_25 (by decide) ?_
        refine lv_iload hx hb dX12_roll_26 (lv_at hl 3 rfl) ?_
        refine lv_iadd hx hb dX12_roll_28 ?_
        refine lv_topi (fun x10_17 ex10_17 => ?_)
        replace h := bn_s h ex10_17
        refine lv_istore (lv' := [(10, .int x10_17), (0, .ref a_m), (1, .ref a_q1), (6, .int x6_1), (7, .int x7_2), (8, .int x8_3), (9, .int x9_4)]) hx hb dX12_roll_29 hl (by decide) rfl (fun ls hl => ?_)
        refine lv_aload_n hx hb dX12_roll_31 rfl (lv_at hl 2 rfl) ?_
        refine lv_iload hx hb dX12_roll_32 (lv_at hl 3 rfl) ?_
        obtain ⟨z_18, h⟩ := gd_s h
        refine va_iald hx hb hK hP 2 0 rfl rfl (inb_vp z_18) dX12_roll_34 ?_
        refine lv_bipush (v := 9) hx hb dX12_roll_35 (by decide) ?_
        refine lv_irem hx hb dX12_roll_37 (by decide) ?_
        refine lv_iload hx hb dX12_roll_38 (lv_at hl 5 rfl) ?_
        refine lv_iadd hx hb dX12_roll_40 ?_
        refine lv_topi (fun x11_19 ex11_19 => ?_)
        replace h := bn_s h ex11_19
        refine lv_istore (lv' := [(11, .int x11_19), (10, .int x10_17), (0, .ref a_m), (1, .ref a_q1), (6, .int x6_1), (7, .int x7_2), (8, .int x8_3), (9, .int x9_4)]) hx hb dX12_roll_41 hl (by decide) rfl (fun ls hl => ?_)
        refine lv_iload hx hb dX12_roll_43 (lv_at hl 1 rfl) ?_
        refine lv_i2l (v := x10_17.toInt64) hx hb dX12_roll_45 rfl ?_
        refine lv_lconst (v := 0) hx hb dX12_roll_46 (by decide) ?_
        refine lv_ldc2 (v := 4) hx hb hown (hts _ wq_5_74) dX12_roll_47 ?_
        obtain ⟨u_20, hu_20, h⟩ := ob_s h
        refine cSi (As := [.long x10_17.toInt64, .long 0, .long 4]) (rest := []) [(a_m, .inr (12, (.ref a_mP :: .int f_m_pageMany :: .int f_m_balls :: .int f_m_spot :: .int f_m_score :: .int f_m_strokesNow :: .int f_m_fouls :: .int f_m_tablesRead :: .ref a_mk :: .ref a_mw :: .ref a_mc :: .int f_m_potted_5 :: .int f_m_moves_6 :: .int f_m_bounces_7 :: .int f_m_hitFirst_8 :: .int f_m_hitPower_9 :: .int f_m_hitDown_10 :: .int f_m_hitRight_11 :: .int f_m_isFoul :: .ref a_mo :: .ref a_mt :: .int f_m_bestCode :: .int f_m_bestBrings :: .int f_m_plansDone :: .int f_m_safesDone :: .int f_m_seenMany :: .ref a_ms :: .ref a_mb :: .int f_m_seedNow :: .int f_m_keptTable :: .int f_m_keptScore :: .int f_m_keptStrokes :: .int f_m_keptFouls :: .int f_m_keptSeen :: .ref a_mK :: .ref a_mC :: .ref a_mS :: .long f_m_hash :: []))), (a_mk, .inl (xI X, 7, .inl v_mk)), (a_q1, .inl (xI X, 7, .inl v_q1_12))] hB (c_X12_in X l x10_17.toInt64 0 4 u_20 hu_20) wq_4_229 wq_1_14 wq_4_227 wq_4_228 hd_X12_in (by decide) hP hD hS hl.1 [] [0, 1, 2] [(a_m, .inr (12, (.ref a_mP :: .int f_m_pageMany :: .int f_m_balls :: .int f_m_spot :: .int f_m_score :: .int f_m_strokesNow :: .int f_m_fouls :: .int f_m_tablesRead :: .ref a_mk :: .ref a_mw :: .ref a_mc :: .int f_m_potted_5 :: .int f_m_moves_6 :: .int f_m_bounces_7 :: .int f_m_hitFirst_8 :: .int f_m_hitPower_9 :: .int f_m_hitDown_10 :: .int f_m_hitRight_11 :: .int f_m_isFoul :: .ref a_mo :: .ref a_mt :: .int f_m_bestCode :: .int f_m_bestBrings :: .int f_m_plansDone :: .int f_m_safesDone :: .int f_m_seenMany :: .ref a_ms :: .ref a_mb :: .int f_m_seedNow :: .int f_m_keptTable :: .int f_m_keptScore :: .int f_m_keptStrokes :: .int f_m_keptFouls :: .int f_m_keptSeen :: .ref a_mK :: .ref a_mC :: .ref a_mS :: .long f_m_hash :: []))), (a_mk, .inl (xI X, 7, .inl v_mk)), (a_q1, .inl (xI X, 7, .inl v_q1_12))] rfl (by decide +kernel) rfl rfl rfl (nn := 3) rfl (by decide +kernel) [a_m, a_mk, a_q1] rfl rfl rfl rfl (Nat.le_of_ble_eq_true rfl) dX12_roll_50 ⟨Nat.zero_le _, Nat.zero_le _⟩ (fun H locs hP hD hS => ?_)
        obtain ⟨j61_22, ej61_22, h⟩ := jn_s h
        have J61_22 : ∀ (k_21 : Int32), j61_22 k_21 = some res → ∀ (H : Heap) (locs : List Loc) (ls : Array Slot), va_P (xD X) vwCl [(a_m, .inr (12, (.ref a_mP :: .int f_m_pageMany :: .int f_m_balls :: .int f_m_spot :: .int f_m_score :: .int f_m_strokesNow :: .int f_m_fouls :: .int f_m_tablesRead :: .ref a_mk :: .ref a_mw :: .ref a_mc :: .int f_m_potted_5 :: .int f_m_moves_6 :: .int f_m_bounces_7 :: .int f_m_hitFirst_8 :: .int f_m_hitPower_9 :: .int f_m_hitDown_10 :: .int f_m_hitRight_11 :: .int f_m_isFoul :: .ref a_mo :: .ref a_mt :: .int f_m_bestCode :: .int f_m_bestBrings :: .int f_m_plansDone :: .int f_m_safesDone :: .int f_m_seenMany :: .ref a_ms :: .ref a_mb :: .int f_m_seedNow :: .int f_m_keptTable :: .int f_m_keptScore :: .int f_m_keptStrokes :: .int f_m_keptFouls :: .int f_m_keptSeen :: .ref a_mK :: .ref a_mC :: .ref a_mS :: .long f_m_hash :: []))), (a_mk, .inl (xI X, 7, .inl v_mk)), (a_q1, .inl (xI X, 7, .inl v_q1_12))] H → va_D A [(a_m, .inr (12, (.ref a_mP :: .int f_m_pageMany :: .int f_m_balls :: .int f_m_spot :: .int f_m_score :: .int f_m_strokesNow :: .int f_m_fouls :: .int f_m_tablesRead :: .ref a_mk :: .ref a_mw :: .ref a_mc :: .int f_m_potted_5 :: .int f_m_moves_6 :: .int f_m_bounces_7 :: .int f_m_hitFirst_8 :: .int f_m_hitPower_9 :: .int f_m_hitDown_10 :: .int f_m_hitRight_11 :: .int f_m_isFoul :: .ref a_mo :: .ref a_mt :: .int f_m_bestCode :: .int f_m_bestBrings :: .int f_m_plansDone :: .int f_m_safesDone :: .int f_m_seenMany :: .ref a_ms :: .ref a_mb :: .int f_m_seedNow :: .int f_m_keptTable :: .int f_m_keptScore :: .int f_m_keptStrokes :: .int f_m_keptFouls :: .int f_m_keptSeen :: .ref a_mK :: .ref a_mC :: .ref a_mS :: .long f_m_hash :: []))), (a_mk, .inl (xI X, 7, .inl v_mk)), (a_q1, .inl (xI X, 7, .inl v_q1_12))] → va_S A s.heap H locs → lv_has ls 16 [(0, .ref a_m), (1, .ref a_q1), (6, .int x6_1), (7, .int x7_2), (8, .int x8_3), (9, .int x9_4), (10, .int x10_17), (11, .int x11_19)] → W p l e (rmF 2 44) s m args below meth c H locs 0 0 Q (F0 m 61 ls [.int k_21]) := by
          clear h
          intro k_21 h H locs ls hP hD hS hl
          rw [ej61_22] at h
          replace h := id h
          refine lv_istore (lv' := [(12, .int k_21), (0, .ref a_m), (1, .ref a_q1), (6, .int x6_1), (7, .int x7_2), (8, .int x8_3), (9, .int x9_4), (10, .int x10_17), (11, .int x11_19)]) hx hb dX12_roll_61 hl (by decide) rfl (fun ls hl => ?_)
          refine lv_iload hx hb dX12_roll_63 (lv_at hl 8 rfl) ?_
          refine lv_i2l (v := x11_19.toInt64) hx hb dX12_roll_65 rfl ?_
          refine lv_lconst (v := 0) hx hb dX12_roll_66 (by decide) ?_
          refine lv_ldc2 (v := 8) hx hb hown (hts _ wq_5_75) dX12_roll_67 ?_
          obtain ⟨u_23, hu_23, h⟩ := ob_s h
          refine cSi (As := [.long x11_19.toInt64, .long 0, .long 8]) (rest := []) [(a_m, .inr (12, (.ref a_mP :: .int f_m_pageMany :: .int f_m_balls :: .int f_m_spot :: .int f_m_score :: .int f_m_strokesNow :: .int f_m_fouls :: .int f_m_tablesRead :: .ref a_mk :: .ref a_mw :: .ref a_mc :: .int f_m_potted_5 :: .int f_m_moves_6 :: .int f_m_bounces_7 :: .int f_m_hitFirst_8 :: .int f_m_hitPower_9 :: .int f_m_hitDown_10 :: .int f_m_hitRight_11 :: .int f_m_isFoul :: .ref a_mo :: .ref a_mt :: .int f_m_bestCode :: .int f_m_bestBrings :: .int f_m_plansDone :: .int f_m_safesDone :: .int f_m_seenMany :: .ref a_ms :: .ref a_mb :: .int f_m_seedNow :: .int f_m_keptTable :: .int f_m_keptScore :: .int f_m_keptStrokes :: .int f_m_keptFouls :: .int f_m_keptSeen :: .ref a_mK :: .ref a_mC :: .ref a_mS :: .long f_m_hash :: []))), (a_mk, .inl (xI X, 7, .inl v_mk)), (a_q1, .inl (xI X, 7, .inl v_q1_12))] hB (c_X12_in X l x11_19.toInt64 0 8 u_23 hu_23) wq_4_229 wq_1_14 wq_4_227 wq_4_228 hd_X12_in (by decide) hP hD hS hl.1 [] [0, 1, 2] [(a_m, .inr (12, (.ref a_mP :: .int f_m_pageMany :: .int f_m_balls :: .int f_m_spot :: .int f_m_score :: .int f_m_strokesNow :: .int f_m_fouls :: .int f_m_tablesRead :: .ref a_mk :: .ref a_mw :: .ref a_mc :: .int f_m_potted_5 :: .int f_m_moves_6 :: .int f_m_bounces_7 :: .int f_m_hitFirst_8 :: .int f_m_hitPower_9 :: .int f_m_hitDown_10 :: .int f_m_hitRight_11 :: .int f_m_isFoul :: .ref a_mo :: .ref a_mt :: .int f_m_bestCode :: .int f_m_bestBrings :: .int f_m_plansDone :: .int f_m_safesDone :: .int f_m_seenMany :: .ref a_ms :: .ref a_mb :: .int f_m_seedNow :: .int f_m_keptTable :: .int f_m_keptScore :: .int f_m_keptStrokes :: .int f_m_keptFouls :: .int f_m_keptSeen :: .ref a_mK :: .ref a_mC :: .ref a_mS :: .long f_m_hash :: []))), (a_mk, .inl (xI X, 7, .inl v_mk)), (a_q1, .inl (xI X, 7, .inl v_q1_12))] rfl (by decide +kernel) rfl rfl rfl (nn := 3) rfl (by decide +kernel) [a_m, a_mk, a_q1] rfl rfl rfl rfl (Nat.le_of_ble_eq_true rfl) dX12_roll_70 ⟨Nat.zero_le _, Nat.zero_le _⟩ (fun H locs hP hD hS => ?_)
          obtain ⟨j81_25, ej81_25, h⟩ := jn_s h
          have J81_25 : ∀ (k_24 : Int32), j81_25 k_24 = some res → ∀ (H : Heap) (locs : List Loc) (ls : Array Slot), va_P (xD X) vwCl [(a_m, .inr (12, (.ref a_mP :: .int f_m_pageMany :: .int f_m_balls :: .int f_m_spot :: .int f_m_score :: .int f_m_strokesNow :: .int f_m_fouls :: .int f_m_tablesRead :: .ref a_mk :: .ref a_mw :: .ref a_mc :: .int f_m_potted_5 :: .int f_m_moves_6 :: .int f_m_bounces_7 :: .int f_m_hitFirst_8 :: .int f_m_hitPower_9 :: .int f_m_hitDown_10 :: .int f_m_hitRight_11 :: .int f_m_isFoul :: .ref a_mo :: .ref a_mt :: .int f_m_bestCode :: .int f_m_bestBrings :: .int f_m_plansDone :: .int f_m_safesDone :: .int f_m_seenMany :: .ref a_ms :: .ref a_mb :: .int f_m_seedNow :: .int f_m_keptTable :: .int f_m_keptScore :: .int f_m_keptStrokes :: .int f_m_keptFouls :: .int f_m_keptSeen :: .ref a_mK :: .ref a_mC :: .ref a_mS :: .long f_m_hash :: []))), (a_mk, .inl (xI X, 7, .inl v_mk)), (a_q1, .inl (xI X, 7, .inl v_q1_12))] H → va_D A [(a_m, .inr (12, (.ref a_mP :: .int f_m_pageMany :: .int f_m_balls :: .int f_m_spot :: .int f_m_score :: .int f_m_strokesNow :: .int f_m_fouls :: .int f_m_tablesRead :: .ref a_mk :: .ref a_mw :: .ref a_mc :: .int f_m_potted_5 :: .int f_m_moves_6 :: .int f_m_bounces_7 :: .int f_m_hitFirst_8 :: .int f_m_hitPower_9 :: .int f_m_hitDown_10 :: .int f_m_hitRight_11 :: .int f_m_isFoul :: .ref a_mo :: .ref a_mt :: .int f_m_bestCode :: .int f_m_bestBrings :: .int f_m_plansDone :: .int f_m_safesDone :: .int f_m_seenMany :: .ref a_ms :: .ref a_mb :: .int f_m_seedNow :: .int f_m_keptTable :: .int f_m_keptScore :: .int f_m_keptStrokes :: .int f_m_keptFouls :: .int f_m_keptSeen :: .ref a_mK :: .ref a_mC :: .ref a_mS :: .long f_m_hash :: []))), (a_mk, .inl (xI X, 7, .inl v_mk)), (a_q1, .inl (xI X, 7, .inl v_q1_12))] → va_S A s.heap H locs → lv_has ls 16 [(0, .ref a_m), (1, .ref a_q1), (6, .int x6_1), (7, .int x7_2), (8, .int x8_3), (9, .int x9_4), (10, .int x10_17), (11, .int x11_19), (12, .int k_21)] → W p l e (rmF 2 44) s m args below meth c H locs 0 0 Q (F0 m 81 ls [.int k_24]) := by
            clear h
            intro k_24 h H locs ls hP hD hS hl
            rw [ej81_25] at h
            replace h := id h
            refine lv_istore (lv' := [(13, .int k_24), (0, .ref a_m), (1, .ref a_q1), (6, .int x6_1), (7, .int x7_2), (8, .int x8_3), (9, .int x9_4), (10, .int x10_17), (11, .int x11_19), (12, .int k_21)]) hx hb dX12_roll_81 hl (by decide) rfl (fun ls hl => ?_)
            refine lv_iload hx hb dX12_roll_83 (lv_at hl 9 rfl) ?_
            obtain ⟨j105_27, ej105_27, h⟩ := jn_s h
            have J105_27 : ∀ (k_26 : Int32), j105_27 k_26 = some res → ∀ (H : Heap) (locs : List Loc) (ls : Array Slot), va_P (xD X) vwCl [(a_m, .inr (12, (.ref a_mP :: .int f_m_pageMany :: .int f_m_balls :: .int f_m_spot :: .int f_m_score :: .int f_m_strokesNow :: .int f_m_fouls :: .int f_m_tablesRead :: .ref a_mk :: .ref a_mw :: .ref a_mc :: .int f_m_potted_5 :: .int f_m_moves_6 :: .int f_m_bounces_7 :: .int f_m_hitFirst_8 :: .int f_m_hitPower_9 :: .int f_m_hitDown_10 :: .int f_m_hitRight_11 :: .int f_m_isFoul :: .ref a_mo :: .ref a_mt :: .int f_m_bestCode :: .int f_m_bestBrings :: .int f_m_plansDone :: .int f_m_safesDone :: .int f_m_seenMany :: .ref a_ms :: .ref a_mb :: .int f_m_seedNow :: .int f_m_keptTable :: .int f_m_keptScore :: .int f_m_keptStrokes :: .int f_m_keptFouls :: .int f_m_keptSeen :: .ref a_mK :: .ref a_mC :: .ref a_mS :: .long f_m_hash :: []))), (a_mk, .inl (xI X, 7, .inl v_mk)), (a_q1, .inl (xI X, 7, .inl v_q1_12))] H → va_D A [(a_m, .inr (12, (.ref a_mP :: .int f_m_pageMany :: .int f_m_balls :: .int f_m_spot :: .int f_m_score :: .int f_m_strokesNow :: .int f_m_fouls :: .int f_m_tablesRead :: .ref a_mk :: .ref a_mw :: .ref a_mc :: .int f_m_potted_5 :: .int f_m_moves_6 :: .int f_m_bounces_7 :: .int f_m_hitFirst_8 :: .int f_m_hitPower_9 :: .int f_m_hitDown_10 :: .int f_m_hitRight_11 :: .int f_m_isFoul :: .ref a_mo :: .ref a_mt :: .int f_m_bestCode :: .int f_m_bestBrings :: .int f_m_plansDone :: .int f_m_safesDone :: .int f_m_seenMany :: .ref a_ms :: .ref a_mb :: .int f_m_seedNow :: .int f_m_keptTable :: .int f_m_keptScore :: .int f_m_keptStrokes :: .int f_m_keptFouls :: .int f_m_keptSeen :: .ref a_mK :: .ref a_mC :: .ref a_mS :: .long f_m_hash :: []))), (a_mk, .inl (xI X, 7, .inl v_mk)), (a_q1, .inl (xI X, 7, .inl v_q1_12))] → va_S A s.heap H locs → lv_has ls 16 [(0, .ref a_m), (1, .ref a_q1), (6, .int x6_1), (7, .int x7_2), (8, .int x8_3), (9, .int x9_4), (12, .int k_21), (13, .int k_24)] → W p l e (rmF 2 44) s m args below meth c H locs 0 0 Q (F0 m 105 ls [.int k_26]) := by
              clear h
              intro k_26 h H locs ls hP hD hS hl
              rw [ej105_27] at h
              replace h := id h
              refine lv_istore (lv' := [(14, .int k_26), (0, .ref a_m), (1, .ref a_q1), (6, .int x6_1), (7, .int x7_2), (8, .int x8_3), (9, .int x9_4), (12, .int k_21), (13, .int k_24)]) hx hb dX12_roll_105 hl (by decide) rfl (fun ls hl => ?_)
              refine lv_iload hx hb dX12_roll_107 (lv_at hl 0 rfl) ?_
              refine lv_iconst (v := (-1)) hx hb dX12_roll_109 (by decide) ?_
              obtain ⟨j124_29, ej124_29, h⟩ := jn_s h
              have J124_29 : ∀ (k_28 : Int32), j124_29 k_28 = some res → ∀ (H : Heap) (locs : List Loc) (ls : Array Slot), va_P (xD X) vwCl [(a_m, .inr (12, (.ref a_mP :: .int f_m_pageMany :: .int f_m_balls :: .int f_m_spot :: .int f_m_score :: .int f_m_strokesNow :: .int f_m_fouls :: .int f_m_tablesRead :: .ref a_mk :: .ref a_mw :: .ref a_mc :: .int f_m_potted_5 :: .int f_m_moves_6 :: .int f_m_bounces_7 :: .int f_m_hitFirst_8 :: .int f_m_hitPower_9 :: .int f_m_hitDown_10 :: .int f_m_hitRight_11 :: .int f_m_isFoul :: .ref a_mo :: .ref a_mt :: .int f_m_bestCode :: .int f_m_bestBrings :: .int f_m_plansDone :: .int f_m_safesDone :: .int f_m_seenMany :: .ref a_ms :: .ref a_mb :: .int f_m_seedNow :: .int f_m_keptTable :: .int f_m_keptScore :: .int f_m_keptStrokes :: .int f_m_keptFouls :: .int f_m_keptSeen :: .ref a_mK :: .ref a_mC :: .ref a_mS :: .long f_m_hash :: []))), (a_mk, .inl (xI X, 7, .inl v_mk)), (a_q1, .inl (xI X, 7, .inl v_q1_12))] H → va_D A [(a_m, .inr (12, (.ref a_mP :: .int f_m_pageMany :: .int f_m_balls :: .int f_m_spot :: .int f_m_score :: .int f_m_strokesNow :: .int f_m_fouls :: .int f_m_tablesRead :: .ref a_mk :: .ref a_mw :: .ref a_mc :: .int f_m_potted_5 :: .int f_m_moves_6 :: .int f_m_bounces_7 :: .int f_m_hitFirst_8 :: .int f_m_hitPower_9 :: .int f_m_hitDown_10 :: .int f_m_hitRight_11 :: .int f_m_isFoul :: .ref a_mo :: .ref a_mt :: .int f_m_bestCode :: .int f_m_bestBrings :: .int f_m_plansDone :: .int f_m_safesDone :: .int f_m_seenMany :: .ref a_ms :: .ref a_mb :: .int f_m_seedNow :: .int f_m_keptTable :: .int f_m_keptScore :: .int f_m_keptStrokes :: .int f_m_keptFouls :: .int f_m_keptSeen :: .ref a_mK :: .ref a_mC :: .ref a_mS :: .long f_m_hash :: []))), (a_mk, .inl (xI X, 7, .inl v_mk)), (a_q1, .inl (xI X, 7, .inl v_q1_12))] → va_S A s.heap H locs → lv_has ls 16 [(0, .ref a_m), (1, .ref a_q1), (6, .int x6_1), (7, .int x7_2), (8, .int x8_3), (9, .int x9_4), (12, .int k_21), (13, .int k_24), (14, .int k_26)] → W p l e (rmF 2 44) s m args below meth c H locs 0 0 Q (F0 m 124 ls [.int k_28]) := by
                clear h
                intro k_28 h H locs ls hP hD hS hl
                rw [ej124_29] at h
                replace h := id h
                refine lv_istore (lv' := [(15, .int k_28), (0, .ref a_m), (1, .ref a_q1), (6, .int x6_1), (7, .int x7_2), (8, .int x8_3), (9, .int x9_4), (12, .int k_21), (13, .int k_24), (14, .int k_26)]) hx hb dX12_roll_124 hl (by decide) rfl (fun ls hl => ?_)
                refine lv_iload hx hb dX12_roll_126 (lv_at hl 9 rfl) ?_
                refine lv_iconst (v := (-1)) hx hb dX12_roll_128 (by decide) ?_
                obtain ⟨j317_42, ej317_42, h⟩ := jn_s h
                have J317_42 : ∀ (x6_30 : Int32) (x7_31 : Int32) (x8_32 : Int32) (x9_33 : Int32) (f_m_potted_34 : Int32) (f_m_moves_35 : Int32) (f_m_bounces_36 : Int32) (f_m_hitFirst_37 : Int32) (f_m_hitPower_38 : Int32) (f_m_hitDown_39 : Int32) (f_m_hitRight_40 : Int32) (v_q1_41 : Nat → Int32), j317_42 x6_30 x7_31 x8_32 x9_33 f_m_potted_34 f_m_moves_35 f_m_bounces_36 f_m_hitFirst_37 f_m_hitPower_38 f_m_hitDown_39 f_m_hitRight_40 v_q1_41 = some res → ∀ (H : Heap) (locs : List Loc) (ls : Array Slot), va_P (xD X) vwCl [(a_m, .inr (12, (.ref a_mP :: .int f_m_pageMany :: .int f_m_balls :: .int f_m_spot :: .int f_m_score :: .int f_m_strokesNow :: .int f_m_fouls :: .int f_m_tablesRead :: .ref a_mk :: .ref a_mw :: .ref a_mc :: .int f_m_potted_34 :: .int f_m_moves_35 :: .int f_m_bounces_36 :: .int f_m_hitFirst_37 :: .int f_m_hitPower_38 :: .int f_m_hitDown_39 :: .int f_m_hitRight_40 :: .int f_m_isFoul :: .ref a_mo :: .ref a_mt :: .int f_m_bestCode :: .int f_m_bestBrings :: .int f_m_plansDone :: .int f_m_safesDone :: .int f_m_seenMany :: .ref a_ms :: .ref a_mb :: .int f_m_seedNow :: .int f_m_keptTable :: .int f_m_keptScore :: .int f_m_keptStrokes :: .int f_m_keptFouls :: .int f_m_keptSeen :: .ref a_mK :: .ref a_mC :: .ref a_mS :: .long f_m_hash :: []))), (a_mk, .inl (xI X, 7, .inl v_mk)), (a_q1, .inl (xI X, 7, .inl v_q1_41))] H → va_D A [(a_m, .inr (12, (.ref a_mP :: .int f_m_pageMany :: .int f_m_balls :: .int f_m_spot :: .int f_m_score :: .int f_m_strokesNow :: .int f_m_fouls :: .int f_m_tablesRead :: .ref a_mk :: .ref a_mw :: .ref a_mc :: .int f_m_potted_34 :: .int f_m_moves_35 :: .int f_m_bounces_36 :: .int f_m_hitFirst_37 :: .int f_m_hitPower_38 :: .int f_m_hitDown_39 :: .int f_m_hitRight_40 :: .int f_m_isFoul :: .ref a_mo :: .ref a_mt :: .int f_m_bestCode :: .int f_m_bestBrings :: .int f_m_plansDone :: .int f_m_safesDone :: .int f_m_seenMany :: .ref a_ms :: .ref a_mb :: .int f_m_seedNow :: .int f_m_keptTable :: .int f_m_keptScore :: .int f_m_keptStrokes :: .int f_m_keptFouls :: .int f_m_keptSeen :: .ref a_mK :: .ref a_mC :: .ref a_mS :: .long f_m_hash :: []))), (a_mk, .inl (xI X, 7, .inl v_mk)), (a_q1, .inl (xI X, 7, .inl v_q1_41))] → va_S A s.heap H locs → lv_has ls 16 [(0, .ref a_m), (1, .ref a_q1), (6, .int x6_30), (7, .int x7_31), (8, .int x8_32), (9, .int x9_33)] → W p l e (rmF 2 44) s m args below meth c H locs 0 0 Q (F0 m 317 ls []) := by
                  clear h
                  intro x6_30 x7_31 x8_32 x9_33 f_m_potted_34 f_m_moves_35 f_m_bounces_36 f_m_hitFirst_37 f_m_hitPower_38 f_m_hitDown_39 f_m_hitRight_40 v_q1_41 h H locs ls hP hD hS hl
                  rw [ej317_42] at h
                  replace h := id h
                  refine lv_goto (tgt := 14) hx hb dX12_roll_317 (by decide) ?_
                  exact ih_14 x6_30 x7_31 x8_32 x9_33 f_m_potted_34 f_m_moves_35 f_m_bounces_36 f_m_hitFirst_37 f_m_hitPower_38 f_m_hitDown_39 f_m_hitRight_40 v_q1_41 h _ _ _ hP hD hS (lv_sub hl [0, 1, 2, 3, 4, 5] rfl)
                clear ej317_42
                obtain ⟨j149_43, ej149_43, h⟩ := jn_s h
                have J149_43 : j149_43 = some res → ∀ (H : Heap) (locs : List Loc) (ls : Array Slot), va_P (xD X) vwCl [(a_m, .inr (12, (.ref a_mP :: .int f_m_pageMany :: .int f_m_balls :: .int f_m_spot :: .int f_m_score :: .int f_m_strokesNow :: .int f_m_fouls :: .int f_m_tablesRead :: .ref a_mk :: .ref a_mw :: .ref a_mc :: .int f_m_potted_5 :: .int f_m_moves_6 :: .int f_m_bounces_7 :: .int f_m_hitFirst_8 :: .int f_m_hitPower_9 :: .int f_m_hitDown_10 :: .int f_m_hitRight_11 :: .int f_m_isFoul :: .ref a_mo :: .ref a_mt :: .int f_m_bestCode :: .int f_m_bestBrings :: .int f_m_plansDone :: .int f_m_safesDone :: .int f_m_seenMany :: .ref a_ms :: .ref a_mb :: .int f_m_seedNow :: .int f_m_keptTable :: .int f_m_keptScore :: .int f_m_keptStrokes :: .int f_m_keptFouls :: .int f_m_keptSeen :: .ref a_mK :: .ref a_mC :: .ref a_mS :: .long f_m_hash :: []))), (a_mk, .inl (xI X, 7, .inl v_mk)), (a_q1, .inl (xI X, 7, .inl v_q1_12))] H → va_D A [(a_m, .inr (12, (.ref a_mP :: .int f_m_pageMany :: .int f_m_balls :: .int f_m_spot :: .int f_m_score :: .int f_m_strokesNow :: .int f_m_fouls :: .int f_m_tablesRead :: .ref a_mk :: .ref a_mw :: .ref a_mc :: .int f_m_potted_5 :: .int f_m_moves_6 :: .int f_m_bounces_7 :: .int f_m_hitFirst_8 :: .int f_m_hitPower_9 :: .int f_m_hitDown_10 :: .int f_m_hitRight_11 :: .int f_m_isFoul :: .ref a_mo :: .ref a_mt :: .int f_m_bestCode :: .int f_m_bestBrings :: .int f_m_plansDone :: .int f_m_safesDone :: .int f_m_seenMany :: .ref a_ms :: .ref a_mb :: .int f_m_seedNow :: .int f_m_keptTable :: .int f_m_keptScore :: .int f_m_keptStrokes :: .int f_m_keptFouls :: .int f_m_keptSeen :: .ref a_mK :: .ref a_mC :: .ref a_mS :: .long f_m_hash :: []))), (a_mk, .inl (xI X, 7, .inl v_mk)), (a_q1, .inl (xI X, 7, .inl v_q1_12))] → va_S A s.heap H locs → lv_has ls 16 [(0, .ref a_m), (1, .ref a_q1), (6, .int x6_1), (7, .int x7_2), (8, .int x8_3), (9, .int x9_4), (12, .int k_21), (13, .int k_24), (14, .int k_26), (15, .int k_28)] → W p l e (rmF 2 44) s m args below meth c H locs 0 0 Q (F0 m 149 ls []) := by
                  clear h
                  intro h H locs ls hP hD hS hl
                  rw [ej149_43] at h
                  refine lv_iload hx hb dX12_roll_149 (lv_at hl 8 rfl) ?_
                  refine lv_iconst (v := (-1)) hx hb dX12_roll_151 (by decide) ?_
                  refine lv_icmp_ne (tgt := 201) hx hb dX12_roll_152 (by decide) (fun c_44 => ?_) (fun c_44 => ?_)
                  · replace h := it_n c_44 h
                    refine lv_iload hx hb dX12_roll_201 (lv_at hl 9 rfl) ?_
                    refine lv_iconst (v := (-1)) hx hb dX12_roll_203 (by decide) ?_
                    refine lv_icmp_eq (tgt := 269) hx hb dX12_roll_204 (by decide) (fun c_45 => ?_) (fun c_45 => ?_)
                    · replace h := it_p c_45 h
                      refine lv_aload_n hx hb dX12_roll_269 rfl (lv_at hl 1 rfl) ?_
                      refine lv_iload hx hb dX12_roll_270 (lv_at hl 2 rfl) ?_
                      refine lv_iload hx hb dX12_roll_272 (lv_at hl 8 rfl) ?_
                      obtain ⟨z_46, h⟩ := gd_s h
                      refine va_iast hx hb hK hP hD hS 2 0 rfl rfl (inb_vp z_46) dX12_roll_274 (fun H locs (hP : va_P (xD X) vwCl [(a_m, .inr (12, (.ref a_mP :: .int f_m_pageMany :: .int f_m_balls :: .int f_m_spot :: .int f_m_score :: .int f_m_strokesNow :: .int f_m_fouls :: .int f_m_tablesRead :: .ref a_mk :: .ref a_mw :: .ref a_mc :: .int f_m_potted_5 :: .int f_m_moves_6 :: .int f_m_bounces_7 :: .int f_m_hitFirst_8 :: .int f_m_hitPower_9 :: .int f_m_hitDown_10 :: .int f_m_hitRight_11 :: .int f_m_isFoul :: .ref a_mo :: .ref a_mt :: .int f_m_bestCode :: .int f_m_bestBrings :: .int f_m_plansDone :: .int f_m_safesDone :: .int f_m_seenMany :: .ref a_ms :: .ref a_mb :: .int f_m_seedNow :: .int f_m_keptTable :: .int f_m_keptScore :: .int f_m_keptStrokes :: .int f_m_keptFouls :: .int f_m_keptSeen :: .ref a_mK :: .ref a_mC :: .ref a_mS :: .long f_m_hash :: []))), (a_mk, .inl (xI X, 7, .inl v_mk)), (a_q1, .inl (xI X, 7, .inl (upd v_q1_12 x6_1.toNatClampNeg k_26)))] H) (hD : va_D A [(a_m, .inr (12, (.ref a_mP :: .int f_m_pageMany :: .int f_m_balls :: .int f_m_spot :: .int f_m_score :: .int f_m_strokesNow :: .int f_m_fouls :: .int f_m_tablesRead :: .ref a_mk :: .ref a_mw :: .ref a_mc :: .int f_m_potted_5 :: .int f_m_moves_6 :: .int f_m_bounces_7 :: .int f_m_hitFirst_8 :: .int f_m_hitPower_9 :: .int f_m_hitDown_10 :: .int f_m_hitRight_11 :: .int f_m_isFoul :: .ref a_mo :: .ref a_mt :: .int f_m_bestCode :: .int f_m_bestBrings :: .int f_m_plansDone :: .int f_m_safesDone :: .int f_m_seenMany :: .ref a_ms :: .ref a_mb :: .int f_m_seedNow :: .int f_m_keptTable :: .int f_m_keptScore :: .int f_m_keptStrokes :: .int f_m_keptFouls :: .int f_m_keptSeen :: .ref a_mK :: .ref a_mC :: .ref a_mS :: .long f_m_hash :: []))), (a_mk, .inl (xI X, 7, .inl v_mk)), (a_q1, .inl (xI X, 7, .inl (upd v_q1_12 x6_1.toNatClampNeg k_26)))]) hS => ?_)
                      refine lv_aload_n hx hb dX12_roll_275 rfl (lv_at hl 0 rfl) ?_
                      refine lv_dup hx hb dX12_roll_276 rfl ?_
                      refine va_get (D := xD X) (ci := 12) (v := .int f_m_moves_6) (C := RX12) (T := TX12) (N := 38) hx hb hts inX12 hown hK hP 0 rfl rfl 12 (by decide) (hts _ wq_4_119) (fun _ h9 => h9) rfl dX12_roll_277 ?_
                      refine lv_iconst (v := 1) hx hb dX12_roll_280 (by decide) ?_
                      refine lv_iadd hx hb dX12_roll_281 ?_
                      refine va_put (D := xD X) (ci := 12) (v := .int (f_m_moves_6 + 1)) (ty := .int) (C := RX12) (T := TX12) (N := 38) hx hb hts inX12 tyX12 tyX12_ok nmX12 hown hK hP hD hS 0 rfl rfl 12 (by decide) (hts _ wq_4_119) (fun _ h9 => h9) rfl (by decide +kernel) rfl rfl (Nat.le_of_ble_eq_true rfl) dX12_roll_282 (fun H locs (hP : va_P (xD X) vwCl [(a_m, .inr (12, (.ref a_mP :: .int f_m_pageMany :: .int f_m_balls :: .int f_m_spot :: .int f_m_score :: .int f_m_strokesNow :: .int f_m_fouls :: .int f_m_tablesRead :: .ref a_mk :: .ref a_mw :: .ref a_mc :: .int f_m_potted_5 :: .int (f_m_moves_6 + 1) :: .int f_m_bounces_7 :: .int f_m_hitFirst_8 :: .int f_m_hitPower_9 :: .int f_m_hitDown_10 :: .int f_m_hitRight_11 :: .int f_m_isFoul :: .ref a_mo :: .ref a_mt :: .int f_m_bestCode :: .int f_m_bestBrings :: .int f_m_plansDone :: .int f_m_safesDone :: .int f_m_seenMany :: .ref a_ms :: .ref a_mb :: .int f_m_seedNow :: .int f_m_keptTable :: .int f_m_keptScore :: .int f_m_keptStrokes :: .int f_m_keptFouls :: .int f_m_keptSeen :: .ref a_mK :: .ref a_mC :: .ref a_mS :: .long f_m_hash :: []))), (a_mk, .inl (xI X, 7, .inl v_mk)), (a_q1, .inl (xI X, 7, .inl (upd v_q1_12 x6_1.toNatClampNeg k_26)))] H) (hD : va_D A [(a_m, .inr (12, (.ref a_mP :: .int f_m_pageMany :: .int f_m_balls :: .int f_m_spot :: .int f_m_score :: .int f_m_strokesNow :: .int f_m_fouls :: .int f_m_tablesRead :: .ref a_mk :: .ref a_mw :: .ref a_mc :: .int f_m_potted_5 :: .int (f_m_moves_6 + 1) :: .int f_m_bounces_7 :: .int f_m_hitFirst_8 :: .int f_m_hitPower_9 :: .int f_m_hitDown_10 :: .int f_m_hitRight_11 :: .int f_m_isFoul :: .ref a_mo :: .ref a_mt :: .int f_m_bestCode :: .int f_m_bestBrings :: .int f_m_plansDone :: .int f_m_safesDone :: .int f_m_seenMany :: .ref a_ms :: .ref a_mb :: .int f_m_seedNow :: .int f_m_keptTable :: .int f_m_keptScore :: .int f_m_keptStrokes :: .int f_m_keptFouls :: .int f_m_keptSeen :: .ref a_mK :: .ref a_mC :: .ref a_mS :: .long f_m_hash :: []))), (a_mk, .inl (xI X, 7, .inl v_mk)), (a_q1, .inl (xI X, 7, .inl (upd v_q1_12 x6_1.toNatClampNeg k_26)))]) hS => ?_)
                      obtain ⟨x9_47, ex9_47⟩ : ∃ y : Int32, y = x9_4 + (-1) := ⟨_, rfl⟩
                      replace h := bn_s h ex9_47
                      refine lv_iinc (v := x9_47) (lv' := [(9, .int x9_47), (0, .ref a_m), (1, .ref a_q1), (6, .int x6_1), (7, .int x7_2), (8, .int x8_3), (12, .int k_21), (13, .int k_24), (14, .int k_26), (15, .int k_28)]) hx hb dX12_roll_285 hl (k := 5) rfl (by rw [ex9_47]; rfl) (by decide) rfl (fun ls hl => ?_)
                      refine lv_iload hx hb dX12_roll_288 (lv_at hl 8 rfl) ?_
                      obtain ⟨u_48, hu_48, h⟩ := ob_s h
                      refine cSi (As := [.int k_26]) (rest := []) [(a_m, .inr (12, (.ref a_mP :: .int f_m_pageMany :: .int f_m_balls :: .int f_m_spot :: .int f_m_score :: .int f_m_strokesNow :: .int f_m_fouls :: .int f_m_tablesRead :: .ref a_mk :: .ref a_mw :: .ref a_mc :: .int f_m_potted_5 :: .int (f_m_moves_6 + 1) :: .int f_m_bounces_7 :: .int f_m_hitFirst_8 :: .int f_m_hitPower_9 :: .int f_m_hitDown_10 :: .int f_m_hitRight_11 :: .int f_m_isFoul :: .ref a_mo :: .ref a_mt :: .int f_m_bestCode :: .int f_m_bestBrings :: .int f_m_plansDone :: .int f_m_safesDone :: .int f_m_seenMany :: .ref a_ms :: .ref a_mb :: .int f_m_seedNow :: .int f_m_keptTable :: .int f_m_keptScore :: .int f_m_keptStrokes :: .int f_m_keptFouls :: .int f_m_keptSeen :: .ref a_mK :: .ref a_mC :: .ref a_mS :: .long f_m_hash :: []))), (a_mk, .inl (xI X, 7, .inl v_mk)), (a_q1, .inl (xI X, 7, .inl (upd v_q1_12 x6_1.toNatClampNeg k_26)))] hB (c_X12_isPocket X l k_26 u_48 hu_48) wq_5_19 wq_1_14 wq_5_17 wq_5_18 hd_X12_isPocket (by decide) hP hD hS hl.1 [] [0, 1, 2] [(a_m, .inr (12, (.ref a_mP :: .int f_m_pageMany :: .int f_m_balls :: .int f_m_spot :: .int f_m_score :: .int f_m_strokesNow :: .int f_m_fouls :: .int f_m_tablesRead :: .ref a_mk :: .ref a_mw :: .ref a_mc :: .int f_m_potted_5 :: .int (f_m_moves_6 + 1) :: .int f_m_bounces_7 :: .int f_m_hitFirst_8 :: .int f_m_hitPower_9 :: .int f_m_hitDown_10 :: .int f_m_hitRight_11 :: .int f_m_isFoul :: .ref a_mo :: .ref a_mt :: .int f_m_bestCode :: .int f_m_bestBrings :: .int f_m_plansDone :: .int f_m_safesDone :: .int f_m_seenMany :: .ref a_ms :: .ref a_mb :: .int f_m_seedNow :: .int f_m_keptTable :: .int f_m_keptScore :: .int f_m_keptStrokes :: .int f_m_keptFouls :: .int f_m_keptSeen :: .ref a_mK :: .ref a_mC :: .ref a_mS :: .long f_m_hash :: []))), (a_mk, .inl (xI X, 7, .inl v_mk)), (a_q1, .inl (xI X, 7, .inl (upd v_q1_12 x6_1.toNatClampNeg k_26)))] rfl (by decide +kernel) rfl rfl rfl (nn := 3) rfl (by decide +kernel) [a_m, a_mk, a_q1] rfl rfl rfl rfl (Nat.le_of_ble_eq_true rfl) dX12_roll_290 ⟨Nat.zero_le _, Nat.zero_le _⟩ (fun H locs hP hD hS => ?_)
                      refine lv_if_eq (tgt := 317) hx hb dX12_roll_293 (by decide) (fun c_49 => ?_) (fun c_49 => ?_)
                      · replace h := it_p c_49 h
                        exact J317_42 x6_1 x7_2 x8_3 x9_47 f_m_potted_5 (f_m_moves_6 + 1) f_m_bounces_7 f_m_hitFirst_8 f_m_hitPower_9 f_m_hitDown_10 f_m_hitRight_11 (upd v_q1_12 x6_1.toNatClampNeg k_26) h _ _ _ hP hD hS (lv_sub hl [1, 2, 3, 4, 5, 0] rfl)
                      · replace h := it_n c_49 h
                        refine lv_aload_n hx hb dX12_roll_296 rfl (lv_at hl 2 rfl) ?_
                        refine lv_iload hx hb dX12_roll_297 (lv_at hl 3 rfl) ?_
                        refine lv_iconst (v := (-1)) hx hb dX12_roll_299 (by decide) ?_
                        obtain ⟨z_50, h⟩ := gd_s h
                        refine va_iast hx hb hK hP hD hS 2 0 rfl rfl (inb_vp z_50) dX12_roll_300 (fun H locs (hP : va_P (xD X) vwCl [(a_m, .inr (12, (.ref a_mP :: .int f_m_pageMany :: .int f_m_balls :: .int f_m_spot :: .int f_m_score :: .int f_m_strokesNow :: .int f_m_fouls :: .int f_m_tablesRead :: .ref a_mk :: .ref a_mw :: .ref a_mc :: .int f_m_potted_5 :: .int (f_m_moves_6 + 1) :: .int f_m_bounces_7 :: .int f_m_hitFirst_8 :: .int f_m_hitPower_9 :: .int f_m_hitDown_10 :: .int f_m_hitRight_11 :: .int f_m_isFoul :: .ref a_mo :: .ref a_mt :: .int f_m_bestCode :: .int f_m_bestBrings :: .int f_m_plansDone :: .int f_m_safesDone :: .int f_m_seenMany :: .ref a_ms :: .ref a_mb :: .int f_m_seedNow :: .int f_m_keptTable :: .int f_m_keptScore :: .int f_m_keptStrokes :: .int f_m_keptFouls :: .int f_m_keptSeen :: .ref a_mK :: .ref a_mC :: .ref a_mS :: .long f_m_hash :: []))), (a_mk, .inl (xI X, 7, .inl v_mk)), (a_q1, .inl (xI X, 7, .inl (upd (upd v_q1_12 x6_1.toNatClampNeg k_26) x6_1.toNatClampNeg (-1))))] H) (hD : va_D A [(a_m, .inr (12, (.ref a_mP :: .int f_m_pageMany :: .int f_m_balls :: .int f_m_spot :: .int f_m_score :: .int f_m_strokesNow :: .int f_m_fouls :: .int f_m_tablesRead :: .ref a_mk :: .ref a_mw :: .ref a_mc :: .int f_m_potted_5 :: .int (f_m_moves_6 + 1) :: .int f_m_bounces_7 :: .int f_m_hitFirst_8 :: .int f_m_hitPower_9 :: .int f_m_hitDown_10 :: .int f_m_hitRight_11 :: .int f_m_isFoul :: .ref a_mo :: .ref a_mt :: .int f_m_bestCode :: .int f_m_bestBrings :: .int f_m_plansDone :: .int f_m_safesDone :: .int f_m_seenMany :: .ref a_ms :: .ref a_mb :: .int f_m_seedNow :: .int f_m_keptTable :: .int f_m_keptScore :: .int f_m_keptStrokes :: .int f_m_keptFouls :: .int f_m_keptSeen :: .ref a_mK :: .ref a_mC :: .ref a_mS :: .long f_m_hash :: []))), (a_mk, .inl (xI X, 7, .inl v_mk)), (a_q1, .inl (xI X, 7, .inl (upd (upd v_q1_12 x6_1.toNatClampNeg k_26) x6_1.toNatClampNeg (-1))))]) hS => ?_)
                        refine lv_aload_n hx hb dX12_roll_301 rfl (lv_at hl 1 rfl) ?_
                        refine lv_dup hx hb dX12_roll_302 rfl ?_
                        refine va_get (D := xD X) (ci := 12) (v := .int f_m_potted_5) (C := RX12) (T := TX12) (N := 38) hx hb hts inX12 hown hK hP 0 rfl rfl 11 (by decide) (hts _ wq_4_118) (fun _ h9 => h9) rfl dX12_roll_303 ?_
                        refine lv_iconst (v := 1) hx hb dX12_roll_306 (by decide) ?_
                        refine lv_iload hx hb dX12_roll_307 (lv_at hl 3 rfl) ?_
                        refine lv_ishl hx hb dX12_roll_309 ?_
                        refine lv_ior hx hb dX12_roll_310 ?_
                        refine va_put (D := xD X) (ci := 12) (v := .int (f_m_potted_5 ||| (1 <<< (x6_1 &&& 31)))) (ty := .int) (C := RX12) (T := TX12) (N := 38) hx hb hts inX12 tyX12 tyX12_ok nmX12 hown hK hP hD hS 0 rfl rfl 11 (by decide) (hts _ wq_4_118) (fun _ h9 => h9) rfl (by decide +kernel) rfl rfl (Nat.le_of_ble_eq_true rfl) dX12_roll_311 (fun H locs (hP : va_P (xD X) vwCl [(a_m, .inr (12, (.ref a_mP :: .int f_m_pageMany :: .int f_m_balls :: .int f_m_spot :: .int f_m_score :: .int f_m_strokesNow :: .int f_m_fouls :: .int f_m_tablesRead :: .ref a_mk :: .ref a_mw :: .ref a_mc :: .int (f_m_potted_5 ||| (1 <<< (x6_1 &&& 31))) :: .int (f_m_moves_6 + 1) :: .int f_m_bounces_7 :: .int f_m_hitFirst_8 :: .int f_m_hitPower_9 :: .int f_m_hitDown_10 :: .int f_m_hitRight_11 :: .int f_m_isFoul :: .ref a_mo :: .ref a_mt :: .int f_m_bestCode :: .int f_m_bestBrings :: .int f_m_plansDone :: .int f_m_safesDone :: .int f_m_seenMany :: .ref a_ms :: .ref a_mb :: .int f_m_seedNow :: .int f_m_keptTable :: .int f_m_keptScore :: .int f_m_keptStrokes :: .int f_m_keptFouls :: .int f_m_keptSeen :: .ref a_mK :: .ref a_mC :: .ref a_mS :: .long f_m_hash :: []))), (a_mk, .inl (xI X, 7, .inl v_mk)), (a_q1, .inl (xI X, 7, .inl (upd (upd v_q1_12 x6_1.toNatClampNeg k_26) x6_1.toNatClampNeg (-1))))] H) (hD : va_D A [(a_m, .inr (12, (.ref a_mP :: .int f_m_pageMany :: .int f_m_balls :: .int f_m_spot :: .int f_m_score :: .int f_m_strokesNow :: .int f_m_fouls :: .int f_m_tablesRead :: .ref a_mk :: .ref a_mw :: .ref a_mc :: .int (f_m_potted_5 ||| (1 <<< (x6_1 &&& 31))) :: .int (f_m_moves_6 + 1) :: .int f_m_bounces_7 :: .int f_m_hitFirst_8 :: .int f_m_hitPower_9 :: .int f_m_hitDown_10 :: .int f_m_hitRight_11 :: .int f_m_isFoul :: .ref a_mo :: .ref a_mt :: .int f_m_bestCode :: .int f_m_bestBrings :: .int f_m_plansDone :: .int f_m_safesDone :: .int f_m_seenMany :: .ref a_ms :: .ref a_mb :: .int f_m_seedNow :: .int f_m_keptTable :: .int f_m_keptScore :: .int f_m_keptStrokes :: .int f_m_keptFouls :: .int f_m_keptSeen :: .ref a_mK :: .ref a_mC :: .ref a_mS :: .long f_m_hash :: []))), (a_mk, .inl (xI X, 7, .inl v_mk)), (a_q1, .inl (xI X, 7, .inl (upd (upd v_q1_12 x6_1.toNatClampNeg k_26) x6_1.toNatClampNeg (-1))))]) hS => ?_)
                        refine lv_iconst (v := 0) hx hb dX12_roll_314 (by decide) ?_
                        refine lv_istore (lv' := [(9, .int 0), (0, .ref a_m), (1, .ref a_q1), (6, .int x6_1), (7, .int x7_2), (8, .int x8_3), (12, .int k_21), (13, .int k_24), (14, .int k_26), (15, .int k_28)]) hx hb dX12_roll_315 hl (by decide) rfl (fun ls hl => ?_)
                        exact J317_42 x6_1 x7_2 x8_3 0 (f_m_potted_5 ||| (1 <<< (x6_1 &&& 31))) (f_m_moves_6 + 1) f_m_bounces_7 f_m_hitFirst_8 f_m_hitPower_9 f_m_hitDown_10 f_m_hitRight_11 (upd (upd v_q1_12 x6_1.toNatClampNeg k_26) x6_1.toNatClampNeg (-1)) h _ _ _ hP hD hS (lv_sub hl [1, 2, 3, 4, 5, 0] rfl)
                    · replace h := it_n c_45 h
                      refine lv_iload hx hb dX12_roll_207 (lv_at hl 2 rfl) ?_
                      obtain ⟨j246_55, ej246_55, h⟩ := jn_s h
                      have J246_55 : ∀ (f_m_hitFirst_51 : Int32) (f_m_hitPower_52 : Int32) (f_m_hitDown_53 : Int32) (f_m_hitRight_54 : Int32), j246_55 f_m_hitFirst_51 f_m_hitPower_52 f_m_hitDown_53 f_m_hitRight_54 = some res → ∀ (H : Heap) (locs : List Loc) (ls : Array Slot), va_P (xD X) vwCl [(a_m, .inr (12, (.ref a_mP :: .int f_m_pageMany :: .int f_m_balls :: .int f_m_spot :: .int f_m_score :: .int f_m_strokesNow :: .int f_m_fouls :: .int f_m_tablesRead :: .ref a_mk :: .ref a_mw :: .ref a_mc :: .int f_m_potted_5 :: .int f_m_moves_6 :: .int f_m_bounces_7 :: .int f_m_hitFirst_51 :: .int f_m_hitPower_52 :: .int f_m_hitDown_53 :: .int f_m_hitRight_54 :: .int f_m_isFoul :: .ref a_mo :: .ref a_mt :: .int f_m_bestCode :: .int f_m_bestBrings :: .int f_m_plansDone :: .int f_m_safesDone :: .int f_m_seenMany :: .ref a_ms :: .ref a_mb :: .int f_m_seedNow :: .int f_m_keptTable :: .int f_m_keptScore :: .int f_m_keptStrokes :: .int f_m_keptFouls :: .int f_m_keptSeen :: .ref a_mK :: .ref a_mC :: .ref a_mS :: .long f_m_hash :: []))), (a_mk, .inl (xI X, 7, .inl v_mk)), (a_q1, .inl (xI X, 7, .inl v_q1_12))] H → va_D A [(a_m, .inr (12, (.ref a_mP :: .int f_m_pageMany :: .int f_m_balls :: .int f_m_spot :: .int f_m_score :: .int f_m_strokesNow :: .int f_m_fouls :: .int f_m_tablesRead :: .ref a_mk :: .ref a_mw :: .ref a_mc :: .int f_m_potted_5 :: .int f_m_moves_6 :: .int f_m_bounces_7 :: .int f_m_hitFirst_51 :: .int f_m_hitPower_52 :: .int f_m_hitDown_53 :: .int f_m_hitRight_54 :: .int f_m_isFoul :: .ref a_mo :: .ref a_mt :: .int f_m_bestCode :: .int f_m_bestBrings :: .int f_m_plansDone :: .int f_m_safesDone :: .int f_m_seenMany :: .ref a_ms :: .ref a_mb :: .int f_m_seedNow :: .int f_m_keptTable :: .int f_m_keptScore :: .int f_m_keptStrokes :: .int f_m_keptFouls :: .int f_m_keptSeen :: .ref a_mK :: .ref a_mC :: .ref a_mS :: .long f_m_hash :: []))), (a_mk, .inl (xI X, 7, .inl v_mk)), (a_q1, .inl (xI X, 7, .inl v_q1_12))] → va_S A s.heap H locs → lv_has ls 16 [(0, .ref a_m), (1, .ref a_q1), (7, .int x7_2), (8, .int x8_3), (9, .int x9_4), (15, .int k_28)] → W p l e (rmF 2 44) s m args below meth c H locs 0 0 Q (F0 m 246 ls []) := by
                        clear h
                        intro f_m_hitFirst_51 f_m_hitPower_52 f_m_hitDown_53 f_m_hitRight_54 h H locs ls hP hD hS hl
                        rw [ej246_55] at h
                        replace h := id h
                        refine lv_aload_n hx hb dX12_roll_246 rfl (lv_at hl 0 rfl) ?_
                        refine va_get (D := xD X) (ci := 12) (v := .ref a_mk) (C := RX12) (T := TX12) (N := 38) hx hb hts inX12 hown hK hP 0 rfl rfl 8 (by decide) (hts _ wq_4_115) (fun _ h9 => h9) rfl dX12_roll_247 ?_
                        refine lv_iload hx hb dX12_roll_250 (lv_at hl 5 rfl) ?_
                        obtain ⟨z_56, h⟩ := gd_s h
                        refine va_iald hx hb hK hP 1 0 rfl rfl (inb_vp z_56) dX12_roll_252 ?_
                        refine lv_iload hx hb dX12_roll_253 (lv_at hl 4 rfl) ?_
                        refine lv_iconst (v := 1) hx hb dX12_roll_255 (by decide) ?_
                        refine lv_isub hx hb dX12_roll_256 ?_
                        obtain ⟨u_57, hu_57, h⟩ := ob_s h
                        refine cSi (As := [.int (v_mk k_28.toNatClampNeg), .int (x9_4 - 1)]) (rest := []) [(a_m, .inr (12, (.ref a_mP :: .int f_m_pageMany :: .int f_m_balls :: .int f_m_spot :: .int f_m_score :: .int f_m_strokesNow :: .int f_m_fouls :: .int f_m_tablesRead :: .ref a_mk :: .ref a_mw :: .ref a_mc :: .int f_m_potted_5 :: .int f_m_moves_6 :: .int f_m_bounces_7 :: .int f_m_hitFirst_51 :: .int f_m_hitPower_52 :: .int f_m_hitDown_53 :: .int f_m_hitRight_54 :: .int f_m_isFoul :: .ref a_mo :: .ref a_mt :: .int f_m_bestCode :: .int f_m_bestBrings :: .int f_m_plansDone :: .int f_m_safesDone :: .int f_m_seenMany :: .ref a_ms :: .ref a_mb :: .int f_m_seedNow :: .int f_m_keptTable :: .int f_m_keptScore :: .int f_m_keptStrokes :: .int f_m_keptFouls :: .int f_m_keptSeen :: .ref a_mK :: .ref a_mC :: .ref a_mS :: .long f_m_hash :: []))), (a_mk, .inl (xI X, 7, .inl v_mk)), (a_q1, .inl (xI X, 7, .inl v_q1_12))] hB (c_X12_rollsBy X l (v_mk k_28.toNatClampNeg) (x9_4 - 1) u_57 hu_57) wq_5_82 wq_1_14 wq_5_80 wq_5_81 hd_X12_rollsBy (by decide) hP hD hS hl.1 [] [0, 1, 2] [(a_m, .inr (12, (.ref a_mP :: .int f_m_pageMany :: .int f_m_balls :: .int f_m_spot :: .int f_m_score :: .int f_m_strokesNow :: .int f_m_fouls :: .int f_m_tablesRead :: .ref a_mk :: .ref a_mw :: .ref a_mc :: .int f_m_potted_5 :: .int f_m_moves_6 :: .int f_m_bounces_7 :: .int f_m_hitFirst_51 :: .int f_m_hitPower_52 :: .int f_m_hitDown_53 :: .int f_m_hitRight_54 :: .int f_m_isFoul :: .ref a_mo :: .ref a_mt :: .int f_m_bestCode :: .int f_m_bestBrings :: .int f_m_plansDone :: .int f_m_safesDone :: .int f_m_seenMany :: .ref a_ms :: .ref a_mb :: .int f_m_seedNow :: .int f_m_keptTable :: .int f_m_keptScore :: .int f_m_keptStrokes :: .int f_m_keptFouls :: .int f_m_keptSeen :: .ref a_mK :: .ref a_mC :: .ref a_mS :: .long f_m_hash :: []))), (a_mk, .inl (xI X, 7, .inl v_mk)), (a_q1, .inl (xI X, 7, .inl v_q1_12))] rfl (by decide +kernel) rfl rfl rfl (nn := 3) rfl (by decide +kernel) [a_m, a_mk, a_q1] rfl rfl rfl rfl (Nat.le_of_ble_eq_true rfl) dX12_roll_257 ⟨Nat.zero_le _, Nat.zero_le _⟩ (fun H locs hP hD hS => ?_)
                        refine lv_istore (lv' := [(9, .int u_57), (0, .ref a_m), (1, .ref a_q1), (7, .int x7_2), (8, .int x8_3), (15, .int k_28)]) hx hb dX12_roll_260 hl (by decide) rfl (fun ls hl => ?_)
                        refine lv_iload hx hb dX12_roll_262 (lv_at hl 5 rfl) ?_
                        refine lv_istore (lv' := [(6, .int k_28), (9, .int u_57), (0, .ref a_m), (1, .ref a_q1), (7, .int x7_2), (8, .int x8_3), (15, .int k_28)]) hx hb dX12_roll_264 hl (by decide) rfl (fun ls hl => ?_)
                        refine lv_goto (tgt := 317) hx hb dX12_roll_266 (by decide) ?_
                        exact J317_42 k_28 x7_2 x8_3 u_57 f_m_potted_5 f_m_moves_6 f_m_bounces_7 f_m_hitFirst_51 f_m_hitPower_52 f_m_hitDown_53 f_m_hitRight_54 v_q1_12 h _ _ _ hP hD hS (lv_sub hl [2, 3, 0, 4, 5, 1] rfl)
                      clear ej246_55
                      refine lv_if_ne (tgt := 246) hx hb dX12_roll_209 (by decide) (fun c_58 => ?_) (fun c_58 => ?_)
                      · replace h := it_n c_58 h
                        exact J246_55 f_m_hitFirst_8 f_m_hitPower_9 f_m_hitDown_10 f_m_hitRight_11 h _ _ _ hP hD hS (lv_sub hl [0, 1, 3, 4, 5, 9] rfl)
                      · replace h := it_p c_58 h
                        refine lv_aload_n hx hb dX12_roll_212 rfl (lv_at hl 0 rfl) ?_
                        refine va_get (D := xD X) (ci := 12) (v := .int f_m_hitFirst_8) (C := RX12) (T := TX12) (N := 38) hx hb hts inX12 hown hK hP 0 rfl rfl 14 (by decide) (hts _ wq_4_121) (fun _ h9 => h9) rfl dX12_roll_213 ?_
                        refine lv_iconst (v := (-1)) hx hb dX12_roll_216 (by decide) ?_
                        refine lv_icmp_ne (tgt := 246) hx hb dX12_roll_217 (by decide) (fun c_59 => ?_) (fun c_59 => ?_)
                        · replace h := it_n c_59 h
                          exact J246_55 f_m_hitFirst_8 f_m_hitPower_9 f_m_hitDown_10 f_m_hitRight_11 h _ _ _ hP hD hS (lv_sub hl [0, 1, 3, 4, 5, 9] rfl)
                        · replace h := it_p c_59 h
                          refine lv_aload_n hx hb dX12_roll_220 rfl (lv_at hl 0 rfl) ?_
                          refine lv_iload hx hb dX12_roll_221 (lv_at hl 9 rfl) ?_
                          refine va_put (D := xD X) (ci := 12) (v := .int k_28) (ty := .int) (C := RX12) (T := TX12) (N := 38) hx hb hts inX12 tyX12 tyX12_ok nmX12 hown hK hP hD hS 0 rfl rfl 14 (by decide) (hts _ wq_4_121) (fun _ h9 => h9) rfl (by decide +kernel) rfl rfl (Nat.le_of_ble_eq_true rfl) dX12_roll_223 (fun H locs (hP : va_P (xD X) vwCl [(a_m, .inr (12, (.ref a_mP :: .int f_m_pageMany :: .int f_m_balls :: .int f_m_spot :: .int f_m_score :: .int f_m_strokesNow :: .int f_m_fouls :: .int f_m_tablesRead :: .ref a_mk :: .ref a_mw :: .ref a_mc :: .int f_m_potted_5 :: .int f_m_moves_6 :: .int f_m_bounces_7 :: .int k_28 :: .int f_m_hitPower_9 :: .int f_m_hitDown_10 :: .int f_m_hitRight_11 :: .int f_m_isFoul :: .ref a_mo :: .ref a_mt :: .int f_m_bestCode :: .int f_m_bestBrings :: .int f_m_plansDone :: .int f_m_safesDone :: .int f_m_seenMany :: .ref a_ms :: .ref a_mb :: .int f_m_seedNow :: .int f_m_keptTable :: .int f_m_keptScore :: .int f_m_keptStrokes :: .int f_m_keptFouls :: .int f_m_keptSeen :: .ref a_mK :: .ref a_mC :: .ref a_mS :: .long f_m_hash :: []))), (a_mk, .inl (xI X, 7, .inl v_mk)), (a_q1, .inl (xI X, 7, .inl v_q1_12))] H) (hD : va_D A [(a_m, .inr (12, (.ref a_mP :: .int f_m_pageMany :: .int f_m_balls :: .int f_m_spot :: .int f_m_score :: .int f_m_strokesNow :: .int f_m_fouls :: .int f_m_tablesRead :: .ref a_mk :: .ref a_mw :: .ref a_mc :: .int f_m_potted_5 :: .int f_m_moves_6 :: .int f_m_bounces_7 :: .int k_28 :: .int f_m_hitPower_9 :: .int f_m_hitDown_10 :: .int f_m_hitRight_11 :: .int f_m_isFoul :: .ref a_mo :: .ref a_mt :: .int f_m_bestCode :: .int f_m_bestBrings :: .int f_m_plansDone :: .int f_m_safesDone :: .int f_m_seenMany :: .ref a_ms :: .ref a_mb :: .int f_m_seedNow :: .int f_m_keptTable :: .int f_m_keptScore :: .int f_m_keptStrokes :: .int f_m_keptFouls :: .int f_m_keptSeen :: .ref a_mK :: .ref a_mC :: .ref a_mS :: .long f_m_hash :: []))), (a_mk, .inl (xI X, 7, .inl v_mk)), (a_q1, .inl (xI X, 7, .inl v_q1_12))]) hS => ?_)
                          refine lv_aload_n hx hb dX12_roll_226 rfl (lv_at hl 0 rfl) ?_
                          refine lv_iload hx hb dX12_roll_227 (lv_at hl 5 rfl) ?_
                          refine lv_iconst (v := 1) hx hb dX12_roll_229 (by decide) ?_
                          refine lv_isub hx hb dX12_roll_230 ?_
                          refine va_put (D := xD X) (ci := 12) (v := .int (x9_4 - 1)) (ty := .int) (C := RX12) (T := TX12) (N := 38) hx hb hts inX12 tyX12 tyX12_ok nmX12 hown hK hP hD hS 0 rfl rfl 15 (by decide) (hts _ wq_4_122) (fun _ h9 => h9) rfl (by decide +kernel) rfl rfl (Nat.le_of_ble_eq_true rfl) dX12_roll_231 (fun H locs (hP : va_P (xD X) vwCl [(a_m, .inr (12, (.ref a_mP :: .int f_m_pageMany :: .int f_m_balls :: .int f_m_spot :: .int f_m_score :: .int f_m_strokesNow :: .int f_m_fouls :: .int f_m_tablesRead :: .ref a_mk :: .ref a_mw :: .ref a_mc :: .int f_m_potted_5 :: .int f_m_moves_6 :: .int f_m_bounces_7 :: .int k_28 :: .int (x9_4 - 1) :: .int f_m_hitDown_10 :: .int f_m_hitRight_11 :: .int f_m_isFoul :: .ref a_mo :: .ref a_mt :: .int f_m_bestCode :: .int f_m_bestBrings :: .int f_m_plansDone :: .int f_m_safesDone :: .int f_m_seenMany :: .ref a_ms :: .ref a_mb :: .int f_m_seedNow :: .int f_m_keptTable :: .int f_m_keptScore :: .int f_m_keptStrokes :: .int f_m_keptFouls :: .int f_m_keptSeen :: .ref a_mK :: .ref a_mC :: .ref a_mS :: .long f_m_hash :: []))), (a_mk, .inl (xI X, 7, .inl v_mk)), (a_q1, .inl (xI X, 7, .inl v_q1_12))] H) (hD : va_D A [(a_m, .inr (12, (.ref a_mP :: .int f_m_pageMany :: .int f_m_balls :: .int f_m_spot :: .int f_m_score :: .int f_m_strokesNow :: .int f_m_fouls :: .int f_m_tablesRead :: .ref a_mk :: .ref a_mw :: .ref a_mc :: .int f_m_potted_5 :: .int f_m_moves_6 :: .int f_m_bounces_7 :: .int k_28 :: .int (x9_4 - 1) :: .int f_m_hitDown_10 :: .int f_m_hitRight_11 :: .int f_m_isFoul :: .ref a_mo :: .ref a_mt :: .int f_m_bestCode :: .int f_m_bestBrings :: .int f_m_plansDone :: .int f_m_safesDone :: .int f_m_seenMany :: .ref a_ms :: .ref a_mb :: .int f_m_seedNow :: .int f_m_keptTable :: .int f_m_keptScore :: .int f_m_keptStrokes :: .int f_m_keptFouls :: .int f_m_keptSeen :: .ref a_mK :: .ref a_mC :: .ref a_mS :: .long f_m_hash :: []))), (a_mk, .inl (xI X, 7, .inl v_mk)), (a_q1, .inl (xI X, 7, .inl v_q1_12))]) hS => ?_)
                          refine lv_aload_n hx hb dX12_roll_234 rfl (lv_at hl 0 rfl) ?_
                          refine lv_iload hx hb dX12_roll_235 (lv_at hl 3 rfl) ?_
                          refine va_put (D := xD X) (ci := 12) (v := .int x7_2) (ty := .int) (C := RX12) (T := TX12) (N := 38) hx hb hts inX12 tyX12 tyX12_ok nmX12 hown hK hP hD hS 0 rfl rfl 16 (by decide) (hts _ wq_4_123) (fun _ h9 => h9) rfl (by decide +kernel) rfl rfl (Nat.le_of_ble_eq_true rfl) dX12_roll_237 (fun H locs (hP : va_P (xD X) vwCl [(a_m, .inr (12, (.ref a_mP :: .int f_m_pageMany :: .int f_m_balls :: .int f_m_spot :: .int f_m_score :: .int f_m_strokesNow :: .int f_m_fouls :: .int f_m_tablesRead :: .ref a_mk :: .ref a_mw :: .ref a_mc :: .int f_m_potted_5 :: .int f_m_moves_6 :: .int f_m_bounces_7 :: .int k_28 :: .int (x9_4 - 1) :: .int x7_2 :: .int f_m_hitRight_11 :: .int f_m_isFoul :: .ref a_mo :: .ref a_mt :: .int f_m_bestCode :: .int f_m_bestBrings :: .int f_m_plansDone :: .int f_m_safesDone :: .int f_m_seenMany :: .ref a_ms :: .ref a_mb :: .int f_m_seedNow :: .int f_m_keptTable :: .int f_m_keptScore :: .int f_m_keptStrokes :: .int f_m_keptFouls :: .int f_m_keptSeen :: .ref a_mK :: .ref a_mC :: .ref a_mS :: .long f_m_hash :: []))), (a_mk, .inl (xI X, 7, .inl v_mk)), (a_q1, .inl (xI X, 7, .inl v_q1_12))] H) (hD : va_D A [(a_m, .inr (12, (.ref a_mP :: .int f_m_pageMany :: .int f_m_balls :: .int f_m_spot :: .int f_m_score :: .int f_m_strokesNow :: .int f_m_fouls :: .int f_m_tablesRead :: .ref a_mk :: .ref a_mw :: .ref a_mc :: .int f_m_potted_5 :: .int f_m_moves_6 :: .int f_m_bounces_7 :: .int k_28 :: .int (x9_4 - 1) :: .int x7_2 :: .int f_m_hitRight_11 :: .int f_m_isFoul :: .ref a_mo :: .ref a_mt :: .int f_m_bestCode :: .int f_m_bestBrings :: .int f_m_plansDone :: .int f_m_safesDone :: .int f_m_seenMany :: .ref a_ms :: .ref a_mb :: .int f_m_seedNow :: .int f_m_keptTable :: .int f_m_keptScore :: .int f_m_keptStrokes :: .int f_m_keptFouls :: .int f_m_keptSeen :: .ref a_mK :: .ref a_mC :: .ref a_mS :: .long f_m_hash :: []))), (a_mk, .inl (xI X, 7, .inl v_mk)), (a_q1, .inl (xI X, 7, .inl v_q1_12))]) hS => ?_)
                          refine lv_aload_n hx hb dX12_roll_240 rfl (lv_at hl 0 rfl) ?_
                          refine lv_iload hx hb dX12_roll_241 (lv_at hl 4 rfl) ?_
                          refine va_put (D := xD X) (ci := 12) (v := .int x8_3) (ty := .int) (C := RX12) (T := TX12) (N := 38) hx hb hts inX12 tyX12 tyX12_ok nmX12 hown hK hP hD hS 0 rfl rfl 17 (by decide) (hts _ wq_4_124) (fun _ h9 => h9) rfl (by decide +kernel) rfl rfl (Nat.le_of_ble_eq_true rfl) dX12_roll_243 (fun H locs (hP : va_P (xD X) vwCl [(a_m, .inr (12, (.ref a_mP :: .int f_m_pageMany :: .int f_m_balls :: .int f_m_spot :: .int f_m_score :: .int f_m_strokesNow :: .int f_m_fouls :: .int f_m_tablesRead :: .ref a_mk :: .ref a_mw :: .ref a_mc :: .int f_m_potted_5 :: .int f_m_moves_6 :: .int f_m_bounces_7 :: .int k_28 :: .int (x9_4 - 1) :: .int x7_2 :: .int x8_3 :: .int f_m_isFoul :: .ref a_mo :: .ref a_mt :: .int f_m_bestCode :: .int f_m_bestBrings :: .int f_m_plansDone :: .int f_m_safesDone :: .int f_m_seenMany :: .ref a_ms :: .ref a_mb :: .int f_m_seedNow :: .int f_m_keptTable :: .int f_m_keptScore :: .int f_m_keptStrokes :: .int f_m_keptFouls :: .int f_m_keptSeen :: .ref a_mK :: .ref a_mC :: .ref a_mS :: .long f_m_hash :: []))), (a_mk, .inl (xI X, 7, .inl v_mk)), (a_q1, .inl (xI X, 7, .inl v_q1_12))] H) (hD : va_D A [(a_m, .inr (12, (.ref a_mP :: .int f_m_pageMany :: .int f_m_balls :: .int f_m_spot :: .int f_m_score :: .int f_m_strokesNow :: .int f_m_fouls :: .int f_m_tablesRead :: .ref a_mk :: .ref a_mw :: .ref a_mc :: .int f_m_potted_5 :: .int f_m_moves_6 :: .int f_m_bounces_7 :: .int k_28 :: .int (x9_4 - 1) :: .int x7_2 :: .int x8_3 :: .int f_m_isFoul :: .ref a_mo :: .ref a_mt :: .int f_m_bestCode :: .int f_m_bestBrings :: .int f_m_plansDone :: .int f_m_safesDone :: .int f_m_seenMany :: .ref a_ms :: .ref a_mb :: .int f_m_seedNow :: .int f_m_keptTable :: .int f_m_keptScore :: .int f_m_keptStrokes :: .int f_m_keptFouls :: .int f_m_keptSeen :: .ref a_mK :: .ref a_mC :: .ref a_mS :: .long f_m_hash :: []))), (a_mk, .inl (xI X, 7, .inl v_mk)), (a_q1, .inl (xI X, 7, .inl v_q1_12))]) hS => ?_)
                          exact J246_55 k_28 (x9_4 - 1) x7_2 x8_3 h _ _ _ hP hD hS (lv_sub hl [0, 1, 3, 4, 5, 9] rfl)
                  · replace h := it_p c_44 h
                    refine lv_iload hx hb dX12_roll_155 (lv_at hl 6 rfl) ?_
                    obtain ⟨j168_61, ej168_61, h⟩ := jn_s h
                    have J168_61 : ∀ (k_60 : Int32), j168_61 k_60 = some res → ∀ (H : Heap) (locs : List Loc) (ls : Array Slot), va_P (xD X) vwCl [(a_m, .inr (12, (.ref a_mP :: .int f_m_pageMany :: .int f_m_balls :: .int f_m_spot :: .int f_m_score :: .int f_m_strokesNow :: .int f_m_fouls :: .int f_m_tablesRead :: .ref a_mk :: .ref a_mw :: .ref a_mc :: .int f_m_potted_5 :: .int f_m_moves_6 :: .int f_m_bounces_7 :: .int f_m_hitFirst_8 :: .int f_m_hitPower_9 :: .int f_m_hitDown_10 :: .int f_m_hitRight_11 :: .int f_m_isFoul :: .ref a_mo :: .ref a_mt :: .int f_m_bestCode :: .int f_m_bestBrings :: .int f_m_plansDone :: .int f_m_safesDone :: .int f_m_seenMany :: .ref a_ms :: .ref a_mb :: .int f_m_seedNow :: .int f_m_keptTable :: .int f_m_keptScore :: .int f_m_keptStrokes :: .int f_m_keptFouls :: .int f_m_keptSeen :: .ref a_mK :: .ref a_mC :: .ref a_mS :: .long f_m_hash :: []))), (a_mk, .inl (xI X, 7, .inl v_mk)), (a_q1, .inl (xI X, 7, .inl v_q1_12))] H → va_D A [(a_m, .inr (12, (.ref a_mP :: .int f_m_pageMany :: .int f_m_balls :: .int f_m_spot :: .int f_m_score :: .int f_m_strokesNow :: .int f_m_fouls :: .int f_m_tablesRead :: .ref a_mk :: .ref a_mw :: .ref a_mc :: .int f_m_potted_5 :: .int f_m_moves_6 :: .int f_m_bounces_7 :: .int f_m_hitFirst_8 :: .int f_m_hitPower_9 :: .int f_m_hitDown_10 :: .int f_m_hitRight_11 :: .int f_m_isFoul :: .ref a_mo :: .ref a_mt :: .int f_m_bestCode :: .int f_m_bestBrings :: .int f_m_plansDone :: .int f_m_safesDone :: .int f_m_seenMany :: .ref a_ms :: .ref a_mb :: .int f_m_seedNow :: .int f_m_keptTable :: .int f_m_keptScore :: .int f_m_keptStrokes :: .int f_m_keptFouls :: .int f_m_keptSeen :: .ref a_mK :: .ref a_mC :: .ref a_mS :: .long f_m_hash :: []))), (a_mk, .inl (xI X, 7, .inl v_mk)), (a_q1, .inl (xI X, 7, .inl v_q1_12))] → va_S A s.heap H locs → lv_has ls 16 [(0, .ref a_m), (1, .ref a_q1), (6, .int x6_1), (8, .int x8_3), (9, .int x9_4), (13, .int k_24)] → W p l e (rmF 2 44) s m args below meth c H locs 0 0 Q (F0 m 168 ls [.int k_60]) := by
                      clear h
                      intro k_60 h H locs ls hP hD hS hl
                      rw [ej168_61] at h
                      replace h := id h
                      refine lv_istore (lv' := [(7, .int k_60), (0, .ref a_m), (1, .ref a_q1), (6, .int x6_1), (8, .int x8_3), (9, .int x9_4), (13, .int k_24)]) hx hb dX12_roll_168 hl (by decide) rfl (fun ls hl => ?_)
                      refine lv_iload hx hb dX12_roll_170 (lv_at hl 6 rfl) ?_
                      obtain ⟨j183_63, ej183_63, h⟩ := jn_s h
                      have J183_63 : ∀ (k_62 : Int32), j183_63 k_62 = some res → ∀ (H : Heap) (locs : List Loc) (ls : Array Slot), va_P (xD X) vwCl [(a_m, .inr (12, (.ref a_mP :: .int f_m_pageMany :: .int f_m_balls :: .int f_m_spot :: .int f_m_score :: .int f_m_strokesNow :: .int f_m_fouls :: .int f_m_tablesRead :: .ref a_mk :: .ref a_mw :: .ref a_mc :: .int f_m_potted_5 :: .int f_m_moves_6 :: .int f_m_bounces_7 :: .int f_m_hitFirst_8 :: .int f_m_hitPower_9 :: .int f_m_hitDown_10 :: .int f_m_hitRight_11 :: .int f_m_isFoul :: .ref a_mo :: .ref a_mt :: .int f_m_bestCode :: .int f_m_bestBrings :: .int f_m_plansDone :: .int f_m_safesDone :: .int f_m_seenMany :: .ref a_ms :: .ref a_mb :: .int f_m_seedNow :: .int f_m_keptTable :: .int f_m_keptScore :: .int f_m_keptStrokes :: .int f_m_keptFouls :: .int f_m_keptSeen :: .ref a_mK :: .ref a_mC :: .ref a_mS :: .long f_m_hash :: []))), (a_mk, .inl (xI X, 7, .inl v_mk)), (a_q1, .inl (xI X, 7, .inl v_q1_12))] H → va_D A [(a_m, .inr (12, (.ref a_mP :: .int f_m_pageMany :: .int f_m_balls :: .int f_m_spot :: .int f_m_score :: .int f_m_strokesNow :: .int f_m_fouls :: .int f_m_tablesRead :: .ref a_mk :: .ref a_mw :: .ref a_mc :: .int f_m_potted_5 :: .int f_m_moves_6 :: .int f_m_bounces_7 :: .int f_m_hitFirst_8 :: .int f_m_hitPower_9 :: .int f_m_hitDown_10 :: .int f_m_hitRight_11 :: .int f_m_isFoul :: .ref a_mo :: .ref a_mt :: .int f_m_bestCode :: .int f_m_bestBrings :: .int f_m_plansDone :: .int f_m_safesDone :: .int f_m_seenMany :: .ref a_ms :: .ref a_mb :: .int f_m_seedNow :: .int f_m_keptTable :: .int f_m_keptScore :: .int f_m_keptStrokes :: .int f_m_keptFouls :: .int f_m_keptSeen :: .ref a_mK :: .ref a_mC :: .ref a_mS :: .long f_m_hash :: []))), (a_mk, .inl (xI X, 7, .inl v_mk)), (a_q1, .inl (xI X, 7, .inl v_q1_12))] → va_S A s.heap H locs → lv_has ls 16 [(0, .ref a_m), (1, .ref a_q1), (6, .int x6_1), (7, .int k_60), (9, .int x9_4)] → W p l e (rmF 2 44) s m args below meth c H locs 0 0 Q (F0 m 183 ls [.int k_62]) := by
                        clear h
                        intro k_62 h H locs ls hP hD hS hl
                        rw [ej183_63] at h
                        replace h := id h
                        refine lv_istore (lv' := [(8, .int k_62), (0, .ref a_m), (1, .ref a_q1), (6, .int x6_1), (7, .int k_60), (9, .int x9_4)]) hx hb dX12_roll_183 hl (by decide) rfl (fun ls hl => ?_)
                        obtain ⟨x9_64, ex9_64⟩ : ∃ y : Int32, y = x9_4 + (-1) := ⟨_, rfl⟩
                        replace h := bn_s h ex9_64
                        refine lv_iinc (v := x9_64) (lv' := [(9, .int x9_64), (8, .int k_62), (0, .ref a_m), (1, .ref a_q1), (6, .int x6_1), (7, .int k_60)]) hx hb dX12_roll_185 hl (k := 5) rfl (by rw [ex9_64]; rfl) (by decide) rfl (fun ls hl => ?_)
                        refine lv_aload_n hx hb dX12_roll_188 rfl (lv_at hl 2 rfl) ?_
                        refine lv_dup hx hb dX12_roll_189 rfl ?_
                        refine va_get (D := xD X) (ci := 12) (v := .int f_m_bounces_7) (C := RX12) (T := TX12) (N := 38) hx hb hts inX12 hown hK hP 0 rfl rfl 13 (by decide) (hts _ wq_4_120) (fun _ h9 => h9) rfl dX12_roll_190 ?_
                        refine lv_iconst (v := 1) hx hb dX12_roll_193 (by decide) ?_
                        refine lv_iadd hx hb dX12_roll_194 ?_
                        refine va_put (D := xD X) (ci := 12) (v := .int (f_m_bounces_7 + 1)) (ty := .int) (C := RX12) (T := TX12) (N := 38) hx hb hts inX12 tyX12 tyX12_ok nmX12 hown hK hP hD hS 0 rfl rfl 13 (by decide) (hts _ wq_4_120) (fun _ h9 => h9) rfl (by decide +kernel) rfl rfl (Nat.le_of_ble_eq_true rfl) dX12_roll_195 (fun H locs (hP : va_P (xD X) vwCl [(a_m, .inr (12, (.ref a_mP :: .int f_m_pageMany :: .int f_m_balls :: .int f_m_spot :: .int f_m_score :: .int f_m_strokesNow :: .int f_m_fouls :: .int f_m_tablesRead :: .ref a_mk :: .ref a_mw :: .ref a_mc :: .int f_m_potted_5 :: .int f_m_moves_6 :: .int (f_m_bounces_7 + 1) :: .int f_m_hitFirst_8 :: .int f_m_hitPower_9 :: .int f_m_hitDown_10 :: .int f_m_hitRight_11 :: .int f_m_isFoul :: .ref a_mo :: .ref a_mt :: .int f_m_bestCode :: .int f_m_bestBrings :: .int f_m_plansDone :: .int f_m_safesDone :: .int f_m_seenMany :: .ref a_ms :: .ref a_mb :: .int f_m_seedNow :: .int f_m_keptTable :: .int f_m_keptScore :: .int f_m_keptStrokes :: .int f_m_keptFouls :: .int f_m_keptSeen :: .ref a_mK :: .ref a_mC :: .ref a_mS :: .long f_m_hash :: []))), (a_mk, .inl (xI X, 7, .inl v_mk)), (a_q1, .inl (xI X, 7, .inl v_q1_12))] H) (hD : va_D A [(a_m, .inr (12, (.ref a_mP :: .int f_m_pageMany :: .int f_m_balls :: .int f_m_spot :: .int f_m_score :: .int f_m_strokesNow :: .int f_m_fouls :: .int f_m_tablesRead :: .ref a_mk :: .ref a_mw :: .ref a_mc :: .int f_m_potted_5 :: .int f_m_moves_6 :: .int (f_m_bounces_7 + 1) :: .int f_m_hitFirst_8 :: .int f_m_hitPower_9 :: .int f_m_hitDown_10 :: .int f_m_hitRight_11 :: .int f_m_isFoul :: .ref a_mo :: .ref a_mt :: .int f_m_bestCode :: .int f_m_bestBrings :: .int f_m_plansDone :: .int f_m_safesDone :: .int f_m_seenMany :: .ref a_ms :: .ref a_mb :: .int f_m_seedNow :: .int f_m_keptTable :: .int f_m_keptScore :: .int f_m_keptStrokes :: .int f_m_keptFouls :: .int f_m_keptSeen :: .ref a_mK :: .ref a_mC :: .ref a_mS :: .long f_m_hash :: []))), (a_mk, .inl (xI X, 7, .inl v_mk)), (a_q1, .inl (xI X, 7, .inl v_q1_12))]) hS => ?_)
                        refine lv_goto (tgt := 317) hx hb dX12_roll_198 (by decide) ?_
                        exact J317_42 x6_1 k_60 k_62 x9_64 f_m_potted_5 f_m_moves_6 (f_m_bounces_7 + 1) f_m_hitFirst_8 f_m_hitPower_9 f_m_hitDown_10 f_m_hitRight_11 v_q1_12 h _ _ _ hP hD hS (lv_sub hl [2, 3, 4, 5, 1, 0] rfl)
                      clear ej183_63
                      refine lv_if_eq (tgt := 181) hx hb dX12_roll_172 (by decide) (fun c_65 => ?_) (fun c_65 => ?_)
                      · replace h := it_p c_65 h
                        refine lv_iload hx hb dX12_roll_181 (lv_at hl 4 rfl) ?_
                        exact J183_63 x8_3 h _ _ _ hP hD hS (lv_sub hl [1, 2, 3, 0, 5] rfl)
                      · replace h := it_n c_65 h
                        refine lv_iload hx hb dX12_roll_175 (lv_at hl 4 rfl) ?_
                        refine lv_ineg hx hb dX12_roll_177 ?_
                        refine lv_goto (tgt := 183) hx hb dX12_roll_178 (by decide) ?_
                        exact J183_63 (-x8_3) h _ _ _ hP hD hS (lv_sub hl [1, 2, 3, 0, 5] rfl)
                    clear ej168_61
                    refine lv_if_eq (tgt := 166) hx hb dX12_roll_157 (by decide) (fun c_66 => ?_) (fun c_66 => ?_)
                    · replace h := it_p c_66 h
                      refine lv_iload hx hb dX12_roll_166 (lv_at hl 3 rfl) ?_
                      exact J168_61 x7_2 h _ _ _ hP hD hS (lv_sub hl [0, 1, 2, 4, 5, 7] rfl)
                    · replace h := it_n c_66 h
                      refine lv_iload hx hb dX12_roll_160 (lv_at hl 3 rfl) ?_
                      refine lv_ineg hx hb dX12_roll_162 ?_
                      refine lv_goto (tgt := 168) hx hb dX12_roll_163 (by decide) ?_
                      exact J168_61 (-x7_2) h _ _ _ hP hD hS (lv_sub hl [0, 1, 2, 4, 5, 7] rfl)
                clear ej149_43
                refine lv_icmp_ne (tgt := 149) hx hb dX12_roll_129 (by decide) (fun c_67 => ?_) (fun c_67 => ?_)
                · replace h := it_n c_67 h
                  exact J149_43 h _ _ _ hP hD hS (lv_sub hl [1, 2, 3, 4, 5, 6, 7, 8, 9, 0] rfl)
                · replace h := it_p c_67 h
                  refine lv_aload_n hx hb dX12_roll_132 rfl (lv_at hl 1 rfl) ?_
                  refine va_get (D := xD X) (ci := 12) (v := .ref a_mk) (C := RX12) (T := TX12) (N := 38) hx hb hts inX12 hown hK hP 0 rfl rfl 8 (by decide) (hts _ wq_4_115) (fun _ h9 => h9) rfl dX12_roll_133 ?_
                  refine lv_iload hx hb dX12_roll_136 (lv_at hl 3 rfl) ?_
                  obtain ⟨z_68, h⟩ := gd_s h
                  refine va_iald hx hb hK hP 1 0 rfl rfl (inb_vp z_68) dX12_roll_138 ?_
                  refine lv_iconst (v := 3) hx hb dX12_roll_139 (by decide) ?_
                  refine lv_icmp_ne (tgt := 149) hx hb dX12_roll_140 (by decide) (fun c_69 => ?_) (fun c_69 => ?_)
                  · replace h := it_n c_69 h
                    exact J149_43 h _ _ _ hP hD hS (lv_sub hl [1, 2, 3, 4, 5, 6, 7, 8, 9, 0] rfl)
                  · replace h := it_p c_69 h
                    refine lv_iconst (v := 0) hx hb dX12_roll_143 (by decide) ?_
                    refine lv_istore (lv' := [(9, .int 0), (15, .int k_28), (0, .ref a_m), (1, .ref a_q1), (6, .int x6_1), (7, .int x7_2), (8, .int x8_3), (12, .int k_21), (13, .int k_24), (14, .int k_26)]) hx hb dX12_roll_144 hl (by decide) rfl (fun ls hl => ?_)
                    refine lv_goto (tgt := 317) hx hb dX12_roll_146 (by decide) ?_
                    exact J317_42 x6_1 x7_2 x8_3 0 f_m_potted_5 f_m_moves_6 f_m_bounces_7 f_m_hitFirst_8 f_m_hitPower_9 f_m_hitDown_10 f_m_hitRight_11 v_q1_12 h _ _ _ hP hD hS (lv_sub hl [2, 3, 4, 5, 6, 0] rfl)
              clear ej124_29
              refine lv_icmp_ne (tgt := 117) hx hb dX12_roll_110 (by decide) (fun c_70 => ?_) (fun c_70 => ?_)
              · replace h := it_n c_70 h
                refine lv_aload_n hx hb dX12_roll_117 rfl (lv_at hl 1 rfl) ?_
                refine lv_aload_n hx hb dX12_roll_118 rfl (lv_at hl 2 rfl) ?_
                refine lv_iload hx hb dX12_roll_119 (lv_at hl 0 rfl) ?_
                obtain ⟨u_71, hu_71, h⟩ := ob_s h
                refine cVi (C := RX12) (As := [.ref a_q1, .int k_26]) (rest := []) [(a_m, .inr (12, (.ref a_mP :: .int f_m_pageMany :: .int f_m_balls :: .int f_m_spot :: .int f_m_score :: .int f_m_strokesNow :: .int f_m_fouls :: .int f_m_tablesRead :: .ref a_mk :: .ref a_mw :: .ref a_mc :: .int f_m_potted_5 :: .int f_m_moves_6 :: .int f_m_bounces_7 :: .int f_m_hitFirst_8 :: .int f_m_hitPower_9 :: .int f_m_hitDown_10 :: .int f_m_hitRight_11 :: .int f_m_isFoul :: .ref a_mo :: .ref a_mt :: .int f_m_bestCode :: .int f_m_bestBrings :: .int f_m_plansDone :: .int f_m_safesDone :: .int f_m_seenMany :: .ref a_ms :: .ref a_mb :: .int f_m_seedNow :: .int f_m_keptTable :: .int f_m_keptScore :: .int f_m_keptStrokes :: .int f_m_keptFouls :: .int f_m_keptSeen :: .ref a_mK :: .ref a_mC :: .ref a_mS :: .long f_m_hash :: []))), (a_mk, .inl (xI X, 7, .inl v_mk)), (a_q1, .inl (xI X, 7, .inl v_q1_12))] hB (c_X12_liesIn X l n a_m a_mP a_mk a_mw a_mc a_mo a_mt a_ms a_mb a_mK a_mC a_mS a_q1 f_m_pageMany f_m_balls f_m_spot f_m_score f_m_strokesNow f_m_fouls f_m_tablesRead f_m_potted_5 f_m_moves_6 f_m_bounces_7 f_m_hitFirst_8 f_m_hitPower_9 f_m_hitDown_10 f_m_hitRight_11 f_m_isFoul f_m_bestCode f_m_bestBrings f_m_plansDone f_m_safesDone f_m_seenMany f_m_seedNow f_m_keptTable f_m_keptScore f_m_keptStrokes f_m_keptFouls f_m_keptSeen f_m_hash v_q1_12 k_26 u_71 hu_71) wq_5_79 wq_1_14 wq_5_76 wq_5_78 wp_37 hd_X12_liesIn (by decide) hP hD hS hl.1 [0, 2] [1] [(a_mk, .inl (xI X, 7, .inl v_mk))] rfl (by decide +kernel) rfl rfl rfl (nn := 3) rfl (by decide +kernel) [a_m, a_mk, a_q1] rfl rfl (q0 := 0) rfl rfl rfl rfl (Nat.le_of_ble_eq_true rfl) dX12_roll_121 ⟨Nat.zero_le _, Nat.zero_le _⟩ (fun H locs hP hD hS => ?_)
                exact J124_29 u_71 h _ _ _ hP hD hS (lv_sub hl [1, 2, 3, 4, 5, 6, 7, 8, 0] rfl)
              · replace h := it_p c_70 h
                refine lv_iconst (v := (-1)) hx hb dX12_roll_113 (by decide) ?_
                refine lv_goto (tgt := 124) hx hb dX12_roll_114 (by decide) ?_
                exact J124_29 (-1) h _ _ _ hP hD hS (lv_sub hl [1, 2, 3, 4, 5, 6, 7, 8, 0] rfl)
            clear ej105_27
            obtain ⟨j93_72, ej93_72, h⟩ := jn_s h
            have J93_72 : j93_72 = some res → ∀ (H : Heap) (locs : List Loc) (ls : Array Slot), va_P (xD X) vwCl [(a_m, .inr (12, (.ref a_mP :: .int f_m_pageMany :: .int f_m_balls :: .int f_m_spot :: .int f_m_score :: .int f_m_strokesNow :: .int f_m_fouls :: .int f_m_tablesRead :: .ref a_mk :: .ref a_mw :: .ref a_mc :: .int f_m_potted_5 :: .int f_m_moves_6 :: .int f_m_bounces_7 :: .int f_m_hitFirst_8 :: .int f_m_hitPower_9 :: .int f_m_hitDown_10 :: .int f_m_hitRight_11 :: .int f_m_isFoul :: .ref a_mo :: .ref a_mt :: .int f_m_bestCode :: .int f_m_bestBrings :: .int f_m_plansDone :: .int f_m_safesDone :: .int f_m_seenMany :: .ref a_ms :: .ref a_mb :: .int f_m_seedNow :: .int f_m_keptTable :: .int f_m_keptScore :: .int f_m_keptStrokes :: .int f_m_keptFouls :: .int f_m_keptSeen :: .ref a_mK :: .ref a_mC :: .ref a_mS :: .long f_m_hash :: []))), (a_mk, .inl (xI X, 7, .inl v_mk)), (a_q1, .inl (xI X, 7, .inl v_q1_12))] H → va_D A [(a_m, .inr (12, (.ref a_mP :: .int f_m_pageMany :: .int f_m_balls :: .int f_m_spot :: .int f_m_score :: .int f_m_strokesNow :: .int f_m_fouls :: .int f_m_tablesRead :: .ref a_mk :: .ref a_mw :: .ref a_mc :: .int f_m_potted_5 :: .int f_m_moves_6 :: .int f_m_bounces_7 :: .int f_m_hitFirst_8 :: .int f_m_hitPower_9 :: .int f_m_hitDown_10 :: .int f_m_hitRight_11 :: .int f_m_isFoul :: .ref a_mo :: .ref a_mt :: .int f_m_bestCode :: .int f_m_bestBrings :: .int f_m_plansDone :: .int f_m_safesDone :: .int f_m_seenMany :: .ref a_ms :: .ref a_mb :: .int f_m_seedNow :: .int f_m_keptTable :: .int f_m_keptScore :: .int f_m_keptStrokes :: .int f_m_keptFouls :: .int f_m_keptSeen :: .ref a_mK :: .ref a_mC :: .ref a_mS :: .long f_m_hash :: []))), (a_mk, .inl (xI X, 7, .inl v_mk)), (a_q1, .inl (xI X, 7, .inl v_q1_12))] → va_S A s.heap H locs → lv_has ls 16 [(0, .ref a_m), (1, .ref a_q1), (6, .int x6_1), (7, .int x7_2), (8, .int x8_3), (9, .int x9_4), (12, .int k_21), (13, .int k_24)] → W p l e (rmF 2 44) s m args below meth c H locs 0 0 Q (F0 m 93 ls []) := by
              clear h
              intro h H locs ls hP hD hS hl
              rw [ej93_72] at h
              refine lv_iconst (v := (-1)) hx hb dX12_roll_93 (by decide) ?_
              refine lv_goto (tgt := 105) hx hb dX12_roll_94 (by decide) ?_
              exact J105_27 (-1) h _ _ _ hP hD hS (lv_sub hl [0, 1, 2, 3, 4, 5, 6, 7] rfl)
            clear ej93_72
            refine lv_if_ne (tgt := 93) hx hb dX12_roll_85 (by decide) (fun c_73 => ?_) (fun c_73 => ?_)
            · replace h := it_n c_73 h
              exact J93_72 h _ _ _ hP hD hS (lv_sub hl [1, 2, 3, 4, 5, 6, 9, 0] rfl)
            · replace h := it_p c_73 h
              refine lv_iload hx hb dX12_roll_88 (lv_at hl 0 rfl) ?_
              refine lv_if_eq (tgt := 97) hx hb dX12_roll_90 (by decide) (fun c_74 => ?_) (fun c_74 => ?_)
              · replace h := it_p c_74 h
                refine lv_bipush (v := 9) hx hb dX12_roll_97 (by decide) ?_
                refine lv_iload hx hb dX12_roll_99 (lv_at hl 7 rfl) ?_
                refine lv_imul hx hb dX12_roll_101 ?_
                refine lv_iload hx hb dX12_roll_102 (lv_at hl 8 rfl) ?_
                refine lv_iadd hx hb dX12_roll_104 ?_
                exact J105_27 ((9 * x10_17) + x11_19) h _ _ _ hP hD hS (lv_sub hl [1, 2, 3, 4, 5, 6, 9, 0] rfl)
              · replace h := it_n c_74 h
                exact J93_72 h _ _ _ hP hD hS (lv_sub hl [1, 2, 3, 4, 5, 6, 9, 0] rfl)
          clear ej81_25
          refine lv_if_ne (tgt := 80) hx hb dX12_roll_73 (by decide) (fun c_75 => ?_) (fun c_75 => ?_)
          · replace h := it_n c_75 h
            refine lv_iconst (v := 0) hx hb dX12_roll_80 (by decide) ?_
            exact J81_25 0 h _ _ _ hP hD hS (lv_sub hl [1, 2, 3, 4, 5, 6, 7, 8, 0] rfl)
          · replace h := it_p c_75 h
            refine lv_iconst (v := 1) hx hb dX12_roll_76 (by decide) ?_
            refine lv_goto (tgt := 81) hx hb dX12_roll_77 (by decide) ?_
            exact J81_25 1 h _ _ _ hP hD hS (lv_sub hl [1, 2, 3, 4, 5, 6, 7, 8, 0] rfl)
        clear ej61_22
        refine lv_if_ne (tgt := 60) hx hb dX12_roll_53 (by decide) (fun c_76 => ?_) (fun c_76 => ?_)
        · replace h := it_n c_76 h
          refine lv_iconst (v := 0) hx hb dX12_roll_60 (by decide) ?_
          exact J61_22 0 h _ _ _ hP hD hS (lv_sub hl [2, 3, 4, 5, 6, 7, 1, 0] rfl)
        · replace h := it_p c_76 h
          refine lv_iconst (v := 1) hx hb dX12_roll_56 (by decide) ?_
          refine lv_goto (tgt := 61) hx hb dX12_roll_57 (by decide) ?_
          exact J61_22 1 h _ _ _ hP hD hS (lv_sub hl [2, 3, 4, 5, 6, 7, 1, 0] rfl)
  exact L14_go_13 n p2 p3 p4 p5 f_m_potted f_m_moves f_m_bounces f_m_hitFirst f_m_hitPower f_m_hitDown f_m_hitRight v_q1 h _ _ _ hP hD hS (lv_sub hl [4, 5, 3, 2, 1, 0] rfl)


def b_X12_strike_L154 (f_m_balls : Int32) (v_mw : Nat → Int32) (f_m_potted_7 : Int32) (j191_22 : Int32 → Option (Int32 × Int32 × Int32 × Int32 × Int32 × Int32 × Int32 × Int32 × Int32 × (Nat → Int32))) (go_28 : Int32 → Int32 → Option (Int32 × Int32 × Int32 × Int32 × Int32 × Int32 × Int32 × Int32 × Int32 × (Nat → Int32))) (x5_26 : Int32) (x6_27 : Int32) : Option (Int32 × Int32 × Int32 × Int32 × Int32 × Int32 × Int32 × Int32 × Int32 × (Nat → Int32)) :=
  (if f_m_balls < x6_27 then (j191_22 x5_26) else (gd (inb x6_27 7) (bnd (x5_26 + (((f_m_potted_7 >>> (x6_27 &&& 31)) &&& 1) * (v_mw x6_27.toNatClampNeg))) (fun x5_32 => (bnd (x6_27 + 1) (fun x6_33 => (go_28 x5_32 x6_33)))))))
def f_X12_strike_L154 (f_m_balls : Int32) (v_mw : Nat → Int32) (f_m_potted_7 : Int32) (j191_22 : Int32 → Option (Int32 × Int32 × Int32 × Int32 × Int32 × Int32 × Int32 × Int32 × Int32 × (Nat → Int32))) (k : Nat) (x5_26 : Int32) (x6_27 : Int32) : Option (Int32 × Int32 × Int32 × Int32 × Int32 × Int32 × Int32 × Int32 × Int32 × (Nat → Int32)) :=
  lpF (fun (self : (Int32 × Int32) → Option (Int32 × Int32 × Int32 × Int32 × Int32 × Int32 × Int32 × Int32 × Int32 × (Nat → Int32))) (a : Int32 × Int32) => b_X12_strike_L154 f_m_balls v_mw f_m_potted_7 j191_22 (fun x5_26 x6_27 => self (x5_26, x6_27)) a.1 a.2) k (x5_26, x6_27)
def f_X12_strike (n : Nat) (f_m_balls : Int32) (f_m_spot : Int32) (f_m_potted : Int32) (f_m_moves : Int32) (f_m_bounces : Int32) (f_m_hitFirst : Int32) (f_m_hitPower : Int32) (f_m_hitDown : Int32) (f_m_hitRight : Int32) (f_m_isFoul : Int32) (v_mk : Nat → Int32) (v_mw : Nat → Int32) (v_q1 : Nat → Int32) (p2 : Int32) (p3 : Int32) (p4 : Int32) : Option (Int32 × Int32 × Int32 × Int32 × Int32 × Int32 × Int32 × Int32 × Int32 × (Nat → Int32)) :=
  ((f_X12_downBy p2).bind (fun u_1 => ((f_X12_rightBy p2).bind (fun u_2 => ((f_X12_roll n f_m_balls 0 0 0 (-1) f_m_hitPower f_m_hitDown f_m_hitRight v_mk v_q1 0 u_1 u_2 p3).bind (fun u_3 => (jn (fun (k_4 : Int32) => (gd (isb k_4) (jn (fun (f_m_potted_7 : Int32) (f_m_moves_8 : Int32) (f_m_bounces_9 : Int32) (f_m_hitFirst_10 : Int32) (f_m_hitPower_11 : Int32) (f_m_hitDown_12 : Int32) (f_m_hitRight_13 : Int32) (v_q1_14 : Nat → Int32) => (jn (fun (k_16 : Int32) => (gd (isb k_16) (jn (fun (k_19 : Int32) => (jn (fun (x5_21 : Int32) => (gd (inb 0 7) (if (v_q1_14 (0 : Int32).toNatClampNeg) = (-1) then ((f_X12_spotWhite n f_m_balls f_m_spot v_q1_14).bind (fun u_25 => (some (x5_21, f_m_potted_7, f_m_moves_8, f_m_bounces_9, f_m_hitFirst_10, f_m_hitPower_11, f_m_hitDown_12, f_m_hitRight_13, k_16, u_25)))) else (some (x5_21, f_m_potted_7, f_m_moves_8, f_m_bounces_9, f_m_hitFirst_10, f_m_hitPower_11, f_m_hitDown_12, f_m_hitRight_13, k_16, v_q1_14))))) (fun (j191_22 : Int32 → Option (Int32 × Int32 × Int32 × Int32 × Int32 × Int32 × Int32 × Int32 × Int32 × (Nat → Int32))) => (f_X12_strike_L154 f_m_balls v_mw f_m_potted_7 j191_22 n k_19 1)))) (fun (j149_20 : Int32 → Option (Int32 × Int32 × Int32 × Int32 × Int32 × Int32 × Int32 × Int32 × Int32 × (Nat → Int32))) => (if k_16 = 0 then (j149_20 0) else (j149_20 (-4))))))) (fun (j133_17 : Int32 → Option (Int32 × Int32 × Int32 × Int32 × Int32 × Int32 × Int32 × Int32 × Int32 × (Nat → Int32))) => (jn ((j133_17 1)) (fun (j128_35 : Option (Int32 × Int32 × Int32 × Int32 × Int32 × Int32 × Int32 × Int32 × Int32 × (Nat → Int32))) => (if k_4 = 0 then (if (f_m_potted_7 &&& 1) = 1 then j128_35 else (j133_17 0)) else j128_35)))))) (fun (j110_15 : Int32 → Int32 → Int32 → Int32 → Int32 → Int32 → Int32 → (Nat → Int32) → Option (Int32 × Int32 × Int32 × Int32 × Int32 × Int32 × Int32 × Int32 × Int32 × (Nat → Int32))) => (if k_4 = 0 then (if p4 ≤ 0 then (j110_15 u_3.1 u_3.2.1 u_3.2.2.1 u_3.2.2.2.1 u_3.2.2.2.2.1 u_3.2.2.2.2.2.1 u_3.2.2.2.2.2.2.1 u_3.2.2.2.2.2.2.2) else (gd (inb 0 7) (if (u_3.2.2.2.2.2.2.2 (0 : Int32).toNatClampNeg) = (-1) then (j110_15 u_3.1 u_3.2.1 u_3.2.2.1 u_3.2.2.2.1 u_3.2.2.2.2.1 u_3.2.2.2.2.2.1 u_3.2.2.2.2.2.2.1 u_3.2.2.2.2.2.2.2) else (jn (fun (k_42 : Int32) => ((f_X12_roll n f_m_balls u_3.1 u_3.2.1 u_3.2.2.1 u_3.2.2.2.1 u_3.2.2.2.2.1 u_3.2.2.2.2.2.1 u_3.2.2.2.2.2.2.1 v_mk u_3.2.2.2.2.2.2.2 0 (k_42 * u_3.2.2.2.2.2.1) (k_42 * u_3.2.2.2.2.2.2.1) (u_3.2.2.2.2.1 / 2)).bind (fun u_44 => (j110_15 u_44.1 u_44.2.1 u_44.2.2.1 u_44.2.2.2.1 u_44.2.2.2.2.1 u_44.2.2.2.2.2.1 u_44.2.2.2.2.2.2.1 u_44.2.2.2.2.2.2.2)))) (fun (j82_43 : Int32 → Option (Int32 × Int32 × Int32 × Int32 × Int32 × Int32 × Int32 × Int32 × Int32 × (Nat → Int32))) => (if p4 = 1 then (j82_43 1) else (j82_43 (-1)))))))) else (j110_15 u_3.1 u_3.2.1 u_3.2.2.1 u_3.2.2.2.1 u_3.2.2.2.2.1 u_3.2.2.2.2.2.1 u_3.2.2.2.2.2.2.1 u_3.2.2.2.2.2.2.2)))))) (fun (j49_5 : Int32 → Option (Int32 × Int32 × Int32 × Int32 × Int32 × Int32 × Int32 × Int32 × Int32 × (Nat → Int32))) => (if u_3.2.2.2.1 = (-1) then (j49_5 1) else (j49_5 0))))))))))
theorem hd_X12_strike : yX12_strike.cls ≠ "java/lang/invoke/MethodHandle" ∧ yX12_strike.cls ≠ "java/lang/invoke/VarHandle" ∧ (parseMethodDescriptor yX12_strike.desc).map (fun d => d.parameters.length) = some 4 := ⟨by decide +kernel, by decide +kernel, by decide +kernel⟩
set_option maxHeartbeats 4000000 in
set_option maxRecDepth 100000 in
theorem c_X12_strike (X : CXp) (l : Launch) (n : Nat) (a_m a_mP a_mk a_mw a_mc a_mo a_mt a_ms a_mb a_mK a_mC a_mS a_q1 : Nat) (f_m_pageMany : Int32) (f_m_balls : Int32) (f_m_spot : Int32) (f_m_score : Int32) (f_m_strokesNow : Int32) (f_m_fouls : Int32) (f_m_tablesRead : Int32) (f_m_potted : Int32) (f_m_moves : Int32) (f_m_bounces : Int32) (f_m_hitFirst : Int32) (f_m_hitPower : Int32) (f_m_hitDown : Int32) (f_m_hitRight : Int32) (f_m_isFoul : Int32) (f_m_bestCode : Int32) (f_m_bestBrings : Int32) (f_m_plansDone : Int32) (f_m_safesDone : Int32) (f_m_seenMany : Int32) (f_m_seedNow : Int32) (f_m_keptTable : Int32) (f_m_keptScore : Int32) (f_m_keptStrokes : Int32) (f_m_keptFouls : Int32) (f_m_keptSeen : Int32) (f_m_hash : Int64) (v_mk : Nat → Int32) (v_mw : Nat → Int32) (v_q1 : Nat → Int32) (p2 : Int32) (p3 : Int32) (p4 : Int32) (res : Int32 × Int32 × Int32 × Int32 × Int32 × Int32 × Int32 × Int32 × Int32 × (Nat → Int32)) (h : f_X12_strike n f_m_balls f_m_spot f_m_potted f_m_moves f_m_bounces f_m_hitFirst f_m_hitPower f_m_hitDown f_m_hitRight f_m_isFoul v_mk v_mw v_q1 p2 p3 p4 = some res) : CTg X l yX12_strike cX12_strike 7 (some .int) 3 79 [.ref a_m, .ref a_q1, .int p2, .int p3, .int p4] [(a_m, .inr (12, (.ref a_mP :: .int f_m_pageMany :: .int f_m_balls :: .int f_m_spot :: .int f_m_score :: .int f_m_strokesNow :: .int f_m_fouls :: .int f_m_tablesRead :: .ref a_mk :: .ref a_mw :: .ref a_mc :: .int f_m_potted :: .int f_m_moves :: .int f_m_bounces :: .int f_m_hitFirst :: .int f_m_hitPower :: .int f_m_hitDown :: .int f_m_hitRight :: .int f_m_isFoul :: .ref a_mo :: .ref a_mt :: .int f_m_bestCode :: .int f_m_bestBrings :: .int f_m_plansDone :: .int f_m_safesDone :: .int f_m_seenMany :: .ref a_ms :: .ref a_mb :: .int f_m_seedNow :: .int f_m_keptTable :: .int f_m_keptScore :: .int f_m_keptStrokes :: .int f_m_keptFouls :: .int f_m_keptSeen :: .ref a_mK :: .ref a_mC :: .ref a_mS :: .long f_m_hash :: []))), (a_mk, .inl (xI X, 7, .inl v_mk)), (a_mw, .inl (xI X, 7, .inl v_mw)), (a_q1, .inl (xI X, 7, .inl v_q1))] (QcI X res.1 [(a_m, .inr (12, (.ref a_mP :: .int f_m_pageMany :: .int f_m_balls :: .int f_m_spot :: .int f_m_score :: .int f_m_strokesNow :: .int f_m_fouls :: .int f_m_tablesRead :: .ref a_mk :: .ref a_mw :: .ref a_mc :: .int res.2.1 :: .int res.2.2.1 :: .int res.2.2.2.1 :: .int res.2.2.2.2.1 :: .int res.2.2.2.2.2.1 :: .int res.2.2.2.2.2.2.1 :: .int res.2.2.2.2.2.2.2.1 :: .int res.2.2.2.2.2.2.2.2.1 :: .ref a_mo :: .ref a_mt :: .int f_m_bestCode :: .int f_m_bestBrings :: .int f_m_plansDone :: .int f_m_safesDone :: .int f_m_seenMany :: .ref a_ms :: .ref a_mb :: .int f_m_seedNow :: .int f_m_keptTable :: .int f_m_keptScore :: .int f_m_keptStrokes :: .int f_m_keptFouls :: .int f_m_keptSeen :: .ref a_mK :: .ref a_mC :: .ref a_mS :: .long f_m_hash :: []))), (a_mk, .inl (xI X, 7, .inl v_mk)), (a_mw, .inl (xI X, 7, .inl v_mw)), (a_q1, .inl (xI X, 7, .inl res.2.2.2.2.2.2.2.2.2))]) := by
  refine CTg.mk (own := RX12) (by decide) rfl (Nat.le_of_ble_eq_true rfl) ?_
  intro p e s m args below meth c A hB hP hD hS ls hl
  obtain ⟨hx, hb, hr, hml, hown, hts, hlocks, hcx, hA, hAB⟩ := id hB
  have hK := hcx.1
  generalize hQ : MQ below (QcI X res.1 [(a_m, .inr (12, (.ref a_mP :: .int f_m_pageMany :: .int f_m_balls :: .int f_m_spot :: .int f_m_score :: .int f_m_strokesNow :: .int f_m_fouls :: .int f_m_tablesRead :: .ref a_mk :: .ref a_mw :: .ref a_mc :: .int res.2.1 :: .int res.2.2.1 :: .int res.2.2.2.1 :: .int res.2.2.2.2.1 :: .int res.2.2.2.2.2.1 :: .int res.2.2.2.2.2.2.1 :: .int res.2.2.2.2.2.2.2.1 :: .int res.2.2.2.2.2.2.2.2.1 :: .ref a_mo :: .ref a_mt :: .int f_m_bestCode :: .int f_m_bestBrings :: .int f_m_plansDone :: .int f_m_safesDone :: .int f_m_seenMany :: .ref a_ms :: .ref a_mb :: .int f_m_seedNow :: .int f_m_keptTable :: .int f_m_keptScore :: .int f_m_keptStrokes :: .int f_m_keptFouls :: .int f_m_keptSeen :: .ref a_mK :: .ref a_mC :: .ref a_mS :: .long f_m_hash :: []))), (a_mk, .inl (xI X, 7, .inl v_mk)), (a_mw, .inl (xI X, 7, .inl v_mw)), (a_q1, .inl (xI X, 7, .inl res.2.2.2.2.2.2.2.2.2))] A) args s 0 0 A = Q
  replace hl : lv_has ls 7 [(0, .ref a_m), (1, .ref a_q1), (2, .int p2), (3, .int p3), (4, .int p4)] := hl
  unfold f_X12_strike at h
  refine lv_aload_n hx hb dX12_strike_0 rfl (lv_at hl 0 rfl) ?_
  refine lv_iconst (v := 0) hx hb dX12_strike_1 (by decide) ?_
  refine va_put (D := xD X) (ci := 12) (v := .int 0) (ty := .int) (C := RX12) (T := TX12) (N := 38) hx hb hts inX12 tyX12 tyX12_ok nmX12 hown hK hP hD hS 0 rfl rfl 11 (by decide) (hts _ wq_4_118) (fun _ h9 => h9) rfl (by decide +kernel) rfl rfl (Nat.le_of_ble_eq_true rfl) dX12_strike_2 (fun H locs (hP : va_P (xD X) vwCl [(a_m, .inr (12, (.ref a_mP :: .int f_m_pageMany :: .int f_m_balls :: .int f_m_spot :: .int f_m_score :: .int f_m_strokesNow :: .int f_m_fouls :: .int f_m_tablesRead :: .ref a_mk :: .ref a_mw :: .ref a_mc :: .int 0 :: .int f_m_moves :: .int f_m_bounces :: .int f_m_hitFirst :: .int f_m_hitPower :: .int f_m_hitDown :: .int f_m_hitRight :: .int f_m_isFoul :: .ref a_mo :: .ref a_mt :: .int f_m_bestCode :: .int f_m_bestBrings :: .int f_m_plansDone :: .int f_m_safesDone :: .int f_m_seenMany :: .ref a_ms :: .ref a_mb :: .int f_m_seedNow :: .int f_m_keptTable :: .int f_m_keptScore :: .int f_m_keptStrokes :: .int f_m_keptFouls :: .int f_m_keptSeen :: .ref a_mK :: .ref a_mC :: .ref a_mS :: .long f_m_hash :: []))), (a_mk, .inl (xI X, 7, .inl v_mk)), (a_mw, .inl (xI X, 7, .inl v_mw)), (a_q1, .inl (xI X, 7, .inl v_q1))] H) (hD : va_D A [(a_m, .inr (12, (.ref a_mP :: .int f_m_pageMany :: .int f_m_balls :: .int f_m_spot :: .int f_m_score :: .int f_m_strokesNow :: .int f_m_fouls :: .int f_m_tablesRead :: .ref a_mk :: .ref a_mw :: .ref a_mc :: .int 0 :: .int f_m_moves :: .int f_m_bounces :: .int f_m_hitFirst :: .int f_m_hitPower :: .int f_m_hitDown :: .int f_m_hitRight :: .int f_m_isFoul :: .ref a_mo :: .ref a_mt :: .int f_m_bestCode :: .int f_m_bestBrings :: .int f_m_plansDone :: .int f_m_safesDone :: .int f_m_seenMany :: .ref a_ms :: .ref a_mb :: .int f_m_seedNow :: .int f_m_keptTable :: .int f_m_keptScore :: .int f_m_keptStrokes :: .int f_m_keptFouls :: .int f_m_keptSeen :: .ref a_mK :: .ref a_mC :: .ref a_mS :: .long f_m_hash :: []))), (a_mk, .inl (xI X, 7, .inl v_mk)), (a_mw, .inl (xI X, 7, .inl v_mw)), (a_q1, .inl (xI X, 7, .inl v_q1))]) hS => ?_)
  refine lv_aload_n hx hb dX12_strike_5 rfl (lv_at hl 0 rfl) ?_
  refine lv_iconst (v := 0) hx hb dX12_strike_6 (by decide) ?_
  refine va_put (D := xD X) (ci := 12) (v := .int 0) (ty := .int) (C := RX12) (T := TX12) (N := 38) hx hb hts inX12 tyX12 tyX12_ok nmX12 hown hK hP hD hS 0 rfl rfl 12 (by decide) (hts _ wq_4_119) (fun _ h9 => h9) rfl (by decide +kernel) rfl rfl (Nat.le_of_ble_eq_true rfl) dX12_strike_7 (fun H locs (hP : va_P (xD X) vwCl [(a_m, .inr (12, (.ref a_mP :: .int f_m_pageMany :: .int f_m_balls :: .int f_m_spot :: .int f_m_score :: .int f_m_strokesNow :: .int f_m_fouls :: .int f_m_tablesRead :: .ref a_mk :: .ref a_mw :: .ref a_mc :: .int 0 :: .int 0 :: .int f_m_bounces :: .int f_m_hitFirst :: .int f_m_hitPower :: .int f_m_hitDown :: .int f_m_hitRight :: .int f_m_isFoul :: .ref a_mo :: .ref a_mt :: .int f_m_bestCode :: .int f_m_bestBrings :: .int f_m_plansDone :: .int f_m_safesDone :: .int f_m_seenMany :: .ref a_ms :: .ref a_mb :: .int f_m_seedNow :: .int f_m_keptTable :: .int f_m_keptScore :: .int f_m_keptStrokes :: .int f_m_keptFouls :: .int f_m_keptSeen :: .ref a_mK :: .ref a_mC :: .ref a_mS :: .long f_m_hash :: []))), (a_mk, .inl (xI X, 7, .inl v_mk)), (a_mw, .inl (xI X, 7, .inl v_mw)), (a_q1, .inl (xI X, 7, .inl v_q1))] H) (hD : va_D A [(a_m, .inr (12, (.ref a_mP :: .int f_m_pageMany :: .int f_m_balls :: .int f_m_spot :: .int f_m_score :: .int f_m_strokesNow :: .int f_m_fouls :: .int f_m_tablesRead :: .ref a_mk :: .ref a_mw :: .ref a_mc :: .int 0 :: .int 0 :: .int f_m_bounces :: .int f_m_hitFirst :: .int f_m_hitPower :: .int f_m_hitDown :: .int f_m_hitRight :: .int f_m_isFoul :: .ref a_mo :: .ref a_mt :: .int f_m_bestCode :: .int f_m_bestBrings :: .int f_m_plansDone :: .int f_m_safesDone :: .int f_m_seenMany :: .ref a_ms :: .ref a_mb :: .int f_m_seedNow :: .int f_m_keptTable :: .int f_m_keptScore :: .int f_m_keptStrokes :: .int f_m_keptFouls :: .int f_m_keptSeen :: .ref a_mK :: .ref a_mC :: .ref a_mS :: .long f_m_hash :: []))), (a_mk, .inl (xI X, 7, .inl v_mk)), (a_mw, .inl (xI X, 7, .inl v_mw)), (a_q1, .inl (xI X, 7, .inl v_q1))]) hS => ?_)
  refine lv_aload_n hx hb dX12_strike_10 rfl (lv_at hl 0 rfl) ?_
  refine lv_iconst (v := 0) hx hb dX12_strike_11 (by decide) ?_
  refine va_put (D := xD X) (ci := 12) (v := .int 0) (ty := .int) (C := RX12) (T := TX12) (N := 38) hx hb hts inX12 tyX12 tyX12_ok nmX12 hown hK hP hD hS 0 rfl rfl 13 (by decide) (hts _ wq_4_120) (fun _ h9 => h9) rfl (by decide +kernel) rfl rfl (Nat.le_of_ble_eq_true rfl) dX12_strike_12 (fun H locs (hP : va_P (xD X) vwCl [(a_m, .inr (12, (.ref a_mP :: .int f_m_pageMany :: .int f_m_balls :: .int f_m_spot :: .int f_m_score :: .int f_m_strokesNow :: .int f_m_fouls :: .int f_m_tablesRead :: .ref a_mk :: .ref a_mw :: .ref a_mc :: .int 0 :: .int 0 :: .int 0 :: .int f_m_hitFirst :: .int f_m_hitPower :: .int f_m_hitDown :: .int f_m_hitRight :: .int f_m_isFoul :: .ref a_mo :: .ref a_mt :: .int f_m_bestCode :: .int f_m_bestBrings :: .int f_m_plansDone :: .int f_m_safesDone :: .int f_m_seenMany :: .ref a_ms :: .ref a_mb :: .int f_m_seedNow :: .int f_m_keptTable :: .int f_m_keptScore :: .int f_m_keptStrokes :: .int f_m_keptFouls :: .int f_m_keptSeen :: .ref a_mK :: .ref a_mC :: .ref a_mS :: .long f_m_hash :: []))), (a_mk, .inl (xI X, 7, .inl v_mk)), (a_mw, .inl (xI X, 7, .inl v_mw)), (a_q1, .inl (xI X, 7, .inl v_q1))] H) (hD : va_D A [(a_m, .inr (12, (.ref a_mP :: .int f_m_pageMany :: .int f_m_balls :: .int f_m_spot :: .int f_m_score :: .int f_m_strokesNow :: .int f_m_fouls :: .int f_m_tablesRead :: .ref a_mk :: .ref a_mw :: .ref a_mc :: .int 0 :: .int 0 :: .int 0 :: .int f_m_hitFirst :: .int f_m_hitPower :: .int f_m_hitDown :: .int f_m_hitRight :: .int f_m_isFoul :: .ref a_mo :: .ref a_mt :: .int f_m_bestCode :: .int f_m_bestBrings :: .int f_m_plansDone :: .int f_m_safesDone :: .int f_m_seenMany :: .ref a_ms :: .ref a_mb :: .int f_m_seedNow :: .int f_m_keptTable :: .int f_m_keptScore :: .int f_m_keptStrokes :: .int f_m_keptFouls :: .int f_m_keptSeen :: .ref a_mK :: .ref a_mC :: .ref a_mS :: .long f_m_hash :: []))), (a_mk, .inl (xI X, 7, .inl v_mk)), (a_mw, .inl (xI X, 7, .inl v_mw)), (a_q1, .inl (xI X, 7, .inl v_q1))]) hS => ?_)
  refine lv_aload_n hx hb dX12_strike_15 rfl (lv_at hl 0 rfl) ?_
  refine lv_iconst (v := (-1)) hx hb dX12_strike_16 (by decide) ?_
  refine va_put (D := xD X) (ci := 12) (v := .int (-1)) (ty := .int) (C := RX12) (T := TX12) (N := 38) hx hb hts inX12 tyX12 tyX12_ok nmX12 hown hK hP hD hS 0 rfl rfl 14 (by decide) (hts _ wq_4_121) (fun _ h9 => h9) rfl (by decide +kernel) rfl rfl (Nat.le_of_ble_eq_true rfl) dX12_strike_17 (fun H locs (hP : va_P (xD X) vwCl [(a_m, .inr (12, (.ref a_mP :: .int f_m_pageMany :: .int f_m_balls :: .int f_m_spot :: .int f_m_score :: .int f_m_strokesNow :: .int f_m_fouls :: .int f_m_tablesRead :: .ref a_mk :: .ref a_mw :: .ref a_mc :: .int 0 :: .int 0 :: .int 0 :: .int (-1) :: .int f_m_hitPower :: .int f_m_hitDown :: .int f_m_hitRight :: .int f_m_isFoul :: .ref a_mo :: .ref a_mt :: .int f_m_bestCode :: .int f_m_bestBrings :: .int f_m_plansDone :: .int f_m_safesDone :: .int f_m_seenMany :: .ref a_ms :: .ref a_mb :: .int f_m_seedNow :: .int f_m_keptTable :: .int f_m_keptScore :: .int f_m_keptStrokes :: .int f_m_keptFouls :: .int f_m_keptSeen :: .ref a_mK :: .ref a_mC :: .ref a_mS :: .long f_m_hash :: []))), (a_mk, .inl (xI X, 7, .inl v_mk)), (a_mw, .inl (xI X, 7, .inl v_mw)), (a_q1, .inl (xI X, 7, .inl v_q1))] H) (hD : va_D A [(a_m, .inr (12, (.ref a_mP :: .int f_m_pageMany :: .int f_m_balls :: .int f_m_spot :: .int f_m_score :: .int f_m_strokesNow :: .int f_m_fouls :: .int f_m_tablesRead :: .ref a_mk :: .ref a_mw :: .ref a_mc :: .int 0 :: .int 0 :: .int 0 :: .int (-1) :: .int f_m_hitPower :: .int f_m_hitDown :: .int f_m_hitRight :: .int f_m_isFoul :: .ref a_mo :: .ref a_mt :: .int f_m_bestCode :: .int f_m_bestBrings :: .int f_m_plansDone :: .int f_m_safesDone :: .int f_m_seenMany :: .ref a_ms :: .ref a_mb :: .int f_m_seedNow :: .int f_m_keptTable :: .int f_m_keptScore :: .int f_m_keptStrokes :: .int f_m_keptFouls :: .int f_m_keptSeen :: .ref a_mK :: .ref a_mC :: .ref a_mS :: .long f_m_hash :: []))), (a_mk, .inl (xI X, 7, .inl v_mk)), (a_mw, .inl (xI X, 7, .inl v_mw)), (a_q1, .inl (xI X, 7, .inl v_q1))]) hS => ?_)
  refine lv_aload_n hx hb dX12_strike_20 rfl (lv_at hl 0 rfl) ?_
  refine lv_aload_n hx hb dX12_strike_21 rfl (lv_at hl 1 rfl) ?_
  refine lv_iconst (v := 0) hx hb dX12_strike_22 (by decide) ?_
  refine lv_iload_n hx hb dX12_strike_23 rfl (lv_at hl 2 rfl) ?_
  obtain ⟨u_1, hu_1, h⟩ := ob_s h
  refine cSi (As := [.int p2]) (rest := [.int 0, .ref a_q1, .ref a_m]) [(a_m, .inr (12, (.ref a_mP :: .int f_m_pageMany :: .int f_m_balls :: .int f_m_spot :: .int f_m_score :: .int f_m_strokesNow :: .int f_m_fouls :: .int f_m_tablesRead :: .ref a_mk :: .ref a_mw :: .ref a_mc :: .int 0 :: .int 0 :: .int 0 :: .int (-1) :: .int f_m_hitPower :: .int f_m_hitDown :: .int f_m_hitRight :: .int f_m_isFoul :: .ref a_mo :: .ref a_mt :: .int f_m_bestCode :: .int f_m_bestBrings :: .int f_m_plansDone :: .int f_m_safesDone :: .int f_m_seenMany :: .ref a_ms :: .ref a_mb :: .int f_m_seedNow :: .int f_m_keptTable :: .int f_m_keptScore :: .int f_m_keptStrokes :: .int f_m_keptFouls :: .int f_m_keptSeen :: .ref a_mK :: .ref a_mC :: .ref a_mS :: .long f_m_hash :: []))), (a_mk, .inl (xI X, 7, .inl v_mk)), (a_mw, .inl (xI X, 7, .inl v_mw)), (a_q1, .inl (xI X, 7, .inl v_q1))] hB (c_X12_downBy X l p2 u_1 hu_1) wq_5_66 wq_1_14 wq_5_64 wq_5_65 hd_X12_downBy (by decide) hP hD hS hl.1 [] [0, 1, 2, 3] [(a_m, .inr (12, (.ref a_mP :: .int f_m_pageMany :: .int f_m_balls :: .int f_m_spot :: .int f_m_score :: .int f_m_strokesNow :: .int f_m_fouls :: .int f_m_tablesRead :: .ref a_mk :: .ref a_mw :: .ref a_mc :: .int 0 :: .int 0 :: .int 0 :: .int (-1) :: .int f_m_hitPower :: .int f_m_hitDown :: .int f_m_hitRight :: .int f_m_isFoul :: .ref a_mo :: .ref a_mt :: .int f_m_bestCode :: .int f_m_bestBrings :: .int f_m_plansDone :: .int f_m_safesDone :: .int f_m_seenMany :: .ref a_ms :: .ref a_mb :: .int f_m_seedNow :: .int f_m_keptTable :: .int f_m_keptScore :: .int f_m_keptStrokes :: .int f_m_keptFouls :: .int f_m_keptSeen :: .ref a_mK :: .ref a_mC :: .ref a_mS :: .long f_m_hash :: []))), (a_mk, .inl (xI X, 7, .inl v_mk)), (a_mw, .inl (xI X, 7, .inl v_mw)), (a_q1, .inl (xI X, 7, .inl v_q1))] rfl (by decide +kernel) rfl rfl rfl (nn := 4) rfl (by decide +kernel) [a_m, a_mk, a_mw, a_q1] rfl rfl rfl rfl (Nat.le_of_ble_eq_true rfl) dX12_strike_24 ⟨Nat.zero_le _, Nat.zero_le _⟩ (fun H locs hP hD hS => ?_)
  refine lv_iload_n hx hb dX12_strike_27 rfl (lv_at hl 2 rfl) ?_
  obtain ⟨u_2, hu_2, h⟩ := ob_s h
  refine cSi (As := [.int p2]) (rest := [.int u_1, .int 0, .ref a_q1, .ref a_m]) [(a_m, .inr (12, (.ref a_mP :: .int f_m_pageMany :: .int f_m_balls :: .int f_m_spot :: .int f_m_score :: .int f_m_strokesNow :: .int f_m_fouls :: .int f_m_tablesRead :: .ref a_mk :: .ref a_mw :: .ref a_mc :: .int 0 :: .int 0 :: .int 0 :: .int (-1) :: .int f_m_hitPower :: .int f_m_hitDown :: .int f_m_hitRight :: .int f_m_isFoul :: .ref a_mo :: .ref a_mt :: .int f_m_bestCode :: .int f_m_bestBrings :: .int f_m_plansDone :: .int f_m_safesDone :: .int f_m_seenMany :: .ref a_ms :: .ref a_mb :: .int f_m_seedNow :: .int f_m_keptTable :: .int f_m_keptScore :: .int f_m_keptStrokes :: .int f_m_keptFouls :: .int f_m_keptSeen :: .ref a_mK :: .ref a_mC :: .ref a_mS :: .long f_m_hash :: []))), (a_mk, .inl (xI X, 7, .inl v_mk)), (a_mw, .inl (xI X, 7, .inl v_mw)), (a_q1, .inl (xI X, 7, .inl v_q1))] hB (c_X12_rightBy X l p2 u_2 hu_2) wq_5_69 wq_1_14 wq_5_67 wq_5_68 hd_X12_rightBy (by decide) hP hD hS hl.1 [] [0, 1, 2, 3] [(a_m, .inr (12, (.ref a_mP :: .int f_m_pageMany :: .int f_m_balls :: .int f_m_spot :: .int f_m_score :: .int f_m_strokesNow :: .int f_m_fouls :: .int f_m_tablesRead :: .ref a_mk :: .ref a_mw :: .ref a_mc :: .int 0 :: .int 0 :: .int 0 :: .int (-1) :: .int f_m_hitPower :: .int f_m_hitDown :: .int f_m_hitRight :: .int f_m_isFoul :: .ref a_mo :: .ref a_mt :: .int f_m_bestCode :: .int f_m_bestBrings :: .int f_m_plansDone :: .int f_m_safesDone :: .int f_m_seenMany :: .ref a_ms :: .ref a_mb :: .int f_m_seedNow :: .int f_m_keptTable :: .int f_m_keptScore :: .int f_m_keptStrokes :: .int f_m_keptFouls :: .int f_m_keptSeen :: .ref a_mK :: .ref a_mC :: .ref a_mS :: .long f_m_hash :: []))), (a_mk, .inl (xI X, 7, .inl v_mk)), (a_mw, .inl (xI X, 7, .inl v_mw)), (a_q1, .inl (xI X, 7, .inl v_q1))] rfl (by decide +kernel) rfl rfl rfl (nn := 4) rfl (by decide +kernel) [a_m, a_mk, a_mw, a_q1] rfl rfl rfl rfl (Nat.le_of_ble_eq_true rfl) dX12_strike_28 ⟨Nat.zero_le _, Nat.zero_le _⟩ (fun H locs hP hD hS => ?_)
  refine lv_iload_n hx hb dX12_strike_31 rfl (lv_at hl 3 rfl) ?_
  obtain ⟨u_3, hu_3, h⟩ := ob_s h
  refine cVv (C := RX12) (As := [.ref a_q1, .int 0, .int u_1, .int u_2, .int p3]) (rest := []) [(a_m, .inr (12, (.ref a_mP :: .int f_m_pageMany :: .int f_m_balls :: .int f_m_spot :: .int f_m_score :: .int f_m_strokesNow :: .int f_m_fouls :: .int f_m_tablesRead :: .ref a_mk :: .ref a_mw :: .ref a_mc :: .int u_3.1 :: .int u_3.2.1 :: .int u_3.2.2.1 :: .int u_3.2.2.2.1 :: .int u_3.2.2.2.2.1 :: .int u_3.2.2.2.2.2.1 :: .int u_3.2.2.2.2.2.2.1 :: .int f_m_isFoul :: .ref a_mo :: .ref a_mt :: .int f_m_bestCode :: .int f_m_bestBrings :: .int f_m_plansDone :: .int f_m_safesDone :: .int f_m_seenMany :: .ref a_ms :: .ref a_mb :: .int f_m_seedNow :: .int f_m_keptTable :: .int f_m_keptScore :: .int f_m_keptStrokes :: .int f_m_keptFouls :: .int f_m_keptSeen :: .ref a_mK :: .ref a_mC :: .ref a_mS :: .long f_m_hash :: []))), (a_mk, .inl (xI X, 7, .inl v_mk)), (a_mw, .inl (xI X, 7, .inl v_mw)), (a_q1, .inl (xI X, 7, .inl u_3.2.2.2.2.2.2.2))] hB (c_X12_roll X l n a_m a_mP a_mk a_mw a_mc a_mo a_mt a_ms a_mb a_mK a_mC a_mS a_q1 f_m_pageMany f_m_balls f_m_spot f_m_score f_m_strokesNow f_m_fouls f_m_tablesRead 0 0 0 (-1) f_m_hitPower f_m_hitDown f_m_hitRight f_m_isFoul f_m_bestCode f_m_bestBrings f_m_plansDone f_m_safesDone f_m_seenMany f_m_seedNow f_m_keptTable f_m_keptScore f_m_keptStrokes f_m_keptFouls f_m_keptSeen f_m_hash v_mk v_q1 0 u_1 u_2 p3 u_3 hu_3) wq_5_73 wq_1_14 wq_5_70 wq_5_72 wp_36 hd_X12_roll (by decide) hP hD hS hl.1 [0, 1, 3] [2] [(a_mw, .inl (xI X, 7, .inl v_mw))] rfl (by decide +kernel) rfl rfl rfl (nn := 4) rfl (by decide +kernel) [a_m, a_mk, a_mw, a_q1] rfl rfl (q0 := 0) rfl rfl rfl rfl (Nat.le_of_ble_eq_true rfl) dX12_strike_32 ⟨Nat.zero_le _, Nat.zero_le _⟩ (fun H locs hP hD hS => ?_)
  refine lv_aload_n hx hb dX12_strike_35 rfl (lv_at hl 0 rfl) ?_
  refine lv_aload_n hx hb dX12_strike_36 rfl (lv_at hl 0 rfl) ?_
  refine va_get (D := xD X) (ci := 12) (v := .int u_3.2.2.2.1) (C := RX12) (T := TX12) (N := 38) hx hb hts inX12 hown hK hP 0 rfl rfl 14 (by decide) (hts _ wq_4_121) (fun _ h9 => h9) rfl dX12_strike_37 ?_
  refine lv_iconst (v := (-1)) hx hb dX12_strike_40 (by decide) ?_
  obtain ⟨j49_5, ej49_5, h⟩ := jn_s h
  have J49_5 : ∀ (k_4 : Int32), j49_5 k_4 = some res → ∀ (H : Heap) (locs : List Loc) (ls : Array Slot), va_P (xD X) vwCl [(a_m, .inr (12, (.ref a_mP :: .int f_m_pageMany :: .int f_m_balls :: .int f_m_spot :: .int f_m_score :: .int f_m_strokesNow :: .int f_m_fouls :: .int f_m_tablesRead :: .ref a_mk :: .ref a_mw :: .ref a_mc :: .int u_3.1 :: .int u_3.2.1 :: .int u_3.2.2.1 :: .int u_3.2.2.2.1 :: .int u_3.2.2.2.2.1 :: .int u_3.2.2.2.2.2.1 :: .int u_3.2.2.2.2.2.2.1 :: .int f_m_isFoul :: .ref a_mo :: .ref a_mt :: .int f_m_bestCode :: .int f_m_bestBrings :: .int f_m_plansDone :: .int f_m_safesDone :: .int f_m_seenMany :: .ref a_ms :: .ref a_mb :: .int f_m_seedNow :: .int f_m_keptTable :: .int f_m_keptScore :: .int f_m_keptStrokes :: .int f_m_keptFouls :: .int f_m_keptSeen :: .ref a_mK :: .ref a_mC :: .ref a_mS :: .long f_m_hash :: []))), (a_mk, .inl (xI X, 7, .inl v_mk)), (a_mw, .inl (xI X, 7, .inl v_mw)), (a_q1, .inl (xI X, 7, .inl u_3.2.2.2.2.2.2.2))] H → va_D A [(a_m, .inr (12, (.ref a_mP :: .int f_m_pageMany :: .int f_m_balls :: .int f_m_spot :: .int f_m_score :: .int f_m_strokesNow :: .int f_m_fouls :: .int f_m_tablesRead :: .ref a_mk :: .ref a_mw :: .ref a_mc :: .int u_3.1 :: .int u_3.2.1 :: .int u_3.2.2.1 :: .int u_3.2.2.2.1 :: .int u_3.2.2.2.2.1 :: .int u_3.2.2.2.2.2.1 :: .int u_3.2.2.2.2.2.2.1 :: .int f_m_isFoul :: .ref a_mo :: .ref a_mt :: .int f_m_bestCode :: .int f_m_bestBrings :: .int f_m_plansDone :: .int f_m_safesDone :: .int f_m_seenMany :: .ref a_ms :: .ref a_mb :: .int f_m_seedNow :: .int f_m_keptTable :: .int f_m_keptScore :: .int f_m_keptStrokes :: .int f_m_keptFouls :: .int f_m_keptSeen :: .ref a_mK :: .ref a_mC :: .ref a_mS :: .long f_m_hash :: []))), (a_mk, .inl (xI X, 7, .inl v_mk)), (a_mw, .inl (xI X, 7, .inl v_mw)), (a_q1, .inl (xI X, 7, .inl u_3.2.2.2.2.2.2.2))] → va_S A s.heap H locs → lv_has ls 7 [(0, .ref a_m), (1, .ref a_q1), (4, .int p4)] → W p l e (rmF 3 79) s m args below meth c H locs 0 0 Q (F0 m 49 ls [.int k_4, .ref a_m]) := by
    clear h
    intro k_4 h H locs ls hP hD hS hl
    rw [ej49_5] at h
    replace h := id h
    obtain ⟨z_6, h⟩ := gd_s h
    refine va_put (D := xD X) (ci := 12) (v := .int k_4) (ty := .boolean) (C := RX12) (T := TX12) (N := 38) hx hb hts inX12 tyX12 tyX12_ok nmX12 hown hK hP hD hS 0 rfl rfl 18 (by decide) (hts _ wq_4_125) (fun _ h9 => h9) rfl (by decide +kernel) (isb_n z_6) (isb_f z_6) (Nat.le_of_ble_eq_true rfl) dX12_strike_49 (fun H locs (hP : va_P (xD X) vwCl [(a_m, .inr (12, (.ref a_mP :: .int f_m_pageMany :: .int f_m_balls :: .int f_m_spot :: .int f_m_score :: .int f_m_strokesNow :: .int f_m_fouls :: .int f_m_tablesRead :: .ref a_mk :: .ref a_mw :: .ref a_mc :: .int u_3.1 :: .int u_3.2.1 :: .int u_3.2.2.1 :: .int u_3.2.2.2.1 :: .int u_3.2.2.2.2.1 :: .int u_3.2.2.2.2.2.1 :: .int u_3.2.2.2.2.2.2.1 :: .int k_4 :: .ref a_mo :: .ref a_mt :: .int f_m_bestCode :: .int f_m_bestBrings :: .int f_m_plansDone :: .int f_m_safesDone :: .int f_m_seenMany :: .ref a_ms :: .ref a_mb :: .int f_m_seedNow :: .int f_m_keptTable :: .int f_m_keptScore :: .int f_m_keptStrokes :: .int f_m_keptFouls :: .int f_m_keptSeen :: .ref a_mK :: .ref a_mC :: .ref a_mS :: .long f_m_hash :: []))), (a_mk, .inl (xI X, 7, .inl v_mk)), (a_mw, .inl (xI X, 7, .inl v_mw)), (a_q1, .inl (xI X, 7, .inl u_3.2.2.2.2.2.2.2))] H) (hD : va_D A [(a_m, .inr (12, (.ref a_mP :: .int f_m_pageMany :: .int f_m_balls :: .int f_m_spot :: .int f_m_score :: .int f_m_strokesNow :: .int f_m_fouls :: .int f_m_tablesRead :: .ref a_mk :: .ref a_mw :: .ref a_mc :: .int u_3.1 :: .int u_3.2.1 :: .int u_3.2.2.1 :: .int u_3.2.2.2.1 :: .int u_3.2.2.2.2.1 :: .int u_3.2.2.2.2.2.1 :: .int u_3.2.2.2.2.2.2.1 :: .int k_4 :: .ref a_mo :: .ref a_mt :: .int f_m_bestCode :: .int f_m_bestBrings :: .int f_m_plansDone :: .int f_m_safesDone :: .int f_m_seenMany :: .ref a_ms :: .ref a_mb :: .int f_m_seedNow :: .int f_m_keptTable :: .int f_m_keptScore :: .int f_m_keptStrokes :: .int f_m_keptFouls :: .int f_m_keptSeen :: .ref a_mK :: .ref a_mC :: .ref a_mS :: .long f_m_hash :: []))), (a_mk, .inl (xI X, 7, .inl v_mk)), (a_mw, .inl (xI X, 7, .inl v_mw)), (a_q1, .inl (xI X, 7, .inl u_3.2.2.2.2.2.2.2))]) hS => ?_)
    refine lv_aload_n hx hb dX12_strike_52 rfl (lv_at hl 0 rfl) ?_
    refine va_get (D := xD X) (ci := 12) (v := .int k_4) (C := RX12) (T := TX12) (N := 38) hx hb hts inX12 hown hK hP 0 rfl rfl 18 (by decide) (hts _ wq_4_125) (fun _ h9 => h9) rfl dX12_strike_53 ?_
    obtain ⟨j110_15, ej110_15, h⟩ := jn_s h
    have J110_15 : ∀ (f_m_potted_7 : Int32) (f_m_moves_8 : Int32) (f_m_bounces_9 : Int32) (f_m_hitFirst_10 : Int32) (f_m_hitPower_11 : Int32) (f_m_hitDown_12 : Int32) (f_m_hitRight_13 : Int32) (v_q1_14 : Nat → Int32), j110_15 f_m_potted_7 f_m_moves_8 f_m_bounces_9 f_m_hitFirst_10 f_m_hitPower_11 f_m_hitDown_12 f_m_hitRight_13 v_q1_14 = some res → ∀ (H : Heap) (locs : List Loc) (ls : Array Slot), va_P (xD X) vwCl [(a_m, .inr (12, (.ref a_mP :: .int f_m_pageMany :: .int f_m_balls :: .int f_m_spot :: .int f_m_score :: .int f_m_strokesNow :: .int f_m_fouls :: .int f_m_tablesRead :: .ref a_mk :: .ref a_mw :: .ref a_mc :: .int f_m_potted_7 :: .int f_m_moves_8 :: .int f_m_bounces_9 :: .int f_m_hitFirst_10 :: .int f_m_hitPower_11 :: .int f_m_hitDown_12 :: .int f_m_hitRight_13 :: .int k_4 :: .ref a_mo :: .ref a_mt :: .int f_m_bestCode :: .int f_m_bestBrings :: .int f_m_plansDone :: .int f_m_safesDone :: .int f_m_seenMany :: .ref a_ms :: .ref a_mb :: .int f_m_seedNow :: .int f_m_keptTable :: .int f_m_keptScore :: .int f_m_keptStrokes :: .int f_m_keptFouls :: .int f_m_keptSeen :: .ref a_mK :: .ref a_mC :: .ref a_mS :: .long f_m_hash :: []))), (a_mk, .inl (xI X, 7, .inl v_mk)), (a_mw, .inl (xI X, 7, .inl v_mw)), (a_q1, .inl (xI X, 7, .inl v_q1_14))] H → va_D A [(a_m, .inr (12, (.ref a_mP :: .int f_m_pageMany :: .int f_m_balls :: .int f_m_spot :: .int f_m_score :: .int f_m_strokesNow :: .int f_m_fouls :: .int f_m_tablesRead :: .ref a_mk :: .ref a_mw :: .ref a_mc :: .int f_m_potted_7 :: .int f_m_moves_8 :: .int f_m_bounces_9 :: .int f_m_hitFirst_10 :: .int f_m_hitPower_11 :: .int f_m_hitDown_12 :: .int f_m_hitRight_13 :: .int k_4 :: .ref a_mo :: .ref a_mt :: .int f_m_bestCode :: .int f_m_bestBrings :: .int f_m_plansDone :: .int f_m_safesDone :: .int f_m_seenMany :: .ref a_ms :: .ref a_mb :: .int f_m_seedNow :: .int f_m_keptTable :: .int f_m_keptScore :: .int f_m_keptStrokes :: .int f_m_keptFouls :: .int f_m_keptSeen :: .ref a_mK :: .ref a_mC :: .ref a_mS :: .long f_m_hash :: []))), (a_mk, .inl (xI X, 7, .inl v_mk)), (a_mw, .inl (xI X, 7, .inl v_mw)), (a_q1, .inl (xI X, 7, .inl v_q1_14))] → va_S A s.heap H locs → lv_has ls 7 [(0, .ref a_m), (1, .ref a_q1)] → W p l e (rmF 3 79) s m args below meth c H locs 0 0 Q (F0 m 110 ls []) := by
      clear h
      intro f_m_potted_7 f_m_moves_8 f_m_bounces_9 f_m_hitFirst_10 f_m_hitPower_11 f_m_hitDown_12 f_m_hitRight_13 v_q1_14 h H locs ls hP hD hS hl
      rw [ej110_15] at h
      replace h := id h
      refine lv_aload_n hx hb dX12_strike_110 rfl (lv_at hl 0 rfl) ?_
      refine lv_aload_n hx hb dX12_strike_111 rfl (lv_at hl 0 rfl) ?_
      refine va_get (D := xD X) (ci := 12) (v := .int k_4) (C := RX12) (T := TX12) (N := 38) hx hb hts inX12 hown hK hP 0 rfl rfl 18 (by decide) (hts _ wq_4_125) (fun _ h9 => h9) rfl dX12_strike_112 ?_
      obtain ⟨j133_17, ej133_17, h⟩ := jn_s h
      have J133_17 : ∀ (k_16 : Int32), j133_17 k_16 = some res → ∀ (H : Heap) (locs : List Loc) (ls : Array Slot), va_P (xD X) vwCl [(a_m, .inr (12, (.ref a_mP :: .int f_m_pageMany :: .int f_m_balls :: .int f_m_spot :: .int f_m_score :: .int f_m_strokesNow :: .int f_m_fouls :: .int f_m_tablesRead :: .ref a_mk :: .ref a_mw :: .ref a_mc :: .int f_m_potted_7 :: .int f_m_moves_8 :: .int f_m_bounces_9 :: .int f_m_hitFirst_10 :: .int f_m_hitPower_11 :: .int f_m_hitDown_12 :: .int f_m_hitRight_13 :: .int k_4 :: .ref a_mo :: .ref a_mt :: .int f_m_bestCode :: .int f_m_bestBrings :: .int f_m_plansDone :: .int f_m_safesDone :: .int f_m_seenMany :: .ref a_ms :: .ref a_mb :: .int f_m_seedNow :: .int f_m_keptTable :: .int f_m_keptScore :: .int f_m_keptStrokes :: .int f_m_keptFouls :: .int f_m_keptSeen :: .ref a_mK :: .ref a_mC :: .ref a_mS :: .long f_m_hash :: []))), (a_mk, .inl (xI X, 7, .inl v_mk)), (a_mw, .inl (xI X, 7, .inl v_mw)), (a_q1, .inl (xI X, 7, .inl v_q1_14))] H → va_D A [(a_m, .inr (12, (.ref a_mP :: .int f_m_pageMany :: .int f_m_balls :: .int f_m_spot :: .int f_m_score :: .int f_m_strokesNow :: .int f_m_fouls :: .int f_m_tablesRead :: .ref a_mk :: .ref a_mw :: .ref a_mc :: .int f_m_potted_7 :: .int f_m_moves_8 :: .int f_m_bounces_9 :: .int f_m_hitFirst_10 :: .int f_m_hitPower_11 :: .int f_m_hitDown_12 :: .int f_m_hitRight_13 :: .int k_4 :: .ref a_mo :: .ref a_mt :: .int f_m_bestCode :: .int f_m_bestBrings :: .int f_m_plansDone :: .int f_m_safesDone :: .int f_m_seenMany :: .ref a_ms :: .ref a_mb :: .int f_m_seedNow :: .int f_m_keptTable :: .int f_m_keptScore :: .int f_m_keptStrokes :: .int f_m_keptFouls :: .int f_m_keptSeen :: .ref a_mK :: .ref a_mC :: .ref a_mS :: .long f_m_hash :: []))), (a_mk, .inl (xI X, 7, .inl v_mk)), (a_mw, .inl (xI X, 7, .inl v_mw)), (a_q1, .inl (xI X, 7, .inl v_q1_14))] → va_S A s.heap H locs → lv_has ls 7 [(0, .ref a_m), (1, .ref a_q1)] → W p l e (rmF 3 79) s m args below meth c H locs 0 0 Q (F0 m 133 ls [.int k_16, .ref a_m]) := by
        clear h
        intro k_16 h H locs ls hP hD hS hl
        rw [ej133_17] at h
        replace h := id h
        obtain ⟨z_18, h⟩ := gd_s h
        refine va_put (D := xD X) (ci := 12) (v := .int k_16) (ty := .boolean) (C := RX12) (T := TX12) (N := 38) hx hb hts inX12 tyX12 tyX12_ok nmX12 hown hK hP hD hS 0 rfl rfl 18 (by decide) (hts _ wq_4_125) (fun _ h9 => h9) rfl (by decide +kernel) (isb_n z_18) (isb_f z_18) (Nat.le_of_ble_eq_true rfl) dX12_strike_133 (fun H locs (hP : va_P (xD X) vwCl [(a_m, .inr (12, (.ref a_mP :: .int f_m_pageMany :: .int f_m_balls :: .int f_m_spot :: .int f_m_score :: .int f_m_strokesNow :: .int f_m_fouls :: .int f_m_tablesRead :: .ref a_mk :: .ref a_mw :: .ref a_mc :: .int f_m_potted_7 :: .int f_m_moves_8 :: .int f_m_bounces_9 :: .int f_m_hitFirst_10 :: .int f_m_hitPower_11 :: .int f_m_hitDown_12 :: .int f_m_hitRight_13 :: .int k_16 :: .ref a_mo :: .ref a_mt :: .int f_m_bestCode :: .int f_m_bestBrings :: .int f_m_plansDone :: .int f_m_safesDone :: .int f_m_seenMany :: .ref a_ms :: .ref a_mb :: .int f_m_seedNow :: .int f_m_keptTable :: .int f_m_keptScore :: .int f_m_keptStrokes :: .int f_m_keptFouls :: .int f_m_keptSeen :: .ref a_mK :: .ref a_mC :: .ref a_mS :: .long f_m_hash :: []))), (a_mk, .inl (xI X, 7, .inl v_mk)), (a_mw, .inl (xI X, 7, .inl v_mw)), (a_q1, .inl (xI X, 7, .inl v_q1_14))] H) (hD : va_D A [(a_m, .inr (12, (.ref a_mP :: .int f_m_pageMany :: .int f_m_balls :: .int f_m_spot :: .int f_m_score :: .int f_m_strokesNow :: .int f_m_fouls :: .int f_m_tablesRead :: .ref a_mk :: .ref a_mw :: .ref a_mc :: .int f_m_potted_7 :: .int f_m_moves_8 :: .int f_m_bounces_9 :: .int f_m_hitFirst_10 :: .int f_m_hitPower_11 :: .int f_m_hitDown_12 :: .int f_m_hitRight_13 :: .int k_16 :: .ref a_mo :: .ref a_mt :: .int f_m_bestCode :: .int f_m_bestBrings :: .int f_m_plansDone :: .int f_m_safesDone :: .int f_m_seenMany :: .ref a_ms :: .ref a_mb :: .int f_m_seedNow :: .int f_m_keptTable :: .int f_m_keptScore :: .int f_m_keptStrokes :: .int f_m_keptFouls :: .int f_m_keptSeen :: .ref a_mK :: .ref a_mC :: .ref a_mS :: .long f_m_hash :: []))), (a_mk, .inl (xI X, 7, .inl v_mk)), (a_mw, .inl (xI X, 7, .inl v_mw)), (a_q1, .inl (xI X, 7, .inl v_q1_14))]) hS => ?_)
        refine lv_aload_n hx hb dX12_strike_136 rfl (lv_at hl 0 rfl) ?_
        refine va_get (D := xD X) (ci := 12) (v := .int k_16) (C := RX12) (T := TX12) (N := 38) hx hb hts inX12 hown hK hP 0 rfl rfl 18 (by decide) (hts _ wq_4_125) (fun _ h9 => h9) rfl dX12_strike_137 ?_
        obtain ⟨j149_20, ej149_20, h⟩ := jn_s h
        have J149_20 : ∀ (k_19 : Int32), j149_20 k_19 = some res → ∀ (H : Heap) (locs : List Loc) (ls : Array Slot), va_P (xD X) vwCl [(a_m, .inr (12, (.ref a_mP :: .int f_m_pageMany :: .int f_m_balls :: .int f_m_spot :: .int f_m_score :: .int f_m_strokesNow :: .int f_m_fouls :: .int f_m_tablesRead :: .ref a_mk :: .ref a_mw :: .ref a_mc :: .int f_m_potted_7 :: .int f_m_moves_8 :: .int f_m_bounces_9 :: .int f_m_hitFirst_10 :: .int f_m_hitPower_11 :: .int f_m_hitDown_12 :: .int f_m_hitRight_13 :: .int k_16 :: .ref a_mo :: .ref a_mt :: .int f_m_bestCode :: .int f_m_bestBrings :: .int f_m_plansDone :: .int f_m_safesDone :: .int f_m_seenMany :: .ref a_ms :: .ref a_mb :: .int f_m_seedNow :: .int f_m_keptTable :: .int f_m_keptScore :: .int f_m_keptStrokes :: .int f_m_keptFouls :: .int f_m_keptSeen :: .ref a_mK :: .ref a_mC :: .ref a_mS :: .long f_m_hash :: []))), (a_mk, .inl (xI X, 7, .inl v_mk)), (a_mw, .inl (xI X, 7, .inl v_mw)), (a_q1, .inl (xI X, 7, .inl v_q1_14))] H → va_D A [(a_m, .inr (12, (.ref a_mP :: .int f_m_pageMany :: .int f_m_balls :: .int f_m_spot :: .int f_m_score :: .int f_m_strokesNow :: .int f_m_fouls :: .int f_m_tablesRead :: .ref a_mk :: .ref a_mw :: .ref a_mc :: .int f_m_potted_7 :: .int f_m_moves_8 :: .int f_m_bounces_9 :: .int f_m_hitFirst_10 :: .int f_m_hitPower_11 :: .int f_m_hitDown_12 :: .int f_m_hitRight_13 :: .int k_16 :: .ref a_mo :: .ref a_mt :: .int f_m_bestCode :: .int f_m_bestBrings :: .int f_m_plansDone :: .int f_m_safesDone :: .int f_m_seenMany :: .ref a_ms :: .ref a_mb :: .int f_m_seedNow :: .int f_m_keptTable :: .int f_m_keptScore :: .int f_m_keptStrokes :: .int f_m_keptFouls :: .int f_m_keptSeen :: .ref a_mK :: .ref a_mC :: .ref a_mS :: .long f_m_hash :: []))), (a_mk, .inl (xI X, 7, .inl v_mk)), (a_mw, .inl (xI X, 7, .inl v_mw)), (a_q1, .inl (xI X, 7, .inl v_q1_14))] → va_S A s.heap H locs → lv_has ls 7 [(0, .ref a_m), (1, .ref a_q1)] → W p l e (rmF 3 79) s m args below meth c H locs 0 0 Q (F0 m 149 ls [.int k_19]) := by
          clear h
          intro k_19 h H locs ls hP hD hS hl
          rw [ej149_20] at h
          replace h := id h
          refine lv_istore (lv' := [(5, .int k_19), (0, .ref a_m), (1, .ref a_q1)]) hx hb dX12_strike_149 hl (by decide) rfl (fun ls hl => ?_)
          refine lv_iconst (v := 1) hx hb dX12_strike_151 (by decide) ?_
          refine lv_istore (lv' := [(6, .int 1), (5, .int k_19), (0, .ref a_m), (1, .ref a_q1)]) hx hb dX12_strike_152 hl (by decide) rfl (fun ls hl => ?_)
          obtain ⟨j191_22, ej191_22, h⟩ := jn_s h
          have J191_22 : ∀ (x5_21 : Int32), j191_22 x5_21 = some res → ∀ (H : Heap) (locs : List Loc) (ls : Array Slot), va_P (xD X) vwCl [(a_m, .inr (12, (.ref a_mP :: .int f_m_pageMany :: .int f_m_balls :: .int f_m_spot :: .int f_m_score :: .int f_m_strokesNow :: .int f_m_fouls :: .int f_m_tablesRead :: .ref a_mk :: .ref a_mw :: .ref a_mc :: .int f_m_potted_7 :: .int f_m_moves_8 :: .int f_m_bounces_9 :: .int f_m_hitFirst_10 :: .int f_m_hitPower_11 :: .int f_m_hitDown_12 :: .int f_m_hitRight_13 :: .int k_16 :: .ref a_mo :: .ref a_mt :: .int f_m_bestCode :: .int f_m_bestBrings :: .int f_m_plansDone :: .int f_m_safesDone :: .int f_m_seenMany :: .ref a_ms :: .ref a_mb :: .int f_m_seedNow :: .int f_m_keptTable :: .int f_m_keptScore :: .int f_m_keptStrokes :: .int f_m_keptFouls :: .int f_m_keptSeen :: .ref a_mK :: .ref a_mC :: .ref a_mS :: .long f_m_hash :: []))), (a_mk, .inl (xI X, 7, .inl v_mk)), (a_mw, .inl (xI X, 7, .inl v_mw)), (a_q1, .inl (xI X, 7, .inl v_q1_14))] H → va_D A [(a_m, .inr (12, (.ref a_mP :: .int f_m_pageMany :: .int f_m_balls :: .int f_m_spot :: .int f_m_score :: .int f_m_strokesNow :: .int f_m_fouls :: .int f_m_tablesRead :: .ref a_mk :: .ref a_mw :: .ref a_mc :: .int f_m_potted_7 :: .int f_m_moves_8 :: .int f_m_bounces_9 :: .int f_m_hitFirst_10 :: .int f_m_hitPower_11 :: .int f_m_hitDown_12 :: .int f_m_hitRight_13 :: .int k_16 :: .ref a_mo :: .ref a_mt :: .int f_m_bestCode :: .int f_m_bestBrings :: .int f_m_plansDone :: .int f_m_safesDone :: .int f_m_seenMany :: .ref a_ms :: .ref a_mb :: .int f_m_seedNow :: .int f_m_keptTable :: .int f_m_keptScore :: .int f_m_keptStrokes :: .int f_m_keptFouls :: .int f_m_keptSeen :: .ref a_mK :: .ref a_mC :: .ref a_mS :: .long f_m_hash :: []))), (a_mk, .inl (xI X, 7, .inl v_mk)), (a_mw, .inl (xI X, 7, .inl v_mw)), (a_q1, .inl (xI X, 7, .inl v_q1_14))] → va_S A s.heap H locs → lv_has ls 7 [(0, .ref a_m), (1, .ref a_q1), (5, .int x5_21)] → W p l e (rmF 3 79) s m args below meth c H locs 0 0 Q (F0 m 191 ls []) := by
            clear h
            intro x5_21 h H locs ls hP hD hS hl
            rw [ej191_22] at h
            replace h := id h
            refine lv_aload_n hx hb dX12_strike_191 rfl (lv_at hl 1 rfl) ?_
            refine lv_iconst (v := 0) hx hb dX12_strike_192 (by decide) ?_
            obtain ⟨z_23, h⟩ := gd_s h
            refine va_iald hx hb hK hP 3 0 rfl rfl (inb_vp z_23) dX12_strike_193 ?_
            refine lv_iconst (v := (-1)) hx hb dX12_strike_194 (by decide) ?_
            refine lv_icmp_ne (tgt := 203) hx hb dX12_strike_195 (by decide) (fun c_24 => ?_) (fun c_24 => ?_)
            · replace h := it_n c_24 h
              refine lv_iload hx hb dX12_strike_203 (lv_at hl 2 rfl) ?_
              obtain rfl := Option.some.inj h
              rw [← hQ]
              exact retI hB hS hP dX12_strike_205
            · replace h := it_p c_24 h
              refine lv_aload_n hx hb dX12_strike_198 rfl (lv_at hl 0 rfl) ?_
              refine lv_aload_n hx hb dX12_strike_199 rfl (lv_at hl 1 rfl) ?_
              obtain ⟨u_25, hu_25, h⟩ := ob_s h
              refine cVv (C := RX12) (As := [.ref a_q1]) (rest := []) [(a_m, .inr (12, (.ref a_mP :: .int f_m_pageMany :: .int f_m_balls :: .int f_m_spot :: .int f_m_score :: .int f_m_strokesNow :: .int f_m_fouls :: .int f_m_tablesRead :: .ref a_mk :: .ref a_mw :: .ref a_mc :: .int f_m_potted_7 :: .int f_m_moves_8 :: .int f_m_bounces_9 :: .int f_m_hitFirst_10 :: .int f_m_hitPower_11 :: .int f_m_hitDown_12 :: .int f_m_hitRight_13 :: .int k_16 :: .ref a_mo :: .ref a_mt :: .int f_m_bestCode :: .int f_m_bestBrings :: .int f_m_plansDone :: .int f_m_safesDone :: .int f_m_seenMany :: .ref a_ms :: .ref a_mb :: .int f_m_seedNow :: .int f_m_keptTable :: .int f_m_keptScore :: .int f_m_keptStrokes :: .int f_m_keptFouls :: .int f_m_keptSeen :: .ref a_mK :: .ref a_mC :: .ref a_mS :: .long f_m_hash :: []))), (a_mk, .inl (xI X, 7, .inl v_mk)), (a_mw, .inl (xI X, 7, .inl v_mw)), (a_q1, .inl (xI X, 7, .inl u_25))] hB (c_X12_spotWhite X l n a_m a_mP a_mk a_mw a_mc a_mo a_mt a_ms a_mb a_mK a_mC a_mS a_q1 f_m_pageMany f_m_balls f_m_spot f_m_score f_m_strokesNow f_m_fouls f_m_tablesRead f_m_potted_7 f_m_moves_8 f_m_bounces_9 f_m_hitFirst_10 f_m_hitPower_11 f_m_hitDown_12 f_m_hitRight_13 k_16 f_m_bestCode f_m_bestBrings f_m_plansDone f_m_safesDone f_m_seenMany f_m_seedNow f_m_keptTable f_m_keptScore f_m_keptStrokes f_m_keptFouls f_m_keptSeen f_m_hash v_q1_14 u_25 hu_25) wq_5_86 wq_1_14 wq_5_83 wq_5_85 wp_38 hd_X12_spotWhite (by decide) hP hD hS hl.1 [0, 3] [1, 2] [(a_mk, .inl (xI X, 7, .inl v_mk)), (a_mw, .inl (xI X, 7, .inl v_mw))] rfl (by decide +kernel) rfl rfl rfl (nn := 4) rfl (by decide +kernel) [a_m, a_mk, a_mw, a_q1] rfl rfl (q0 := 0) rfl rfl rfl rfl (Nat.le_of_ble_eq_true rfl) dX12_strike_200 ⟨Nat.zero_le _, Nat.zero_le _⟩ (fun H locs hP hD hS => ?_)
              refine lv_iload hx hb dX12_strike_203 (lv_at hl 2 rfl) ?_
              obtain rfl := Option.some.inj h
              rw [← hQ]
              exact retI hB hS hP dX12_strike_205
          clear ej191_22
          have L154_go_28 : ∀ (k : Nat), ∀ (x5_26 : Int32) (x6_27 : Int32), f_X12_strike_L154 f_m_balls v_mw f_m_potted_7 j191_22 k x5_26 x6_27 = some res → ∀ (H : Heap) (locs : List Loc) (ls : Array Slot), va_P (xD X) vwCl [(a_m, .inr (12, (.ref a_mP :: .int f_m_pageMany :: .int f_m_balls :: .int f_m_spot :: .int f_m_score :: .int f_m_strokesNow :: .int f_m_fouls :: .int f_m_tablesRead :: .ref a_mk :: .ref a_mw :: .ref a_mc :: .int f_m_potted_7 :: .int f_m_moves_8 :: .int f_m_bounces_9 :: .int f_m_hitFirst_10 :: .int f_m_hitPower_11 :: .int f_m_hitDown_12 :: .int f_m_hitRight_13 :: .int k_16 :: .ref a_mo :: .ref a_mt :: .int f_m_bestCode :: .int f_m_bestBrings :: .int f_m_plansDone :: .int f_m_safesDone :: .int f_m_seenMany :: .ref a_ms :: .ref a_mb :: .int f_m_seedNow :: .int f_m_keptTable :: .int f_m_keptScore :: .int f_m_keptStrokes :: .int f_m_keptFouls :: .int f_m_keptSeen :: .ref a_mK :: .ref a_mC :: .ref a_mS :: .long f_m_hash :: []))), (a_mk, .inl (xI X, 7, .inl v_mk)), (a_mw, .inl (xI X, 7, .inl v_mw)), (a_q1, .inl (xI X, 7, .inl v_q1_14))] H → va_D A [(a_m, .inr (12, (.ref a_mP :: .int f_m_pageMany :: .int f_m_balls :: .int f_m_spot :: .int f_m_score :: .int f_m_strokesNow :: .int f_m_fouls :: .int f_m_tablesRead :: .ref a_mk :: .ref a_mw :: .ref a_mc :: .int f_m_potted_7 :: .int f_m_moves_8 :: .int f_m_bounces_9 :: .int f_m_hitFirst_10 :: .int f_m_hitPower_11 :: .int f_m_hitDown_12 :: .int f_m_hitRight_13 :: .int k_16 :: .ref a_mo :: .ref a_mt :: .int f_m_bestCode :: .int f_m_bestBrings :: .int f_m_plansDone :: .int f_m_safesDone :: .int f_m_seenMany :: .ref a_ms :: .ref a_mb :: .int f_m_seedNow :: .int f_m_keptTable :: .int f_m_keptScore :: .int f_m_keptStrokes :: .int f_m_keptFouls :: .int f_m_keptSeen :: .ref a_mK :: .ref a_mC :: .ref a_mS :: .long f_m_hash :: []))), (a_mk, .inl (xI X, 7, .inl v_mk)), (a_mw, .inl (xI X, 7, .inl v_mw)), (a_q1, .inl (xI X, 7, .inl v_q1_14))] → va_S A s.heap H locs → lv_has ls 7 [(0, .ref a_m), (1, .ref a_q1), (5, .int x5_26), (6, .int x6_27)] → W p l e (rmF 3 79) s m args below meth c H locs 0 0 Q (F0 m 154 ls []) := by
            clear h
            intro k
            induction k with
            | zero => intro x5_26 x6_27 h; cases h
            | succ k ih_29 =>
              intro x5_26 x6_27 h H locs ls hP hD hS hl
              replace h : b_X12_strike_L154 f_m_balls v_mw f_m_potted_7 j191_22 (fun x5_26 x6_27 => f_X12_strike_L154 f_m_balls v_mw f_m_potted_7 j191_22 k x5_26 x6_27) x5_26 x6_27 = some res := h
              unfold b_X12_strike_L154 at h
              refine lv_iload hx hb dX12_strike_154 (lv_at hl 3 rfl) ?_
              refine lv_aload_n hx hb dX12_strike_156 rfl (lv_at hl 0 rfl) ?_
              refine va_get (D := xD X) (ci := 12) (v := .int f_m_balls) (C := RX12) (T := TX12) (N := 38) hx hb hts inX12 hown hK hP 0 rfl rfl 2 (by decide) (hts _ wq_4_109) (fun _ h9 => h9) rfl dX12_strike_157 ?_
              refine lv_icmp_gt (tgt := 191) hx hb dX12_strike_160 (by decide) (fun c_30 => ?_) (fun c_30 => ?_)
              · replace h := it_p c_30 h
                exact J191_22 x5_26 h _ _ _ hP hD hS (lv_sub hl [0, 1, 2] rfl)
              · replace h := it_n c_30 h
                refine lv_iload hx hb dX12_strike_163 (lv_at hl 2 rfl) ?_
                refine lv_aload_n hx hb dX12_strike_165 rfl (lv_at hl 0 rfl) ?_
                refine va_get (D := xD X) (ci := 12) (v := .int f_m_potted_7) (C := RX12) (T := TX12) (N := 38) hx hb hts inX12 hown hK hP 0 rfl rfl 11 (by decide) (hts _ wq_4_118) (fun _ h9 => h9) rfl dX12_strike_166 ?_
                refine lv_iload hx hb dX12_strike_169 (lv_at hl 3 rfl) ?_
                refine lv_ishr hx hb dX12_strike_171 ?_
                refine lv_iconst (v := 1) hx hb dX12_strike_172 (by decide) ?_
                refine lv_iand hx hb dX12_strike_173 ?_
                refine lv_aload_n hx hb dX12_strike_174 rfl (lv_at hl 0 rfl) ?_
                refine va_get (D := xD X) (ci := 12) (v := .ref a_mw) (C := RX12) (T := TX12) (N := 38) hx hb hts inX12 hown hK hP 0 rfl rfl 9 (by decide) (hts _ wq_4_116) (fun _ h9 => h9) rfl dX12_strike_175 ?_
                refine lv_iload hx hb dX12_strike_178 (lv_at hl 3 rfl) ?_
                obtain ⟨z_31, h⟩ := gd_s h
                refine va_iald hx hb hK hP 2 0 rfl rfl (inb_vp z_31) dX12_strike_180 ?_
                refine lv_imul hx hb dX12_strike_181 ?_
                refine lv_iadd hx hb dX12_strike_182 ?_
                refine lv_topi (fun x5_32 ex5_32 => ?_)
                replace h := bn_s h ex5_32
                refine lv_istore (lv' := [(5, .int x5_32), (0, .ref a_m), (1, .ref a_q1), (6, .int x6_27)]) hx hb dX12_strike_183 hl (by decide) rfl (fun ls hl => ?_)
                obtain ⟨x6_33, ex6_33⟩ : ∃ y : Int32, y = x6_27 + 1 := ⟨_, rfl⟩
                replace h := bn_s h ex6_33
                refine lv_iinc (v := x6_33) (lv' := [(6, .int x6_33), (5, .int x5_32), (0, .ref a_m), (1, .ref a_q1)]) hx hb dX12_strike_185 hl (k := 3) rfl (by rw [ex6_33]; rfl) (by decide) rfl (fun ls hl => ?_)
                refine lv_goto (tgt := 154) hx hb dX12_strike_188 (by decide) ?_
                exact ih_29 x5_32 x6_33 h _ _ _ hP hD hS (lv_sub hl [2, 3, 1, 0] rfl)
          exact L154_go_28 n k_19 1 h _ _ _ hP hD hS (lv_sub hl [2, 3, 1, 0] rfl)
        clear ej149_20
        refine lv_if_eq (tgt := 148) hx hb dX12_strike_140 (by decide) (fun c_34 => ?_) (fun c_34 => ?_)
        · replace h := it_p c_34 h
          refine lv_iconst (v := 0) hx hb dX12_strike_148 (by decide) ?_
          exact J149_20 0 h _ _ _ hP hD hS (lv_sub hl [0, 1] rfl)
        · replace h := it_n c_34 h
          refine lv_bipush (v := (-4)) hx hb dX12_strike_143 (by decide) ?_
          refine lv_goto (tgt := 149) hx hb dX12_strike_145 (by decide) ?_
          exact J149_20 (-4) h _ _ _ hP hD hS (lv_sub hl [0, 1] rfl)
      clear ej133_17
      obtain ⟨j128_35, ej128_35, h⟩ := jn_s h
      have J128_35 : j128_35 = some res → ∀ (H : Heap) (locs : List Loc) (ls : Array Slot), va_P (xD X) vwCl [(a_m, .inr (12, (.ref a_mP :: .int f_m_pageMany :: .int f_m_balls :: .int f_m_spot :: .int f_m_score :: .int f_m_strokesNow :: .int f_m_fouls :: .int f_m_tablesRead :: .ref a_mk :: .ref a_mw :: .ref a_mc :: .int f_m_potted_7 :: .int f_m_moves_8 :: .int f_m_bounces_9 :: .int f_m_hitFirst_10 :: .int f_m_hitPower_11 :: .int f_m_hitDown_12 :: .int f_m_hitRight_13 :: .int k_4 :: .ref a_mo :: .ref a_mt :: .int f_m_bestCode :: .int f_m_bestBrings :: .int f_m_plansDone :: .int f_m_safesDone :: .int f_m_seenMany :: .ref a_ms :: .ref a_mb :: .int f_m_seedNow :: .int f_m_keptTable :: .int f_m_keptScore :: .int f_m_keptStrokes :: .int f_m_keptFouls :: .int f_m_keptSeen :: .ref a_mK :: .ref a_mC :: .ref a_mS :: .long f_m_hash :: []))), (a_mk, .inl (xI X, 7, .inl v_mk)), (a_mw, .inl (xI X, 7, .inl v_mw)), (a_q1, .inl (xI X, 7, .inl v_q1_14))] H → va_D A [(a_m, .inr (12, (.ref a_mP :: .int f_m_pageMany :: .int f_m_balls :: .int f_m_spot :: .int f_m_score :: .int f_m_strokesNow :: .int f_m_fouls :: .int f_m_tablesRead :: .ref a_mk :: .ref a_mw :: .ref a_mc :: .int f_m_potted_7 :: .int f_m_moves_8 :: .int f_m_bounces_9 :: .int f_m_hitFirst_10 :: .int f_m_hitPower_11 :: .int f_m_hitDown_12 :: .int f_m_hitRight_13 :: .int k_4 :: .ref a_mo :: .ref a_mt :: .int f_m_bestCode :: .int f_m_bestBrings :: .int f_m_plansDone :: .int f_m_safesDone :: .int f_m_seenMany :: .ref a_ms :: .ref a_mb :: .int f_m_seedNow :: .int f_m_keptTable :: .int f_m_keptScore :: .int f_m_keptStrokes :: .int f_m_keptFouls :: .int f_m_keptSeen :: .ref a_mK :: .ref a_mC :: .ref a_mS :: .long f_m_hash :: []))), (a_mk, .inl (xI X, 7, .inl v_mk)), (a_mw, .inl (xI X, 7, .inl v_mw)), (a_q1, .inl (xI X, 7, .inl v_q1_14))] → va_S A s.heap H locs → lv_has ls 7 [(0, .ref a_m), (1, .ref a_q1)] → W p l e (rmF 3 79) s m args below meth c H locs 0 0 Q (F0 m 128 ls [.ref a_m]) := by
        clear h
        intro h H locs ls hP hD hS hl
        rw [ej128_35] at h
        refine lv_iconst (v := 1) hx hb dX12_strike_128 (by decide) ?_
        refine lv_goto (tgt := 133) hx hb dX12_strike_129 (by decide) ?_
        exact J133_17 1 h _ _ _ hP hD hS (lv_sub hl [0, 1] rfl)
      clear ej128_35
      refine lv_if_ne (tgt := 128) hx hb dX12_strike_115 (by decide) (fun c_36 => ?_) (fun c_36 => ?_)
      · replace h := it_n c_36 h
        exact J128_35 h _ _ _ hP hD hS (lv_sub hl [0, 1] rfl)
      · replace h := it_p c_36 h
        refine lv_aload_n hx hb dX12_strike_118 rfl (lv_at hl 0 rfl) ?_
        refine va_get (D := xD X) (ci := 12) (v := .int f_m_potted_7) (C := RX12) (T := TX12) (N := 38) hx hb hts inX12 hown hK hP 0 rfl rfl 11 (by decide) (hts _ wq_4_118) (fun _ h9 => h9) rfl dX12_strike_119 ?_
        refine lv_iconst (v := 1) hx hb dX12_strike_122 (by decide) ?_
        refine lv_iand hx hb dX12_strike_123 ?_
        refine lv_iconst (v := 1) hx hb dX12_strike_124 (by decide) ?_
        refine lv_icmp_ne (tgt := 132) hx hb dX12_strike_125 (by decide) (fun c_37 => ?_) (fun c_37 => ?_)
        · replace h := it_n c_37 h
          refine lv_iconst (v := 0) hx hb dX12_strike_132 (by decide) ?_
          exact J133_17 0 h _ _ _ hP hD hS (lv_sub hl [0, 1] rfl)
        · replace h := it_p c_37 h
          exact J128_35 h _ _ _ hP hD hS (lv_sub hl [0, 1] rfl)
    clear ej110_15
    refine lv_if_ne (tgt := 110) hx hb dX12_strike_56 (by decide) (fun c_38 => ?_) (fun c_38 => ?_)
    · replace h := it_n c_38 h
      exact J110_15 u_3.1 u_3.2.1 u_3.2.2.1 u_3.2.2.2.1 u_3.2.2.2.2.1 u_3.2.2.2.2.2.1 u_3.2.2.2.2.2.2.1 u_3.2.2.2.2.2.2.2 h _ _ _ hP hD hS (lv_sub hl [0, 1] rfl)
    · replace h := it_p c_38 h
      refine lv_iload hx hb dX12_strike_59 (lv_at hl 2 rfl) ?_
      refine lv_if_le (tgt := 110) hx hb dX12_strike_61 (by decide) (fun c_39 => ?_) (fun c_39 => ?_)
      · replace h := it_p c_39 h
        exact J110_15 u_3.1 u_3.2.1 u_3.2.2.1 u_3.2.2.2.1 u_3.2.2.2.2.1 u_3.2.2.2.2.2.1 u_3.2.2.2.2.2.2.1 u_3.2.2.2.2.2.2.2 h _ _ _ hP hD hS (lv_sub hl [0, 1] rfl)
      · replace h := it_n c_39 h
        refine lv_aload_n hx hb dX12_strike_64 rfl (lv_at hl 1 rfl) ?_
        refine lv_iconst (v := 0) hx hb dX12_strike_65 (by decide) ?_
        obtain ⟨z_40, h⟩ := gd_s h
        refine va_iald hx hb hK hP 3 0 rfl rfl (inb_vp z_40) dX12_strike_66 ?_
        refine lv_iconst (v := (-1)) hx hb dX12_strike_67 (by decide) ?_
        refine lv_icmp_eq (tgt := 110) hx hb dX12_strike_68 (by decide) (fun c_41 => ?_) (fun c_41 => ?_)
        · replace h := it_p c_41 h
          exact J110_15 u_3.1 u_3.2.1 u_3.2.2.1 u_3.2.2.2.1 u_3.2.2.2.2.1 u_3.2.2.2.2.2.1 u_3.2.2.2.2.2.2.1 u_3.2.2.2.2.2.2.2 h _ _ _ hP hD hS (lv_sub hl [0, 1] rfl)
        · replace h := it_n c_41 h
          refine lv_iload hx hb dX12_strike_71 (lv_at hl 2 rfl) ?_
          refine lv_iconst (v := 1) hx hb dX12_strike_73 (by decide) ?_
          obtain ⟨j82_43, ej82_43, h⟩ := jn_s h
          have J82_43 : ∀ (k_42 : Int32), j82_43 k_42 = some res → ∀ (H : Heap) (locs : List Loc) (ls : Array Slot), va_P (xD X) vwCl [(a_m, .inr (12, (.ref a_mP :: .int f_m_pageMany :: .int f_m_balls :: .int f_m_spot :: .int f_m_score :: .int f_m_strokesNow :: .int f_m_fouls :: .int f_m_tablesRead :: .ref a_mk :: .ref a_mw :: .ref a_mc :: .int u_3.1 :: .int u_3.2.1 :: .int u_3.2.2.1 :: .int u_3.2.2.2.1 :: .int u_3.2.2.2.2.1 :: .int u_3.2.2.2.2.2.1 :: .int u_3.2.2.2.2.2.2.1 :: .int k_4 :: .ref a_mo :: .ref a_mt :: .int f_m_bestCode :: .int f_m_bestBrings :: .int f_m_plansDone :: .int f_m_safesDone :: .int f_m_seenMany :: .ref a_ms :: .ref a_mb :: .int f_m_seedNow :: .int f_m_keptTable :: .int f_m_keptScore :: .int f_m_keptStrokes :: .int f_m_keptFouls :: .int f_m_keptSeen :: .ref a_mK :: .ref a_mC :: .ref a_mS :: .long f_m_hash :: []))), (a_mk, .inl (xI X, 7, .inl v_mk)), (a_mw, .inl (xI X, 7, .inl v_mw)), (a_q1, .inl (xI X, 7, .inl u_3.2.2.2.2.2.2.2))] H → va_D A [(a_m, .inr (12, (.ref a_mP :: .int f_m_pageMany :: .int f_m_balls :: .int f_m_spot :: .int f_m_score :: .int f_m_strokesNow :: .int f_m_fouls :: .int f_m_tablesRead :: .ref a_mk :: .ref a_mw :: .ref a_mc :: .int u_3.1 :: .int u_3.2.1 :: .int u_3.2.2.1 :: .int u_3.2.2.2.1 :: .int u_3.2.2.2.2.1 :: .int u_3.2.2.2.2.2.1 :: .int u_3.2.2.2.2.2.2.1 :: .int k_4 :: .ref a_mo :: .ref a_mt :: .int f_m_bestCode :: .int f_m_bestBrings :: .int f_m_plansDone :: .int f_m_safesDone :: .int f_m_seenMany :: .ref a_ms :: .ref a_mb :: .int f_m_seedNow :: .int f_m_keptTable :: .int f_m_keptScore :: .int f_m_keptStrokes :: .int f_m_keptFouls :: .int f_m_keptSeen :: .ref a_mK :: .ref a_mC :: .ref a_mS :: .long f_m_hash :: []))), (a_mk, .inl (xI X, 7, .inl v_mk)), (a_mw, .inl (xI X, 7, .inl v_mw)), (a_q1, .inl (xI X, 7, .inl u_3.2.2.2.2.2.2.2))] → va_S A s.heap H locs → lv_has ls 7 [(0, .ref a_m), (1, .ref a_q1)] → W p l e (rmF 3 79) s m args below meth c H locs 0 0 Q (F0 m 82 ls [.int k_42]) := by
            clear h
            intro k_42 h H locs ls hP hD hS hl
            rw [ej82_43] at h
            replace h := id h
            refine lv_istore (lv' := [(5, .int k_42), (0, .ref a_m), (1, .ref a_q1)]) hx hb dX12_strike_82 hl (by decide) rfl (fun ls hl => ?_)
            refine lv_aload_n hx hb dX12_strike_84 rfl (lv_at hl 1 rfl) ?_
            refine lv_aload_n hx hb dX12_strike_85 rfl (lv_at hl 2 rfl) ?_
            refine lv_iconst (v := 0) hx hb dX12_strike_86 (by decide) ?_
            refine lv_iload hx hb dX12_strike_87 (lv_at hl 0 rfl) ?_
            refine lv_aload_n hx hb dX12_strike_89 rfl (lv_at hl 1 rfl) ?_
            refine va_get (D := xD X) (ci := 12) (v := .int u_3.2.2.2.2.2.1) (C := RX12) (T := TX12) (N := 38) hx hb hts inX12 hown hK hP 0 rfl rfl 16 (by decide) (hts _ wq_4_123) (fun _ h9 => h9) rfl dX12_strike_90 ?_
            refine lv_imul hx hb dX12_strike_93 ?_
            refine lv_iload hx hb dX12_strike_94 (lv_at hl 0 rfl) ?_
            refine lv_aload_n hx hb dX12_strike_96 rfl (lv_at hl 1 rfl) ?_
            refine va_get (D := xD X) (ci := 12) (v := .int u_3.2.2.2.2.2.2.1) (C := RX12) (T := TX12) (N := 38) hx hb hts inX12 hown hK hP 0 rfl rfl 17 (by decide) (hts _ wq_4_124) (fun _ h9 => h9) rfl dX12_strike_97 ?_
            refine lv_imul hx hb dX12_strike_100 ?_
            refine lv_aload_n hx hb dX12_strike_101 rfl (lv_at hl 1 rfl) ?_
            refine va_get (D := xD X) (ci := 12) (v := .int u_3.2.2.2.2.1) (C := RX12) (T := TX12) (N := 38) hx hb hts inX12 hown hK hP 0 rfl rfl 15 (by decide) (hts _ wq_4_122) (fun _ h9 => h9) rfl dX12_strike_102 ?_
            refine lv_iconst (v := 2) hx hb dX12_strike_105 (by decide) ?_
            refine lv_idiv hx hb dX12_strike_106 (by decide) ?_
            obtain ⟨u_44, hu_44, h⟩ := ob_s h
            refine cVv (C := RX12) (As := [.ref a_q1, .int 0, .int (k_42 * u_3.2.2.2.2.2.1), .int (k_42 * u_3.2.2.2.2.2.2.1), .int (u_3.2.2.2.2.1 / 2)]) (rest := []) [(a_m, .inr (12, (.ref a_mP :: .int f_m_pageMany :: .int f_m_balls :: .int f_m_spot :: .int f_m_score :: .int f_m_strokesNow :: .int f_m_fouls :: .int f_m_tablesRead :: .ref a_mk :: .ref a_mw :: .ref a_mc :: .int u_44.1 :: .int u_44.2.1 :: .int u_44.2.2.1 :: .int u_44.2.2.2.1 :: .int u_44.2.2.2.2.1 :: .int u_44.2.2.2.2.2.1 :: .int u_44.2.2.2.2.2.2.1 :: .int k_4 :: .ref a_mo :: .ref a_mt :: .int f_m_bestCode :: .int f_m_bestBrings :: .int f_m_plansDone :: .int f_m_safesDone :: .int f_m_seenMany :: .ref a_ms :: .ref a_mb :: .int f_m_seedNow :: .int f_m_keptTable :: .int f_m_keptScore :: .int f_m_keptStrokes :: .int f_m_keptFouls :: .int f_m_keptSeen :: .ref a_mK :: .ref a_mC :: .ref a_mS :: .long f_m_hash :: []))), (a_mk, .inl (xI X, 7, .inl v_mk)), (a_mw, .inl (xI X, 7, .inl v_mw)), (a_q1, .inl (xI X, 7, .inl u_44.2.2.2.2.2.2.2))] hB (c_X12_roll X l n a_m a_mP a_mk a_mw a_mc a_mo a_mt a_ms a_mb a_mK a_mC a_mS a_q1 f_m_pageMany f_m_balls f_m_spot f_m_score f_m_strokesNow f_m_fouls f_m_tablesRead u_3.1 u_3.2.1 u_3.2.2.1 u_3.2.2.2.1 u_3.2.2.2.2.1 u_3.2.2.2.2.2.1 u_3.2.2.2.2.2.2.1 k_4 f_m_bestCode f_m_bestBrings f_m_plansDone f_m_safesDone f_m_seenMany f_m_seedNow f_m_keptTable f_m_keptScore f_m_keptStrokes f_m_keptFouls f_m_keptSeen f_m_hash v_mk u_3.2.2.2.2.2.2.2 0 (k_42 * u_3.2.2.2.2.2.1) (k_42 * u_3.2.2.2.2.2.2.1) (u_3.2.2.2.2.1 / 2) u_44 hu_44) wq_5_73 wq_1_14 wq_5_70 wq_5_72 wp_36 hd_X12_roll (by decide) hP hD hS hl.1 [0, 1, 3] [2] [(a_mw, .inl (xI X, 7, .inl v_mw))] rfl (by decide +kernel) rfl rfl rfl (nn := 4) rfl (by decide +kernel) [a_m, a_mk, a_mw, a_q1] rfl rfl (q0 := 0) rfl rfl rfl rfl (Nat.le_of_ble_eq_true rfl) dX12_strike_107 ⟨Nat.zero_le _, Nat.zero_le _⟩ (fun H locs hP hD hS => ?_)
            exact J110_15 u_44.1 u_44.2.1 u_44.2.2.1 u_44.2.2.2.1 u_44.2.2.2.2.1 u_44.2.2.2.2.2.1 u_44.2.2.2.2.2.2.1 u_44.2.2.2.2.2.2.2 h _ _ _ hP hD hS (lv_sub hl [1, 2] rfl)
          clear ej82_43
          refine lv_icmp_ne (tgt := 81) hx hb dX12_strike_74 (by decide) (fun c_45 => ?_) (fun c_45 => ?_)
          · replace h := it_n c_45 h
            refine lv_iconst (v := (-1)) hx hb dX12_strike_81 (by decide) ?_
            exact J82_43 (-1) h _ _ _ hP hD hS (lv_sub hl [0, 1] rfl)
          · replace h := it_p c_45 h
            refine lv_iconst (v := 1) hx hb dX12_strike_77 (by decide) ?_
            refine lv_goto (tgt := 82) hx hb dX12_strike_78 (by decide) ?_
            exact J82_43 1 h _ _ _ hP hD hS (lv_sub hl [0, 1] rfl)
  clear ej49_5
  refine lv_icmp_ne (tgt := 48) hx hb dX12_strike_41 (by decide) (fun c_46 => ?_) (fun c_46 => ?_)
  · replace h := it_n c_46 h
    refine lv_iconst (v := 0) hx hb dX12_strike_48 (by decide) ?_
    exact J49_5 0 h _ _ _ hP hD hS (lv_sub hl [0, 1, 4] rfl)
  · replace h := it_p c_46 h
    refine lv_iconst (v := 1) hx hb dX12_strike_44 (by decide) ?_
    refine lv_goto (tgt := 49) hx hb dX12_strike_45 (by decide) ?_
    exact J49_5 1 h _ _ _ hP hD hS (lv_sub hl [0, 1, 4] rfl)


def f_X12_letter (f_m_pageMany : Int32) (v_mP : Nat → Int32) (p1 : Int32) : Option (Int32 × Int32 × (Nat → Int32)) :=
  ((f_X12_in p1.toInt64 1 126).bind (fun u_1 => (if u_1 = 0 then (some ((-102), f_m_pageMany, v_mP)) else (if f_m_pageMany = 34 then (some ((-104), f_m_pageMany, v_mP)) else (gd (inb f_m_pageMany 34) (some ((f_m_pageMany + 1), (f_m_pageMany + 1), (upd v_mP f_m_pageMany.toNatClampNeg p1))))))))
theorem hd_X12_letter : yX12_letter.cls ≠ "java/lang/invoke/MethodHandle" ∧ yX12_letter.cls ≠ "java/lang/invoke/VarHandle" ∧ (parseMethodDescriptor yX12_letter.desc).map (fun d => d.parameters.length) = some 1 := ⟨by decide +kernel, by decide +kernel, by decide +kernel⟩
set_option maxHeartbeats 4000000 in
set_option maxRecDepth 100000 in
theorem c_X12_letter (X : CXp) (l : Launch) (a_m a_mP a_mk a_mw a_mc a_mo a_mt a_ms a_mb a_mK a_mC a_mS : Nat) (f_m_pageMany : Int32) (f_m_balls : Int32) (f_m_spot : Int32) (f_m_score : Int32) (f_m_strokesNow : Int32) (f_m_fouls : Int32) (f_m_tablesRead : Int32) (f_m_potted : Int32) (f_m_moves : Int32) (f_m_bounces : Int32) (f_m_hitFirst : Int32) (f_m_hitPower : Int32) (f_m_hitDown : Int32) (f_m_hitRight : Int32) (f_m_isFoul : Int32) (f_m_bestCode : Int32) (f_m_bestBrings : Int32) (f_m_plansDone : Int32) (f_m_safesDone : Int32) (f_m_seenMany : Int32) (f_m_seedNow : Int32) (f_m_keptTable : Int32) (f_m_keptScore : Int32) (f_m_keptStrokes : Int32) (f_m_keptFouls : Int32) (f_m_keptSeen : Int32) (f_m_hash : Int64) (v_mP : Nat → Int32) (p1 : Int32) (res : Int32 × Int32 × (Nat → Int32)) (h : f_X12_letter f_m_pageMany v_mP p1 = some res) : CTg X l yX12_letter cX12_letter 2 (some .int) 1 25 [.ref a_m, .int p1] [(a_m, .inr (12, (.ref a_mP :: .int f_m_pageMany :: .int f_m_balls :: .int f_m_spot :: .int f_m_score :: .int f_m_strokesNow :: .int f_m_fouls :: .int f_m_tablesRead :: .ref a_mk :: .ref a_mw :: .ref a_mc :: .int f_m_potted :: .int f_m_moves :: .int f_m_bounces :: .int f_m_hitFirst :: .int f_m_hitPower :: .int f_m_hitDown :: .int f_m_hitRight :: .int f_m_isFoul :: .ref a_mo :: .ref a_mt :: .int f_m_bestCode :: .int f_m_bestBrings :: .int f_m_plansDone :: .int f_m_safesDone :: .int f_m_seenMany :: .ref a_ms :: .ref a_mb :: .int f_m_seedNow :: .int f_m_keptTable :: .int f_m_keptScore :: .int f_m_keptStrokes :: .int f_m_keptFouls :: .int f_m_keptSeen :: .ref a_mK :: .ref a_mC :: .ref a_mS :: .long f_m_hash :: []))), (a_mP, .inl (xI X, 34, .inl v_mP))] (QcI X res.1 [(a_m, .inr (12, (.ref a_mP :: .int res.2.1 :: .int f_m_balls :: .int f_m_spot :: .int f_m_score :: .int f_m_strokesNow :: .int f_m_fouls :: .int f_m_tablesRead :: .ref a_mk :: .ref a_mw :: .ref a_mc :: .int f_m_potted :: .int f_m_moves :: .int f_m_bounces :: .int f_m_hitFirst :: .int f_m_hitPower :: .int f_m_hitDown :: .int f_m_hitRight :: .int f_m_isFoul :: .ref a_mo :: .ref a_mt :: .int f_m_bestCode :: .int f_m_bestBrings :: .int f_m_plansDone :: .int f_m_safesDone :: .int f_m_seenMany :: .ref a_ms :: .ref a_mb :: .int f_m_seedNow :: .int f_m_keptTable :: .int f_m_keptScore :: .int f_m_keptStrokes :: .int f_m_keptFouls :: .int f_m_keptSeen :: .ref a_mK :: .ref a_mC :: .ref a_mS :: .long f_m_hash :: []))), (a_mP, .inl (xI X, 34, .inl res.2.2))]) := by
  refine CTg.mk (own := RX12) (by decide) rfl (Nat.le_of_ble_eq_true rfl) ?_
  intro p e s m args below meth c A hB hP hD hS ls hl
  obtain ⟨hx, hb, hr, hml, hown, hts, hlocks, hcx, hA, hAB⟩ := id hB
  have hK := hcx.1
  generalize hQ : MQ below (QcI X res.1 [(a_m, .inr (12, (.ref a_mP :: .int res.2.1 :: .int f_m_balls :: .int f_m_spot :: .int f_m_score :: .int f_m_strokesNow :: .int f_m_fouls :: .int f_m_tablesRead :: .ref a_mk :: .ref a_mw :: .ref a_mc :: .int f_m_potted :: .int f_m_moves :: .int f_m_bounces :: .int f_m_hitFirst :: .int f_m_hitPower :: .int f_m_hitDown :: .int f_m_hitRight :: .int f_m_isFoul :: .ref a_mo :: .ref a_mt :: .int f_m_bestCode :: .int f_m_bestBrings :: .int f_m_plansDone :: .int f_m_safesDone :: .int f_m_seenMany :: .ref a_ms :: .ref a_mb :: .int f_m_seedNow :: .int f_m_keptTable :: .int f_m_keptScore :: .int f_m_keptStrokes :: .int f_m_keptFouls :: .int f_m_keptSeen :: .ref a_mK :: .ref a_mC :: .ref a_mS :: .long f_m_hash :: []))), (a_mP, .inl (xI X, 34, .inl res.2.2))] A) args s 0 0 A = Q
  replace hl : lv_has ls 2 [(0, .ref a_m), (1, .int p1)] := hl
  unfold f_X12_letter at h
  refine lv_iload_n hx hb dX12_letter_0 rfl (lv_at hl 1 rfl) ?_
  refine lv_i2l (v := p1.toInt64) hx hb dX12_letter_1 rfl ?_
  refine lv_lconst (v := 1) hx hb dX12_letter_2 (by decide) ?_
  refine lv_ldc2 (v := 126) hx hb hown (hts _ wq_4_226) dX12_letter_3 ?_
  obtain ⟨u_1, hu_1, h⟩ := ob_s h
  refine cSi (As := [.long p1.toInt64, .long 1, .long 126]) (rest := []) [(a_m, .inr (12, (.ref a_mP :: .int f_m_pageMany :: .int f_m_balls :: .int f_m_spot :: .int f_m_score :: .int f_m_strokesNow :: .int f_m_fouls :: .int f_m_tablesRead :: .ref a_mk :: .ref a_mw :: .ref a_mc :: .int f_m_potted :: .int f_m_moves :: .int f_m_bounces :: .int f_m_hitFirst :: .int f_m_hitPower :: .int f_m_hitDown :: .int f_m_hitRight :: .int f_m_isFoul :: .ref a_mo :: .ref a_mt :: .int f_m_bestCode :: .int f_m_bestBrings :: .int f_m_plansDone :: .int f_m_safesDone :: .int f_m_seenMany :: .ref a_ms :: .ref a_mb :: .int f_m_seedNow :: .int f_m_keptTable :: .int f_m_keptScore :: .int f_m_keptStrokes :: .int f_m_keptFouls :: .int f_m_keptSeen :: .ref a_mK :: .ref a_mC :: .ref a_mS :: .long f_m_hash :: []))), (a_mP, .inl (xI X, 34, .inl v_mP))] hB (c_X12_in X l p1.toInt64 1 126 u_1 hu_1) wq_4_229 wq_1_14 wq_4_227 wq_4_228 hd_X12_in (by decide) hP hD hS hl.1 [] [0, 1] [(a_m, .inr (12, (.ref a_mP :: .int f_m_pageMany :: .int f_m_balls :: .int f_m_spot :: .int f_m_score :: .int f_m_strokesNow :: .int f_m_fouls :: .int f_m_tablesRead :: .ref a_mk :: .ref a_mw :: .ref a_mc :: .int f_m_potted :: .int f_m_moves :: .int f_m_bounces :: .int f_m_hitFirst :: .int f_m_hitPower :: .int f_m_hitDown :: .int f_m_hitRight :: .int f_m_isFoul :: .ref a_mo :: .ref a_mt :: .int f_m_bestCode :: .int f_m_bestBrings :: .int f_m_plansDone :: .int f_m_safesDone :: .int f_m_seenMany :: .ref a_ms :: .ref a_mb :: .int f_m_seedNow :: .int f_m_keptTable :: .int f_m_keptScore :: .int f_m_keptStrokes :: .int f_m_keptFouls :: .int f_m_keptSeen :: .ref a_mK :: .ref a_mC :: .ref a_mS :: .long f_m_hash :: []))), (a_mP, .inl (xI X, 34, .inl v_mP))] rfl (by decide +kernel) rfl rfl rfl (nn := 2) rfl (by decide +kernel) [a_m, a_mP] rfl rfl rfl rfl (Nat.le_of_ble_eq_true rfl) dX12_letter_6 ⟨Nat.zero_le _, Nat.zero_le _⟩ (fun H locs hP hD hS => ?_)
  refine lv_if_ne (tgt := 15) hx hb dX12_letter_9 (by decide) (fun c_2 => ?_) (fun c_2 => ?_)
  · replace h := it_n c_2 h
    refine lv_aload_n hx hb dX12_letter_15 rfl (lv_at hl 0 rfl) ?_
    refine va_get (D := xD X) (ci := 12) (v := .int f_m_pageMany) (C := RX12) (T := TX12) (N := 38) hx hb hts inX12 hown hK hP 0 rfl rfl 1 (by decide) (hts _ wq_4_108) (fun _ h9 => h9) rfl dX12_letter_16 ?_
    refine lv_bipush (v := 34) hx hb dX12_letter_19 (by decide) ?_
    refine lv_icmp_ne (tgt := 27) hx hb dX12_letter_21 (by decide) (fun c_3 => ?_) (fun c_3 => ?_)
    · replace h := it_n c_3 h
      refine lv_aload_n hx hb dX12_letter_27 rfl (lv_at hl 0 rfl) ?_
      refine va_get (D := xD X) (ci := 12) (v := .ref a_mP) (C := RX12) (T := TX12) (N := 38) hx hb hts inX12 hown hK hP 0 rfl rfl 0 (by decide) (hts _ wq_4_107) (fun _ h9 => h9) rfl dX12_letter_28 ?_
      refine lv_aload_n hx hb dX12_letter_31 rfl (lv_at hl 0 rfl) ?_
      refine va_get (D := xD X) (ci := 12) (v := .int f_m_pageMany) (C := RX12) (T := TX12) (N := 38) hx hb hts inX12 hown hK hP 0 rfl rfl 1 (by decide) (hts _ wq_4_108) (fun _ h9 => h9) rfl dX12_letter_32 ?_
      refine lv_iload_n hx hb dX12_letter_35 rfl (lv_at hl 1 rfl) ?_
      obtain ⟨z_4, h⟩ := gd_s h
      refine va_iast hx hb hK hP hD hS 1 0 rfl rfl (inb_vp z_4) dX12_letter_36 (fun H locs (hP : va_P (xD X) vwCl [(a_m, .inr (12, (.ref a_mP :: .int f_m_pageMany :: .int f_m_balls :: .int f_m_spot :: .int f_m_score :: .int f_m_strokesNow :: .int f_m_fouls :: .int f_m_tablesRead :: .ref a_mk :: .ref a_mw :: .ref a_mc :: .int f_m_potted :: .int f_m_moves :: .int f_m_bounces :: .int f_m_hitFirst :: .int f_m_hitPower :: .int f_m_hitDown :: .int f_m_hitRight :: .int f_m_isFoul :: .ref a_mo :: .ref a_mt :: .int f_m_bestCode :: .int f_m_bestBrings :: .int f_m_plansDone :: .int f_m_safesDone :: .int f_m_seenMany :: .ref a_ms :: .ref a_mb :: .int f_m_seedNow :: .int f_m_keptTable :: .int f_m_keptScore :: .int f_m_keptStrokes :: .int f_m_keptFouls :: .int f_m_keptSeen :: .ref a_mK :: .ref a_mC :: .ref a_mS :: .long f_m_hash :: []))), (a_mP, .inl (xI X, 34, .inl (upd v_mP f_m_pageMany.toNatClampNeg p1)))] H) (hD : va_D A [(a_m, .inr (12, (.ref a_mP :: .int f_m_pageMany :: .int f_m_balls :: .int f_m_spot :: .int f_m_score :: .int f_m_strokesNow :: .int f_m_fouls :: .int f_m_tablesRead :: .ref a_mk :: .ref a_mw :: .ref a_mc :: .int f_m_potted :: .int f_m_moves :: .int f_m_bounces :: .int f_m_hitFirst :: .int f_m_hitPower :: .int f_m_hitDown :: .int f_m_hitRight :: .int f_m_isFoul :: .ref a_mo :: .ref a_mt :: .int f_m_bestCode :: .int f_m_bestBrings :: .int f_m_plansDone :: .int f_m_safesDone :: .int f_m_seenMany :: .ref a_ms :: .ref a_mb :: .int f_m_seedNow :: .int f_m_keptTable :: .int f_m_keptScore :: .int f_m_keptStrokes :: .int f_m_keptFouls :: .int f_m_keptSeen :: .ref a_mK :: .ref a_mC :: .ref a_mS :: .long f_m_hash :: []))), (a_mP, .inl (xI X, 34, .inl (upd v_mP f_m_pageMany.toNatClampNeg p1)))]) hS => ?_)
      refine lv_aload_n hx hb dX12_letter_37 rfl (lv_at hl 0 rfl) ?_
      refine lv_dup hx hb dX12_letter_38 rfl ?_
      refine va_get (D := xD X) (ci := 12) (v := .int f_m_pageMany) (C := RX12) (T := TX12) (N := 38) hx hb hts inX12 hown hK hP 0 rfl rfl 1 (by decide) (hts _ wq_4_108) (fun _ h9 => h9) rfl dX12_letter_39 ?_
      refine lv_iconst (v := 1) hx hb dX12_letter_42 (by decide) ?_
      refine lv_iadd hx hb dX12_letter_43 ?_
      refine va_put (D := xD X) (ci := 12) (v := .int (f_m_pageMany + 1)) (ty := .int) (C := RX12) (T := TX12) (N := 38) hx hb hts inX12 tyX12 tyX12_ok nmX12 hown hK hP hD hS 0 rfl rfl 1 (by decide) (hts _ wq_4_108) (fun _ h9 => h9) rfl (by decide +kernel) rfl rfl (Nat.le_of_ble_eq_true rfl) dX12_letter_44 (fun H locs (hP : va_P (xD X) vwCl [(a_m, .inr (12, (.ref a_mP :: .int (f_m_pageMany + 1) :: .int f_m_balls :: .int f_m_spot :: .int f_m_score :: .int f_m_strokesNow :: .int f_m_fouls :: .int f_m_tablesRead :: .ref a_mk :: .ref a_mw :: .ref a_mc :: .int f_m_potted :: .int f_m_moves :: .int f_m_bounces :: .int f_m_hitFirst :: .int f_m_hitPower :: .int f_m_hitDown :: .int f_m_hitRight :: .int f_m_isFoul :: .ref a_mo :: .ref a_mt :: .int f_m_bestCode :: .int f_m_bestBrings :: .int f_m_plansDone :: .int f_m_safesDone :: .int f_m_seenMany :: .ref a_ms :: .ref a_mb :: .int f_m_seedNow :: .int f_m_keptTable :: .int f_m_keptScore :: .int f_m_keptStrokes :: .int f_m_keptFouls :: .int f_m_keptSeen :: .ref a_mK :: .ref a_mC :: .ref a_mS :: .long f_m_hash :: []))), (a_mP, .inl (xI X, 34, .inl (upd v_mP f_m_pageMany.toNatClampNeg p1)))] H) (hD : va_D A [(a_m, .inr (12, (.ref a_mP :: .int (f_m_pageMany + 1) :: .int f_m_balls :: .int f_m_spot :: .int f_m_score :: .int f_m_strokesNow :: .int f_m_fouls :: .int f_m_tablesRead :: .ref a_mk :: .ref a_mw :: .ref a_mc :: .int f_m_potted :: .int f_m_moves :: .int f_m_bounces :: .int f_m_hitFirst :: .int f_m_hitPower :: .int f_m_hitDown :: .int f_m_hitRight :: .int f_m_isFoul :: .ref a_mo :: .ref a_mt :: .int f_m_bestCode :: .int f_m_bestBrings :: .int f_m_plansDone :: .int f_m_safesDone :: .int f_m_seenMany :: .ref a_ms :: .ref a_mb :: .int f_m_seedNow :: .int f_m_keptTable :: .int f_m_keptScore :: .int f_m_keptStrokes :: .int f_m_keptFouls :: .int f_m_keptSeen :: .ref a_mK :: .ref a_mC :: .ref a_mS :: .long f_m_hash :: []))), (a_mP, .inl (xI X, 34, .inl (upd v_mP f_m_pageMany.toNatClampNeg p1)))]) hS => ?_)
      refine lv_aload_n hx hb dX12_letter_47 rfl (lv_at hl 0 rfl) ?_
      refine va_get (D := xD X) (ci := 12) (v := .int (f_m_pageMany + 1)) (C := RX12) (T := TX12) (N := 38) hx hb hts inX12 hown hK hP 0 rfl rfl 1 (by decide) (hts _ wq_4_108) (fun _ h9 => h9) rfl dX12_letter_48 ?_
      obtain rfl := Option.some.inj h
      rw [← hQ]
      exact retI hB hS hP dX12_letter_51
    · replace h := it_p c_3 h
      refine lv_bipush (v := (-104)) hx hb dX12_letter_24 (by decide) ?_
      obtain rfl := Option.some.inj h
      rw [← hQ]
      exact retI hB hS hP dX12_letter_26
  · replace h := it_p c_2 h
    refine lv_bipush (v := (-102)) hx hb dX12_letter_12 (by decide) ?_
    obtain rfl := Option.some.inj h
    rw [← hQ]
    exact retI hB hS hP dX12_letter_14


def f_X12_blank (f_m_pageMany : Int32) : Option (Int32 × Int32) :=
  (some (f_m_pageMany, 0))
theorem hd_X12_blank : yX12_blank.cls ≠ "java/lang/invoke/MethodHandle" ∧ yX12_blank.cls ≠ "java/lang/invoke/VarHandle" ∧ (parseMethodDescriptor yX12_blank.desc).map (fun d => d.parameters.length) = some 0 := ⟨by decide +kernel, by decide +kernel, by decide +kernel⟩
set_option maxHeartbeats 4000000 in
set_option maxRecDepth 100000 in
theorem c_X12_blank (X : CXp) (l : Launch) (a_m a_mP a_mk a_mw a_mc a_mo a_mt a_ms a_mb a_mK a_mC a_mS : Nat) (f_m_pageMany : Int32) (f_m_balls : Int32) (f_m_spot : Int32) (f_m_score : Int32) (f_m_strokesNow : Int32) (f_m_fouls : Int32) (f_m_tablesRead : Int32) (f_m_potted : Int32) (f_m_moves : Int32) (f_m_bounces : Int32) (f_m_hitFirst : Int32) (f_m_hitPower : Int32) (f_m_hitDown : Int32) (f_m_hitRight : Int32) (f_m_isFoul : Int32) (f_m_bestCode : Int32) (f_m_bestBrings : Int32) (f_m_plansDone : Int32) (f_m_safesDone : Int32) (f_m_seenMany : Int32) (f_m_seedNow : Int32) (f_m_keptTable : Int32) (f_m_keptScore : Int32) (f_m_keptStrokes : Int32) (f_m_keptFouls : Int32) (f_m_keptSeen : Int32) (f_m_hash : Int64) (res : Int32 × Int32) (h : f_X12_blank f_m_pageMany = some res) : CTg X l yX12_blank cX12_blank 2 (some .int) 0 0 [.ref a_m] [(a_m, .inr (12, (.ref a_mP :: .int f_m_pageMany :: .int f_m_balls :: .int f_m_spot :: .int f_m_score :: .int f_m_strokesNow :: .int f_m_fouls :: .int f_m_tablesRead :: .ref a_mk :: .ref a_mw :: .ref a_mc :: .int f_m_potted :: .int f_m_moves :: .int f_m_bounces :: .int f_m_hitFirst :: .int f_m_hitPower :: .int f_m_hitDown :: .int f_m_hitRight :: .int f_m_isFoul :: .ref a_mo :: .ref a_mt :: .int f_m_bestCode :: .int f_m_bestBrings :: .int f_m_plansDone :: .int f_m_safesDone :: .int f_m_seenMany :: .ref a_ms :: .ref a_mb :: .int f_m_seedNow :: .int f_m_keptTable :: .int f_m_keptScore :: .int f_m_keptStrokes :: .int f_m_keptFouls :: .int f_m_keptSeen :: .ref a_mK :: .ref a_mC :: .ref a_mS :: .long f_m_hash :: [])))] (QcI X res.1 [(a_m, .inr (12, (.ref a_mP :: .int res.2 :: .int f_m_balls :: .int f_m_spot :: .int f_m_score :: .int f_m_strokesNow :: .int f_m_fouls :: .int f_m_tablesRead :: .ref a_mk :: .ref a_mw :: .ref a_mc :: .int f_m_potted :: .int f_m_moves :: .int f_m_bounces :: .int f_m_hitFirst :: .int f_m_hitPower :: .int f_m_hitDown :: .int f_m_hitRight :: .int f_m_isFoul :: .ref a_mo :: .ref a_mt :: .int f_m_bestCode :: .int f_m_bestBrings :: .int f_m_plansDone :: .int f_m_safesDone :: .int f_m_seenMany :: .ref a_ms :: .ref a_mb :: .int f_m_seedNow :: .int f_m_keptTable :: .int f_m_keptScore :: .int f_m_keptStrokes :: .int f_m_keptFouls :: .int f_m_keptSeen :: .ref a_mK :: .ref a_mC :: .ref a_mS :: .long f_m_hash :: [])))]) := by
  refine CTg.mk (own := RX12) (by decide) rfl (Nat.le_of_ble_eq_true rfl) ?_
  intro p e s m args below meth c A hB hP hD hS ls hl
  obtain ⟨hx, hb, hr, hml, hown, hts, hlocks, hcx, hA, hAB⟩ := id hB
  have hK := hcx.1
  generalize hQ : MQ below (QcI X res.1 [(a_m, .inr (12, (.ref a_mP :: .int res.2 :: .int f_m_balls :: .int f_m_spot :: .int f_m_score :: .int f_m_strokesNow :: .int f_m_fouls :: .int f_m_tablesRead :: .ref a_mk :: .ref a_mw :: .ref a_mc :: .int f_m_potted :: .int f_m_moves :: .int f_m_bounces :: .int f_m_hitFirst :: .int f_m_hitPower :: .int f_m_hitDown :: .int f_m_hitRight :: .int f_m_isFoul :: .ref a_mo :: .ref a_mt :: .int f_m_bestCode :: .int f_m_bestBrings :: .int f_m_plansDone :: .int f_m_safesDone :: .int f_m_seenMany :: .ref a_ms :: .ref a_mb :: .int f_m_seedNow :: .int f_m_keptTable :: .int f_m_keptScore :: .int f_m_keptStrokes :: .int f_m_keptFouls :: .int f_m_keptSeen :: .ref a_mK :: .ref a_mC :: .ref a_mS :: .long f_m_hash :: [])))] A) args s 0 0 A = Q
  replace hl : lv_has ls 2 [(0, .ref a_m)] := hl
  unfold f_X12_blank at h
  refine lv_aload_n hx hb dX12_blank_0 rfl (lv_at hl 0 rfl) ?_
  refine va_get (D := xD X) (ci := 12) (v := .int f_m_pageMany) (C := RX12) (T := TX12) (N := 38) hx hb hts inX12 hown hK hP 0 rfl rfl 1 (by decide) (hts _ wq_4_108) (fun _ h9 => h9) rfl dX12_blank_1 ?_
  refine lv_istore_n (lv' := [(1, .int f_m_pageMany), (0, .ref a_m)]) hx hb dX12_blank_4 rfl hl (by decide) rfl (fun ls hl => ?_)
  refine lv_aload_n hx hb dX12_blank_5 rfl (lv_at hl 1 rfl) ?_
  refine lv_iconst (v := 0) hx hb dX12_blank_6 (by decide) ?_
  refine va_put (D := xD X) (ci := 12) (v := .int 0) (ty := .int) (C := RX12) (T := TX12) (N := 38) hx hb hts inX12 tyX12 tyX12_ok nmX12 hown hK hP hD hS 0 rfl rfl 1 (by decide) (hts _ wq_4_108) (fun _ h9 => h9) rfl (by decide +kernel) rfl rfl (Nat.le_of_ble_eq_true rfl) dX12_blank_7 (fun H locs (hP : va_P (xD X) vwCl [(a_m, .inr (12, (.ref a_mP :: .int 0 :: .int f_m_balls :: .int f_m_spot :: .int f_m_score :: .int f_m_strokesNow :: .int f_m_fouls :: .int f_m_tablesRead :: .ref a_mk :: .ref a_mw :: .ref a_mc :: .int f_m_potted :: .int f_m_moves :: .int f_m_bounces :: .int f_m_hitFirst :: .int f_m_hitPower :: .int f_m_hitDown :: .int f_m_hitRight :: .int f_m_isFoul :: .ref a_mo :: .ref a_mt :: .int f_m_bestCode :: .int f_m_bestBrings :: .int f_m_plansDone :: .int f_m_safesDone :: .int f_m_seenMany :: .ref a_ms :: .ref a_mb :: .int f_m_seedNow :: .int f_m_keptTable :: .int f_m_keptScore :: .int f_m_keptStrokes :: .int f_m_keptFouls :: .int f_m_keptSeen :: .ref a_mK :: .ref a_mC :: .ref a_mS :: .long f_m_hash :: [])))] H) (hD : va_D A [(a_m, .inr (12, (.ref a_mP :: .int 0 :: .int f_m_balls :: .int f_m_spot :: .int f_m_score :: .int f_m_strokesNow :: .int f_m_fouls :: .int f_m_tablesRead :: .ref a_mk :: .ref a_mw :: .ref a_mc :: .int f_m_potted :: .int f_m_moves :: .int f_m_bounces :: .int f_m_hitFirst :: .int f_m_hitPower :: .int f_m_hitDown :: .int f_m_hitRight :: .int f_m_isFoul :: .ref a_mo :: .ref a_mt :: .int f_m_bestCode :: .int f_m_bestBrings :: .int f_m_plansDone :: .int f_m_safesDone :: .int f_m_seenMany :: .ref a_ms :: .ref a_mb :: .int f_m_seedNow :: .int f_m_keptTable :: .int f_m_keptScore :: .int f_m_keptStrokes :: .int f_m_keptFouls :: .int f_m_keptSeen :: .ref a_mK :: .ref a_mC :: .ref a_mS :: .long f_m_hash :: [])))]) hS => ?_)
  refine lv_iload_n hx hb dX12_blank_10 rfl (lv_at hl 0 rfl) ?_
  obtain rfl := Option.some.inj h
  rw [← hQ]
  exact retI hB hS hP dX12_blank_11


def f_X12_cellAt (v_mP : Nat → Int32) (p1 : Int32) : Option (Int32) :=
  (gd (inb p1 34) (gd (inb (p1 + 1) 34) (some (((9 * ((v_mP p1.toNatClampNeg) - 48)) + (v_mP (p1 + 1).toNatClampNeg)) - 48))))
theorem hd_X12_cellAt : yX12_cellAt.cls ≠ "java/lang/invoke/MethodHandle" ∧ yX12_cellAt.cls ≠ "java/lang/invoke/VarHandle" ∧ (parseMethodDescriptor yX12_cellAt.desc).map (fun d => d.parameters.length) = some 1 := ⟨by decide +kernel, by decide +kernel, by decide +kernel⟩
set_option maxHeartbeats 4000000 in
set_option maxRecDepth 100000 in
theorem c_X12_cellAt (X : CXp) (l : Launch) (a_m a_mP a_mk a_mw a_mc a_mo a_mt a_ms a_mb a_mK a_mC a_mS : Nat) (f_m_pageMany : Int32) (f_m_balls : Int32) (f_m_spot : Int32) (f_m_score : Int32) (f_m_strokesNow : Int32) (f_m_fouls : Int32) (f_m_tablesRead : Int32) (f_m_potted : Int32) (f_m_moves : Int32) (f_m_bounces : Int32) (f_m_hitFirst : Int32) (f_m_hitPower : Int32) (f_m_hitDown : Int32) (f_m_hitRight : Int32) (f_m_isFoul : Int32) (f_m_bestCode : Int32) (f_m_bestBrings : Int32) (f_m_plansDone : Int32) (f_m_safesDone : Int32) (f_m_seenMany : Int32) (f_m_seedNow : Int32) (f_m_keptTable : Int32) (f_m_keptScore : Int32) (f_m_keptStrokes : Int32) (f_m_keptFouls : Int32) (f_m_keptSeen : Int32) (f_m_hash : Int64) (v_mP : Nat → Int32) (p1 : Int32) (res : Int32) (h : f_X12_cellAt v_mP p1 = some res) : CTg X l yX12_cellAt cX12_cellAt 2 (some .int) 0 0 [.ref a_m, .int p1] [(a_m, .inr (12, (.ref a_mP :: .int f_m_pageMany :: .int f_m_balls :: .int f_m_spot :: .int f_m_score :: .int f_m_strokesNow :: .int f_m_fouls :: .int f_m_tablesRead :: .ref a_mk :: .ref a_mw :: .ref a_mc :: .int f_m_potted :: .int f_m_moves :: .int f_m_bounces :: .int f_m_hitFirst :: .int f_m_hitPower :: .int f_m_hitDown :: .int f_m_hitRight :: .int f_m_isFoul :: .ref a_mo :: .ref a_mt :: .int f_m_bestCode :: .int f_m_bestBrings :: .int f_m_plansDone :: .int f_m_safesDone :: .int f_m_seenMany :: .ref a_ms :: .ref a_mb :: .int f_m_seedNow :: .int f_m_keptTable :: .int f_m_keptScore :: .int f_m_keptStrokes :: .int f_m_keptFouls :: .int f_m_keptSeen :: .ref a_mK :: .ref a_mC :: .ref a_mS :: .long f_m_hash :: []))), (a_mP, .inl (xI X, 34, .inl v_mP))] (QcI X res [(a_m, .inr (12, (.ref a_mP :: .int f_m_pageMany :: .int f_m_balls :: .int f_m_spot :: .int f_m_score :: .int f_m_strokesNow :: .int f_m_fouls :: .int f_m_tablesRead :: .ref a_mk :: .ref a_mw :: .ref a_mc :: .int f_m_potted :: .int f_m_moves :: .int f_m_bounces :: .int f_m_hitFirst :: .int f_m_hitPower :: .int f_m_hitDown :: .int f_m_hitRight :: .int f_m_isFoul :: .ref a_mo :: .ref a_mt :: .int f_m_bestCode :: .int f_m_bestBrings :: .int f_m_plansDone :: .int f_m_safesDone :: .int f_m_seenMany :: .ref a_ms :: .ref a_mb :: .int f_m_seedNow :: .int f_m_keptTable :: .int f_m_keptScore :: .int f_m_keptStrokes :: .int f_m_keptFouls :: .int f_m_keptSeen :: .ref a_mK :: .ref a_mC :: .ref a_mS :: .long f_m_hash :: []))), (a_mP, .inl (xI X, 34, .inl v_mP))]) := by
  refine CTg.mk (own := RX12) (by decide) rfl (Nat.le_of_ble_eq_true rfl) ?_
  intro p e s m args below meth c A hB hP hD hS ls hl
  obtain ⟨hx, hb, hr, hml, hown, hts, hlocks, hcx, hA, hAB⟩ := id hB
  have hK := hcx.1
  generalize hQ : MQ below (QcI X res [(a_m, .inr (12, (.ref a_mP :: .int f_m_pageMany :: .int f_m_balls :: .int f_m_spot :: .int f_m_score :: .int f_m_strokesNow :: .int f_m_fouls :: .int f_m_tablesRead :: .ref a_mk :: .ref a_mw :: .ref a_mc :: .int f_m_potted :: .int f_m_moves :: .int f_m_bounces :: .int f_m_hitFirst :: .int f_m_hitPower :: .int f_m_hitDown :: .int f_m_hitRight :: .int f_m_isFoul :: .ref a_mo :: .ref a_mt :: .int f_m_bestCode :: .int f_m_bestBrings :: .int f_m_plansDone :: .int f_m_safesDone :: .int f_m_seenMany :: .ref a_ms :: .ref a_mb :: .int f_m_seedNow :: .int f_m_keptTable :: .int f_m_keptScore :: .int f_m_keptStrokes :: .int f_m_keptFouls :: .int f_m_keptSeen :: .ref a_mK :: .ref a_mC :: .ref a_mS :: .long f_m_hash :: []))), (a_mP, .inl (xI X, 34, .inl v_mP))] A) args s 0 0 A = Q
  replace hl : lv_has ls 2 [(0, .ref a_m), (1, .int p1)] := hl
  unfold f_X12_cellAt at h
  refine lv_bipush (v := 9) hx hb dX12_cellAt_0 (by decide) ?_
  refine lv_aload_n hx hb dX12_cellAt_2 rfl (lv_at hl 0 rfl) ?_
  refine va_get (D := xD X) (ci := 12) (v := .ref a_mP) (C := RX12) (T := TX12) (N := 38) hx hb hts inX12 hown hK hP 0 rfl rfl 0 (by decide) (hts _ wq_4_107) (fun _ h9 => h9) rfl dX12_cellAt_3 ?_
  refine lv_iload_n hx hb dX12_cellAt_6 rfl (lv_at hl 1 rfl) ?_
  obtain ⟨z_1, h⟩ := gd_s h
  refine va_iald hx hb hK hP 1 0 rfl rfl (inb_vp z_1) dX12_cellAt_7 ?_
  refine lv_bipush (v := 48) hx hb dX12_cellAt_8 (by decide) ?_
  refine lv_isub hx hb dX12_cellAt_10 ?_
  refine lv_imul hx hb dX12_cellAt_11 ?_
  refine lv_aload_n hx hb dX12_cellAt_12 rfl (lv_at hl 0 rfl) ?_
  refine va_get (D := xD X) (ci := 12) (v := .ref a_mP) (C := RX12) (T := TX12) (N := 38) hx hb hts inX12 hown hK hP 0 rfl rfl 0 (by decide) (hts _ wq_4_107) (fun _ h9 => h9) rfl dX12_cellAt_13 ?_
  refine lv_iload_n hx hb dX12_cellAt_16 rfl (lv_at hl 1 rfl) ?_
  refine lv_iconst (v := 1) hx hb dX12_cellAt_17 (by decide) ?_
  refine lv_iadd hx hb dX12_cellAt_18 ?_
  obtain ⟨z_2, h⟩ := gd_s h
  refine va_iald hx hb hK hP 1 0 rfl rfl (inb_vp z_2) dX12_cellAt_19 ?_
  refine lv_iadd hx hb dX12_cellAt_20 ?_
  refine lv_bipush (v := 48) hx hb dX12_cellAt_21 (by decide) ?_
  refine lv_isub hx hb dX12_cellAt_23 ?_
  obtain rfl := Option.some.inj h
  rw [← hQ]
  exact retI hB hS hP dX12_cellAt_24


def b_X12_isToldAhead_L25 (v_mP : Nat → Int32) (p1 : Int32) (go_5 : Int32 → Int32 → Option (Int32)) (x2_3 : Int32) (x3_4 : Int32) : Option (Int32) :=
  (if p1 ≤ x3_4 then (gd (isb x2_3) (some x2_3)) else (jn (fun (k_9 : Int32) => (bnd (x3_4 + 5) (fun x3_11 => (go_5 k_9 x3_11)))) (fun (j52_10 : Int32 → Option (Int32)) => (jn ((j52_10 1)) (fun (j47_12 : Option (Int32)) => (if x2_3 = 0 then ((f_X12_cellAt v_mP x3_4).bind (fun u_14 => ((f_X12_cellAt v_mP p1).bind (fun u_15 => (if u_14 = u_15 then j47_12 else (j52_10 0)))))) else j47_12))))))
def f_X12_isToldAhead_L25 (v_mP : Nat → Int32) (p1 : Int32) (k : Nat) (x2_3 : Int32) (x3_4 : Int32) : Option (Int32) :=
  lpF (fun (self : (Int32 × Int32) → Option (Int32)) (a : Int32 × Int32) => b_X12_isToldAhead_L25 v_mP p1 (fun x2_3 x3_4 => self (x2_3, x3_4)) a.1 a.2) k (x2_3, x3_4)
def f_X12_isToldAhead (n : Nat) (v_mP : Nat → Int32) (p1 : Int32) : Option (Int32) :=
  (jn (fun (k_1 : Int32) => (f_X12_isToldAhead_L25 v_mP p1 n k_1 5)) (fun (j22_2 : Int32 → Option (Int32)) => (jn ((j22_2 0)) (fun (j21_17 : Option (Int32)) => (if p1 ≤ 0 then j21_17 else ((f_X12_cellAt v_mP 0).bind (fun u_19 => ((f_X12_cellAt v_mP p1).bind (fun u_20 => (if u_19 = u_20 then (j22_2 1) else j21_17))))))))))
theorem hd_X12_isToldAhead : yX12_isToldAhead.cls ≠ "java/lang/invoke/MethodHandle" ∧ yX12_isToldAhead.cls ≠ "java/lang/invoke/VarHandle" ∧ (parseMethodDescriptor yX12_isToldAhead.desc).map (fun d => d.parameters.length) = some 1 := ⟨by decide +kernel, by decide +kernel, by decide +kernel⟩
set_option maxHeartbeats 4000000 in
set_option maxRecDepth 100000 in
theorem c_X12_isToldAhead (X : CXp) (l : Launch) (n : Nat) (a_m a_mP a_mk a_mw a_mc a_mo a_mt a_ms a_mb a_mK a_mC a_mS : Nat) (f_m_pageMany : Int32) (f_m_balls : Int32) (f_m_spot : Int32) (f_m_score : Int32) (f_m_strokesNow : Int32) (f_m_fouls : Int32) (f_m_tablesRead : Int32) (f_m_potted : Int32) (f_m_moves : Int32) (f_m_bounces : Int32) (f_m_hitFirst : Int32) (f_m_hitPower : Int32) (f_m_hitDown : Int32) (f_m_hitRight : Int32) (f_m_isFoul : Int32) (f_m_bestCode : Int32) (f_m_bestBrings : Int32) (f_m_plansDone : Int32) (f_m_safesDone : Int32) (f_m_seenMany : Int32) (f_m_seedNow : Int32) (f_m_keptTable : Int32) (f_m_keptScore : Int32) (f_m_keptStrokes : Int32) (f_m_keptFouls : Int32) (f_m_keptSeen : Int32) (f_m_hash : Int64) (v_mP : Nat → Int32) (p1 : Int32) (res : Int32) (h : f_X12_isToldAhead n v_mP p1 = some res) : CTg X l yX12_isToldAhead cX12_isToldAhead 4 (some .boolean) 1 21 [.ref a_m, .int p1] [(a_m, .inr (12, (.ref a_mP :: .int f_m_pageMany :: .int f_m_balls :: .int f_m_spot :: .int f_m_score :: .int f_m_strokesNow :: .int f_m_fouls :: .int f_m_tablesRead :: .ref a_mk :: .ref a_mw :: .ref a_mc :: .int f_m_potted :: .int f_m_moves :: .int f_m_bounces :: .int f_m_hitFirst :: .int f_m_hitPower :: .int f_m_hitDown :: .int f_m_hitRight :: .int f_m_isFoul :: .ref a_mo :: .ref a_mt :: .int f_m_bestCode :: .int f_m_bestBrings :: .int f_m_plansDone :: .int f_m_safesDone :: .int f_m_seenMany :: .ref a_ms :: .ref a_mb :: .int f_m_seedNow :: .int f_m_keptTable :: .int f_m_keptScore :: .int f_m_keptStrokes :: .int f_m_keptFouls :: .int f_m_keptSeen :: .ref a_mK :: .ref a_mC :: .ref a_mS :: .long f_m_hash :: []))), (a_mP, .inl (xI X, 34, .inl v_mP))] (QcI X res [(a_m, .inr (12, (.ref a_mP :: .int f_m_pageMany :: .int f_m_balls :: .int f_m_spot :: .int f_m_score :: .int f_m_strokesNow :: .int f_m_fouls :: .int f_m_tablesRead :: .ref a_mk :: .ref a_mw :: .ref a_mc :: .int f_m_potted :: .int f_m_moves :: .int f_m_bounces :: .int f_m_hitFirst :: .int f_m_hitPower :: .int f_m_hitDown :: .int f_m_hitRight :: .int f_m_isFoul :: .ref a_mo :: .ref a_mt :: .int f_m_bestCode :: .int f_m_bestBrings :: .int f_m_plansDone :: .int f_m_safesDone :: .int f_m_seenMany :: .ref a_ms :: .ref a_mb :: .int f_m_seedNow :: .int f_m_keptTable :: .int f_m_keptScore :: .int f_m_keptStrokes :: .int f_m_keptFouls :: .int f_m_keptSeen :: .ref a_mK :: .ref a_mC :: .ref a_mS :: .long f_m_hash :: []))), (a_mP, .inl (xI X, 34, .inl v_mP))]) := by
  refine CTg.mk (own := RX12) (by decide) rfl (Nat.le_of_ble_eq_true rfl) ?_
  intro p e s m args below meth c A hB hP hD hS ls hl
  obtain ⟨hx, hb, hr, hml, hown, hts, hlocks, hcx, hA, hAB⟩ := id hB
  have hK := hcx.1
  generalize hQ : MQ below (QcI X res [(a_m, .inr (12, (.ref a_mP :: .int f_m_pageMany :: .int f_m_balls :: .int f_m_spot :: .int f_m_score :: .int f_m_strokesNow :: .int f_m_fouls :: .int f_m_tablesRead :: .ref a_mk :: .ref a_mw :: .ref a_mc :: .int f_m_potted :: .int f_m_moves :: .int f_m_bounces :: .int f_m_hitFirst :: .int f_m_hitPower :: .int f_m_hitDown :: .int f_m_hitRight :: .int f_m_isFoul :: .ref a_mo :: .ref a_mt :: .int f_m_bestCode :: .int f_m_bestBrings :: .int f_m_plansDone :: .int f_m_safesDone :: .int f_m_seenMany :: .ref a_ms :: .ref a_mb :: .int f_m_seedNow :: .int f_m_keptTable :: .int f_m_keptScore :: .int f_m_keptStrokes :: .int f_m_keptFouls :: .int f_m_keptSeen :: .ref a_mK :: .ref a_mC :: .ref a_mS :: .long f_m_hash :: []))), (a_mP, .inl (xI X, 34, .inl v_mP))] A) args s 0 0 A = Q
  replace hl : lv_has ls 4 [(0, .ref a_m), (1, .int p1)] := hl
  unfold f_X12_isToldAhead at h
  refine lv_iload_n hx hb dX12_isToldAhead_0 rfl (lv_at hl 1 rfl) ?_
  obtain ⟨j22_2, ej22_2, h⟩ := jn_s h
  have J22_2 : ∀ (k_1 : Int32), j22_2 k_1 = some res → ∀ (H : Heap) (locs : List Loc) (ls : Array Slot), va_P (xD X) vwCl [(a_m, .inr (12, (.ref a_mP :: .int f_m_pageMany :: .int f_m_balls :: .int f_m_spot :: .int f_m_score :: .int f_m_strokesNow :: .int f_m_fouls :: .int f_m_tablesRead :: .ref a_mk :: .ref a_mw :: .ref a_mc :: .int f_m_potted :: .int f_m_moves :: .int f_m_bounces :: .int f_m_hitFirst :: .int f_m_hitPower :: .int f_m_hitDown :: .int f_m_hitRight :: .int f_m_isFoul :: .ref a_mo :: .ref a_mt :: .int f_m_bestCode :: .int f_m_bestBrings :: .int f_m_plansDone :: .int f_m_safesDone :: .int f_m_seenMany :: .ref a_ms :: .ref a_mb :: .int f_m_seedNow :: .int f_m_keptTable :: .int f_m_keptScore :: .int f_m_keptStrokes :: .int f_m_keptFouls :: .int f_m_keptSeen :: .ref a_mK :: .ref a_mC :: .ref a_mS :: .long f_m_hash :: []))), (a_mP, .inl (xI X, 34, .inl v_mP))] H → va_D A [(a_m, .inr (12, (.ref a_mP :: .int f_m_pageMany :: .int f_m_balls :: .int f_m_spot :: .int f_m_score :: .int f_m_strokesNow :: .int f_m_fouls :: .int f_m_tablesRead :: .ref a_mk :: .ref a_mw :: .ref a_mc :: .int f_m_potted :: .int f_m_moves :: .int f_m_bounces :: .int f_m_hitFirst :: .int f_m_hitPower :: .int f_m_hitDown :: .int f_m_hitRight :: .int f_m_isFoul :: .ref a_mo :: .ref a_mt :: .int f_m_bestCode :: .int f_m_bestBrings :: .int f_m_plansDone :: .int f_m_safesDone :: .int f_m_seenMany :: .ref a_ms :: .ref a_mb :: .int f_m_seedNow :: .int f_m_keptTable :: .int f_m_keptScore :: .int f_m_keptStrokes :: .int f_m_keptFouls :: .int f_m_keptSeen :: .ref a_mK :: .ref a_mC :: .ref a_mS :: .long f_m_hash :: []))), (a_mP, .inl (xI X, 34, .inl v_mP))] → va_S A s.heap H locs → lv_has ls 4 [(0, .ref a_m), (1, .int p1)] → W p l e (rmF 1 21) s m args below meth c H locs 0 0 Q (F0 m 22 ls [.int k_1]) := by
    clear h
    intro k_1 h H locs ls hP hD hS hl
    rw [ej22_2] at h
    replace h := id h
    refine lv_istore_n (lv' := [(2, .int k_1), (0, .ref a_m), (1, .int p1)]) hx hb dX12_isToldAhead_22 rfl hl (by decide) rfl (fun ls hl => ?_)
    refine lv_iconst (v := 5) hx hb dX12_isToldAhead_23 (by decide) ?_
    refine lv_istore_n (lv' := [(3, .int 5), (2, .int k_1), (0, .ref a_m), (1, .int p1)]) hx hb dX12_isToldAhead_24 rfl hl (by decide) rfl (fun ls hl => ?_)
    have L25_go_5 : ∀ (k : Nat), ∀ (x2_3 : Int32) (x3_4 : Int32), f_X12_isToldAhead_L25 v_mP p1 k x2_3 x3_4 = some res → ∀ (H : Heap) (locs : List Loc) (ls : Array Slot), va_P (xD X) vwCl [(a_m, .inr (12, (.ref a_mP :: .int f_m_pageMany :: .int f_m_balls :: .int f_m_spot :: .int f_m_score :: .int f_m_strokesNow :: .int f_m_fouls :: .int f_m_tablesRead :: .ref a_mk :: .ref a_mw :: .ref a_mc :: .int f_m_potted :: .int f_m_moves :: .int f_m_bounces :: .int f_m_hitFirst :: .int f_m_hitPower :: .int f_m_hitDown :: .int f_m_hitRight :: .int f_m_isFoul :: .ref a_mo :: .ref a_mt :: .int f_m_bestCode :: .int f_m_bestBrings :: .int f_m_plansDone :: .int f_m_safesDone :: .int f_m_seenMany :: .ref a_ms :: .ref a_mb :: .int f_m_seedNow :: .int f_m_keptTable :: .int f_m_keptScore :: .int f_m_keptStrokes :: .int f_m_keptFouls :: .int f_m_keptSeen :: .ref a_mK :: .ref a_mC :: .ref a_mS :: .long f_m_hash :: []))), (a_mP, .inl (xI X, 34, .inl v_mP))] H → va_D A [(a_m, .inr (12, (.ref a_mP :: .int f_m_pageMany :: .int f_m_balls :: .int f_m_spot :: .int f_m_score :: .int f_m_strokesNow :: .int f_m_fouls :: .int f_m_tablesRead :: .ref a_mk :: .ref a_mw :: .ref a_mc :: .int f_m_potted :: .int f_m_moves :: .int f_m_bounces :: .int f_m_hitFirst :: .int f_m_hitPower :: .int f_m_hitDown :: .int f_m_hitRight :: .int f_m_isFoul :: .ref a_mo :: .ref a_mt :: .int f_m_bestCode :: .int f_m_bestBrings :: .int f_m_plansDone :: .int f_m_safesDone :: .int f_m_seenMany :: .ref a_ms :: .ref a_mb :: .int f_m_seedNow :: .int f_m_keptTable :: .int f_m_keptScore :: .int f_m_keptStrokes :: .int f_m_keptFouls :: .int f_m_keptSeen :: .ref a_mK :: .ref a_mC :: .ref a_mS :: .long f_m_hash :: []))), (a_mP, .inl (xI X, 34, .inl v_mP))] → va_S A s.heap H locs → lv_has ls 4 [(0, .ref a_m), (1, .int p1), (2, .int x2_3), (3, .int x3_4)] → W p l e (rmF 1 21) s m args below meth c H locs 0 0 Q (F0 m 25 ls []) := by
      clear h
      intro k
      induction k with
      | zero => intro x2_3 x3_4 h; cases h
      | succ k ih_6 =>
        intro x2_3 x3_4 h H locs ls hP hD hS hl
        replace h : b_X12_isToldAhead_L25 v_mP p1 (fun x2_3 x3_4 => f_X12_isToldAhead_L25 v_mP p1 k x2_3 x3_4) x2_3 x3_4 = some res := h
        unfold b_X12_isToldAhead_L25 at h
        refine lv_iload_n hx hb dX12_isToldAhead_25 rfl (lv_at hl 3 rfl) ?_
        refine lv_iload_n hx hb dX12_isToldAhead_26 rfl (lv_at hl 1 rfl) ?_
        refine lv_icmp_ge (tgt := 59) hx hb dX12_isToldAhead_27 (by decide) (fun c_7 => ?_) (fun c_7 => ?_)
        · replace h := it_p c_7 h
          refine lv_iload_n hx hb dX12_isToldAhead_59 rfl (lv_at hl 2 rfl) ?_
          obtain ⟨z_8, h⟩ := gd_s h
          obtain rfl := Option.some.inj h
          rw [← hQ]
          exact retZ (r := x2_3) hB (isb_n z_8) hS hP dX12_isToldAhead_60
        · replace h := it_n c_7 h
          refine lv_iload_n hx hb dX12_isToldAhead_30 rfl (lv_at hl 2 rfl) ?_
          obtain ⟨j52_10, ej52_10, h⟩ := jn_s h
          have J52_10 : ∀ (k_9 : Int32), j52_10 k_9 = some res → ∀ (H : Heap) (locs : List Loc) (ls : Array Slot), va_P (xD X) vwCl [(a_m, .inr (12, (.ref a_mP :: .int f_m_pageMany :: .int f_m_balls :: .int f_m_spot :: .int f_m_score :: .int f_m_strokesNow :: .int f_m_fouls :: .int f_m_tablesRead :: .ref a_mk :: .ref a_mw :: .ref a_mc :: .int f_m_potted :: .int f_m_moves :: .int f_m_bounces :: .int f_m_hitFirst :: .int f_m_hitPower :: .int f_m_hitDown :: .int f_m_hitRight :: .int f_m_isFoul :: .ref a_mo :: .ref a_mt :: .int f_m_bestCode :: .int f_m_bestBrings :: .int f_m_plansDone :: .int f_m_safesDone :: .int f_m_seenMany :: .ref a_ms :: .ref a_mb :: .int f_m_seedNow :: .int f_m_keptTable :: .int f_m_keptScore :: .int f_m_keptStrokes :: .int f_m_keptFouls :: .int f_m_keptSeen :: .ref a_mK :: .ref a_mC :: .ref a_mS :: .long f_m_hash :: []))), (a_mP, .inl (xI X, 34, .inl v_mP))] H → va_D A [(a_m, .inr (12, (.ref a_mP :: .int f_m_pageMany :: .int f_m_balls :: .int f_m_spot :: .int f_m_score :: .int f_m_strokesNow :: .int f_m_fouls :: .int f_m_tablesRead :: .ref a_mk :: .ref a_mw :: .ref a_mc :: .int f_m_potted :: .int f_m_moves :: .int f_m_bounces :: .int f_m_hitFirst :: .int f_m_hitPower :: .int f_m_hitDown :: .int f_m_hitRight :: .int f_m_isFoul :: .ref a_mo :: .ref a_mt :: .int f_m_bestCode :: .int f_m_bestBrings :: .int f_m_plansDone :: .int f_m_safesDone :: .int f_m_seenMany :: .ref a_ms :: .ref a_mb :: .int f_m_seedNow :: .int f_m_keptTable :: .int f_m_keptScore :: .int f_m_keptStrokes :: .int f_m_keptFouls :: .int f_m_keptSeen :: .ref a_mK :: .ref a_mC :: .ref a_mS :: .long f_m_hash :: []))), (a_mP, .inl (xI X, 34, .inl v_mP))] → va_S A s.heap H locs → lv_has ls 4 [(0, .ref a_m), (1, .int p1), (3, .int x3_4)] → W p l e (rmF 1 21) s m args below meth c H locs 0 0 Q (F0 m 52 ls [.int k_9]) := by
            clear h
            intro k_9 h H locs ls hP hD hS hl
            rw [ej52_10] at h
            replace h := id h
            refine lv_istore_n (lv' := [(2, .int k_9), (0, .ref a_m), (1, .int p1), (3, .int x3_4)]) hx hb dX12_isToldAhead_52 rfl hl (by decide) rfl (fun ls hl => ?_)
            obtain ⟨x3_11, ex3_11⟩ : ∃ y : Int32, y = x3_4 + 5 := ⟨_, rfl⟩
            replace h := bn_s h ex3_11
            refine lv_iinc (v := x3_11) (lv' := [(3, .int x3_11), (2, .int k_9), (0, .ref a_m), (1, .int p1)]) hx hb dX12_isToldAhead_53 hl (k := 3) rfl (by rw [ex3_11]; rfl) (by decide) rfl (fun ls hl => ?_)
            refine lv_goto (tgt := 25) hx hb dX12_isToldAhead_56 (by decide) ?_
            exact ih_6 k_9 x3_11 h _ _ _ hP hD hS (lv_sub hl [2, 3, 1, 0] rfl)
          clear ej52_10
          obtain ⟨j47_12, ej47_12, h⟩ := jn_s h
          have J47_12 : j47_12 = some res → ∀ (H : Heap) (locs : List Loc) (ls : Array Slot), va_P (xD X) vwCl [(a_m, .inr (12, (.ref a_mP :: .int f_m_pageMany :: .int f_m_balls :: .int f_m_spot :: .int f_m_score :: .int f_m_strokesNow :: .int f_m_fouls :: .int f_m_tablesRead :: .ref a_mk :: .ref a_mw :: .ref a_mc :: .int f_m_potted :: .int f_m_moves :: .int f_m_bounces :: .int f_m_hitFirst :: .int f_m_hitPower :: .int f_m_hitDown :: .int f_m_hitRight :: .int f_m_isFoul :: .ref a_mo :: .ref a_mt :: .int f_m_bestCode :: .int f_m_bestBrings :: .int f_m_plansDone :: .int f_m_safesDone :: .int f_m_seenMany :: .ref a_ms :: .ref a_mb :: .int f_m_seedNow :: .int f_m_keptTable :: .int f_m_keptScore :: .int f_m_keptStrokes :: .int f_m_keptFouls :: .int f_m_keptSeen :: .ref a_mK :: .ref a_mC :: .ref a_mS :: .long f_m_hash :: []))), (a_mP, .inl (xI X, 34, .inl v_mP))] H → va_D A [(a_m, .inr (12, (.ref a_mP :: .int f_m_pageMany :: .int f_m_balls :: .int f_m_spot :: .int f_m_score :: .int f_m_strokesNow :: .int f_m_fouls :: .int f_m_tablesRead :: .ref a_mk :: .ref a_mw :: .ref a_mc :: .int f_m_potted :: .int f_m_moves :: .int f_m_bounces :: .int f_m_hitFirst :: .int f_m_hitPower :: .int f_m_hitDown :: .int f_m_hitRight :: .int f_m_isFoul :: .ref a_mo :: .ref a_mt :: .int f_m_bestCode :: .int f_m_bestBrings :: .int f_m_plansDone :: .int f_m_safesDone :: .int f_m_seenMany :: .ref a_ms :: .ref a_mb :: .int f_m_seedNow :: .int f_m_keptTable :: .int f_m_keptScore :: .int f_m_keptStrokes :: .int f_m_keptFouls :: .int f_m_keptSeen :: .ref a_mK :: .ref a_mC :: .ref a_mS :: .long f_m_hash :: []))), (a_mP, .inl (xI X, 34, .inl v_mP))] → va_S A s.heap H locs → lv_has ls 4 [(0, .ref a_m), (1, .int p1), (3, .int x3_4)] → W p l e (rmF 1 21) s m args below meth c H locs 0 0 Q (F0 m 47 ls []) := by
            clear h
            intro h H locs ls hP hD hS hl
            rw [ej47_12] at h
            refine lv_iconst (v := 1) hx hb dX12_isToldAhead_47 (by decide) ?_
            refine lv_goto (tgt := 52) hx hb dX12_isToldAhead_48 (by decide) ?_
            exact J52_10 1 h _ _ _ hP hD hS (lv_sub hl [0, 1, 2] rfl)
          clear ej47_12
          refine lv_if_ne (tgt := 47) hx hb dX12_isToldAhead_31 (by decide) (fun c_13 => ?_) (fun c_13 => ?_)
          · replace h := it_n c_13 h
            exact J47_12 h _ _ _ hP hD hS (lv_sub hl [0, 1, 3] rfl)
          · replace h := it_p c_13 h
            refine lv_aload_n hx hb dX12_isToldAhead_34 rfl (lv_at hl 0 rfl) ?_
            refine lv_iload_n hx hb dX12_isToldAhead_35 rfl (lv_at hl 3 rfl) ?_
            obtain ⟨u_14, hu_14, h⟩ := ob_s h
            refine cVi (C := RX12) (As := [.int x3_4]) (rest := []) [(a_m, .inr (12, (.ref a_mP :: .int f_m_pageMany :: .int f_m_balls :: .int f_m_spot :: .int f_m_score :: .int f_m_strokesNow :: .int f_m_fouls :: .int f_m_tablesRead :: .ref a_mk :: .ref a_mw :: .ref a_mc :: .int f_m_potted :: .int f_m_moves :: .int f_m_bounces :: .int f_m_hitFirst :: .int f_m_hitPower :: .int f_m_hitDown :: .int f_m_hitRight :: .int f_m_isFoul :: .ref a_mo :: .ref a_mt :: .int f_m_bestCode :: .int f_m_bestBrings :: .int f_m_plansDone :: .int f_m_safesDone :: .int f_m_seenMany :: .ref a_ms :: .ref a_mb :: .int f_m_seedNow :: .int f_m_keptTable :: .int f_m_keptScore :: .int f_m_keptStrokes :: .int f_m_keptFouls :: .int f_m_keptSeen :: .ref a_mK :: .ref a_mC :: .ref a_mS :: .long f_m_hash :: []))), (a_mP, .inl (xI X, 34, .inl v_mP))] hB (c_X12_cellAt X l a_m a_mP a_mk a_mw a_mc a_mo a_mt a_ms a_mb a_mK a_mC a_mS f_m_pageMany f_m_balls f_m_spot f_m_score f_m_strokesNow f_m_fouls f_m_tablesRead f_m_potted f_m_moves f_m_bounces f_m_hitFirst f_m_hitPower f_m_hitDown f_m_hitRight f_m_isFoul f_m_bestCode f_m_bestBrings f_m_plansDone f_m_safesDone f_m_seenMany f_m_seedNow f_m_keptTable f_m_keptScore f_m_keptStrokes f_m_keptFouls f_m_keptSeen f_m_hash v_mP x3_4 u_14 hu_14) wq_5_16 wq_1_14 wq_5_13 wq_5_15 wp_28 hd_X12_cellAt (by decide) hP hD hS hl.1 [0, 1] [] [] rfl (by decide +kernel) rfl rfl rfl (nn := 2) rfl (by decide +kernel) [a_m, a_mP] rfl rfl (q0 := 0) rfl rfl rfl rfl (Nat.le_of_ble_eq_true rfl) dX12_isToldAhead_36 ⟨Nat.zero_le _, Nat.zero_le _⟩ (fun H locs hP hD hS => ?_)
            refine lv_aload_n hx hb dX12_isToldAhead_39 rfl (lv_at hl 0 rfl) ?_
            refine lv_iload_n hx hb dX12_isToldAhead_40 rfl (lv_at hl 1 rfl) ?_
            obtain ⟨u_15, hu_15, h⟩ := ob_s h
            refine cVi (C := RX12) (As := [.int p1]) (rest := [.int u_14]) [(a_m, .inr (12, (.ref a_mP :: .int f_m_pageMany :: .int f_m_balls :: .int f_m_spot :: .int f_m_score :: .int f_m_strokesNow :: .int f_m_fouls :: .int f_m_tablesRead :: .ref a_mk :: .ref a_mw :: .ref a_mc :: .int f_m_potted :: .int f_m_moves :: .int f_m_bounces :: .int f_m_hitFirst :: .int f_m_hitPower :: .int f_m_hitDown :: .int f_m_hitRight :: .int f_m_isFoul :: .ref a_mo :: .ref a_mt :: .int f_m_bestCode :: .int f_m_bestBrings :: .int f_m_plansDone :: .int f_m_safesDone :: .int f_m_seenMany :: .ref a_ms :: .ref a_mb :: .int f_m_seedNow :: .int f_m_keptTable :: .int f_m_keptScore :: .int f_m_keptStrokes :: .int f_m_keptFouls :: .int f_m_keptSeen :: .ref a_mK :: .ref a_mC :: .ref a_mS :: .long f_m_hash :: []))), (a_mP, .inl (xI X, 34, .inl v_mP))] hB (c_X12_cellAt X l a_m a_mP a_mk a_mw a_mc a_mo a_mt a_ms a_mb a_mK a_mC a_mS f_m_pageMany f_m_balls f_m_spot f_m_score f_m_strokesNow f_m_fouls f_m_tablesRead f_m_potted f_m_moves f_m_bounces f_m_hitFirst f_m_hitPower f_m_hitDown f_m_hitRight f_m_isFoul f_m_bestCode f_m_bestBrings f_m_plansDone f_m_safesDone f_m_seenMany f_m_seedNow f_m_keptTable f_m_keptScore f_m_keptStrokes f_m_keptFouls f_m_keptSeen f_m_hash v_mP p1 u_15 hu_15) wq_5_16 wq_1_14 wq_5_13 wq_5_15 wp_28 hd_X12_cellAt (by decide) hP hD hS hl.1 [0, 1] [] [] rfl (by decide +kernel) rfl rfl rfl (nn := 2) rfl (by decide +kernel) [a_m, a_mP] rfl rfl (q0 := 0) rfl rfl rfl rfl (Nat.le_of_ble_eq_true rfl) dX12_isToldAhead_41 ⟨Nat.zero_le _, Nat.zero_le _⟩ (fun H locs hP hD hS => ?_)
            refine lv_icmp_ne (tgt := 51) hx hb dX12_isToldAhead_44 (by decide) (fun c_16 => ?_) (fun c_16 => ?_)
            · replace h := it_n c_16 h
              refine lv_iconst (v := 0) hx hb dX12_isToldAhead_51 (by decide) ?_
              exact J52_10 0 h _ _ _ hP hD hS (lv_sub hl [0, 1, 3] rfl)
            · replace h := it_p c_16 h
              exact J47_12 h _ _ _ hP hD hS (lv_sub hl [0, 1, 3] rfl)
    exact L25_go_5 n k_1 5 h _ _ _ hP hD hS (lv_sub hl [2, 3, 1, 0] rfl)
  clear ej22_2
  obtain ⟨j21_17, ej21_17, h⟩ := jn_s h
  have J21_17 : j21_17 = some res → ∀ (H : Heap) (locs : List Loc) (ls : Array Slot), va_P (xD X) vwCl [(a_m, .inr (12, (.ref a_mP :: .int f_m_pageMany :: .int f_m_balls :: .int f_m_spot :: .int f_m_score :: .int f_m_strokesNow :: .int f_m_fouls :: .int f_m_tablesRead :: .ref a_mk :: .ref a_mw :: .ref a_mc :: .int f_m_potted :: .int f_m_moves :: .int f_m_bounces :: .int f_m_hitFirst :: .int f_m_hitPower :: .int f_m_hitDown :: .int f_m_hitRight :: .int f_m_isFoul :: .ref a_mo :: .ref a_mt :: .int f_m_bestCode :: .int f_m_bestBrings :: .int f_m_plansDone :: .int f_m_safesDone :: .int f_m_seenMany :: .ref a_ms :: .ref a_mb :: .int f_m_seedNow :: .int f_m_keptTable :: .int f_m_keptScore :: .int f_m_keptStrokes :: .int f_m_keptFouls :: .int f_m_keptSeen :: .ref a_mK :: .ref a_mC :: .ref a_mS :: .long f_m_hash :: []))), (a_mP, .inl (xI X, 34, .inl v_mP))] H → va_D A [(a_m, .inr (12, (.ref a_mP :: .int f_m_pageMany :: .int f_m_balls :: .int f_m_spot :: .int f_m_score :: .int f_m_strokesNow :: .int f_m_fouls :: .int f_m_tablesRead :: .ref a_mk :: .ref a_mw :: .ref a_mc :: .int f_m_potted :: .int f_m_moves :: .int f_m_bounces :: .int f_m_hitFirst :: .int f_m_hitPower :: .int f_m_hitDown :: .int f_m_hitRight :: .int f_m_isFoul :: .ref a_mo :: .ref a_mt :: .int f_m_bestCode :: .int f_m_bestBrings :: .int f_m_plansDone :: .int f_m_safesDone :: .int f_m_seenMany :: .ref a_ms :: .ref a_mb :: .int f_m_seedNow :: .int f_m_keptTable :: .int f_m_keptScore :: .int f_m_keptStrokes :: .int f_m_keptFouls :: .int f_m_keptSeen :: .ref a_mK :: .ref a_mC :: .ref a_mS :: .long f_m_hash :: []))), (a_mP, .inl (xI X, 34, .inl v_mP))] → va_S A s.heap H locs → lv_has ls 4 [(0, .ref a_m), (1, .int p1)] → W p l e (rmF 1 21) s m args below meth c H locs 0 0 Q (F0 m 21 ls []) := by
    clear h
    intro h H locs ls hP hD hS hl
    rw [ej21_17] at h
    refine lv_iconst (v := 0) hx hb dX12_isToldAhead_21 (by decide) ?_
    exact J22_2 0 h _ _ _ hP hD hS (lv_sub hl [0, 1] rfl)
  clear ej21_17
  refine lv_if_le (tgt := 21) hx hb dX12_isToldAhead_1 (by decide) (fun c_18 => ?_) (fun c_18 => ?_)
  · replace h := it_p c_18 h
    exact J21_17 h _ _ _ hP hD hS (lv_sub hl [0, 1] rfl)
  · replace h := it_n c_18 h
    refine lv_aload_n hx hb dX12_isToldAhead_4 rfl (lv_at hl 0 rfl) ?_
    refine lv_iconst (v := 0) hx hb dX12_isToldAhead_5 (by decide) ?_
    obtain ⟨u_19, hu_19, h⟩ := ob_s h
    refine cVi (C := RX12) (As := [.int 0]) (rest := []) [(a_m, .inr (12, (.ref a_mP :: .int f_m_pageMany :: .int f_m_balls :: .int f_m_spot :: .int f_m_score :: .int f_m_strokesNow :: .int f_m_fouls :: .int f_m_tablesRead :: .ref a_mk :: .ref a_mw :: .ref a_mc :: .int f_m_potted :: .int f_m_moves :: .int f_m_bounces :: .int f_m_hitFirst :: .int f_m_hitPower :: .int f_m_hitDown :: .int f_m_hitRight :: .int f_m_isFoul :: .ref a_mo :: .ref a_mt :: .int f_m_bestCode :: .int f_m_bestBrings :: .int f_m_plansDone :: .int f_m_safesDone :: .int f_m_seenMany :: .ref a_ms :: .ref a_mb :: .int f_m_seedNow :: .int f_m_keptTable :: .int f_m_keptScore :: .int f_m_keptStrokes :: .int f_m_keptFouls :: .int f_m_keptSeen :: .ref a_mK :: .ref a_mC :: .ref a_mS :: .long f_m_hash :: []))), (a_mP, .inl (xI X, 34, .inl v_mP))] hB (c_X12_cellAt X l a_m a_mP a_mk a_mw a_mc a_mo a_mt a_ms a_mb a_mK a_mC a_mS f_m_pageMany f_m_balls f_m_spot f_m_score f_m_strokesNow f_m_fouls f_m_tablesRead f_m_potted f_m_moves f_m_bounces f_m_hitFirst f_m_hitPower f_m_hitDown f_m_hitRight f_m_isFoul f_m_bestCode f_m_bestBrings f_m_plansDone f_m_safesDone f_m_seenMany f_m_seedNow f_m_keptTable f_m_keptScore f_m_keptStrokes f_m_keptFouls f_m_keptSeen f_m_hash v_mP 0 u_19 hu_19) wq_5_16 wq_1_14 wq_5_13 wq_5_15 wp_28 hd_X12_cellAt (by decide) hP hD hS hl.1 [0, 1] [] [] rfl (by decide +kernel) rfl rfl rfl (nn := 2) rfl (by decide +kernel) [a_m, a_mP] rfl rfl (q0 := 0) rfl rfl rfl rfl (Nat.le_of_ble_eq_true rfl) dX12_isToldAhead_6 ⟨Nat.zero_le _, Nat.zero_le _⟩ (fun H locs hP hD hS => ?_)
    refine lv_aload_n hx hb dX12_isToldAhead_9 rfl (lv_at hl 0 rfl) ?_
    refine lv_iload_n hx hb dX12_isToldAhead_10 rfl (lv_at hl 1 rfl) ?_
    obtain ⟨u_20, hu_20, h⟩ := ob_s h
    refine cVi (C := RX12) (As := [.int p1]) (rest := [.int u_19]) [(a_m, .inr (12, (.ref a_mP :: .int f_m_pageMany :: .int f_m_balls :: .int f_m_spot :: .int f_m_score :: .int f_m_strokesNow :: .int f_m_fouls :: .int f_m_tablesRead :: .ref a_mk :: .ref a_mw :: .ref a_mc :: .int f_m_potted :: .int f_m_moves :: .int f_m_bounces :: .int f_m_hitFirst :: .int f_m_hitPower :: .int f_m_hitDown :: .int f_m_hitRight :: .int f_m_isFoul :: .ref a_mo :: .ref a_mt :: .int f_m_bestCode :: .int f_m_bestBrings :: .int f_m_plansDone :: .int f_m_safesDone :: .int f_m_seenMany :: .ref a_ms :: .ref a_mb :: .int f_m_seedNow :: .int f_m_keptTable :: .int f_m_keptScore :: .int f_m_keptStrokes :: .int f_m_keptFouls :: .int f_m_keptSeen :: .ref a_mK :: .ref a_mC :: .ref a_mS :: .long f_m_hash :: []))), (a_mP, .inl (xI X, 34, .inl v_mP))] hB (c_X12_cellAt X l a_m a_mP a_mk a_mw a_mc a_mo a_mt a_ms a_mb a_mK a_mC a_mS f_m_pageMany f_m_balls f_m_spot f_m_score f_m_strokesNow f_m_fouls f_m_tablesRead f_m_potted f_m_moves f_m_bounces f_m_hitFirst f_m_hitPower f_m_hitDown f_m_hitRight f_m_isFoul f_m_bestCode f_m_bestBrings f_m_plansDone f_m_safesDone f_m_seenMany f_m_seedNow f_m_keptTable f_m_keptScore f_m_keptStrokes f_m_keptFouls f_m_keptSeen f_m_hash v_mP p1 u_20 hu_20) wq_5_16 wq_1_14 wq_5_13 wq_5_15 wp_28 hd_X12_cellAt (by decide) hP hD hS hl.1 [0, 1] [] [] rfl (by decide +kernel) rfl rfl rfl (nn := 2) rfl (by decide +kernel) [a_m, a_mP] rfl rfl (q0 := 0) rfl rfl rfl rfl (Nat.le_of_ble_eq_true rfl) dX12_isToldAhead_11 ⟨Nat.zero_le _, Nat.zero_le _⟩ (fun H locs hP hD hS => ?_)
    refine lv_icmp_ne (tgt := 21) hx hb dX12_isToldAhead_14 (by decide) (fun c_21 => ?_) (fun c_21 => ?_)
    · replace h := it_n c_21 h
      exact J21_17 h _ _ _ hP hD hS (lv_sub hl [0, 1] rfl)
    · replace h := it_p c_21 h
      refine lv_iconst (v := 1) hx hb dX12_isToldAhead_17 (by decide) ?_
      refine lv_goto (tgt := 22) hx hb dX12_isToldAhead_18 (by decide) ?_
      exact J22_2 1 h _ _ _ hP hD hS (lv_sub hl [0, 1] rfl)


def f_X12_isColumn (n : Nat) (v_mP : Nat → Int32) (p1 : Int32) : Option (Int32) :=
  (gd (inb p1 34) ((f_X12_in ((v_mP p1.toNatClampNeg).toInt64) 48 56).bind (fun u_2 => (jn ((some 0)) (fun (j46_3 : Option (Int32)) => (if u_2 = 0 then j46_3 else ((f_X12_cellAt v_mP (p1 - 1)).bind (fun u_5 => ((f_X12_isPocket u_5).bind (fun u_6 => (if u_6 = 0 then ((f_X12_isToldAhead n v_mP (p1 - 1)).bind (fun u_8 => (if u_8 = 0 then (some 1) else j46_3))) else j46_3)))))))))))
theorem hd_X12_isColumn : yX12_isColumn.cls ≠ "java/lang/invoke/MethodHandle" ∧ yX12_isColumn.cls ≠ "java/lang/invoke/VarHandle" ∧ (parseMethodDescriptor yX12_isColumn.desc).map (fun d => d.parameters.length) = some 1 := ⟨by decide +kernel, by decide +kernel, by decide +kernel⟩
set_option maxHeartbeats 4000000 in
set_option maxRecDepth 100000 in
theorem c_X12_isColumn (X : CXp) (l : Launch) (n : Nat) (a_m a_mP a_mk a_mw a_mc a_mo a_mt a_ms a_mb a_mK a_mC a_mS : Nat) (f_m_pageMany : Int32) (f_m_balls : Int32) (f_m_spot : Int32) (f_m_score : Int32) (f_m_strokesNow : Int32) (f_m_fouls : Int32) (f_m_tablesRead : Int32) (f_m_potted : Int32) (f_m_moves : Int32) (f_m_bounces : Int32) (f_m_hitFirst : Int32) (f_m_hitPower : Int32) (f_m_hitDown : Int32) (f_m_hitRight : Int32) (f_m_isFoul : Int32) (f_m_bestCode : Int32) (f_m_bestBrings : Int32) (f_m_plansDone : Int32) (f_m_safesDone : Int32) (f_m_seenMany : Int32) (f_m_seedNow : Int32) (f_m_keptTable : Int32) (f_m_keptScore : Int32) (f_m_keptStrokes : Int32) (f_m_keptFouls : Int32) (f_m_keptSeen : Int32) (f_m_hash : Int64) (v_mP : Nat → Int32) (p1 : Int32) (res : Int32) (h : f_X12_isColumn n v_mP p1 = some res) : CTg X l yX12_isColumn cX12_isColumn 2 (some .boolean) 2 44 [.ref a_m, .int p1] [(a_m, .inr (12, (.ref a_mP :: .int f_m_pageMany :: .int f_m_balls :: .int f_m_spot :: .int f_m_score :: .int f_m_strokesNow :: .int f_m_fouls :: .int f_m_tablesRead :: .ref a_mk :: .ref a_mw :: .ref a_mc :: .int f_m_potted :: .int f_m_moves :: .int f_m_bounces :: .int f_m_hitFirst :: .int f_m_hitPower :: .int f_m_hitDown :: .int f_m_hitRight :: .int f_m_isFoul :: .ref a_mo :: .ref a_mt :: .int f_m_bestCode :: .int f_m_bestBrings :: .int f_m_plansDone :: .int f_m_safesDone :: .int f_m_seenMany :: .ref a_ms :: .ref a_mb :: .int f_m_seedNow :: .int f_m_keptTable :: .int f_m_keptScore :: .int f_m_keptStrokes :: .int f_m_keptFouls :: .int f_m_keptSeen :: .ref a_mK :: .ref a_mC :: .ref a_mS :: .long f_m_hash :: []))), (a_mP, .inl (xI X, 34, .inl v_mP))] (QcI X res [(a_m, .inr (12, (.ref a_mP :: .int f_m_pageMany :: .int f_m_balls :: .int f_m_spot :: .int f_m_score :: .int f_m_strokesNow :: .int f_m_fouls :: .int f_m_tablesRead :: .ref a_mk :: .ref a_mw :: .ref a_mc :: .int f_m_potted :: .int f_m_moves :: .int f_m_bounces :: .int f_m_hitFirst :: .int f_m_hitPower :: .int f_m_hitDown :: .int f_m_hitRight :: .int f_m_isFoul :: .ref a_mo :: .ref a_mt :: .int f_m_bestCode :: .int f_m_bestBrings :: .int f_m_plansDone :: .int f_m_safesDone :: .int f_m_seenMany :: .ref a_ms :: .ref a_mb :: .int f_m_seedNow :: .int f_m_keptTable :: .int f_m_keptScore :: .int f_m_keptStrokes :: .int f_m_keptFouls :: .int f_m_keptSeen :: .ref a_mK :: .ref a_mC :: .ref a_mS :: .long f_m_hash :: []))), (a_mP, .inl (xI X, 34, .inl v_mP))]) := by
  refine CTg.mk (own := RX12) (by decide) rfl (Nat.le_of_ble_eq_true rfl) ?_
  intro p e s m args below meth c A hB hP hD hS ls hl
  obtain ⟨hx, hb, hr, hml, hown, hts, hlocks, hcx, hA, hAB⟩ := id hB
  have hK := hcx.1
  generalize hQ : MQ below (QcI X res [(a_m, .inr (12, (.ref a_mP :: .int f_m_pageMany :: .int f_m_balls :: .int f_m_spot :: .int f_m_score :: .int f_m_strokesNow :: .int f_m_fouls :: .int f_m_tablesRead :: .ref a_mk :: .ref a_mw :: .ref a_mc :: .int f_m_potted :: .int f_m_moves :: .int f_m_bounces :: .int f_m_hitFirst :: .int f_m_hitPower :: .int f_m_hitDown :: .int f_m_hitRight :: .int f_m_isFoul :: .ref a_mo :: .ref a_mt :: .int f_m_bestCode :: .int f_m_bestBrings :: .int f_m_plansDone :: .int f_m_safesDone :: .int f_m_seenMany :: .ref a_ms :: .ref a_mb :: .int f_m_seedNow :: .int f_m_keptTable :: .int f_m_keptScore :: .int f_m_keptStrokes :: .int f_m_keptFouls :: .int f_m_keptSeen :: .ref a_mK :: .ref a_mC :: .ref a_mS :: .long f_m_hash :: []))), (a_mP, .inl (xI X, 34, .inl v_mP))] A) args s 0 0 A = Q
  replace hl : lv_has ls 2 [(0, .ref a_m), (1, .int p1)] := hl
  unfold f_X12_isColumn at h
  refine lv_aload_n hx hb dX12_isColumn_0 rfl (lv_at hl 0 rfl) ?_
  refine va_get (D := xD X) (ci := 12) (v := .ref a_mP) (C := RX12) (T := TX12) (N := 38) hx hb hts inX12 hown hK hP 0 rfl rfl 0 (by decide) (hts _ wq_4_107) (fun _ h9 => h9) rfl dX12_isColumn_1 ?_
  refine lv_iload_n hx hb dX12_isColumn_4 rfl (lv_at hl 1 rfl) ?_
  obtain ⟨z_1, h⟩ := gd_s h
  refine va_iald hx hb hK hP 1 0 rfl rfl (inb_vp z_1) dX12_isColumn_5 ?_
  refine lv_i2l (v := (v_mP p1.toNatClampNeg).toInt64) hx hb dX12_isColumn_6 rfl ?_
  refine lv_ldc2 (v := 48) hx hb hown (hts _ wq_5_6) dX12_isColumn_7 ?_
  refine lv_ldc2 (v := 56) hx hb hown (hts _ wq_5_12) dX12_isColumn_10 ?_
  obtain ⟨u_2, hu_2, h⟩ := ob_s h
  refine cSi (As := [.long ((v_mP p1.toNatClampNeg).toInt64), .long 48, .long 56]) (rest := []) [(a_m, .inr (12, (.ref a_mP :: .int f_m_pageMany :: .int f_m_balls :: .int f_m_spot :: .int f_m_score :: .int f_m_strokesNow :: .int f_m_fouls :: .int f_m_tablesRead :: .ref a_mk :: .ref a_mw :: .ref a_mc :: .int f_m_potted :: .int f_m_moves :: .int f_m_bounces :: .int f_m_hitFirst :: .int f_m_hitPower :: .int f_m_hitDown :: .int f_m_hitRight :: .int f_m_isFoul :: .ref a_mo :: .ref a_mt :: .int f_m_bestCode :: .int f_m_bestBrings :: .int f_m_plansDone :: .int f_m_safesDone :: .int f_m_seenMany :: .ref a_ms :: .ref a_mb :: .int f_m_seedNow :: .int f_m_keptTable :: .int f_m_keptScore :: .int f_m_keptStrokes :: .int f_m_keptFouls :: .int f_m_keptSeen :: .ref a_mK :: .ref a_mC :: .ref a_mS :: .long f_m_hash :: []))), (a_mP, .inl (xI X, 34, .inl v_mP))] hB (c_X12_in X l ((v_mP p1.toNatClampNeg).toInt64) 48 56 u_2 hu_2) wq_4_229 wq_1_14 wq_4_227 wq_4_228 hd_X12_in (by decide) hP hD hS hl.1 [] [0, 1] [(a_m, .inr (12, (.ref a_mP :: .int f_m_pageMany :: .int f_m_balls :: .int f_m_spot :: .int f_m_score :: .int f_m_strokesNow :: .int f_m_fouls :: .int f_m_tablesRead :: .ref a_mk :: .ref a_mw :: .ref a_mc :: .int f_m_potted :: .int f_m_moves :: .int f_m_bounces :: .int f_m_hitFirst :: .int f_m_hitPower :: .int f_m_hitDown :: .int f_m_hitRight :: .int f_m_isFoul :: .ref a_mo :: .ref a_mt :: .int f_m_bestCode :: .int f_m_bestBrings :: .int f_m_plansDone :: .int f_m_safesDone :: .int f_m_seenMany :: .ref a_ms :: .ref a_mb :: .int f_m_seedNow :: .int f_m_keptTable :: .int f_m_keptScore :: .int f_m_keptStrokes :: .int f_m_keptFouls :: .int f_m_keptSeen :: .ref a_mK :: .ref a_mC :: .ref a_mS :: .long f_m_hash :: []))), (a_mP, .inl (xI X, 34, .inl v_mP))] rfl (by decide +kernel) rfl rfl rfl (nn := 2) rfl (by decide +kernel) [a_m, a_mP] rfl rfl rfl rfl (Nat.le_of_ble_eq_true rfl) dX12_isColumn_13 ⟨Nat.zero_le _, Nat.zero_le _⟩ (fun H locs hP hD hS => ?_)
  obtain ⟨j46_3, ej46_3, h⟩ := jn_s h
  have J46_3 : j46_3 = some res → ∀ (H : Heap) (locs : List Loc) (ls : Array Slot), va_P (xD X) vwCl [(a_m, .inr (12, (.ref a_mP :: .int f_m_pageMany :: .int f_m_balls :: .int f_m_spot :: .int f_m_score :: .int f_m_strokesNow :: .int f_m_fouls :: .int f_m_tablesRead :: .ref a_mk :: .ref a_mw :: .ref a_mc :: .int f_m_potted :: .int f_m_moves :: .int f_m_bounces :: .int f_m_hitFirst :: .int f_m_hitPower :: .int f_m_hitDown :: .int f_m_hitRight :: .int f_m_isFoul :: .ref a_mo :: .ref a_mt :: .int f_m_bestCode :: .int f_m_bestBrings :: .int f_m_plansDone :: .int f_m_safesDone :: .int f_m_seenMany :: .ref a_ms :: .ref a_mb :: .int f_m_seedNow :: .int f_m_keptTable :: .int f_m_keptScore :: .int f_m_keptStrokes :: .int f_m_keptFouls :: .int f_m_keptSeen :: .ref a_mK :: .ref a_mC :: .ref a_mS :: .long f_m_hash :: []))), (a_mP, .inl (xI X, 34, .inl v_mP))] H → va_D A [(a_m, .inr (12, (.ref a_mP :: .int f_m_pageMany :: .int f_m_balls :: .int f_m_spot :: .int f_m_score :: .int f_m_strokesNow :: .int f_m_fouls :: .int f_m_tablesRead :: .ref a_mk :: .ref a_mw :: .ref a_mc :: .int f_m_potted :: .int f_m_moves :: .int f_m_bounces :: .int f_m_hitFirst :: .int f_m_hitPower :: .int f_m_hitDown :: .int f_m_hitRight :: .int f_m_isFoul :: .ref a_mo :: .ref a_mt :: .int f_m_bestCode :: .int f_m_bestBrings :: .int f_m_plansDone :: .int f_m_safesDone :: .int f_m_seenMany :: .ref a_ms :: .ref a_mb :: .int f_m_seedNow :: .int f_m_keptTable :: .int f_m_keptScore :: .int f_m_keptStrokes :: .int f_m_keptFouls :: .int f_m_keptSeen :: .ref a_mK :: .ref a_mC :: .ref a_mS :: .long f_m_hash :: []))), (a_mP, .inl (xI X, 34, .inl v_mP))] → va_S A s.heap H locs → lv_has ls 2 [] → W p l e (rmF 2 44) s m args below meth c H locs 0 0 Q (F0 m 46 ls []) := by
    clear h
    intro h H locs ls hP hD hS hl
    rw [ej46_3] at h
    refine lv_iconst (v := 0) hx hb dX12_isColumn_46 (by decide) ?_
    obtain rfl := Option.some.inj h
    rw [← hQ]
    exact retZ (r := 0) hB rfl hS hP dX12_isColumn_47
  clear ej46_3
  refine lv_if_eq (tgt := 46) hx hb dX12_isColumn_16 (by decide) (fun c_4 => ?_) (fun c_4 => ?_)
  · replace h := it_p c_4 h
    exact J46_3 h _ _ _ hP hD hS (lv_sub hl [] rfl)
  · replace h := it_n c_4 h
    refine lv_aload_n hx hb dX12_isColumn_19 rfl (lv_at hl 0 rfl) ?_
    refine lv_iload_n hx hb dX12_isColumn_20 rfl (lv_at hl 1 rfl) ?_
    refine lv_iconst (v := 1) hx hb dX12_isColumn_21 (by decide) ?_
    refine lv_isub hx hb dX12_isColumn_22 ?_
    obtain ⟨u_5, hu_5, h⟩ := ob_s h
    refine cVi (C := RX12) (As := [.int (p1 - 1)]) (rest := []) [(a_m, .inr (12, (.ref a_mP :: .int f_m_pageMany :: .int f_m_balls :: .int f_m_spot :: .int f_m_score :: .int f_m_strokesNow :: .int f_m_fouls :: .int f_m_tablesRead :: .ref a_mk :: .ref a_mw :: .ref a_mc :: .int f_m_potted :: .int f_m_moves :: .int f_m_bounces :: .int f_m_hitFirst :: .int f_m_hitPower :: .int f_m_hitDown :: .int f_m_hitRight :: .int f_m_isFoul :: .ref a_mo :: .ref a_mt :: .int f_m_bestCode :: .int f_m_bestBrings :: .int f_m_plansDone :: .int f_m_safesDone :: .int f_m_seenMany :: .ref a_ms :: .ref a_mb :: .int f_m_seedNow :: .int f_m_keptTable :: .int f_m_keptScore :: .int f_m_keptStrokes :: .int f_m_keptFouls :: .int f_m_keptSeen :: .ref a_mK :: .ref a_mC :: .ref a_mS :: .long f_m_hash :: []))), (a_mP, .inl (xI X, 34, .inl v_mP))] hB (c_X12_cellAt X l a_m a_mP a_mk a_mw a_mc a_mo a_mt a_ms a_mb a_mK a_mC a_mS f_m_pageMany f_m_balls f_m_spot f_m_score f_m_strokesNow f_m_fouls f_m_tablesRead f_m_potted f_m_moves f_m_bounces f_m_hitFirst f_m_hitPower f_m_hitDown f_m_hitRight f_m_isFoul f_m_bestCode f_m_bestBrings f_m_plansDone f_m_safesDone f_m_seenMany f_m_seedNow f_m_keptTable f_m_keptScore f_m_keptStrokes f_m_keptFouls f_m_keptSeen f_m_hash v_mP (p1 - 1) u_5 hu_5) wq_5_16 wq_1_14 wq_5_13 wq_5_15 wp_28 hd_X12_cellAt (by decide) hP hD hS hl.1 [0, 1] [] [] rfl (by decide +kernel) rfl rfl rfl (nn := 2) rfl (by decide +kernel) [a_m, a_mP] rfl rfl (q0 := 0) rfl rfl rfl rfl (Nat.le_of_ble_eq_true rfl) dX12_isColumn_23 ⟨Nat.zero_le _, Nat.zero_le _⟩ (fun H locs hP hD hS => ?_)
    obtain ⟨u_6, hu_6, h⟩ := ob_s h
    refine cSi (As := [.int u_5]) (rest := []) [(a_m, .inr (12, (.ref a_mP :: .int f_m_pageMany :: .int f_m_balls :: .int f_m_spot :: .int f_m_score :: .int f_m_strokesNow :: .int f_m_fouls :: .int f_m_tablesRead :: .ref a_mk :: .ref a_mw :: .ref a_mc :: .int f_m_potted :: .int f_m_moves :: .int f_m_bounces :: .int f_m_hitFirst :: .int f_m_hitPower :: .int f_m_hitDown :: .int f_m_hitRight :: .int f_m_isFoul :: .ref a_mo :: .ref a_mt :: .int f_m_bestCode :: .int f_m_bestBrings :: .int f_m_plansDone :: .int f_m_safesDone :: .int f_m_seenMany :: .ref a_ms :: .ref a_mb :: .int f_m_seedNow :: .int f_m_keptTable :: .int f_m_keptScore :: .int f_m_keptStrokes :: .int f_m_keptFouls :: .int f_m_keptSeen :: .ref a_mK :: .ref a_mC :: .ref a_mS :: .long f_m_hash :: []))), (a_mP, .inl (xI X, 34, .inl v_mP))] hB (c_X12_isPocket X l u_5 u_6 hu_6) wq_5_19 wq_1_14 wq_5_17 wq_5_18 hd_X12_isPocket (by decide) hP hD hS hl.1 [] [0, 1] [(a_m, .inr (12, (.ref a_mP :: .int f_m_pageMany :: .int f_m_balls :: .int f_m_spot :: .int f_m_score :: .int f_m_strokesNow :: .int f_m_fouls :: .int f_m_tablesRead :: .ref a_mk :: .ref a_mw :: .ref a_mc :: .int f_m_potted :: .int f_m_moves :: .int f_m_bounces :: .int f_m_hitFirst :: .int f_m_hitPower :: .int f_m_hitDown :: .int f_m_hitRight :: .int f_m_isFoul :: .ref a_mo :: .ref a_mt :: .int f_m_bestCode :: .int f_m_bestBrings :: .int f_m_plansDone :: .int f_m_safesDone :: .int f_m_seenMany :: .ref a_ms :: .ref a_mb :: .int f_m_seedNow :: .int f_m_keptTable :: .int f_m_keptScore :: .int f_m_keptStrokes :: .int f_m_keptFouls :: .int f_m_keptSeen :: .ref a_mK :: .ref a_mC :: .ref a_mS :: .long f_m_hash :: []))), (a_mP, .inl (xI X, 34, .inl v_mP))] rfl (by decide +kernel) rfl rfl rfl (nn := 2) rfl (by decide +kernel) [a_m, a_mP] rfl rfl rfl rfl (Nat.le_of_ble_eq_true rfl) dX12_isColumn_26 ⟨Nat.zero_le _, Nat.zero_le _⟩ (fun H locs hP hD hS => ?_)
    refine lv_if_ne (tgt := 46) hx hb dX12_isColumn_29 (by decide) (fun c_7 => ?_) (fun c_7 => ?_)
    · replace h := it_n c_7 h
      exact J46_3 h _ _ _ hP hD hS (lv_sub hl [] rfl)
    · replace h := it_p c_7 h
      refine lv_aload_n hx hb dX12_isColumn_32 rfl (lv_at hl 0 rfl) ?_
      refine lv_iload_n hx hb dX12_isColumn_33 rfl (lv_at hl 1 rfl) ?_
      refine lv_iconst (v := 1) hx hb dX12_isColumn_34 (by decide) ?_
      refine lv_isub hx hb dX12_isColumn_35 ?_
      obtain ⟨u_8, hu_8, h⟩ := ob_s h
      refine cVi (C := RX12) (As := [.int (p1 - 1)]) (rest := []) [(a_m, .inr (12, (.ref a_mP :: .int f_m_pageMany :: .int f_m_balls :: .int f_m_spot :: .int f_m_score :: .int f_m_strokesNow :: .int f_m_fouls :: .int f_m_tablesRead :: .ref a_mk :: .ref a_mw :: .ref a_mc :: .int f_m_potted :: .int f_m_moves :: .int f_m_bounces :: .int f_m_hitFirst :: .int f_m_hitPower :: .int f_m_hitDown :: .int f_m_hitRight :: .int f_m_isFoul :: .ref a_mo :: .ref a_mt :: .int f_m_bestCode :: .int f_m_bestBrings :: .int f_m_plansDone :: .int f_m_safesDone :: .int f_m_seenMany :: .ref a_ms :: .ref a_mb :: .int f_m_seedNow :: .int f_m_keptTable :: .int f_m_keptScore :: .int f_m_keptStrokes :: .int f_m_keptFouls :: .int f_m_keptSeen :: .ref a_mK :: .ref a_mC :: .ref a_mS :: .long f_m_hash :: []))), (a_mP, .inl (xI X, 34, .inl v_mP))] hB (c_X12_isToldAhead X l n a_m a_mP a_mk a_mw a_mc a_mo a_mt a_ms a_mb a_mK a_mC a_mS f_m_pageMany f_m_balls f_m_spot f_m_score f_m_strokesNow f_m_fouls f_m_tablesRead f_m_potted f_m_moves f_m_bounces f_m_hitFirst f_m_hitPower f_m_hitDown f_m_hitRight f_m_isFoul f_m_bestCode f_m_bestBrings f_m_plansDone f_m_safesDone f_m_seenMany f_m_seedNow f_m_keptTable f_m_keptScore f_m_keptStrokes f_m_keptFouls f_m_keptSeen f_m_hash v_mP (p1 - 1) u_8 hu_8) wq_5_23 wq_1_14 wq_5_20 wq_5_22 wp_29 hd_X12_isToldAhead (by decide) hP hD hS hl.1 [0, 1] [] [] rfl (by decide +kernel) rfl rfl rfl (nn := 2) rfl (by decide +kernel) [a_m, a_mP] rfl rfl (q0 := 0) rfl rfl rfl rfl (Nat.le_of_ble_eq_true rfl) dX12_isColumn_36 ⟨Nat.zero_le _, Nat.zero_le _⟩ (fun H locs hP hD hS => ?_)
      refine lv_if_ne (tgt := 46) hx hb dX12_isColumn_39 (by decide) (fun c_9 => ?_) (fun c_9 => ?_)
      · replace h := it_n c_9 h
        exact J46_3 h _ _ _ hP hD hS (lv_sub hl [] rfl)
      · replace h := it_p c_9 h
        refine lv_iconst (v := 1) hx hb dX12_isColumn_42 (by decide) ?_
        refine lv_goto (tgt := 47) hx hb dX12_isColumn_43 (by decide) ?_
        obtain rfl := Option.some.inj h
        rw [← hQ]
        exact retZ (r := 1) hB rfl hS hP dX12_isColumn_47


def f_X12_kindBy (p0 : Int32) : Option (Int32) :=
  (if p0 = 98 then (some 0) else (if p0 = 100 then (some 3) else (if p0 = 104 then (some 1) else (if p0 = 108 then (some 2) else (if p0 = 115 then (some 4) else (some (-1)))))))
theorem hd_X12_kindBy : yX12_kindBy.cls ≠ "java/lang/invoke/MethodHandle" ∧ yX12_kindBy.cls ≠ "java/lang/invoke/VarHandle" ∧ (parseMethodDescriptor yX12_kindBy.desc).map (fun d => d.parameters.length) = some 1 := ⟨by decide +kernel, by decide +kernel, by decide +kernel⟩
set_option maxHeartbeats 4000000 in
set_option maxRecDepth 100000 in
theorem c_X12_kindBy (X : CXp) (l : Launch) (p0 : Int32) (res : Int32) (h : f_X12_kindBy p0 = some res) : CTg X l yX12_kindBy cX12_kindBy 1 (some .int) 0 0 [.int p0] [] (QcI X res []) := by
  refine CTg.mk (own := RX12) (by decide) rfl (Nat.le_of_ble_eq_true rfl) ?_
  intro p e s m args below meth c A hB hP hD hS ls hl
  obtain ⟨hx, hb, hr, hml, hown, hts, hlocks, hcx, hA, hAB⟩ := id hB
  have hK := hcx.1
  generalize hQ : MQ below (QcI X res [] A) args s 0 0 A = Q
  replace hl : lv_has ls 1 [(0, .int p0)] := hl
  unfold f_X12_kindBy at h
  refine lv_iload_n hx hb dX12_kindBy_0 rfl (lv_at hl 0 rfl) ?_
  by_cases c_1 : p0 = 98
  · replace h := it_p c_1 h
    refine lv_lookup (off := 51) (tgt := 52) hx hb dX12_kindBy_1 (by decide) (by rw [c_1]; decide) (by decide) ?_
    refine lv_iconst (v := 0) hx hb dX12_kindBy_52 (by decide) ?_
    obtain rfl := Option.some.inj h
    rw [← hQ]
    exact retI hB hS hP dX12_kindBy_53
  replace h := it_n c_1 h
  by_cases c_2 : p0 = 100
  · replace h := it_p c_2 h
    refine lv_lookup (off := 57) (tgt := 58) hx hb dX12_kindBy_1 (by decide) (by rw [c_2]; decide) (by decide) ?_
    refine lv_iconst (v := 3) hx hb dX12_kindBy_58 (by decide) ?_
    obtain rfl := Option.some.inj h
    rw [← hQ]
    exact retI hB hS hP dX12_kindBy_59
  replace h := it_n c_2 h
  by_cases c_3 : p0 = 104
  · replace h := it_p c_3 h
    refine lv_lookup (off := 53) (tgt := 54) hx hb dX12_kindBy_1 (by decide) (by rw [c_3]; decide) (by decide) ?_
    refine lv_iconst (v := 1) hx hb dX12_kindBy_54 (by decide) ?_
    obtain rfl := Option.some.inj h
    rw [← hQ]
    exact retI hB hS hP dX12_kindBy_55
  replace h := it_n c_3 h
  by_cases c_4 : p0 = 108
  · replace h := it_p c_4 h
    refine lv_lookup (off := 55) (tgt := 56) hx hb dX12_kindBy_1 (by decide) (by rw [c_4]; decide) (by decide) ?_
    refine lv_iconst (v := 2) hx hb dX12_kindBy_56 (by decide) ?_
    obtain rfl := Option.some.inj h
    rw [← hQ]
    exact retI hB hS hP dX12_kindBy_57
  replace h := it_n c_4 h
  by_cases c_5 : p0 = 115
  · replace h := it_p c_5 h
    refine lv_lookup (off := 59) (tgt := 60) hx hb dX12_kindBy_1 (by decide) (by rw [c_5]; decide) (by decide) ?_
    refine lv_iconst (v := 4) hx hb dX12_kindBy_60 (by decide) ?_
    obtain rfl := Option.some.inj h
    rw [← hQ]
    exact retI hB hS hP dX12_kindBy_61
  replace h := it_n c_5 h
  refine lv_lookup (off := 61) (tgt := 62) hx hb dX12_kindBy_1 (by decide) (by show Op.lookupswitch.offset [(98, 51), (100, 57), (104, 53), (108, 55), (115, 59)] _ _ = _; rw [lv_osw c_1 (a := 98) (by decide), lv_osw c_2 (a := 100) (by decide), lv_osw c_3 (a := 104) (by decide), lv_osw c_4 (a := 108) (by decide), lv_osw c_5 (a := 115) (by decide)]; rfl) (by decide) ?_
  refine lv_iconst (v := (-1)) hx hb dX12_kindBy_62 (by decide) ?_
  obtain rfl := Option.some.inj h
  rw [← hQ]
  exact retI hB hS hP dX12_kindBy_63


def f_X12_isGood (n : Nat) (v_mP : Nat → Int32) (p1 : Int32) : Option (Int32) :=
  (gd (inb p1 34) (bnd (v_mP p1.toNatClampNeg) (fun x2_2 => (if 3 ≤ p1 then (bnd ((p1 - 3) - (p1 - 3) / 5 * 5) (fun w_4 => (if w_4 = 0 then ((f_X12_kindBy x2_2).bind (fun u_6 => (if u_6 = (-1) then (some 0) else (some 1)))) else (if w_4 = 1 then ((f_X12_in x2_2.toInt64 49 55).bind (fun u_9 => (gd (isb u_9) (some u_9)))) else (if w_4 = 2 then ((f_X12_in x2_2.toInt64 48 52).bind (fun u_12 => (gd (isb u_12) (some u_12)))) else (if w_4 = 3 then ((f_X12_isColumn n v_mP p1).bind (fun u_15 => (gd (isb u_15) (some u_15)))) else (jn ((some 0)) (fun (j152_17 : Option (Int32)) => (if x2_2 = 44 then (if 32 ≤ p1 then j152_17 else (some 1)) else j152_17))))))))) else (if p1 = 0 then ((f_X12_in x2_2.toInt64 48 52).bind (fun u_25 => (gd (isb u_25) (some u_25)))) else (if p1 = 1 then ((f_X12_isColumn n v_mP 1).bind (fun u_23 => (gd (isb u_23) (some u_23)))) else (if x2_2 = 59 then (some 1) else (some 0))))))))
theorem hd_X12_isGood : yX12_isGood.cls ≠ "java/lang/invoke/MethodHandle" ∧ yX12_isGood.cls ≠ "java/lang/invoke/VarHandle" ∧ (parseMethodDescriptor yX12_isGood.desc).map (fun d => d.parameters.length) = some 1 := ⟨by decide +kernel, by decide +kernel, by decide +kernel⟩
set_option maxHeartbeats 4000000 in
set_option maxRecDepth 100000 in
theorem c_X12_isGood (X : CXp) (l : Launch) (n : Nat) (a_m a_mP a_mk a_mw a_mc a_mo a_mt a_ms a_mb a_mK a_mC a_mS : Nat) (f_m_pageMany : Int32) (f_m_balls : Int32) (f_m_spot : Int32) (f_m_score : Int32) (f_m_strokesNow : Int32) (f_m_fouls : Int32) (f_m_tablesRead : Int32) (f_m_potted : Int32) (f_m_moves : Int32) (f_m_bounces : Int32) (f_m_hitFirst : Int32) (f_m_hitPower : Int32) (f_m_hitDown : Int32) (f_m_hitRight : Int32) (f_m_isFoul : Int32) (f_m_bestCode : Int32) (f_m_bestBrings : Int32) (f_m_plansDone : Int32) (f_m_safesDone : Int32) (f_m_seenMany : Int32) (f_m_seedNow : Int32) (f_m_keptTable : Int32) (f_m_keptScore : Int32) (f_m_keptStrokes : Int32) (f_m_keptFouls : Int32) (f_m_keptSeen : Int32) (f_m_hash : Int64) (v_mP : Nat → Int32) (p1 : Int32) (res : Int32) (h : f_X12_isGood n v_mP p1 = some res) : CTg X l yX12_isGood cX12_isGood 3 (some .boolean) 3 65 [.ref a_m, .int p1] [(a_m, .inr (12, (.ref a_mP :: .int f_m_pageMany :: .int f_m_balls :: .int f_m_spot :: .int f_m_score :: .int f_m_strokesNow :: .int f_m_fouls :: .int f_m_tablesRead :: .ref a_mk :: .ref a_mw :: .ref a_mc :: .int f_m_potted :: .int f_m_moves :: .int f_m_bounces :: .int f_m_hitFirst :: .int f_m_hitPower :: .int f_m_hitDown :: .int f_m_hitRight :: .int f_m_isFoul :: .ref a_mo :: .ref a_mt :: .int f_m_bestCode :: .int f_m_bestBrings :: .int f_m_plansDone :: .int f_m_safesDone :: .int f_m_seenMany :: .ref a_ms :: .ref a_mb :: .int f_m_seedNow :: .int f_m_keptTable :: .int f_m_keptScore :: .int f_m_keptStrokes :: .int f_m_keptFouls :: .int f_m_keptSeen :: .ref a_mK :: .ref a_mC :: .ref a_mS :: .long f_m_hash :: []))), (a_mP, .inl (xI X, 34, .inl v_mP))] (QcI X res [(a_m, .inr (12, (.ref a_mP :: .int f_m_pageMany :: .int f_m_balls :: .int f_m_spot :: .int f_m_score :: .int f_m_strokesNow :: .int f_m_fouls :: .int f_m_tablesRead :: .ref a_mk :: .ref a_mw :: .ref a_mc :: .int f_m_potted :: .int f_m_moves :: .int f_m_bounces :: .int f_m_hitFirst :: .int f_m_hitPower :: .int f_m_hitDown :: .int f_m_hitRight :: .int f_m_isFoul :: .ref a_mo :: .ref a_mt :: .int f_m_bestCode :: .int f_m_bestBrings :: .int f_m_plansDone :: .int f_m_safesDone :: .int f_m_seenMany :: .ref a_ms :: .ref a_mb :: .int f_m_seedNow :: .int f_m_keptTable :: .int f_m_keptScore :: .int f_m_keptStrokes :: .int f_m_keptFouls :: .int f_m_keptSeen :: .ref a_mK :: .ref a_mC :: .ref a_mS :: .long f_m_hash :: []))), (a_mP, .inl (xI X, 34, .inl v_mP))]) := by
  refine CTg.mk (own := RX12) (by decide) rfl (Nat.le_of_ble_eq_true rfl) ?_
  intro p e s m args below meth c A hB hP hD hS ls hl
  obtain ⟨hx, hb, hr, hml, hown, hts, hlocks, hcx, hA, hAB⟩ := id hB
  have hK := hcx.1
  generalize hQ : MQ below (QcI X res [(a_m, .inr (12, (.ref a_mP :: .int f_m_pageMany :: .int f_m_balls :: .int f_m_spot :: .int f_m_score :: .int f_m_strokesNow :: .int f_m_fouls :: .int f_m_tablesRead :: .ref a_mk :: .ref a_mw :: .ref a_mc :: .int f_m_potted :: .int f_m_moves :: .int f_m_bounces :: .int f_m_hitFirst :: .int f_m_hitPower :: .int f_m_hitDown :: .int f_m_hitRight :: .int f_m_isFoul :: .ref a_mo :: .ref a_mt :: .int f_m_bestCode :: .int f_m_bestBrings :: .int f_m_plansDone :: .int f_m_safesDone :: .int f_m_seenMany :: .ref a_ms :: .ref a_mb :: .int f_m_seedNow :: .int f_m_keptTable :: .int f_m_keptScore :: .int f_m_keptStrokes :: .int f_m_keptFouls :: .int f_m_keptSeen :: .ref a_mK :: .ref a_mC :: .ref a_mS :: .long f_m_hash :: []))), (a_mP, .inl (xI X, 34, .inl v_mP))] A) args s 0 0 A = Q
  replace hl : lv_has ls 3 [(0, .ref a_m), (1, .int p1)] := hl
  unfold f_X12_isGood at h
  refine lv_aload_n hx hb dX12_isGood_0 rfl (lv_at hl 0 rfl) ?_
  refine va_get (D := xD X) (ci := 12) (v := .ref a_mP) (C := RX12) (T := TX12) (N := 38) hx hb hts inX12 hown hK hP 0 rfl rfl 0 (by decide) (hts _ wq_4_107) (fun _ h9 => h9) rfl dX12_isGood_1 ?_
  refine lv_iload_n hx hb dX12_isGood_4 rfl (lv_at hl 1 rfl) ?_
  obtain ⟨z_1, h⟩ := gd_s h
  refine va_iald hx hb hK hP 1 0 rfl rfl (inb_vp z_1) dX12_isGood_5 ?_
  refine lv_topi (fun x2_2 ex2_2 => ?_)
  replace h := bn_s h ex2_2
  refine lv_istore_n (lv' := [(2, .int x2_2), (0, .ref a_m), (1, .int p1)]) hx hb dX12_isGood_6 rfl hl (by decide) rfl (fun ls hl => ?_)
  refine lv_iload_n hx hb dX12_isGood_7 rfl (lv_at hl 2 rfl) ?_
  refine lv_iconst (v := 3) hx hb dX12_isGood_8 (by decide) ?_
  refine lv_icmp_ge (tgt := 55) hx hb dX12_isGood_9 (by decide) (fun c_3 => ?_) (fun c_3 => ?_)
  · replace h := it_p c_3 h
    refine lv_iload_n hx hb dX12_isGood_55 rfl (lv_at hl 2 rfl) ?_
    refine lv_iconst (v := 3) hx hb dX12_isGood_56 (by decide) ?_
    refine lv_isub hx hb dX12_isGood_57 ?_
    refine lv_iconst (v := 5) hx hb dX12_isGood_58 (by decide) ?_
    refine lv_irem hx hb dX12_isGood_59 (by decide) ?_
    refine lv_topi (fun w_4 ew_4 => ?_)
    replace h := bn_s h ew_4
    by_cases c_5 : w_4 = 0
    · replace h := it_p c_5 h
      refine lv_tableIn (off := 32) (tgt := 92) hx hb dX12_isGood_60 (by rw [c_5]; decide) (by rw [c_5]; decide) (by rw [c_5]; decide) (by decide) ?_
      refine lv_iload_n hx hb dX12_isGood_92 rfl (lv_at hl 0 rfl) ?_
      obtain ⟨u_6, hu_6, h⟩ := ob_s h
      refine cSi (As := [.int x2_2]) (rest := []) [(a_m, .inr (12, (.ref a_mP :: .int f_m_pageMany :: .int f_m_balls :: .int f_m_spot :: .int f_m_score :: .int f_m_strokesNow :: .int f_m_fouls :: .int f_m_tablesRead :: .ref a_mk :: .ref a_mw :: .ref a_mc :: .int f_m_potted :: .int f_m_moves :: .int f_m_bounces :: .int f_m_hitFirst :: .int f_m_hitPower :: .int f_m_hitDown :: .int f_m_hitRight :: .int f_m_isFoul :: .ref a_mo :: .ref a_mt :: .int f_m_bestCode :: .int f_m_bestBrings :: .int f_m_plansDone :: .int f_m_safesDone :: .int f_m_seenMany :: .ref a_ms :: .ref a_mb :: .int f_m_seedNow :: .int f_m_keptTable :: .int f_m_keptScore :: .int f_m_keptStrokes :: .int f_m_keptFouls :: .int f_m_keptSeen :: .ref a_mK :: .ref a_mC :: .ref a_mS :: .long f_m_hash :: []))), (a_mP, .inl (xI X, 34, .inl v_mP))] hB (c_X12_kindBy X l x2_2 u_6 hu_6) wq_5_26 wq_1_14 wq_5_24 wq_5_25 hd_X12_kindBy (by decide) hP hD hS hl.1 [] [0, 1] [(a_m, .inr (12, (.ref a_mP :: .int f_m_pageMany :: .int f_m_balls :: .int f_m_spot :: .int f_m_score :: .int f_m_strokesNow :: .int f_m_fouls :: .int f_m_tablesRead :: .ref a_mk :: .ref a_mw :: .ref a_mc :: .int f_m_potted :: .int f_m_moves :: .int f_m_bounces :: .int f_m_hitFirst :: .int f_m_hitPower :: .int f_m_hitDown :: .int f_m_hitRight :: .int f_m_isFoul :: .ref a_mo :: .ref a_mt :: .int f_m_bestCode :: .int f_m_bestBrings :: .int f_m_plansDone :: .int f_m_safesDone :: .int f_m_seenMany :: .ref a_ms :: .ref a_mb :: .int f_m_seedNow :: .int f_m_keptTable :: .int f_m_keptScore :: .int f_m_keptStrokes :: .int f_m_keptFouls :: .int f_m_keptSeen :: .ref a_mK :: .ref a_mC :: .ref a_mS :: .long f_m_hash :: []))), (a_mP, .inl (xI X, 34, .inl v_mP))] rfl (by decide +kernel) rfl rfl rfl (nn := 2) rfl (by decide +kernel) [a_m, a_mP] rfl rfl rfl rfl (Nat.le_of_ble_eq_true rfl) dX12_isGood_93 ⟨Nat.zero_le _, Nat.zero_le _⟩ (fun H locs hP hD hS => ?_)
      refine lv_iconst (v := (-1)) hx hb dX12_isGood_96 (by decide) ?_
      refine lv_icmp_eq (tgt := 104) hx hb dX12_isGood_97 (by decide) (fun c_7 => ?_) (fun c_7 => ?_)
      · replace h := it_p c_7 h
        refine lv_iconst (v := 0) hx hb dX12_isGood_104 (by decide) ?_
        obtain rfl := Option.some.inj h
        rw [← hQ]
        exact retZ (r := 0) hB rfl hS hP dX12_isGood_105
      · replace h := it_n c_7 h
        refine lv_iconst (v := 1) hx hb dX12_isGood_100 (by decide) ?_
        refine lv_goto (tgt := 105) hx hb dX12_isGood_101 (by decide) ?_
        obtain rfl := Option.some.inj h
        rw [← hQ]
        exact retZ (r := 1) hB rfl hS hP dX12_isGood_105
    replace h := it_n c_5 h
    by_cases c_8 : w_4 = 1
    · replace h := it_p c_8 h
      refine lv_tableIn (off := 46) (tgt := 106) hx hb dX12_isGood_60 (by rw [c_8]; decide) (by rw [c_8]; decide) (by rw [c_8]; decide) (by decide) ?_
      refine lv_iload_n hx hb dX12_isGood_106 rfl (lv_at hl 0 rfl) ?_
      refine lv_i2l (v := x2_2.toInt64) hx hb dX12_isGood_107 rfl ?_
      refine lv_ldc2 (v := 49) hx hb hown (hts _ wq_5_27) dX12_isGood_108 ?_
      refine lv_ldc2 (v := 55) hx hb hown (hts _ wq_5_28) dX12_isGood_111 ?_
      obtain ⟨u_9, hu_9, h⟩ := ob_s h
      refine cSi (As := [.long x2_2.toInt64, .long 49, .long 55]) (rest := []) [(a_m, .inr (12, (.ref a_mP :: .int f_m_pageMany :: .int f_m_balls :: .int f_m_spot :: .int f_m_score :: .int f_m_strokesNow :: .int f_m_fouls :: .int f_m_tablesRead :: .ref a_mk :: .ref a_mw :: .ref a_mc :: .int f_m_potted :: .int f_m_moves :: .int f_m_bounces :: .int f_m_hitFirst :: .int f_m_hitPower :: .int f_m_hitDown :: .int f_m_hitRight :: .int f_m_isFoul :: .ref a_mo :: .ref a_mt :: .int f_m_bestCode :: .int f_m_bestBrings :: .int f_m_plansDone :: .int f_m_safesDone :: .int f_m_seenMany :: .ref a_ms :: .ref a_mb :: .int f_m_seedNow :: .int f_m_keptTable :: .int f_m_keptScore :: .int f_m_keptStrokes :: .int f_m_keptFouls :: .int f_m_keptSeen :: .ref a_mK :: .ref a_mC :: .ref a_mS :: .long f_m_hash :: []))), (a_mP, .inl (xI X, 34, .inl v_mP))] hB (c_X12_in X l x2_2.toInt64 49 55 u_9 hu_9) wq_4_229 wq_1_14 wq_4_227 wq_4_228 hd_X12_in (by decide) hP hD hS hl.1 [] [0, 1] [(a_m, .inr (12, (.ref a_mP :: .int f_m_pageMany :: .int f_m_balls :: .int f_m_spot :: .int f_m_score :: .int f_m_strokesNow :: .int f_m_fouls :: .int f_m_tablesRead :: .ref a_mk :: .ref a_mw :: .ref a_mc :: .int f_m_potted :: .int f_m_moves :: .int f_m_bounces :: .int f_m_hitFirst :: .int f_m_hitPower :: .int f_m_hitDown :: .int f_m_hitRight :: .int f_m_isFoul :: .ref a_mo :: .ref a_mt :: .int f_m_bestCode :: .int f_m_bestBrings :: .int f_m_plansDone :: .int f_m_safesDone :: .int f_m_seenMany :: .ref a_ms :: .ref a_mb :: .int f_m_seedNow :: .int f_m_keptTable :: .int f_m_keptScore :: .int f_m_keptStrokes :: .int f_m_keptFouls :: .int f_m_keptSeen :: .ref a_mK :: .ref a_mC :: .ref a_mS :: .long f_m_hash :: []))), (a_mP, .inl (xI X, 34, .inl v_mP))] rfl (by decide +kernel) rfl rfl rfl (nn := 2) rfl (by decide +kernel) [a_m, a_mP] rfl rfl rfl rfl (Nat.le_of_ble_eq_true rfl) dX12_isGood_114 ⟨Nat.zero_le _, Nat.zero_le _⟩ (fun H locs hP hD hS => ?_)
      obtain ⟨z_10, h⟩ := gd_s h
      obtain rfl := Option.some.inj h
      rw [← hQ]
      exact retZ (r := u_9) hB (isb_n z_10) hS hP dX12_isGood_117
    replace h := it_n c_8 h
    by_cases c_11 : w_4 = 2
    · replace h := it_p c_11 h
      refine lv_tableIn (off := 58) (tgt := 118) hx hb dX12_isGood_60 (by rw [c_11]; decide) (by rw [c_11]; decide) (by rw [c_11]; decide) (by decide) ?_
      refine lv_iload_n hx hb dX12_isGood_118 rfl (lv_at hl 0 rfl) ?_
      refine lv_i2l (v := x2_2.toInt64) hx hb dX12_isGood_119 rfl ?_
      refine lv_ldc2 (v := 48) hx hb hown (hts _ wq_5_6) dX12_isGood_120 ?_
      refine lv_ldc2 (v := 52) hx hb hown (hts _ wq_5_7) dX12_isGood_123 ?_
      obtain ⟨u_12, hu_12, h⟩ := ob_s h
      refine cSi (As := [.long x2_2.toInt64, .long 48, .long 52]) (rest := []) [(a_m, .inr (12, (.ref a_mP :: .int f_m_pageMany :: .int f_m_balls :: .int f_m_spot :: .int f_m_score :: .int f_m_strokesNow :: .int f_m_fouls :: .int f_m_tablesRead :: .ref a_mk :: .ref a_mw :: .ref a_mc :: .int f_m_potted :: .int f_m_moves :: .int f_m_bounces :: .int f_m_hitFirst :: .int f_m_hitPower :: .int f_m_hitDown :: .int f_m_hitRight :: .int f_m_isFoul :: .ref a_mo :: .ref a_mt :: .int f_m_bestCode :: .int f_m_bestBrings :: .int f_m_plansDone :: .int f_m_safesDone :: .int f_m_seenMany :: .ref a_ms :: .ref a_mb :: .int f_m_seedNow :: .int f_m_keptTable :: .int f_m_keptScore :: .int f_m_keptStrokes :: .int f_m_keptFouls :: .int f_m_keptSeen :: .ref a_mK :: .ref a_mC :: .ref a_mS :: .long f_m_hash :: []))), (a_mP, .inl (xI X, 34, .inl v_mP))] hB (c_X12_in X l x2_2.toInt64 48 52 u_12 hu_12) wq_4_229 wq_1_14 wq_4_227 wq_4_228 hd_X12_in (by decide) hP hD hS hl.1 [] [0, 1] [(a_m, .inr (12, (.ref a_mP :: .int f_m_pageMany :: .int f_m_balls :: .int f_m_spot :: .int f_m_score :: .int f_m_strokesNow :: .int f_m_fouls :: .int f_m_tablesRead :: .ref a_mk :: .ref a_mw :: .ref a_mc :: .int f_m_potted :: .int f_m_moves :: .int f_m_bounces :: .int f_m_hitFirst :: .int f_m_hitPower :: .int f_m_hitDown :: .int f_m_hitRight :: .int f_m_isFoul :: .ref a_mo :: .ref a_mt :: .int f_m_bestCode :: .int f_m_bestBrings :: .int f_m_plansDone :: .int f_m_safesDone :: .int f_m_seenMany :: .ref a_ms :: .ref a_mb :: .int f_m_seedNow :: .int f_m_keptTable :: .int f_m_keptScore :: .int f_m_keptStrokes :: .int f_m_keptFouls :: .int f_m_keptSeen :: .ref a_mK :: .ref a_mC :: .ref a_mS :: .long f_m_hash :: []))), (a_mP, .inl (xI X, 34, .inl v_mP))] rfl (by decide +kernel) rfl rfl rfl (nn := 2) rfl (by decide +kernel) [a_m, a_mP] rfl rfl rfl rfl (Nat.le_of_ble_eq_true rfl) dX12_isGood_126 ⟨Nat.zero_le _, Nat.zero_le _⟩ (fun H locs hP hD hS => ?_)
      obtain ⟨z_13, h⟩ := gd_s h
      obtain rfl := Option.some.inj h
      rw [← hQ]
      exact retZ (r := u_12) hB (isb_n z_13) hS hP dX12_isGood_129
    replace h := it_n c_11 h
    by_cases c_14 : w_4 = 3
    · replace h := it_p c_14 h
      refine lv_tableIn (off := 70) (tgt := 130) hx hb dX12_isGood_60 (by rw [c_14]; decide) (by rw [c_14]; decide) (by rw [c_14]; decide) (by decide) ?_
      refine lv_aload_n hx hb dX12_isGood_130 rfl (lv_at hl 1 rfl) ?_
      refine lv_iload_n hx hb dX12_isGood_131 rfl (lv_at hl 2 rfl) ?_
      obtain ⟨u_15, hu_15, h⟩ := ob_s h
      refine cVi (C := RX12) (As := [.int p1]) (rest := []) [(a_m, .inr (12, (.ref a_mP :: .int f_m_pageMany :: .int f_m_balls :: .int f_m_spot :: .int f_m_score :: .int f_m_strokesNow :: .int f_m_fouls :: .int f_m_tablesRead :: .ref a_mk :: .ref a_mw :: .ref a_mc :: .int f_m_potted :: .int f_m_moves :: .int f_m_bounces :: .int f_m_hitFirst :: .int f_m_hitPower :: .int f_m_hitDown :: .int f_m_hitRight :: .int f_m_isFoul :: .ref a_mo :: .ref a_mt :: .int f_m_bestCode :: .int f_m_bestBrings :: .int f_m_plansDone :: .int f_m_safesDone :: .int f_m_seenMany :: .ref a_ms :: .ref a_mb :: .int f_m_seedNow :: .int f_m_keptTable :: .int f_m_keptScore :: .int f_m_keptStrokes :: .int f_m_keptFouls :: .int f_m_keptSeen :: .ref a_mK :: .ref a_mC :: .ref a_mS :: .long f_m_hash :: []))), (a_mP, .inl (xI X, 34, .inl v_mP))] hB (c_X12_isColumn X l n a_m a_mP a_mk a_mw a_mc a_mo a_mt a_ms a_mb a_mK a_mC a_mS f_m_pageMany f_m_balls f_m_spot f_m_score f_m_strokesNow f_m_fouls f_m_tablesRead f_m_potted f_m_moves f_m_bounces f_m_hitFirst f_m_hitPower f_m_hitDown f_m_hitRight f_m_isFoul f_m_bestCode f_m_bestBrings f_m_plansDone f_m_safesDone f_m_seenMany f_m_seedNow f_m_keptTable f_m_keptScore f_m_keptStrokes f_m_keptFouls f_m_keptSeen f_m_hash v_mP p1 u_15 hu_15) wq_5_11 wq_1_14 wq_5_8 wq_5_10 wp_27 hd_X12_isColumn (by decide) hP hD hS hl.1 [0, 1] [] [] rfl (by decide +kernel) rfl rfl rfl (nn := 2) rfl (by decide +kernel) [a_m, a_mP] rfl rfl (q0 := 0) rfl rfl rfl rfl (Nat.le_of_ble_eq_true rfl) dX12_isGood_132 ⟨Nat.zero_le _, Nat.zero_le _⟩ (fun H locs hP hD hS => ?_)
      obtain ⟨z_16, h⟩ := gd_s h
      obtain rfl := Option.some.inj h
      rw [← hQ]
      exact retZ (r := u_15) hB (isb_n z_16) hS hP dX12_isGood_135
    replace h := it_n c_14 h
    refine lv_tableOut (tgt := 136) hx hb dX12_isGood_60 (tsw_0_4 c_5 c_8 c_11 c_14) (by decide) ?_
    refine lv_iload_n hx hb dX12_isGood_136 rfl (lv_at hl 0 rfl) ?_
    refine lv_bipush (v := 44) hx hb dX12_isGood_137 (by decide) ?_
    obtain ⟨j152_17, ej152_17, h⟩ := jn_s h
    have J152_17 : j152_17 = some res → ∀ (H : Heap) (locs : List Loc) (ls : Array Slot), va_P (xD X) vwCl [(a_m, .inr (12, (.ref a_mP :: .int f_m_pageMany :: .int f_m_balls :: .int f_m_spot :: .int f_m_score :: .int f_m_strokesNow :: .int f_m_fouls :: .int f_m_tablesRead :: .ref a_mk :: .ref a_mw :: .ref a_mc :: .int f_m_potted :: .int f_m_moves :: .int f_m_bounces :: .int f_m_hitFirst :: .int f_m_hitPower :: .int f_m_hitDown :: .int f_m_hitRight :: .int f_m_isFoul :: .ref a_mo :: .ref a_mt :: .int f_m_bestCode :: .int f_m_bestBrings :: .int f_m_plansDone :: .int f_m_safesDone :: .int f_m_seenMany :: .ref a_ms :: .ref a_mb :: .int f_m_seedNow :: .int f_m_keptTable :: .int f_m_keptScore :: .int f_m_keptStrokes :: .int f_m_keptFouls :: .int f_m_keptSeen :: .ref a_mK :: .ref a_mC :: .ref a_mS :: .long f_m_hash :: []))), (a_mP, .inl (xI X, 34, .inl v_mP))] H → va_D A [(a_m, .inr (12, (.ref a_mP :: .int f_m_pageMany :: .int f_m_balls :: .int f_m_spot :: .int f_m_score :: .int f_m_strokesNow :: .int f_m_fouls :: .int f_m_tablesRead :: .ref a_mk :: .ref a_mw :: .ref a_mc :: .int f_m_potted :: .int f_m_moves :: .int f_m_bounces :: .int f_m_hitFirst :: .int f_m_hitPower :: .int f_m_hitDown :: .int f_m_hitRight :: .int f_m_isFoul :: .ref a_mo :: .ref a_mt :: .int f_m_bestCode :: .int f_m_bestBrings :: .int f_m_plansDone :: .int f_m_safesDone :: .int f_m_seenMany :: .ref a_ms :: .ref a_mb :: .int f_m_seedNow :: .int f_m_keptTable :: .int f_m_keptScore :: .int f_m_keptStrokes :: .int f_m_keptFouls :: .int f_m_keptSeen :: .ref a_mK :: .ref a_mC :: .ref a_mS :: .long f_m_hash :: []))), (a_mP, .inl (xI X, 34, .inl v_mP))] → va_S A s.heap H locs → lv_has ls 3 [] → W p l e (rmF 3 65) s m args below meth c H locs 0 0 Q (F0 m 152 ls []) := by
      clear h
      intro h H locs ls hP hD hS hl
      rw [ej152_17] at h
      refine lv_iconst (v := 0) hx hb dX12_isGood_152 (by decide) ?_
      obtain rfl := Option.some.inj h
      rw [← hQ]
      exact retZ (r := 0) hB rfl hS hP dX12_isGood_153
    clear ej152_17
    refine lv_icmp_ne (tgt := 152) hx hb dX12_isGood_139 (by decide) (fun c_18 => ?_) (fun c_18 => ?_)
    · replace h := it_n c_18 h
      exact J152_17 h _ _ _ hP hD hS (lv_sub hl [] rfl)
    · replace h := it_p c_18 h
      refine lv_iload_n hx hb dX12_isGood_142 rfl (lv_at hl 2 rfl) ?_
      refine lv_bipush (v := 32) hx hb dX12_isGood_143 (by decide) ?_
      refine lv_icmp_ge (tgt := 152) hx hb dX12_isGood_145 (by decide) (fun c_19 => ?_) (fun c_19 => ?_)
      · replace h := it_p c_19 h
        exact J152_17 h _ _ _ hP hD hS (lv_sub hl [] rfl)
      · replace h := it_n c_19 h
        refine lv_iconst (v := 1) hx hb dX12_isGood_148 (by decide) ?_
        refine lv_goto (tgt := 153) hx hb dX12_isGood_149 (by decide) ?_
        obtain rfl := Option.some.inj h
        rw [← hQ]
        exact retZ (r := 1) hB rfl hS hP dX12_isGood_153
  · replace h := it_n c_3 h
    refine lv_iload_n hx hb dX12_isGood_12 rfl (lv_at hl 2 rfl) ?_
    refine lv_if_ne (tgt := 30) hx hb dX12_isGood_13 (by decide) (fun c_20 => ?_) (fun c_20 => ?_)
    · replace h := it_n c_20 h
      refine lv_iload_n hx hb dX12_isGood_30 rfl (lv_at hl 2 rfl) ?_
      refine lv_iconst (v := 1) hx hb dX12_isGood_31 (by decide) ?_
      refine lv_icmp_ne (tgt := 43) hx hb dX12_isGood_32 (by decide) (fun c_21 => ?_) (fun c_21 => ?_)
      · replace h := it_n c_21 h
        refine lv_iload_n hx hb dX12_isGood_43 rfl (lv_at hl 0 rfl) ?_
        refine lv_bipush (v := 59) hx hb dX12_isGood_44 (by decide) ?_
        refine lv_icmp_ne (tgt := 53) hx hb dX12_isGood_46 (by decide) (fun c_22 => ?_) (fun c_22 => ?_)
        · replace h := it_n c_22 h
          refine lv_iconst (v := 0) hx hb dX12_isGood_53 (by decide) ?_
          obtain rfl := Option.some.inj h
          rw [← hQ]
          exact retZ (r := 0) hB rfl hS hP dX12_isGood_54
        · replace h := it_p c_22 h
          refine lv_iconst (v := 1) hx hb dX12_isGood_49 (by decide) ?_
          refine lv_goto (tgt := 54) hx hb dX12_isGood_50 (by decide) ?_
          obtain rfl := Option.some.inj h
          rw [← hQ]
          exact retZ (r := 1) hB rfl hS hP dX12_isGood_54
      · replace h := it_p c_21 h
        refine lv_aload_n hx hb dX12_isGood_35 rfl (lv_at hl 1 rfl) ?_
        refine lv_iconst (v := 1) hx hb dX12_isGood_36 (by decide) ?_
        obtain ⟨u_23, hu_23, h⟩ := ob_s h
        refine cVi (C := RX12) (As := [.int 1]) (rest := []) [(a_m, .inr (12, (.ref a_mP :: .int f_m_pageMany :: .int f_m_balls :: .int f_m_spot :: .int f_m_score :: .int f_m_strokesNow :: .int f_m_fouls :: .int f_m_tablesRead :: .ref a_mk :: .ref a_mw :: .ref a_mc :: .int f_m_potted :: .int f_m_moves :: .int f_m_bounces :: .int f_m_hitFirst :: .int f_m_hitPower :: .int f_m_hitDown :: .int f_m_hitRight :: .int f_m_isFoul :: .ref a_mo :: .ref a_mt :: .int f_m_bestCode :: .int f_m_bestBrings :: .int f_m_plansDone :: .int f_m_safesDone :: .int f_m_seenMany :: .ref a_ms :: .ref a_mb :: .int f_m_seedNow :: .int f_m_keptTable :: .int f_m_keptScore :: .int f_m_keptStrokes :: .int f_m_keptFouls :: .int f_m_keptSeen :: .ref a_mK :: .ref a_mC :: .ref a_mS :: .long f_m_hash :: []))), (a_mP, .inl (xI X, 34, .inl v_mP))] hB (c_X12_isColumn X l n a_m a_mP a_mk a_mw a_mc a_mo a_mt a_ms a_mb a_mK a_mC a_mS f_m_pageMany f_m_balls f_m_spot f_m_score f_m_strokesNow f_m_fouls f_m_tablesRead f_m_potted f_m_moves f_m_bounces f_m_hitFirst f_m_hitPower f_m_hitDown f_m_hitRight f_m_isFoul f_m_bestCode f_m_bestBrings f_m_plansDone f_m_safesDone f_m_seenMany f_m_seedNow f_m_keptTable f_m_keptScore f_m_keptStrokes f_m_keptFouls f_m_keptSeen f_m_hash v_mP 1 u_23 hu_23) wq_5_11 wq_1_14 wq_5_8 wq_5_10 wp_27 hd_X12_isColumn (by decide) hP hD hS hl.1 [0, 1] [] [] rfl (by decide +kernel) rfl rfl rfl (nn := 2) rfl (by decide +kernel) [a_m, a_mP] rfl rfl (q0 := 0) rfl rfl rfl rfl (Nat.le_of_ble_eq_true rfl) dX12_isGood_37 ⟨Nat.zero_le _, Nat.zero_le _⟩ (fun H locs hP hD hS => ?_)
        refine lv_goto (tgt := 54) hx hb dX12_isGood_40 (by decide) ?_
        obtain ⟨z_24, h⟩ := gd_s h
        obtain rfl := Option.some.inj h
        rw [← hQ]
        exact retZ (r := u_23) hB (isb_n z_24) hS hP dX12_isGood_54
    · replace h := it_p c_20 h
      refine lv_iload_n hx hb dX12_isGood_16 rfl (lv_at hl 0 rfl) ?_
      refine lv_i2l (v := x2_2.toInt64) hx hb dX12_isGood_17 rfl ?_
      refine lv_ldc2 (v := 48) hx hb hown (hts _ wq_5_6) dX12_isGood_18 ?_
      refine lv_ldc2 (v := 52) hx hb hown (hts _ wq_5_7) dX12_isGood_21 ?_
      obtain ⟨u_25, hu_25, h⟩ := ob_s h
      refine cSi (As := [.long x2_2.toInt64, .long 48, .long 52]) (rest := []) [(a_m, .inr (12, (.ref a_mP :: .int f_m_pageMany :: .int f_m_balls :: .int f_m_spot :: .int f_m_score :: .int f_m_strokesNow :: .int f_m_fouls :: .int f_m_tablesRead :: .ref a_mk :: .ref a_mw :: .ref a_mc :: .int f_m_potted :: .int f_m_moves :: .int f_m_bounces :: .int f_m_hitFirst :: .int f_m_hitPower :: .int f_m_hitDown :: .int f_m_hitRight :: .int f_m_isFoul :: .ref a_mo :: .ref a_mt :: .int f_m_bestCode :: .int f_m_bestBrings :: .int f_m_plansDone :: .int f_m_safesDone :: .int f_m_seenMany :: .ref a_ms :: .ref a_mb :: .int f_m_seedNow :: .int f_m_keptTable :: .int f_m_keptScore :: .int f_m_keptStrokes :: .int f_m_keptFouls :: .int f_m_keptSeen :: .ref a_mK :: .ref a_mC :: .ref a_mS :: .long f_m_hash :: []))), (a_mP, .inl (xI X, 34, .inl v_mP))] hB (c_X12_in X l x2_2.toInt64 48 52 u_25 hu_25) wq_4_229 wq_1_14 wq_4_227 wq_4_228 hd_X12_in (by decide) hP hD hS hl.1 [] [0, 1] [(a_m, .inr (12, (.ref a_mP :: .int f_m_pageMany :: .int f_m_balls :: .int f_m_spot :: .int f_m_score :: .int f_m_strokesNow :: .int f_m_fouls :: .int f_m_tablesRead :: .ref a_mk :: .ref a_mw :: .ref a_mc :: .int f_m_potted :: .int f_m_moves :: .int f_m_bounces :: .int f_m_hitFirst :: .int f_m_hitPower :: .int f_m_hitDown :: .int f_m_hitRight :: .int f_m_isFoul :: .ref a_mo :: .ref a_mt :: .int f_m_bestCode :: .int f_m_bestBrings :: .int f_m_plansDone :: .int f_m_safesDone :: .int f_m_seenMany :: .ref a_ms :: .ref a_mb :: .int f_m_seedNow :: .int f_m_keptTable :: .int f_m_keptScore :: .int f_m_keptStrokes :: .int f_m_keptFouls :: .int f_m_keptSeen :: .ref a_mK :: .ref a_mC :: .ref a_mS :: .long f_m_hash :: []))), (a_mP, .inl (xI X, 34, .inl v_mP))] rfl (by decide +kernel) rfl rfl rfl (nn := 2) rfl (by decide +kernel) [a_m, a_mP] rfl rfl rfl rfl (Nat.le_of_ble_eq_true rfl) dX12_isGood_24 ⟨Nat.zero_le _, Nat.zero_le _⟩ (fun H locs hP hD hS => ?_)
      refine lv_goto (tgt := 54) hx hb dX12_isGood_27 (by decide) ?_
      obtain ⟨z_26, h⟩ := gd_s h
      obtain rfl := Option.some.inj h
      rw [← hQ]
      exact retZ (r := u_25) hB (isb_n z_26) hS hP dX12_isGood_54


def b_X12_faultOf_L2 (f_m_pageMany : Int32) (v_mP : Nat → Int32) (n : Nat) (go_2 : Int32 → Option (Int32)) (x1_1 : Int32) : Option (Int32) :=
  (if f_m_pageMany ≤ x1_1 then (some x1_1) else ((f_X12_isGood n v_mP x1_1).bind (fun u_5 => (if u_5 = 0 then (some x1_1) else (bnd (x1_1 + 1) (fun x1_7 => (go_2 x1_7)))))))
def f_X12_faultOf_L2 (f_m_pageMany : Int32) (v_mP : Nat → Int32) (n : Nat) (k : Nat) (x1_1 : Int32) : Option (Int32) :=
  lpF (fun (self : Int32 → Option (Int32)) (a : Int32) => b_X12_faultOf_L2 f_m_pageMany v_mP n (fun x1_1 => self x1_1) a) k x1_1
def f_X12_faultOf (n : Nat) (f_m_pageMany : Int32) (v_mP : Nat → Int32) : Option (Int32) :=
  (f_X12_faultOf_L2 f_m_pageMany v_mP n n 0)
theorem hd_X12_faultOf : yX12_faultOf.cls ≠ "java/lang/invoke/MethodHandle" ∧ yX12_faultOf.cls ≠ "java/lang/invoke/VarHandle" ∧ (parseMethodDescriptor yX12_faultOf.desc).map (fun d => d.parameters.length) = some 0 := ⟨by decide +kernel, by decide +kernel, by decide +kernel⟩
set_option maxHeartbeats 4000000 in
set_option maxRecDepth 100000 in
theorem c_X12_faultOf (X : CXp) (l : Launch) (n : Nat) (a_m a_mP a_mk a_mw a_mc a_mo a_mt a_ms a_mb a_mK a_mC a_mS : Nat) (f_m_pageMany : Int32) (f_m_balls : Int32) (f_m_spot : Int32) (f_m_score : Int32) (f_m_strokesNow : Int32) (f_m_fouls : Int32) (f_m_tablesRead : Int32) (f_m_potted : Int32) (f_m_moves : Int32) (f_m_bounces : Int32) (f_m_hitFirst : Int32) (f_m_hitPower : Int32) (f_m_hitDown : Int32) (f_m_hitRight : Int32) (f_m_isFoul : Int32) (f_m_bestCode : Int32) (f_m_bestBrings : Int32) (f_m_plansDone : Int32) (f_m_safesDone : Int32) (f_m_seenMany : Int32) (f_m_seedNow : Int32) (f_m_keptTable : Int32) (f_m_keptScore : Int32) (f_m_keptStrokes : Int32) (f_m_keptFouls : Int32) (f_m_keptSeen : Int32) (f_m_hash : Int64) (v_mP : Nat → Int32) (res : Int32) (h : f_X12_faultOf n f_m_pageMany v_mP = some res) : CTg X l yX12_faultOf cX12_faultOf 2 (some .int) 4 87 [.ref a_m] [(a_m, .inr (12, (.ref a_mP :: .int f_m_pageMany :: .int f_m_balls :: .int f_m_spot :: .int f_m_score :: .int f_m_strokesNow :: .int f_m_fouls :: .int f_m_tablesRead :: .ref a_mk :: .ref a_mw :: .ref a_mc :: .int f_m_potted :: .int f_m_moves :: .int f_m_bounces :: .int f_m_hitFirst :: .int f_m_hitPower :: .int f_m_hitDown :: .int f_m_hitRight :: .int f_m_isFoul :: .ref a_mo :: .ref a_mt :: .int f_m_bestCode :: .int f_m_bestBrings :: .int f_m_plansDone :: .int f_m_safesDone :: .int f_m_seenMany :: .ref a_ms :: .ref a_mb :: .int f_m_seedNow :: .int f_m_keptTable :: .int f_m_keptScore :: .int f_m_keptStrokes :: .int f_m_keptFouls :: .int f_m_keptSeen :: .ref a_mK :: .ref a_mC :: .ref a_mS :: .long f_m_hash :: []))), (a_mP, .inl (xI X, 34, .inl v_mP))] (QcI X res [(a_m, .inr (12, (.ref a_mP :: .int f_m_pageMany :: .int f_m_balls :: .int f_m_spot :: .int f_m_score :: .int f_m_strokesNow :: .int f_m_fouls :: .int f_m_tablesRead :: .ref a_mk :: .ref a_mw :: .ref a_mc :: .int f_m_potted :: .int f_m_moves :: .int f_m_bounces :: .int f_m_hitFirst :: .int f_m_hitPower :: .int f_m_hitDown :: .int f_m_hitRight :: .int f_m_isFoul :: .ref a_mo :: .ref a_mt :: .int f_m_bestCode :: .int f_m_bestBrings :: .int f_m_plansDone :: .int f_m_safesDone :: .int f_m_seenMany :: .ref a_ms :: .ref a_mb :: .int f_m_seedNow :: .int f_m_keptTable :: .int f_m_keptScore :: .int f_m_keptStrokes :: .int f_m_keptFouls :: .int f_m_keptSeen :: .ref a_mK :: .ref a_mC :: .ref a_mS :: .long f_m_hash :: []))), (a_mP, .inl (xI X, 34, .inl v_mP))]) := by
  refine CTg.mk (own := RX12) (by decide) rfl (Nat.le_of_ble_eq_true rfl) ?_
  intro p e s m args below meth c A hB hP hD hS ls hl
  obtain ⟨hx, hb, hr, hml, hown, hts, hlocks, hcx, hA, hAB⟩ := id hB
  have hK := hcx.1
  generalize hQ : MQ below (QcI X res [(a_m, .inr (12, (.ref a_mP :: .int f_m_pageMany :: .int f_m_balls :: .int f_m_spot :: .int f_m_score :: .int f_m_strokesNow :: .int f_m_fouls :: .int f_m_tablesRead :: .ref a_mk :: .ref a_mw :: .ref a_mc :: .int f_m_potted :: .int f_m_moves :: .int f_m_bounces :: .int f_m_hitFirst :: .int f_m_hitPower :: .int f_m_hitDown :: .int f_m_hitRight :: .int f_m_isFoul :: .ref a_mo :: .ref a_mt :: .int f_m_bestCode :: .int f_m_bestBrings :: .int f_m_plansDone :: .int f_m_safesDone :: .int f_m_seenMany :: .ref a_ms :: .ref a_mb :: .int f_m_seedNow :: .int f_m_keptTable :: .int f_m_keptScore :: .int f_m_keptStrokes :: .int f_m_keptFouls :: .int f_m_keptSeen :: .ref a_mK :: .ref a_mC :: .ref a_mS :: .long f_m_hash :: []))), (a_mP, .inl (xI X, 34, .inl v_mP))] A) args s 0 0 A = Q
  replace hl : lv_has ls 2 [(0, .ref a_m)] := hl
  unfold f_X12_faultOf at h
  refine lv_iconst (v := 0) hx hb dX12_faultOf_0 (by decide) ?_
  refine lv_istore_n (lv' := [(1, .int 0), (0, .ref a_m)]) hx hb dX12_faultOf_1 rfl hl (by decide) rfl (fun ls hl => ?_)
  have L2_go_2 : ∀ (k : Nat), ∀ (x1_1 : Int32), f_X12_faultOf_L2 f_m_pageMany v_mP n k x1_1 = some res → ∀ (H : Heap) (locs : List Loc) (ls : Array Slot), va_P (xD X) vwCl [(a_m, .inr (12, (.ref a_mP :: .int f_m_pageMany :: .int f_m_balls :: .int f_m_spot :: .int f_m_score :: .int f_m_strokesNow :: .int f_m_fouls :: .int f_m_tablesRead :: .ref a_mk :: .ref a_mw :: .ref a_mc :: .int f_m_potted :: .int f_m_moves :: .int f_m_bounces :: .int f_m_hitFirst :: .int f_m_hitPower :: .int f_m_hitDown :: .int f_m_hitRight :: .int f_m_isFoul :: .ref a_mo :: .ref a_mt :: .int f_m_bestCode :: .int f_m_bestBrings :: .int f_m_plansDone :: .int f_m_safesDone :: .int f_m_seenMany :: .ref a_ms :: .ref a_mb :: .int f_m_seedNow :: .int f_m_keptTable :: .int f_m_keptScore :: .int f_m_keptStrokes :: .int f_m_keptFouls :: .int f_m_keptSeen :: .ref a_mK :: .ref a_mC :: .ref a_mS :: .long f_m_hash :: []))), (a_mP, .inl (xI X, 34, .inl v_mP))] H → va_D A [(a_m, .inr (12, (.ref a_mP :: .int f_m_pageMany :: .int f_m_balls :: .int f_m_spot :: .int f_m_score :: .int f_m_strokesNow :: .int f_m_fouls :: .int f_m_tablesRead :: .ref a_mk :: .ref a_mw :: .ref a_mc :: .int f_m_potted :: .int f_m_moves :: .int f_m_bounces :: .int f_m_hitFirst :: .int f_m_hitPower :: .int f_m_hitDown :: .int f_m_hitRight :: .int f_m_isFoul :: .ref a_mo :: .ref a_mt :: .int f_m_bestCode :: .int f_m_bestBrings :: .int f_m_plansDone :: .int f_m_safesDone :: .int f_m_seenMany :: .ref a_ms :: .ref a_mb :: .int f_m_seedNow :: .int f_m_keptTable :: .int f_m_keptScore :: .int f_m_keptStrokes :: .int f_m_keptFouls :: .int f_m_keptSeen :: .ref a_mK :: .ref a_mC :: .ref a_mS :: .long f_m_hash :: []))), (a_mP, .inl (xI X, 34, .inl v_mP))] → va_S A s.heap H locs → lv_has ls 2 [(0, .ref a_m), (1, .int x1_1)] → W p l e (rmF 4 87) s m args below meth c H locs 0 0 Q (F0 m 2 ls []) := by
    clear h
    intro k
    induction k with
    | zero => intro x1_1 h; cases h
    | succ k ih_3 =>
      intro x1_1 h H locs ls hP hD hS hl
      replace h : b_X12_faultOf_L2 f_m_pageMany v_mP n (fun x1_1 => f_X12_faultOf_L2 f_m_pageMany v_mP n k x1_1) x1_1 = some res := h
      unfold b_X12_faultOf_L2 at h
      refine lv_iload_n hx hb dX12_faultOf_2 rfl (lv_at hl 1 rfl) ?_
      refine lv_aload_n hx hb dX12_faultOf_3 rfl (lv_at hl 0 rfl) ?_
      refine va_get (D := xD X) (ci := 12) (v := .int f_m_pageMany) (C := RX12) (T := TX12) (N := 38) hx hb hts inX12 hown hK hP 0 rfl rfl 1 (by decide) (hts _ wq_4_108) (fun _ h9 => h9) rfl dX12_faultOf_4 ?_
      refine lv_icmp_ge (tgt := 24) hx hb dX12_faultOf_7 (by decide) (fun c_4 => ?_) (fun c_4 => ?_)
      · replace h := it_p c_4 h
        refine lv_iload_n hx hb dX12_faultOf_24 rfl (lv_at hl 1 rfl) ?_
        obtain rfl := Option.some.inj h
        rw [← hQ]
        exact retI hB hS hP dX12_faultOf_25
      · replace h := it_n c_4 h
        refine lv_aload_n hx hb dX12_faultOf_10 rfl (lv_at hl 0 rfl) ?_
        refine lv_iload_n hx hb dX12_faultOf_11 rfl (lv_at hl 1 rfl) ?_
        obtain ⟨u_5, hu_5, h⟩ := ob_s h
        refine cVi (C := RX12) (As := [.int x1_1]) (rest := []) [(a_m, .inr (12, (.ref a_mP :: .int f_m_pageMany :: .int f_m_balls :: .int f_m_spot :: .int f_m_score :: .int f_m_strokesNow :: .int f_m_fouls :: .int f_m_tablesRead :: .ref a_mk :: .ref a_mw :: .ref a_mc :: .int f_m_potted :: .int f_m_moves :: .int f_m_bounces :: .int f_m_hitFirst :: .int f_m_hitPower :: .int f_m_hitDown :: .int f_m_hitRight :: .int f_m_isFoul :: .ref a_mo :: .ref a_mt :: .int f_m_bestCode :: .int f_m_bestBrings :: .int f_m_plansDone :: .int f_m_safesDone :: .int f_m_seenMany :: .ref a_ms :: .ref a_mb :: .int f_m_seedNow :: .int f_m_keptTable :: .int f_m_keptScore :: .int f_m_keptStrokes :: .int f_m_keptFouls :: .int f_m_keptSeen :: .ref a_mK :: .ref a_mC :: .ref a_mS :: .long f_m_hash :: []))), (a_mP, .inl (xI X, 34, .inl v_mP))] hB (c_X12_isGood X l n a_m a_mP a_mk a_mw a_mc a_mo a_mt a_ms a_mb a_mK a_mC a_mS f_m_pageMany f_m_balls f_m_spot f_m_score f_m_strokesNow f_m_fouls f_m_tablesRead f_m_potted f_m_moves f_m_bounces f_m_hitFirst f_m_hitPower f_m_hitDown f_m_hitRight f_m_isFoul f_m_bestCode f_m_bestBrings f_m_plansDone f_m_safesDone f_m_seenMany f_m_seedNow f_m_keptTable f_m_keptScore f_m_keptStrokes f_m_keptFouls f_m_keptSeen f_m_hash v_mP x1_1 u_5 hu_5) wq_5_5 wq_1_14 wq_5_2 wq_5_4 wp_26 hd_X12_isGood (by decide) hP hD hS hl.1 [0, 1] [] [] rfl (by decide +kernel) rfl rfl rfl (nn := 2) rfl (by decide +kernel) [a_m, a_mP] rfl rfl (q0 := 0) rfl rfl rfl rfl (Nat.le_of_ble_eq_true rfl) dX12_faultOf_12 ⟨Nat.zero_le _, Nat.zero_le _⟩ (fun H locs hP hD hS => ?_)
        refine lv_if_eq (tgt := 24) hx hb dX12_faultOf_15 (by decide) (fun c_6 => ?_) (fun c_6 => ?_)
        · replace h := it_p c_6 h
          refine lv_iload_n hx hb dX12_faultOf_24 rfl (lv_at hl 1 rfl) ?_
          obtain rfl := Option.some.inj h
          rw [← hQ]
          exact retI hB hS hP dX12_faultOf_25
        · replace h := it_n c_6 h
          obtain ⟨x1_7, ex1_7⟩ : ∃ y : Int32, y = x1_1 + 1 := ⟨_, rfl⟩
          replace h := bn_s h ex1_7
          refine lv_iinc (v := x1_7) (lv' := [(1, .int x1_7), (0, .ref a_m)]) hx hb dX12_faultOf_18 hl (k := 1) rfl (by rw [ex1_7]; rfl) (by decide) rfl (fun ls hl => ?_)
          refine lv_goto (tgt := 2) hx hb dX12_faultOf_21 (by decide) ?_
          exact ih_3 x1_7 h _ _ _ hP hD hS (lv_sub hl [1, 0] rfl)
  exact L2_go_2 n 0 h _ _ _ hP hD hS (lv_sub hl [1, 0] rfl)


def f_X12_fault (n : Nat) (f_m_pageMany : Int32) (v_mP : Nat → Int32) : Option (Int32) :=
  ((f_X12_faultOf n f_m_pageMany v_mP).bind (fun u_1 => (some u_1)))
theorem hd_X12_fault : yX12_fault.cls ≠ "java/lang/invoke/MethodHandle" ∧ yX12_fault.cls ≠ "java/lang/invoke/VarHandle" ∧ (parseMethodDescriptor yX12_fault.desc).map (fun d => d.parameters.length) = some 0 := ⟨by decide +kernel, by decide +kernel, by decide +kernel⟩
set_option maxHeartbeats 4000000 in
set_option maxRecDepth 100000 in
theorem c_X12_fault (X : CXp) (l : Launch) (n : Nat) (a_m a_mP a_mk a_mw a_mc a_mo a_mt a_ms a_mb a_mK a_mC a_mS : Nat) (f_m_pageMany : Int32) (f_m_balls : Int32) (f_m_spot : Int32) (f_m_score : Int32) (f_m_strokesNow : Int32) (f_m_fouls : Int32) (f_m_tablesRead : Int32) (f_m_potted : Int32) (f_m_moves : Int32) (f_m_bounces : Int32) (f_m_hitFirst : Int32) (f_m_hitPower : Int32) (f_m_hitDown : Int32) (f_m_hitRight : Int32) (f_m_isFoul : Int32) (f_m_bestCode : Int32) (f_m_bestBrings : Int32) (f_m_plansDone : Int32) (f_m_safesDone : Int32) (f_m_seenMany : Int32) (f_m_seedNow : Int32) (f_m_keptTable : Int32) (f_m_keptScore : Int32) (f_m_keptStrokes : Int32) (f_m_keptFouls : Int32) (f_m_keptSeen : Int32) (f_m_hash : Int64) (v_mP : Nat → Int32) (res : Int32) (h : f_X12_fault n f_m_pageMany v_mP = some res) : CTg X l yX12_fault cX12_fault 1 (some .int) 5 108 [.ref a_m] [(a_m, .inr (12, (.ref a_mP :: .int f_m_pageMany :: .int f_m_balls :: .int f_m_spot :: .int f_m_score :: .int f_m_strokesNow :: .int f_m_fouls :: .int f_m_tablesRead :: .ref a_mk :: .ref a_mw :: .ref a_mc :: .int f_m_potted :: .int f_m_moves :: .int f_m_bounces :: .int f_m_hitFirst :: .int f_m_hitPower :: .int f_m_hitDown :: .int f_m_hitRight :: .int f_m_isFoul :: .ref a_mo :: .ref a_mt :: .int f_m_bestCode :: .int f_m_bestBrings :: .int f_m_plansDone :: .int f_m_safesDone :: .int f_m_seenMany :: .ref a_ms :: .ref a_mb :: .int f_m_seedNow :: .int f_m_keptTable :: .int f_m_keptScore :: .int f_m_keptStrokes :: .int f_m_keptFouls :: .int f_m_keptSeen :: .ref a_mK :: .ref a_mC :: .ref a_mS :: .long f_m_hash :: []))), (a_mP, .inl (xI X, 34, .inl v_mP))] (QcI X res [(a_m, .inr (12, (.ref a_mP :: .int f_m_pageMany :: .int f_m_balls :: .int f_m_spot :: .int f_m_score :: .int f_m_strokesNow :: .int f_m_fouls :: .int f_m_tablesRead :: .ref a_mk :: .ref a_mw :: .ref a_mc :: .int f_m_potted :: .int f_m_moves :: .int f_m_bounces :: .int f_m_hitFirst :: .int f_m_hitPower :: .int f_m_hitDown :: .int f_m_hitRight :: .int f_m_isFoul :: .ref a_mo :: .ref a_mt :: .int f_m_bestCode :: .int f_m_bestBrings :: .int f_m_plansDone :: .int f_m_safesDone :: .int f_m_seenMany :: .ref a_ms :: .ref a_mb :: .int f_m_seedNow :: .int f_m_keptTable :: .int f_m_keptScore :: .int f_m_keptStrokes :: .int f_m_keptFouls :: .int f_m_keptSeen :: .ref a_mK :: .ref a_mC :: .ref a_mS :: .long f_m_hash :: []))), (a_mP, .inl (xI X, 34, .inl v_mP))]) := by
  refine CTg.mk (own := RX12) (by decide) rfl (Nat.le_of_ble_eq_true rfl) ?_
  intro p e s m args below meth c A hB hP hD hS ls hl
  obtain ⟨hx, hb, hr, hml, hown, hts, hlocks, hcx, hA, hAB⟩ := id hB
  have hK := hcx.1
  generalize hQ : MQ below (QcI X res [(a_m, .inr (12, (.ref a_mP :: .int f_m_pageMany :: .int f_m_balls :: .int f_m_spot :: .int f_m_score :: .int f_m_strokesNow :: .int f_m_fouls :: .int f_m_tablesRead :: .ref a_mk :: .ref a_mw :: .ref a_mc :: .int f_m_potted :: .int f_m_moves :: .int f_m_bounces :: .int f_m_hitFirst :: .int f_m_hitPower :: .int f_m_hitDown :: .int f_m_hitRight :: .int f_m_isFoul :: .ref a_mo :: .ref a_mt :: .int f_m_bestCode :: .int f_m_bestBrings :: .int f_m_plansDone :: .int f_m_safesDone :: .int f_m_seenMany :: .ref a_ms :: .ref a_mb :: .int f_m_seedNow :: .int f_m_keptTable :: .int f_m_keptScore :: .int f_m_keptStrokes :: .int f_m_keptFouls :: .int f_m_keptSeen :: .ref a_mK :: .ref a_mC :: .ref a_mS :: .long f_m_hash :: []))), (a_mP, .inl (xI X, 34, .inl v_mP))] A) args s 0 0 A = Q
  replace hl : lv_has ls 1 [(0, .ref a_m)] := hl
  unfold f_X12_fault at h
  refine lv_aload_n hx hb dX12_fault_0 rfl (lv_at hl 0 rfl) ?_
  obtain ⟨u_1, hu_1, h⟩ := ob_s h
  refine cVi (C := RX12) (As := []) (rest := []) [(a_m, .inr (12, (.ref a_mP :: .int f_m_pageMany :: .int f_m_balls :: .int f_m_spot :: .int f_m_score :: .int f_m_strokesNow :: .int f_m_fouls :: .int f_m_tablesRead :: .ref a_mk :: .ref a_mw :: .ref a_mc :: .int f_m_potted :: .int f_m_moves :: .int f_m_bounces :: .int f_m_hitFirst :: .int f_m_hitPower :: .int f_m_hitDown :: .int f_m_hitRight :: .int f_m_isFoul :: .ref a_mo :: .ref a_mt :: .int f_m_bestCode :: .int f_m_bestBrings :: .int f_m_plansDone :: .int f_m_safesDone :: .int f_m_seenMany :: .ref a_ms :: .ref a_mb :: .int f_m_seedNow :: .int f_m_keptTable :: .int f_m_keptScore :: .int f_m_keptStrokes :: .int f_m_keptFouls :: .int f_m_keptSeen :: .ref a_mK :: .ref a_mC :: .ref a_mS :: .long f_m_hash :: []))), (a_mP, .inl (xI X, 34, .inl v_mP))] hB (c_X12_faultOf X l n a_m a_mP a_mk a_mw a_mc a_mo a_mt a_ms a_mb a_mK a_mC a_mS f_m_pageMany f_m_balls f_m_spot f_m_score f_m_strokesNow f_m_fouls f_m_tablesRead f_m_potted f_m_moves f_m_bounces f_m_hitFirst f_m_hitPower f_m_hitDown f_m_hitRight f_m_isFoul f_m_bestCode f_m_bestBrings f_m_plansDone f_m_safesDone f_m_seenMany f_m_seedNow f_m_keptTable f_m_keptScore f_m_keptStrokes f_m_keptFouls f_m_keptSeen f_m_hash v_mP u_1 hu_1) wq_5_1 wq_1_14 wq_4_238 wq_5_0 wp_25 hd_X12_faultOf (by decide) hP hD hS hl.1 [0, 1] [] [] rfl (by decide +kernel) rfl rfl rfl (nn := 2) rfl (by decide +kernel) [a_m, a_mP] rfl rfl (q0 := 0) rfl rfl rfl rfl (Nat.le_of_ble_eq_true rfl) dX12_fault_1 ⟨Nat.zero_le _, Nat.zero_le _⟩ (fun H locs hP hD hS => ?_)
  obtain rfl := Option.some.inj h
  rw [← hQ]
  exact retI hB hS hP dX12_fault_4

