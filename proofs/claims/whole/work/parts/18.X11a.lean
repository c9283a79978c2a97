def f_X11_letter (f_xP_size : Int32) (v_xPl : Nat → Int32) (p1 : Int32) : Option (Int32 × Int32 × (Nat → Int32)) :=
  ((f_X11_within p1 1 126).bind (fun u_1 => (if u_1 = 0 then (some ((-102), f_xP_size, v_xPl)) else ((f_X7_isFull f_xP_size).bind (fun u_3 => (if u_3 = 0 then ((f_X7_append f_xP_size v_xPl p1).bind (fun u_5 => (some (u_5.1, u_5.1, u_5.2)))) else (some ((-104), f_xP_size, v_xPl))))))))
theorem hd_X11_letter : yX11_letter.cls ≠ "java/lang/invoke/MethodHandle" ∧ yX11_letter.cls ≠ "java/lang/invoke/VarHandle" ∧ (parseMethodDescriptor yX11_letter.desc).map (fun d => d.parameters.length) = some 1 := ⟨by decide +kernel, by decide +kernel, by decide +kernel⟩
set_option maxHeartbeats 4000000 in
set_option maxRecDepth 100000 in
theorem c_X11_letter (X : CXp) (l : Launch) (a_x a_kb a_xP a_xPl a_xG a_xK a_xR a_xA a_xU : Nat) (f_x_imageKept : Int32) (f_x_tablesRead : Int32) (f_x_plansDone : Int32) (f_x_safesDone : Int32) (f_xP_size : Int32) (v_xPl : Nat → Int32) (p1 : Int32) (res : Int32 × Int32 × (Nat → Int32)) (h : f_X11_letter f_xP_size v_xPl p1 = some res) : CTg X l yX11_letter cX11_letter 2 (some .int) 2 41 [.ref a_x, .int p1] [(a_x, .inr (11, [.ref a_kb, .ref a_xP, .ref a_xG, .ref a_xK, .ref a_xR, .ref a_xA, .ref a_xU, .int f_x_imageKept, .int f_x_tablesRead, .int f_x_plansDone, .int f_x_safesDone])), (a_xP, .inr (7, [.ref a_xPl, .int f_xP_size])), (a_xPl, .inl (xI X, 34, .inl v_xPl))] (QcI X res.1 [(a_x, .inr (11, [.ref a_kb, .ref a_xP, .ref a_xG, .ref a_xK, .ref a_xR, .ref a_xA, .ref a_xU, .int f_x_imageKept, .int f_x_tablesRead, .int f_x_plansDone, .int f_x_safesDone])), (a_xP, .inr (7, [.ref a_xPl, .int res.2.1])), (a_xPl, .inl (xI X, 34, .inl res.2.2))]) := by
  refine CTg.mk (own := RX11) (by decide) rfl (Nat.le_of_ble_eq_true rfl) ?_
  intro p e s m args below meth c A hB hP hD hS ls hl
  obtain ⟨hx, hb, hr, hml, hown, hts, hlocks, hcx, hA, hAB⟩ := id hB
  have hK := hcx.1
  generalize hQ : MQ below (QcI X res.1 [(a_x, .inr (11, [.ref a_kb, .ref a_xP, .ref a_xG, .ref a_xK, .ref a_xR, .ref a_xA, .ref a_xU, .int f_x_imageKept, .int f_x_tablesRead, .int f_x_plansDone, .int f_x_safesDone])), (a_xP, .inr (7, [.ref a_xPl, .int res.2.1])), (a_xPl, .inl (xI X, 34, .inl res.2.2))] A) args s 0 0 A = Q
  replace hl : lv_has ls 2 [(0, .ref a_x), (1, .int p1)] := hl
  unfold f_X11_letter at h
  refine lv_iload_n hx hb dX11_letter_0 rfl (lv_at hl 1 rfl) ?_
  refine lv_iconst (v := 1) hx hb dX11_letter_1 (by decide) ?_
  refine lv_bipush (v := 126) hx hb dX11_letter_2 (by decide) ?_
  obtain ⟨u_1, hu_1, h⟩ := ob_s h
  refine cSi (As := [.int p1, .int 1, .int 126]) (rest := []) [(a_x, .inr (11, [.ref a_kb, .ref a_xP, .ref a_xG, .ref a_xK, .ref a_xR, .ref a_xA, .ref a_xU, .int f_x_imageKept, .int f_x_tablesRead, .int f_x_plansDone, .int f_x_safesDone])), (a_xP, .inr (7, [.ref a_xPl, .int f_xP_size])), (a_xPl, .inl (xI X, 34, .inl v_xPl))] hB (c_X11_within X l p1 1 126 u_1 hu_1) wq_2_36 wq_1_1 wq_2_34 wq_2_35 hd_X11_within (by decide) hP hD hS hl.1 [] [0, 1, 2] [(a_x, .inr (11, [.ref a_kb, .ref a_xP, .ref a_xG, .ref a_xK, .ref a_xR, .ref a_xA, .ref a_xU, .int f_x_imageKept, .int f_x_tablesRead, .int f_x_plansDone, .int f_x_safesDone])), (a_xP, .inr (7, [.ref a_xPl, .int f_xP_size])), (a_xPl, .inl (xI X, 34, .inl v_xPl))] rfl (by decide +kernel) rfl rfl rfl (nn := 3) rfl (by decide +kernel) [a_x, a_xP, a_xPl] rfl rfl rfl rfl (Nat.le_of_ble_eq_true rfl) dX11_letter_4 ⟨Nat.zero_le _, Nat.zero_le _⟩ (fun H locs hP hD hS => ?_)
  refine lv_if_ne (tgt := 13) hx hb dX11_letter_7 (by decide) (fun c_2 => ?_) (fun c_2 => ?_)
  · replace h := it_n c_2 h
    refine lv_aload_n hx hb dX11_letter_13 rfl (lv_at hl 0 rfl) ?_
    refine va_get (D := xD X) (ci := 11) (v := .ref a_xP) (C := RX11) (T := TX11) (N := 11) hx hb hts inX11 hown hK hP 0 rfl rfl 1 (by decide) (hts _ wq_1_237) (fun _ h9 => h9) rfl dX11_letter_14 ?_
    obtain ⟨u_3, hu_3, h⟩ := ob_s h
    refine cVi (C := RX7) (As := []) (rest := []) [(a_x, .inr (11, [.ref a_kb, .ref a_xP, .ref a_xG, .ref a_xK, .ref a_xR, .ref a_xA, .ref a_xU, .int f_x_imageKept, .int f_x_tablesRead, .int f_x_plansDone, .int f_x_safesDone])), (a_xP, .inr (7, [.ref a_xPl, .int f_xP_size])), (a_xPl, .inl (xI X, 34, .inl v_xPl))] hB (c_X7_isFull X l a_xP a_xPl f_xP_size v_xPl u_3 hu_3) wq_2_40 wq_1_7 wq_2_37 wq_2_38 wq_2_39 hd_X7_isFull (by decide) hP hD hS hl.1 [1, 2] [0] [(a_x, .inr (11, [.ref a_kb, .ref a_xP, .ref a_xG, .ref a_xK, .ref a_xR, .ref a_xA, .ref a_xU, .int f_x_imageKept, .int f_x_tablesRead, .int f_x_plansDone, .int f_x_safesDone]))] rfl (by decide +kernel) rfl rfl rfl (nn := 3) rfl (by decide +kernel) [a_x, a_xP, a_xPl] rfl rfl (q0 := 1) rfl rfl rfl rfl (Nat.le_of_ble_eq_true rfl) dX11_letter_17 ⟨Nat.zero_le _, Nat.zero_le _⟩ (fun H locs hP hD hS => ?_)
    refine lv_if_eq (tgt := 26) hx hb dX11_letter_20 (by decide) (fun c_4 => ?_) (fun c_4 => ?_)
    · replace h := it_p c_4 h
      refine lv_aload_n hx hb dX11_letter_26 rfl (lv_at hl 0 rfl) ?_
      refine va_get (D := xD X) (ci := 11) (v := .ref a_xP) (C := RX11) (T := TX11) (N := 11) hx hb hts inX11 hown hK hP 0 rfl rfl 1 (by decide) (hts _ wq_1_237) (fun _ h9 => h9) rfl dX11_letter_27 ?_
      refine lv_iload_n hx hb dX11_letter_30 rfl (lv_at hl 1 rfl) ?_
      obtain ⟨u_5, hu_5, h⟩ := ob_s h
      refine cVv (C := RX7) (As := [.int p1]) (rest := []) [(a_x, .inr (11, [.ref a_kb, .ref a_xP, .ref a_xG, .ref a_xK, .ref a_xR, .ref a_xA, .ref a_xU, .int f_x_imageKept, .int f_x_tablesRead, .int f_x_plansDone, .int f_x_safesDone])), (a_xP, .inr (7, [.ref a_xPl, .int u_5.1])), (a_xPl, .inl (xI X, 34, .inl u_5.2))] hB (c_X7_append X l a_xP a_xPl f_xP_size v_xPl p1 u_5 hu_5) wq_2_44 wq_1_7 wq_2_41 wq_2_42 wq_2_43 hd_X7_append (by decide) hP hD hS hl.1 [1, 2] [0] [(a_x, .inr (11, [.ref a_kb, .ref a_xP, .ref a_xG, .ref a_xK, .ref a_xR, .ref a_xA, .ref a_xU, .int f_x_imageKept, .int f_x_tablesRead, .int f_x_plansDone, .int f_x_safesDone]))] rfl (by decide +kernel) rfl rfl rfl (nn := 3) rfl (by decide +kernel) [a_x, a_xP, a_xPl] rfl rfl (q0 := 1) rfl rfl rfl rfl (Nat.le_of_ble_eq_true rfl) dX11_letter_31 ⟨Nat.zero_le _, Nat.zero_le _⟩ (fun H locs hP hD hS => ?_)
      refine lv_aload_n hx hb dX11_letter_34 rfl (lv_at hl 0 rfl) ?_
      refine va_get (D := xD X) (ci := 11) (v := .ref a_xP) (C := RX11) (T := TX11) (N := 11) hx hb hts inX11 hown hK hP 0 rfl rfl 1 (by decide) (hts _ wq_1_237) (fun _ h9 => h9) rfl dX11_letter_35 ?_
      refine va_getN (D := xD X) (ci := 7) (v := .int u_5.1) (C := RX7) (T := TX7) (N := 2) hx hb hts inX7 hown hK hP 1 rfl rfl 1 (by decide) (va_Nw.use rfl (hcx.2.1 _ wq_1_75)) (fun _ h9 => h9) rfl dX11_letter_38 ?_
      obtain rfl := Option.some.inj h
      rw [← hQ]
      exact retI hB hS hP dX11_letter_41
    · replace h := it_n c_4 h
      refine lv_bipush (v := (-104)) hx hb dX11_letter_23 (by decide) ?_
      obtain rfl := Option.some.inj h
      rw [← hQ]
      exact retI hB hS hP dX11_letter_25
  · replace h := it_p c_2 h
    refine lv_bipush (v := (-102)) hx hb dX11_letter_10 (by decide) ?_
    obtain rfl := Option.some.inj h
    rw [← hQ]
    exact retI hB hS hP dX11_letter_12


def f_X11_blank (f_xP_size : Int32) : Option (Int32 × Int32) :=
  (some (f_xP_size, 0))
theorem hd_X11_blank : yX11_blank.cls ≠ "java/lang/invoke/MethodHandle" ∧ yX11_blank.cls ≠ "java/lang/invoke/VarHandle" ∧ (parseMethodDescriptor yX11_blank.desc).map (fun d => d.parameters.length) = some 0 := ⟨by decide +kernel, by decide +kernel, by decide +kernel⟩
set_option maxHeartbeats 4000000 in
set_option maxRecDepth 100000 in
theorem c_X11_blank (X : CXp) (l : Launch) (a_x a_kb a_xP a_xPl a_xG a_xK a_xR a_xA a_xU : Nat) (f_x_imageKept : Int32) (f_x_tablesRead : Int32) (f_x_plansDone : Int32) (f_x_safesDone : Int32) (f_xP_size : Int32) (res : Int32 × Int32) (h : f_X11_blank f_xP_size = some res) : CTg X l yX11_blank cX11_blank 2 (some .int) 0 0 [.ref a_x] [(a_x, .inr (11, [.ref a_kb, .ref a_xP, .ref a_xG, .ref a_xK, .ref a_xR, .ref a_xA, .ref a_xU, .int f_x_imageKept, .int f_x_tablesRead, .int f_x_plansDone, .int f_x_safesDone])), (a_xP, .inr (7, [.ref a_xPl, .int f_xP_size]))] (QcI X res.1 [(a_x, .inr (11, [.ref a_kb, .ref a_xP, .ref a_xG, .ref a_xK, .ref a_xR, .ref a_xA, .ref a_xU, .int f_x_imageKept, .int f_x_tablesRead, .int f_x_plansDone, .int f_x_safesDone])), (a_xP, .inr (7, [.ref a_xPl, .int res.2]))]) := by
  refine CTg.mk (own := RX11) (by decide) rfl (Nat.le_of_ble_eq_true rfl) ?_
  intro p e s m args below meth c A hB hP hD hS ls hl
  obtain ⟨hx, hb, hr, hml, hown, hts, hlocks, hcx, hA, hAB⟩ := id hB
  have hK := hcx.1
  generalize hQ : MQ below (QcI X res.1 [(a_x, .inr (11, [.ref a_kb, .ref a_xP, .ref a_xG, .ref a_xK, .ref a_xR, .ref a_xA, .ref a_xU, .int f_x_imageKept, .int f_x_tablesRead, .int f_x_plansDone, .int f_x_safesDone])), (a_xP, .inr (7, [.ref a_xPl, .int res.2]))] A) args s 0 0 A = Q
  replace hl : lv_has ls 2 [(0, .ref a_x)] := hl
  unfold f_X11_blank at h
  refine lv_aload_n hx hb dX11_blank_0 rfl (lv_at hl 0 rfl) ?_
  refine va_get (D := xD X) (ci := 11) (v := .ref a_xP) (C := RX11) (T := TX11) (N := 11) hx hb hts inX11 hown hK hP 0 rfl rfl 1 (by decide) (hts _ wq_1_237) (fun _ h9 => h9) rfl dX11_blank_1 ?_
  refine va_getN (D := xD X) (ci := 7) (v := .int f_xP_size) (C := RX7) (T := TX7) (N := 2) hx hb hts inX7 hown hK hP 1 rfl rfl 1 (by decide) (va_Nw.use rfl (hcx.2.1 _ wq_1_75)) (fun _ h9 => h9) rfl dX11_blank_4 ?_
  refine lv_istore_n (lv' := [(1, .int f_xP_size), (0, .ref a_x)]) hx hb dX11_blank_7 rfl hl (by decide) rfl (fun ls hl => ?_)
  refine lv_aload_n hx hb dX11_blank_8 rfl (lv_at hl 1 rfl) ?_
  refine va_get (D := xD X) (ci := 11) (v := .ref a_xP) (C := RX11) (T := TX11) (N := 11) hx hb hts inX11 hown hK hP 0 rfl rfl 1 (by decide) (hts _ wq_1_237) (fun _ h9 => h9) rfl dX11_blank_9 ?_
  refine lv_iconst (v := 0) hx hb dX11_blank_12 (by decide) ?_
  refine va_putN (D := xD X) (ci := 7) (v := .int 0) (ty := .int) (C := RX7) (T := TX7) (N := 2) hx hb hts inX7 tyX7 tyX7_ok nmX7 hown hK hP hD hS 1 rfl rfl 1 (by decide) (va_Nw.use rfl (hcx.2.1 _ wq_1_75)) (fun _ h9 => h9) rfl (by decide +kernel) rfl rfl (Nat.le_of_ble_eq_true rfl) dX11_blank_13 (fun H locs (hP : va_P (xD X) vwCl [(a_x, .inr (11, [.ref a_kb, .ref a_xP, .ref a_xG, .ref a_xK, .ref a_xR, .ref a_xA, .ref a_xU, .int f_x_imageKept, .int f_x_tablesRead, .int f_x_plansDone, .int f_x_safesDone])), (a_xP, .inr (7, [.ref a_xPl, .int 0]))] H) (hD : va_D A [(a_x, .inr (11, [.ref a_kb, .ref a_xP, .ref a_xG, .ref a_xK, .ref a_xR, .ref a_xA, .ref a_xU, .int f_x_imageKept, .int f_x_tablesRead, .int f_x_plansDone, .int f_x_safesDone])), (a_xP, .inr (7, [.ref a_xPl, .int 0]))]) hS => ?_)
  refine lv_iload_n hx hb dX11_blank_16 rfl (lv_at hl 0 rfl) ?_
  obtain rfl := Option.some.inj h
  rw [← hQ]
  exact retI hB hS hP dX11_blank_17


def f_X11_fault (n : Nat) (f_xP_size : Int32) (v_xPl : Nat → Int32) : Option (Int32) :=
  ((f_X7_firstFault n f_xP_size v_xPl).bind (fun u_1 => (some u_1)))
theorem hd_X11_fault : yX11_fault.cls ≠ "java/lang/invoke/MethodHandle" ∧ yX11_fault.cls ≠ "java/lang/invoke/VarHandle" ∧ (parseMethodDescriptor yX11_fault.desc).map (fun d => d.parameters.length) = some 0 := ⟨by decide +kernel, by decide +kernel, by decide +kernel⟩
set_option maxHeartbeats 4000000 in
set_option maxRecDepth 100000 in
theorem c_X11_fault (X : CXp) (l : Launch) (n : Nat) (a_x a_kb a_xP a_xPl a_xG a_xK a_xR a_xA a_xU : Nat) (f_x_imageKept : Int32) (f_x_tablesRead : Int32) (f_x_plansDone : Int32) (f_x_safesDone : Int32) (f_xP_size : Int32) (v_xPl : Nat → Int32) (res : Int32) (h : f_X11_fault n f_xP_size v_xPl = some res) : CTg X l yX11_fault cX11_fault 1 (some .int) 6 133 [.ref a_x] [(a_x, .inr (11, [.ref a_kb, .ref a_xP, .ref a_xG, .ref a_xK, .ref a_xR, .ref a_xA, .ref a_xU, .int f_x_imageKept, .int f_x_tablesRead, .int f_x_plansDone, .int f_x_safesDone])), (a_xP, .inr (7, [.ref a_xPl, .int f_xP_size])), (a_xPl, .inl (xI X, 34, .inl v_xPl))] (QcI X res [(a_x, .inr (11, [.ref a_kb, .ref a_xP, .ref a_xG, .ref a_xK, .ref a_xR, .ref a_xA, .ref a_xU, .int f_x_imageKept, .int f_x_tablesRead, .int f_x_plansDone, .int f_x_safesDone])), (a_xP, .inr (7, [.ref a_xPl, .int f_xP_size])), (a_xPl, .inl (xI X, 34, .inl v_xPl))]) := by
  refine CTg.mk (own := RX11) (by decide) rfl (Nat.le_of_ble_eq_true rfl) ?_
  intro p e s m args below meth c A hB hP hD hS ls hl
  obtain ⟨hx, hb, hr, hml, hown, hts, hlocks, hcx, hA, hAB⟩ := id hB
  have hK := hcx.1
  generalize hQ : MQ below (QcI X res [(a_x, .inr (11, [.ref a_kb, .ref a_xP, .ref a_xG, .ref a_xK, .ref a_xR, .ref a_xA, .ref a_xU, .int f_x_imageKept, .int f_x_tablesRead, .int f_x_plansDone, .int f_x_safesDone])), (a_xP, .inr (7, [.ref a_xPl, .int f_xP_size])), (a_xPl, .inl (xI X, 34, .inl v_xPl))] A) args s 0 0 A = Q
  replace hl : lv_has ls 1 [(0, .ref a_x)] := hl
  unfold f_X11_fault at h
  refine lv_aload_n hx hb dX11_fault_0 rfl (lv_at hl 0 rfl) ?_
  refine va_get (D := xD X) (ci := 11) (v := .ref a_xP) (C := RX11) (T := TX11) (N := 11) hx hb hts inX11 hown hK hP 0 rfl rfl 1 (by decide) (hts _ wq_1_237) (fun _ h9 => h9) rfl dX11_fault_1 ?_
  obtain ⟨u_1, hu_1, h⟩ := ob_s h
  refine cVi (C := RX7) (As := []) (rest := []) [(a_x, .inr (11, [.ref a_kb, .ref a_xP, .ref a_xG, .ref a_xK, .ref a_xR, .ref a_xA, .ref a_xU, .int f_x_imageKept, .int f_x_tablesRead, .int f_x_plansDone, .int f_x_safesDone])), (a_xP, .inr (7, [.ref a_xPl, .int f_xP_size])), (a_xPl, .inl (xI X, 34, .inl v_xPl))] hB (c_X7_firstFault X l n a_xP a_xPl f_xP_size v_xPl u_1 hu_1) wq_2_57 wq_1_7 wq_2_54 wq_2_55 wq_2_56 hd_X7_firstFault (by decide) hP hD hS hl.1 [1, 2] [0] [(a_x, .inr (11, [.ref a_kb, .ref a_xP, .ref a_xG, .ref a_xK, .ref a_xR, .ref a_xA, .ref a_xU, .int f_x_imageKept, .int f_x_tablesRead, .int f_x_plansDone, .int f_x_safesDone]))] rfl (by decide +kernel) rfl rfl rfl (nn := 3) rfl (by decide +kernel) [a_x, a_xP, a_xPl] rfl rfl (q0 := 1) rfl rfl rfl rfl (Nat.le_of_ble_eq_true rfl) dX11_fault_4 ⟨Nat.zero_le _, Nat.zero_le _⟩ (fun H locs hP hD hS => ?_)
  obtain rfl := Option.some.inj h
  rw [← hQ]
  exact retI hB hS hP dX11_fault_7


def f_X11_table (n : Nat) (f_x_imageKept : Int32) (f_x_tablesRead : Int32) (f_xP_size : Int32) (v_xPl : Nat → Int32) (f_xG_seen : Int32) (f_xG_score : Int32) (f_xG_strokes : Int32) (f_xG_fouls : Int32) (f_xGT_taken : Int64) (f_xGT_size : Int32) (f_xGT_spot : Int32) (v_xGTc : Nat → Int32) (v_xGTk : Nat → Int32) (v_xGTw : Nat → Int32) : Option (Int32 × Int32 × Int32 × Int32 × Int32 × Int32 × Int32 × Int32 × Int64 × Int32 × Int32 × (Nat → Int32) × (Nat → Int32) × (Nat → Int32)) :=
  ((f_X7_isWhole n f_xP_size v_xPl).bind (fun u_1 => (if u_1 = 0 then (some ((-103), f_x_imageKept, f_x_tablesRead, f_xP_size, f_xG_seen, f_xG_score, f_xG_strokes, f_xG_fouls, f_xGT_taken, f_xGT_size, f_xGT_spot, v_xGTc, v_xGTk, v_xGTw)) else ((f_X3_clear n f_xG_seen f_xG_score f_xG_strokes f_xG_fouls f_xGT_taken v_xGTc).bind (fun u_3 => ((f_X7_readInto n f_xP_size v_xPl u_3.2.2.2.2.1 f_xGT_size f_xGT_spot u_3.2.2.2.2.2 v_xGTk v_xGTw).bind (fun u_4 => (some (u_4.2.1, 0, (f_x_tablesRead + 1), 0, u_3.1, u_3.2.1, u_3.2.2.1, u_3.2.2.2.1, u_4.1, u_4.2.1, u_4.2.2.1, u_4.2.2.2.1, u_4.2.2.2.2.1, u_4.2.2.2.2.2)))))))))
theorem hd_X11_table : yX11_table.cls ≠ "java/lang/invoke/MethodHandle" ∧ yX11_table.cls ≠ "java/lang/invoke/VarHandle" ∧ (parseMethodDescriptor yX11_table.desc).map (fun d => d.parameters.length) = some 0 := ⟨by decide +kernel, by decide +kernel, by decide +kernel⟩
set_option maxHeartbeats 4000000 in
set_option maxRecDepth 100000 in
theorem c_X11_table (X : CXp) (l : Launch) (n : Nat) (a_x a_kb a_xP a_xPl a_xG a_xGT a_xGTc a_xGTk a_xGTw a_xGb a_xGd a_xGe a_xGf a_xK a_xR a_xA a_xU : Nat) (f_x_imageKept : Int32) (f_x_tablesRead : Int32) (f_x_plansDone : Int32) (f_x_safesDone : Int32) (f_xP_size : Int32) (v_xPl : Nat → Int32) (f_xG_seen : Int32) (f_xG_score : Int32) (f_xG_strokes : Int32) (f_xG_fouls : Int32) (f_xGT_taken : Int64) (f_xGT_size : Int32) (f_xGT_spot : Int32) (v_xGTc : Nat → Int32) (v_xGTk : Nat → Int32) (v_xGTw : Nat → Int32) (res : Int32 × Int32 × Int32 × Int32 × Int32 × Int32 × Int32 × Int32 × Int64 × Int32 × Int32 × (Nat → Int32) × (Nat → Int32) × (Nat → Int32)) (h : f_X11_table n f_x_imageKept f_x_tablesRead f_xP_size v_xPl f_xG_seen f_xG_score f_xG_strokes f_xG_fouls f_xGT_taken f_xGT_size f_xGT_spot v_xGTc v_xGTk v_xGTw = some res) : CTg X l yX11_table cX11_table 1 (some .int) 7 153 [.ref a_x] [(a_x, .inr (11, [.ref a_kb, .ref a_xP, .ref a_xG, .ref a_xK, .ref a_xR, .ref a_xA, .ref a_xU, .int f_x_imageKept, .int f_x_tablesRead, .int f_x_plansDone, .int f_x_safesDone])), (a_xP, .inr (7, [.ref a_xPl, .int f_xP_size])), (a_xPl, .inl (xI X, 34, .inl v_xPl)), (a_xG, .inr (3, [.ref a_xGT, .ref a_xGb, .ref a_xGd, .ref a_xGe, .ref a_xGf, .int f_xG_seen, .int f_xG_score, .int f_xG_strokes, .int f_xG_fouls])), (a_xGT, .inr (10, [.ref a_xGTc, .ref a_xGTk, .ref a_xGTw, .long f_xGT_taken, .int f_xGT_size, .int f_xGT_spot])), (a_xGTc, .inl (xI X, 7, .inl v_xGTc)), (a_xGTk, .inl (xI X, 7, .inl v_xGTk)), (a_xGTw, .inl (xI X, 7, .inl v_xGTw))] (QcI X res.1 [(a_x, .inr (11, [.ref a_kb, .ref a_xP, .ref a_xG, .ref a_xK, .ref a_xR, .ref a_xA, .ref a_xU, .int res.2.1, .int res.2.2.1, .int f_x_plansDone, .int f_x_safesDone])), (a_xP, .inr (7, [.ref a_xPl, .int res.2.2.2.1])), (a_xPl, .inl (xI X, 34, .inl v_xPl)), (a_xG, .inr (3, [.ref a_xGT, .ref a_xGb, .ref a_xGd, .ref a_xGe, .ref a_xGf, .int res.2.2.2.2.1, .int res.2.2.2.2.2.1, .int res.2.2.2.2.2.2.1, .int res.2.2.2.2.2.2.2.1])), (a_xGT, .inr (10, [.ref a_xGTc, .ref a_xGTk, .ref a_xGTw, .long res.2.2.2.2.2.2.2.2.1, .int res.2.2.2.2.2.2.2.2.2.1, .int res.2.2.2.2.2.2.2.2.2.2.1])), (a_xGTc, .inl (xI X, 7, .inl res.2.2.2.2.2.2.2.2.2.2.2.1)), (a_xGTk, .inl (xI X, 7, .inl res.2.2.2.2.2.2.2.2.2.2.2.2.1)), (a_xGTw, .inl (xI X, 7, .inl res.2.2.2.2.2.2.2.2.2.2.2.2.2))]) := by
  refine CTg.mk (own := RX11) (by decide) rfl (Nat.le_of_ble_eq_true rfl) ?_
  intro p e s m args below meth c A hB hP hD hS ls hl
  obtain ⟨hx, hb, hr, hml, hown, hts, hlocks, hcx, hA, hAB⟩ := id hB
  have hK := hcx.1
  generalize hQ : MQ below (QcI X res.1 [(a_x, .inr (11, [.ref a_kb, .ref a_xP, .ref a_xG, .ref a_xK, .ref a_xR, .ref a_xA, .ref a_xU, .int res.2.1, .int res.2.2.1, .int f_x_plansDone, .int f_x_safesDone])), (a_xP, .inr (7, [.ref a_xPl, .int res.2.2.2.1])), (a_xPl, .inl (xI X, 34, .inl v_xPl)), (a_xG, .inr (3, [.ref a_xGT, .ref a_xGb, .ref a_xGd, .ref a_xGe, .ref a_xGf, .int res.2.2.2.2.1, .int res.2.2.2.2.2.1, .int res.2.2.2.2.2.2.1, .int res.2.2.2.2.2.2.2.1])), (a_xGT, .inr (10, [.ref a_xGTc, .ref a_xGTk, .ref a_xGTw, .long res.2.2.2.2.2.2.2.2.1, .int res.2.2.2.2.2.2.2.2.2.1, .int res.2.2.2.2.2.2.2.2.2.2.1])), (a_xGTc, .inl (xI X, 7, .inl res.2.2.2.2.2.2.2.2.2.2.2.1)), (a_xGTk, .inl (xI X, 7, .inl res.2.2.2.2.2.2.2.2.2.2.2.2.1)), (a_xGTw, .inl (xI X, 7, .inl res.2.2.2.2.2.2.2.2.2.2.2.2.2))] A) args s 0 0 A = Q
  replace hl : lv_has ls 1 [(0, .ref a_x)] := hl
  unfold f_X11_table at h
  refine lv_aload_n hx hb dX11_table_0 rfl (lv_at hl 0 rfl) ?_
  refine va_get (D := xD X) (ci := 11) (v := .ref a_xP) (C := RX11) (T := TX11) (N := 11) hx hb hts inX11 hown hK hP 0 rfl rfl 1 (by decide) (hts _ wq_1_237) (fun _ h9 => h9) rfl dX11_table_1 ?_
  obtain ⟨u_1, hu_1, h⟩ := ob_s h
  refine cVi (C := RX7) (As := []) (rest := []) [(a_x, .inr (11, [.ref a_kb, .ref a_xP, .ref a_xG, .ref a_xK, .ref a_xR, .ref a_xA, .ref a_xU, .int f_x_imageKept, .int f_x_tablesRead, .int f_x_plansDone, .int f_x_safesDone])), (a_xP, .inr (7, [.ref a_xPl, .int f_xP_size])), (a_xPl, .inl (xI X, 34, .inl v_xPl)), (a_xG, .inr (3, [.ref a_xGT, .ref a_xGb, .ref a_xGd, .ref a_xGe, .ref a_xGf, .int f_xG_seen, .int f_xG_score, .int f_xG_strokes, .int f_xG_fouls])), (a_xGT, .inr (10, [.ref a_xGTc, .ref a_xGTk, .ref a_xGTw, .long f_xGT_taken, .int f_xGT_size, .int f_xGT_spot])), (a_xGTc, .inl (xI X, 7, .inl v_xGTc)), (a_xGTk, .inl (xI X, 7, .inl v_xGTk)), (a_xGTw, .inl (xI X, 7, .inl v_xGTw))] hB (c_X7_isWhole X l n a_xP a_xPl f_xP_size v_xPl u_1 hu_1) wq_2_183 wq_1_7 wq_2_180 wq_2_181 wq_2_182 hd_X7_isWhole (by decide) hP hD hS hl.1 [1, 2] [0, 3, 4, 5, 6, 7] [(a_x, .inr (11, [.ref a_kb, .ref a_xP, .ref a_xG, .ref a_xK, .ref a_xR, .ref a_xA, .ref a_xU, .int f_x_imageKept, .int f_x_tablesRead, .int f_x_plansDone, .int f_x_safesDone])), (a_xG, .inr (3, [.ref a_xGT, .ref a_xGb, .ref a_xGd, .ref a_xGe, .ref a_xGf, .int f_xG_seen, .int f_xG_score, .int f_xG_strokes, .int f_xG_fouls])), (a_xGT, .inr (10, [.ref a_xGTc, .ref a_xGTk, .ref a_xGTw, .long f_xGT_taken, .int f_xGT_size, .int f_xGT_spot])), (a_xGTc, .inl (xI X, 7, .inl v_xGTc)), (a_xGTk, .inl (xI X, 7, .inl v_xGTk)), (a_xGTw, .inl (xI X, 7, .inl v_xGTw))] rfl (by decide +kernel) rfl rfl rfl (nn := 8) rfl (by decide +kernel) [a_x, a_xP, a_xPl, a_xG, a_xGT, a_xGTc, a_xGTk, a_xGTw] rfl rfl (q0 := 1) rfl rfl rfl rfl (Nat.le_of_ble_eq_true rfl) dX11_table_4 ⟨Nat.zero_le _, Nat.zero_le _⟩ (fun H locs hP hD hS => ?_)
  refine lv_if_ne (tgt := 13) hx hb dX11_table_7 (by decide) (fun c_2 => ?_) (fun c_2 => ?_)
  · replace h := it_n c_2 h
    refine lv_aload_n hx hb dX11_table_13 rfl (lv_at hl 0 rfl) ?_
    refine va_get (D := xD X) (ci := 11) (v := .ref a_xG) (C := RX11) (T := TX11) (N := 11) hx hb hts inX11 hown hK hP 0 rfl rfl 2 (by decide) (hts _ wq_1_238) (fun _ h9 => h9) rfl dX11_table_14 ?_
    obtain ⟨u_3, hu_3, h⟩ := ob_s h
    refine cVv (C := RX3) (As := []) (rest := []) [(a_x, .inr (11, [.ref a_kb, .ref a_xP, .ref a_xG, .ref a_xK, .ref a_xR, .ref a_xA, .ref a_xU, .int f_x_imageKept, .int f_x_tablesRead, .int f_x_plansDone, .int f_x_safesDone])), (a_xP, .inr (7, [.ref a_xPl, .int f_xP_size])), (a_xPl, .inl (xI X, 34, .inl v_xPl)), (a_xG, .inr (3, [.ref a_xGT, .ref a_xGb, .ref a_xGd, .ref a_xGe, .ref a_xGf, .int u_3.1, .int u_3.2.1, .int u_3.2.2.1, .int u_3.2.2.2.1])), (a_xGT, .inr (10, [.ref a_xGTc, .ref a_xGTk, .ref a_xGTw, .long u_3.2.2.2.2.1, .int f_xGT_size, .int f_xGT_spot])), (a_xGTc, .inl (xI X, 7, .inl u_3.2.2.2.2.2)), (a_xGTk, .inl (xI X, 7, .inl v_xGTk)), (a_xGTw, .inl (xI X, 7, .inl v_xGTw))] hB (c_X3_clear X l n a_xG a_xGT a_xGTc a_xGTk a_xGTw a_xGb a_xGd a_xGe a_xGf f_xG_seen f_xG_score f_xG_strokes f_xG_fouls f_xGT_taken f_xGT_size f_xGT_spot v_xGTc u_3 hu_3) wq_2_188 wq_1_8 wq_2_185 wq_2_186 wq_2_187 hd_X3_clear (by decide) hP hD hS hl.1 [3, 4, 5] [0, 1, 2, 6, 7] [(a_x, .inr (11, [.ref a_kb, .ref a_xP, .ref a_xG, .ref a_xK, .ref a_xR, .ref a_xA, .ref a_xU, .int f_x_imageKept, .int f_x_tablesRead, .int f_x_plansDone, .int f_x_safesDone])), (a_xP, .inr (7, [.ref a_xPl, .int f_xP_size])), (a_xPl, .inl (xI X, 34, .inl v_xPl)), (a_xGTk, .inl (xI X, 7, .inl v_xGTk)), (a_xGTw, .inl (xI X, 7, .inl v_xGTw))] rfl (by decide +kernel) rfl rfl rfl (nn := 8) rfl (by decide +kernel) [a_x, a_xP, a_xPl, a_xG, a_xGT, a_xGTc, a_xGTk, a_xGTw] rfl rfl (q0 := 3) rfl rfl rfl rfl (Nat.le_of_ble_eq_true rfl) dX11_table_17 ⟨Nat.zero_le _, Nat.zero_le _⟩ (fun H locs hP hD hS => ?_)
    refine lv_aload_n hx hb dX11_table_20 rfl (lv_at hl 0 rfl) ?_
    refine va_get (D := xD X) (ci := 11) (v := .ref a_xP) (C := RX11) (T := TX11) (N := 11) hx hb hts inX11 hown hK hP 0 rfl rfl 1 (by decide) (hts _ wq_1_237) (fun _ h9 => h9) rfl dX11_table_21 ?_
    refine lv_aload_n hx hb dX11_table_24 rfl (lv_at hl 0 rfl) ?_
    refine va_get (D := xD X) (ci := 11) (v := .ref a_xG) (C := RX11) (T := TX11) (N := 11) hx hb hts inX11 hown hK hP 0 rfl rfl 2 (by decide) (hts _ wq_1_238) (fun _ h9 => h9) rfl dX11_table_25 ?_
    refine va_getN (D := xD X) (ci := 3) (v := .ref a_xGT) (C := RX3) (T := TX3) (N := 9) hx hb hts inX3 hown hK hP 3 rfl rfl 0 (by decide) (va_Nw.use rfl (hcx.2.1 _ wq_1_122)) (fun _ h9 => h9) rfl dX11_table_28 ?_
    obtain ⟨u_4, hu_4, h⟩ := ob_s h
    refine cVv (C := RX7) (As := [.ref a_xGT]) (rest := []) [(a_x, .inr (11, [.ref a_kb, .ref a_xP, .ref a_xG, .ref a_xK, .ref a_xR, .ref a_xA, .ref a_xU, .int f_x_imageKept, .int f_x_tablesRead, .int f_x_plansDone, .int f_x_safesDone])), (a_xP, .inr (7, [.ref a_xPl, .int f_xP_size])), (a_xPl, .inl (xI X, 34, .inl v_xPl)), (a_xG, .inr (3, [.ref a_xGT, .ref a_xGb, .ref a_xGd, .ref a_xGe, .ref a_xGf, .int u_3.1, .int u_3.2.1, .int u_3.2.2.1, .int u_3.2.2.2.1])), (a_xGT, .inr (10, [.ref a_xGTc, .ref a_xGTk, .ref a_xGTw, .long u_4.1, .int u_4.2.1, .int u_4.2.2.1])), (a_xGTc, .inl (xI X, 7, .inl u_4.2.2.2.1)), (a_xGTk, .inl (xI X, 7, .inl u_4.2.2.2.2.1)), (a_xGTw, .inl (xI X, 7, .inl u_4.2.2.2.2.2))] hB (c_X7_readInto X l n a_xP a_xPl a_xGT a_xGTc a_xGTk a_xGTw f_xP_size v_xPl u_3.2.2.2.2.1 f_xGT_size f_xGT_spot u_3.2.2.2.2.2 v_xGTk v_xGTw u_4 hu_4) wq_2_196 wq_1_7 wq_2_193 wq_2_194 wq_2_195 hd_X7_readInto (by decide) hP hD hS hl.1 [1, 2, 4, 5, 6, 7] [0, 3] [(a_x, .inr (11, [.ref a_kb, .ref a_xP, .ref a_xG, .ref a_xK, .ref a_xR, .ref a_xA, .ref a_xU, .int f_x_imageKept, .int f_x_tablesRead, .int f_x_plansDone, .int f_x_safesDone])), (a_xG, .inr (3, [.ref a_xGT, .ref a_xGb, .ref a_xGd, .ref a_xGe, .ref a_xGf, .int u_3.1, .int u_3.2.1, .int u_3.2.2.1, .int u_3.2.2.2.1]))] rfl (by decide +kernel) rfl rfl rfl (nn := 8) rfl (by decide +kernel) [a_x, a_xP, a_xPl, a_xG, a_xGT, a_xGTc, a_xGTk, a_xGTw] rfl rfl (q0 := 1) rfl rfl rfl rfl (Nat.le_of_ble_eq_true rfl) dX11_table_31 ⟨Nat.zero_le _, Nat.zero_le _⟩ (fun H locs hP hD hS => ?_)
    refine lv_aload_n hx hb dX11_table_34 rfl (lv_at hl 0 rfl) ?_
    refine va_get (D := xD X) (ci := 11) (v := .ref a_xP) (C := RX11) (T := TX11) (N := 11) hx hb hts inX11 hown hK hP 0 rfl rfl 1 (by decide) (hts _ wq_1_237) (fun _ h9 => h9) rfl dX11_table_35 ?_
    refine lv_iconst (v := 0) hx hb dX11_table_38 (by decide) ?_
    refine va_putN (D := xD X) (ci := 7) (v := .int 0) (ty := .int) (C := RX7) (T := TX7) (N := 2) hx hb hts inX7 tyX7 tyX7_ok nmX7 hown hK hP hD hS 1 rfl rfl 1 (by decide) (va_Nw.use rfl (hcx.2.1 _ wq_1_75)) (fun _ h9 => h9) rfl (by decide +kernel) rfl rfl (Nat.le_of_ble_eq_true rfl) dX11_table_39 (fun H locs (hP : va_P (xD X) vwCl [(a_x, .inr (11, [.ref a_kb, .ref a_xP, .ref a_xG, .ref a_xK, .ref a_xR, .ref a_xA, .ref a_xU, .int f_x_imageKept, .int f_x_tablesRead, .int f_x_plansDone, .int f_x_safesDone])), (a_xP, .inr (7, [.ref a_xPl, .int 0])), (a_xPl, .inl (xI X, 34, .inl v_xPl)), (a_xG, .inr (3, [.ref a_xGT, .ref a_xGb, .ref a_xGd, .ref a_xGe, .ref a_xGf, .int u_3.1, .int u_3.2.1, .int u_3.2.2.1, .int u_3.2.2.2.1])), (a_xGT, .inr (10, [.ref a_xGTc, .ref a_xGTk, .ref a_xGTw, .long u_4.1, .int u_4.2.1, .int u_4.2.2.1])), (a_xGTc, .inl (xI X, 7, .inl u_4.2.2.2.1)), (a_xGTk, .inl (xI X, 7, .inl u_4.2.2.2.2.1)), (a_xGTw, .inl (xI X, 7, .inl u_4.2.2.2.2.2))] H) (hD : va_D A [(a_x, .inr (11, [.ref a_kb, .ref a_xP, .ref a_xG, .ref a_xK, .ref a_xR, .ref a_xA, .ref a_xU, .int f_x_imageKept, .int f_x_tablesRead, .int f_x_plansDone, .int f_x_safesDone])), (a_xP, .inr (7, [.ref a_xPl, .int 0])), (a_xPl, .inl (xI X, 34, .inl v_xPl)), (a_xG, .inr (3, [.ref a_xGT, .ref a_xGb, .ref a_xGd, .ref a_xGe, .ref a_xGf, .int u_3.1, .int u_3.2.1, .int u_3.2.2.1, .int u_3.2.2.2.1])), (a_xGT, .inr (10, [.ref a_xGTc, .ref a_xGTk, .ref a_xGTw, .long u_4.1, .int u_4.2.1, .int u_4.2.2.1])), (a_xGTc, .inl (xI X, 7, .inl u_4.2.2.2.1)), (a_xGTk, .inl (xI X, 7, .inl u_4.2.2.2.2.1)), (a_xGTw, .inl (xI X, 7, .inl u_4.2.2.2.2.2))]) hS => ?_)
    refine lv_aload_n hx hb dX11_table_42 rfl (lv_at hl 0 rfl) ?_
    refine lv_iconst (v := 0) hx hb dX11_table_43 (by decide) ?_
    refine va_put (D := xD X) (ci := 11) (v := .int 0) (ty := .boolean) (C := RX11) (T := TX11) (N := 11) hx hb hts inX11 tyX11 tyX11_ok nmX11 hown hK hP hD hS 0 rfl rfl 7 (by decide) (hts _ wq_2_3) (fun _ h9 => h9) rfl (by decide +kernel) rfl rfl (Nat.le_of_ble_eq_true rfl) dX11_table_44 (fun H locs (hP : va_P (xD X) vwCl [(a_x, .inr (11, [.ref a_kb, .ref a_xP, .ref a_xG, .ref a_xK, .ref a_xR, .ref a_xA, .ref a_xU, .int 0, .int f_x_tablesRead, .int f_x_plansDone, .int f_x_safesDone])), (a_xP, .inr (7, [.ref a_xPl, .int 0])), (a_xPl, .inl (xI X, 34, .inl v_xPl)), (a_xG, .inr (3, [.ref a_xGT, .ref a_xGb, .ref a_xGd, .ref a_xGe, .ref a_xGf, .int u_3.1, .int u_3.2.1, .int u_3.2.2.1, .int u_3.2.2.2.1])), (a_xGT, .inr (10, [.ref a_xGTc, .ref a_xGTk, .ref a_xGTw, .long u_4.1, .int u_4.2.1, .int u_4.2.2.1])), (a_xGTc, .inl (xI X, 7, .inl u_4.2.2.2.1)), (a_xGTk, .inl (xI X, 7, .inl u_4.2.2.2.2.1)), (a_xGTw, .inl (xI X, 7, .inl u_4.2.2.2.2.2))] H) (hD : va_D A [(a_x, .inr (11, [.ref a_kb, .ref a_xP, .ref a_xG, .ref a_xK, .ref a_xR, .ref a_xA, .ref a_xU, .int 0, .int f_x_tablesRead, .int f_x_plansDone, .int f_x_safesDone])), (a_xP, .inr (7, [.ref a_xPl, .int 0])), (a_xPl, .inl (xI X, 34, .inl v_xPl)), (a_xG, .inr (3, [.ref a_xGT, .ref a_xGb, .ref a_xGd, .ref a_xGe, .ref a_xGf, .int u_3.1, .int u_3.2.1, .int u_3.2.2.1, .int u_3.2.2.2.1])), (a_xGT, .inr (10, [.ref a_xGTc, .ref a_xGTk, .ref a_xGTw, .long u_4.1, .int u_4.2.1, .int u_4.2.2.1])), (a_xGTc, .inl (xI X, 7, .inl u_4.2.2.2.1)), (a_xGTk, .inl (xI X, 7, .inl u_4.2.2.2.2.1)), (a_xGTw, .inl (xI X, 7, .inl u_4.2.2.2.2.2))]) hS => ?_)
    refine lv_aload_n hx hb dX11_table_47 rfl (lv_at hl 0 rfl) ?_
    refine lv_dup hx hb dX11_table_48 rfl ?_
    refine va_get (D := xD X) (ci := 11) (v := .int f_x_tablesRead) (C := RX11) (T := TX11) (N := 11) hx hb hts inX11 hown hK hP 0 rfl rfl 8 (by decide) (hts _ wq_2_4) (fun _ h9 => h9) rfl dX11_table_49 ?_
    refine lv_iconst (v := 1) hx hb dX11_table_52 (by decide) ?_
    refine lv_iadd hx hb dX11_table_53 ?_
    refine va_put (D := xD X) (ci := 11) (v := .int (f_x_tablesRead + 1)) (ty := .int) (C := RX11) (T := TX11) (N := 11) hx hb hts inX11 tyX11 tyX11_ok nmX11 hown hK hP hD hS 0 rfl rfl 8 (by decide) (hts _ wq_2_4) (fun _ h9 => h9) rfl (by decide +kernel) rfl rfl (Nat.le_of_ble_eq_true rfl) dX11_table_54 (fun H locs (hP : va_P (xD X) vwCl [(a_x, .inr (11, [.ref a_kb, .ref a_xP, .ref a_xG, .ref a_xK, .ref a_xR, .ref a_xA, .ref a_xU, .int 0, .int (f_x_tablesRead + 1), .int f_x_plansDone, .int f_x_safesDone])), (a_xP, .inr (7, [.ref a_xPl, .int 0])), (a_xPl, .inl (xI X, 34, .inl v_xPl)), (a_xG, .inr (3, [.ref a_xGT, .ref a_xGb, .ref a_xGd, .ref a_xGe, .ref a_xGf, .int u_3.1, .int u_3.2.1, .int u_3.2.2.1, .int u_3.2.2.2.1])), (a_xGT, .inr (10, [.ref a_xGTc, .ref a_xGTk, .ref a_xGTw, .long u_4.1, .int u_4.2.1, .int u_4.2.2.1])), (a_xGTc, .inl (xI X, 7, .inl u_4.2.2.2.1)), (a_xGTk, .inl (xI X, 7, .inl u_4.2.2.2.2.1)), (a_xGTw, .inl (xI X, 7, .inl u_4.2.2.2.2.2))] H) (hD : va_D A [(a_x, .inr (11, [.ref a_kb, .ref a_xP, .ref a_xG, .ref a_xK, .ref a_xR, .ref a_xA, .ref a_xU, .int 0, .int (f_x_tablesRead + 1), .int f_x_plansDone, .int f_x_safesDone])), (a_xP, .inr (7, [.ref a_xPl, .int 0])), (a_xPl, .inl (xI X, 34, .inl v_xPl)), (a_xG, .inr (3, [.ref a_xGT, .ref a_xGb, .ref a_xGd, .ref a_xGe, .ref a_xGf, .int u_3.1, .int u_3.2.1, .int u_3.2.2.1, .int u_3.2.2.2.1])), (a_xGT, .inr (10, [.ref a_xGTc, .ref a_xGTk, .ref a_xGTw, .long u_4.1, .int u_4.2.1, .int u_4.2.2.1])), (a_xGTc, .inl (xI X, 7, .inl u_4.2.2.2.1)), (a_xGTk, .inl (xI X, 7, .inl u_4.2.2.2.2.1)), (a_xGTw, .inl (xI X, 7, .inl u_4.2.2.2.2.2))]) hS => ?_)
    refine lv_aload_n hx hb dX11_table_57 rfl (lv_at hl 0 rfl) ?_
    refine va_get (D := xD X) (ci := 11) (v := .ref a_xG) (C := RX11) (T := TX11) (N := 11) hx hb hts inX11 hown hK hP 0 rfl rfl 2 (by decide) (hts _ wq_1_238) (fun _ h9 => h9) rfl dX11_table_58 ?_
    refine va_getN (D := xD X) (ci := 3) (v := .ref a_xGT) (C := RX3) (T := TX3) (N := 9) hx hb hts inX3 hown hK hP 3 rfl rfl 0 (by decide) (va_Nw.use rfl (hcx.2.1 _ wq_1_122)) (fun _ h9 => h9) rfl dX11_table_61 ?_
    refine va_getN (D := xD X) (ci := 10) (v := .int u_4.2.1) (C := RX10) (T := TX10) (N := 6) hx hb hts inX10 hown hK hP 4 rfl rfl 4 (by decide) (va_Nw.use rfl (hcx.2.1 _ wq_1_102)) (fun _ h9 => h9) rfl dX11_table_64 ?_
    obtain rfl := Option.some.inj h
    rw [← hQ]
    exact retI hB hS hP dX11_table_67
  · replace h := it_p c_2 h
    refine lv_bipush (v := (-103)) hx hb dX11_table_10 (by decide) ?_
    obtain rfl := Option.some.inj h
    rw [← hQ]
    exact retI hB hS hP dX11_table_12


def f_X11_hasTable (f_x_tablesRead : Int32) : Option (Int32) :=
  (if f_x_tablesRead ≤ 0 then (some 0) else (some 1))
theorem hd_X11_hasTable : yX11_hasTable.cls ≠ "java/lang/invoke/MethodHandle" ∧ yX11_hasTable.cls ≠ "java/lang/invoke/VarHandle" ∧ (parseMethodDescriptor yX11_hasTable.desc).map (fun d => d.parameters.length) = some 0 := ⟨by decide +kernel, by decide +kernel, by decide +kernel⟩
set_option maxHeartbeats 4000000 in
set_option maxRecDepth 100000 in
theorem c_X11_hasTable (X : CXp) (l : Launch) (a_x a_kb a_xP a_xG a_xK a_xR a_xA a_xU : Nat) (f_x_imageKept : Int32) (f_x_tablesRead : Int32) (f_x_plansDone : Int32) (f_x_safesDone : Int32) (res : Int32) (h : f_X11_hasTable f_x_tablesRead = some res) : CTg X l yX11_hasTable cX11_hasTable 1 (some .boolean) 0 0 [.ref a_x] [(a_x, .inr (11, [.ref a_kb, .ref a_xP, .ref a_xG, .ref a_xK, .ref a_xR, .ref a_xA, .ref a_xU, .int f_x_imageKept, .int f_x_tablesRead, .int f_x_plansDone, .int f_x_safesDone]))] (QcI X res [(a_x, .inr (11, [.ref a_kb, .ref a_xP, .ref a_xG, .ref a_xK, .ref a_xR, .ref a_xA, .ref a_xU, .int f_x_imageKept, .int f_x_tablesRead, .int f_x_plansDone, .int f_x_safesDone]))]) := by
  refine CTg.mk (own := RX11) (by decide) rfl (Nat.le_of_ble_eq_true rfl) ?_
  intro p e s m args below meth c A hB hP hD hS ls hl
  obtain ⟨hx, hb, hr, hml, hown, hts, hlocks, hcx, hA, hAB⟩ := id hB
  have hK := hcx.1
  generalize hQ : MQ below (QcI X res [(a_x, .inr (11, [.ref a_kb, .ref a_xP, .ref a_xG, .ref a_xK, .ref a_xR, .ref a_xA, .ref a_xU, .int f_x_imageKept, .int f_x_tablesRead, .int f_x_plansDone, .int f_x_safesDone]))] A) args s 0 0 A = Q
  replace hl : lv_has ls 1 [(0, .ref a_x)] := hl
  unfold f_X11_hasTable at h
  refine lv_aload_n hx hb dX11_hasTable_0 rfl (lv_at hl 0 rfl) ?_
  refine va_get (D := xD X) (ci := 11) (v := .int f_x_tablesRead) (C := RX11) (T := TX11) (N := 11) hx hb hts inX11 hown hK hP 0 rfl rfl 8 (by decide) (hts _ wq_2_4) (fun _ h9 => h9) rfl dX11_hasTable_1 ?_
  refine lv_if_le (tgt := 11) hx hb dX11_hasTable_4 (by decide) (fun c_1 => ?_) (fun c_1 => ?_)
  · replace h := it_p c_1 h
    refine lv_iconst (v := 0) hx hb dX11_hasTable_11 (by decide) ?_
    obtain rfl := Option.some.inj h
    rw [← hQ]
    exact retZ (r := 0) hB rfl hS hP dX11_hasTable_12
  · replace h := it_n c_1 h
    refine lv_iconst (v := 1) hx hb dX11_hasTable_7 (by decide) ?_
    refine lv_goto (tgt := 12) hx hb dX11_hasTable_8 (by decide) ?_
    obtain rfl := Option.some.inj h
    rw [← hQ]
    exact retZ (r := 1) hB rfl hS hP dX11_hasTable_12


def f_X11_isBall (f_x_tablesRead : Int32) (f_xGT_size : Int32) (p1 : Int32) : Option (Int32) :=
  ((f_X11_hasTable f_x_tablesRead).bind (fun u_1 => (jn ((some 0)) (fun (j29_2 : Option (Int32)) => (if u_1 = 0 then j29_2 else ((f_X11_within p1 0 f_xGT_size).bind (fun u_4 => (if u_4 = 0 then j29_2 else (some 1)))))))))
theorem hd_X11_isBall : yX11_isBall.cls ≠ "java/lang/invoke/MethodHandle" ∧ yX11_isBall.cls ≠ "java/lang/invoke/VarHandle" ∧ (parseMethodDescriptor yX11_isBall.desc).map (fun d => d.parameters.length) = some 1 := ⟨by decide +kernel, by decide +kernel, by decide +kernel⟩
set_option maxHeartbeats 4000000 in
set_option maxRecDepth 100000 in
theorem c_X11_isBall (X : CXp) (l : Launch) (a_x a_kb a_xP a_xG a_xGT a_xGTc a_xGTk a_xGTw a_xGb a_xGd a_xGe a_xGf a_xK a_xR a_xA a_xU : Nat) (f_x_imageKept : Int32) (f_x_tablesRead : Int32) (f_x_plansDone : Int32) (f_x_safesDone : Int32) (f_xG_seen : Int32) (f_xG_score : Int32) (f_xG_strokes : Int32) (f_xG_fouls : Int32) (f_xGT_taken : Int64) (f_xGT_size : Int32) (f_xGT_spot : Int32) (p1 : Int32) (res : Int32) (h : f_X11_isBall f_x_tablesRead f_xGT_size p1 = some res) : CTg X l yX11_isBall cX11_isBall 2 (some .boolean) 1 22 [.ref a_x, .int p1] [(a_x, .inr (11, [.ref a_kb, .ref a_xP, .ref a_xG, .ref a_xK, .ref a_xR, .ref a_xA, .ref a_xU, .int f_x_imageKept, .int f_x_tablesRead, .int f_x_plansDone, .int f_x_safesDone])), (a_xG, .inr (3, [.ref a_xGT, .ref a_xGb, .ref a_xGd, .ref a_xGe, .ref a_xGf, .int f_xG_seen, .int f_xG_score, .int f_xG_strokes, .int f_xG_fouls])), (a_xGT, .inr (10, [.ref a_xGTc, .ref a_xGTk, .ref a_xGTw, .long f_xGT_taken, .int f_xGT_size, .int f_xGT_spot]))] (QcI X res [(a_x, .inr (11, [.ref a_kb, .ref a_xP, .ref a_xG, .ref a_xK, .ref a_xR, .ref a_xA, .ref a_xU, .int f_x_imageKept, .int f_x_tablesRead, .int f_x_plansDone, .int f_x_safesDone])), (a_xG, .inr (3, [.ref a_xGT, .ref a_xGb, .ref a_xGd, .ref a_xGe, .ref a_xGf, .int f_xG_seen, .int f_xG_score, .int f_xG_strokes, .int f_xG_fouls])), (a_xGT, .inr (10, [.ref a_xGTc, .ref a_xGTk, .ref a_xGTw, .long f_xGT_taken, .int f_xGT_size, .int f_xGT_spot]))]) := by
  refine CTg.mk (own := RX11) (by decide) rfl (Nat.le_of_ble_eq_true rfl) ?_
  intro p e s m args below meth c A hB hP hD hS ls hl
  obtain ⟨hx, hb, hr, hml, hown, hts, hlocks, hcx, hA, hAB⟩ := id hB
  have hK := hcx.1
  generalize hQ : MQ below (QcI X res [(a_x, .inr (11, [.ref a_kb, .ref a_xP, .ref a_xG, .ref a_xK, .ref a_xR, .ref a_xA, .ref a_xU, .int f_x_imageKept, .int f_x_tablesRead, .int f_x_plansDone, .int f_x_safesDone])), (a_xG, .inr (3, [.ref a_xGT, .ref a_xGb, .ref a_xGd, .ref a_xGe, .ref a_xGf, .int f_xG_seen, .int f_xG_score, .int f_xG_strokes, .int f_xG_fouls])), (a_xGT, .inr (10, [.ref a_xGTc, .ref a_xGTk, .ref a_xGTw, .long f_xGT_taken, .int f_xGT_size, .int f_xGT_spot]))] A) args s 0 0 A = Q
  replace hl : lv_has ls 2 [(0, .ref a_x), (1, .int p1)] := hl
  unfold f_X11_isBall at h
  refine lv_aload_n hx hb dX11_isBall_0 rfl (lv_at hl 0 rfl) ?_
  obtain ⟨u_1, hu_1, h⟩ := ob_s h
  refine cVi (C := RX11) (As := []) (rest := []) [(a_x, .inr (11, [.ref a_kb, .ref a_xP, .ref a_xG, .ref a_xK, .ref a_xR, .ref a_xA, .ref a_xU, .int f_x_imageKept, .int f_x_tablesRead, .int f_x_plansDone, .int f_x_safesDone])), (a_xG, .inr (3, [.ref a_xGT, .ref a_xGb, .ref a_xGd, .ref a_xGe, .ref a_xGf, .int f_xG_seen, .int f_xG_score, .int f_xG_strokes, .int f_xG_fouls])), (a_xGT, .inr (10, [.ref a_xGTc, .ref a_xGTk, .ref a_xGTw, .long f_xGT_taken, .int f_xGT_size, .int f_xGT_spot]))] hB (c_X11_hasTable X l a_x a_kb a_xP a_xG a_xK a_xR a_xA a_xU f_x_imageKept f_x_tablesRead f_x_plansDone f_x_safesDone u_1 hu_1) wq_2_221 wq_1_1 wq_2_218 wq_2_220 wp_6 hd_X11_hasTable (by decide) hP hD hS hl.1 [0] [1, 2] [(a_xG, .inr (3, [.ref a_xGT, .ref a_xGb, .ref a_xGd, .ref a_xGe, .ref a_xGf, .int f_xG_seen, .int f_xG_score, .int f_xG_strokes, .int f_xG_fouls])), (a_xGT, .inr (10, [.ref a_xGTc, .ref a_xGTk, .ref a_xGTw, .long f_xGT_taken, .int f_xGT_size, .int f_xGT_spot]))] rfl (by decide +kernel) rfl rfl rfl (nn := 3) rfl (by decide +kernel) [a_x, a_xG, a_xGT] rfl rfl (q0 := 0) rfl rfl rfl rfl (Nat.le_of_ble_eq_true rfl) dX11_isBall_1 ⟨Nat.zero_le _, Nat.zero_le _⟩ (fun H locs hP hD hS => ?_)
  obtain ⟨j29_2, ej29_2, h⟩ := jn_s h
  have J29_2 : j29_2 = some res → ∀ (H : Heap) (locs : List Loc) (ls : Array Slot), va_P (xD X) vwCl [(a_x, .inr (11, [.ref a_kb, .ref a_xP, .ref a_xG, .ref a_xK, .ref a_xR, .ref a_xA, .ref a_xU, .int f_x_imageKept, .int f_x_tablesRead, .int f_x_plansDone, .int f_x_safesDone])), (a_xG, .inr (3, [.ref a_xGT, .ref a_xGb, .ref a_xGd, .ref a_xGe, .ref a_xGf, .int f_xG_seen, .int f_xG_score, .int f_xG_strokes, .int f_xG_fouls])), (a_xGT, .inr (10, [.ref a_xGTc, .ref a_xGTk, .ref a_xGTw, .long f_xGT_taken, .int f_xGT_size, .int f_xGT_spot]))] H → va_D A [(a_x, .inr (11, [.ref a_kb, .ref a_xP, .ref a_xG, .ref a_xK, .ref a_xR, .ref a_xA, .ref a_xU, .int f_x_imageKept, .int f_x_tablesRead, .int f_x_plansDone, .int f_x_safesDone])), (a_xG, .inr (3, [.ref a_xGT, .ref a_xGb, .ref a_xGd, .ref a_xGe, .ref a_xGf, .int f_xG_seen, .int f_xG_score, .int f_xG_strokes, .int f_xG_fouls])), (a_xGT, .inr (10, [.ref a_xGTc, .ref a_xGTk, .ref a_xGTw, .long f_xGT_taken, .int f_xGT_size, .int f_xGT_spot]))] → va_S A s.heap H locs → lv_has ls 2 [] → W p l e (rmF 1 22) s m args below meth c H locs 0 0 Q (F0 m 29 ls []) := by
    clear h
    intro h H locs ls hP hD hS hl
    rw [ej29_2] at h
    refine lv_iconst (v := 0) hx hb dX11_isBall_29 (by decide) ?_
    obtain rfl := Option.some.inj h
    rw [← hQ]
    exact retZ (r := 0) hB rfl hS hP dX11_isBall_30
  clear ej29_2
  refine lv_if_eq (tgt := 29) hx hb dX11_isBall_4 (by decide) (fun c_3 => ?_) (fun c_3 => ?_)
  · replace h := it_p c_3 h
    exact J29_2 h _ _ _ hP hD hS (lv_sub hl [] rfl)
  · replace h := it_n c_3 h
    refine lv_iload_n hx hb dX11_isBall_7 rfl (lv_at hl 1 rfl) ?_
    refine lv_iconst (v := 0) hx hb dX11_isBall_8 (by decide) ?_
    refine lv_aload_n hx hb dX11_isBall_9 rfl (lv_at hl 0 rfl) ?_
    refine va_get (D := xD X) (ci := 11) (v := .ref a_xG) (C := RX11) (T := TX11) (N := 11) hx hb hts inX11 hown hK hP 0 rfl rfl 2 (by decide) (hts _ wq_1_238) (fun _ h9 => h9) rfl dX11_isBall_10 ?_
    refine va_getN (D := xD X) (ci := 3) (v := .ref a_xGT) (C := RX3) (T := TX3) (N := 9) hx hb hts inX3 hown hK hP 1 rfl rfl 0 (by decide) (va_Nw.use rfl (hcx.2.1 _ wq_1_122)) (fun _ h9 => h9) rfl dX11_isBall_13 ?_
    refine va_getN (D := xD X) (ci := 10) (v := .int f_xGT_size) (C := RX10) (T := TX10) (N := 6) hx hb hts inX10 hown hK hP 2 rfl rfl 4 (by decide) (va_Nw.use rfl (hcx.2.1 _ wq_1_102)) (fun _ h9 => h9) rfl dX11_isBall_16 ?_
    obtain ⟨u_4, hu_4, h⟩ := ob_s h
    refine cSi (As := [.int p1, .int 0, .int f_xGT_size]) (rest := []) [(a_x, .inr (11, [.ref a_kb, .ref a_xP, .ref a_xG, .ref a_xK, .ref a_xR, .ref a_xA, .ref a_xU, .int f_x_imageKept, .int f_x_tablesRead, .int f_x_plansDone, .int f_x_safesDone])), (a_xG, .inr (3, [.ref a_xGT, .ref a_xGb, .ref a_xGd, .ref a_xGe, .ref a_xGf, .int f_xG_seen, .int f_xG_score, .int f_xG_strokes, .int f_xG_fouls])), (a_xGT, .inr (10, [.ref a_xGTc, .ref a_xGTk, .ref a_xGTw, .long f_xGT_taken, .int f_xGT_size, .int f_xGT_spot]))] hB (c_X11_within X l p1 0 f_xGT_size u_4 hu_4) wq_2_36 wq_1_1 wq_2_34 wq_2_35 hd_X11_within (by decide) hP hD hS hl.1 [] [0, 1, 2] [(a_x, .inr (11, [.ref a_kb, .ref a_xP, .ref a_xG, .ref a_xK, .ref a_xR, .ref a_xA, .ref a_xU, .int f_x_imageKept, .int f_x_tablesRead, .int f_x_plansDone, .int f_x_safesDone])), (a_xG, .inr (3, [.ref a_xGT, .ref a_xGb, .ref a_xGd, .ref a_xGe, .ref a_xGf, .int f_xG_seen, .int f_xG_score, .int f_xG_strokes, .int f_xG_fouls])), (a_xGT, .inr (10, [.ref a_xGTc, .ref a_xGTk, .ref a_xGTw, .long f_xGT_taken, .int f_xGT_size, .int f_xGT_spot]))] rfl (by decide +kernel) rfl rfl rfl (nn := 3) rfl (by decide +kernel) [a_x, a_xG, a_xGT] rfl rfl rfl rfl (Nat.le_of_ble_eq_true rfl) dX11_isBall_19 ⟨Nat.zero_le _, Nat.zero_le _⟩ (fun H locs hP hD hS => ?_)
    refine lv_if_eq (tgt := 29) hx hb dX11_isBall_22 (by decide) (fun c_5 => ?_) (fun c_5 => ?_)
    · replace h := it_p c_5 h
      exact J29_2 h _ _ _ hP hD hS (lv_sub hl [] rfl)
    · replace h := it_n c_5 h
      refine lv_iconst (v := 1) hx hb dX11_isBall_25 (by decide) ?_
      refine lv_goto (tgt := 30) hx hb dX11_isBall_26 (by decide) ?_
      obtain rfl := Option.some.inj h
      rw [← hQ]
      exact retZ (r := 1) hB rfl hS hP dX11_isBall_30


def f_X11_isOfKind (p1 : Int32) (p2 : Int32) : Option (Int32) :=
  (jn ((if p2 = 0 then (some 0) else (if p2 = 1 then (some 0) else (if p2 = 2 then (some 0) else (if p2 = 3 then (some 0) else (some 0)))))) (fun (j22_1 : Option (Int32)) => (if p1 < 0 then j22_1 else (if 5 ≤ p1 then j22_1 else (gd (inb p1 5) (if p2 = 0 then (gd (decide (p1.toNatClampNeg < 5)) (gd (isb (instF 1 p1.toNatClampNeg)) (some (instF 1 p1.toNatClampNeg)))) else (if p2 = 1 then (gd (decide (p1.toNatClampNeg < 5)) (gd (isb (instF 5 p1.toNatClampNeg)) (some (instF 5 p1.toNatClampNeg)))) else (if p2 = 2 then (gd (decide (p1.toNatClampNeg < 5)) (gd (isb (instF 6 p1.toNatClampNeg)) (some (instF 6 p1.toNatClampNeg)))) else (if p2 = 3 then (gd (decide (p1.toNatClampNeg < 5)) (gd (isb (instF 2 p1.toNatClampNeg)) (some (instF 2 p1.toNatClampNeg)))) else (gd (decide (p1.toNatClampNeg < 5)) (gd (isb (instF 8 p1.toNatClampNeg)) (some (instF 8 p1.toNatClampNeg)))))))))))))
theorem hd_X11_isOfKind : yX11_isOfKind.cls ≠ "java/lang/invoke/MethodHandle" ∧ yX11_isOfKind.cls ≠ "java/lang/invoke/VarHandle" ∧ (parseMethodDescriptor yX11_isOfKind.desc).map (fun d => d.parameters.length) = some 2 := ⟨by decide +kernel, by decide +kernel, by decide +kernel⟩
set_option maxHeartbeats 4000000 in
set_option maxRecDepth 100000 in
theorem c_X11_isOfKind (X : CXp) (l : Launch) (a_x a_kb a_xP a_xG a_xK a_xR a_xA a_xU : Nat) (a_b : Nat → Nat) (f_x_imageKept : Int32) (f_x_tablesRead : Int32) (f_x_plansDone : Int32) (f_x_safesDone : Int32) (p1 : Int32) (p2 : Int32) (res : Int32) (h : f_X11_isOfKind p1 p2 = some res) : CTg X l yX11_isOfKind cX11_isOfKind 4 (some .boolean) 0 0 [.ref a_x, .int p1, .int p2] [(a_x, .inr (11, [.ref a_kb, .ref a_xP, .ref a_xG, .ref a_xK, .ref a_xR, .ref a_xA, .ref a_xU, .int f_x_imageKept, .int f_x_tablesRead, .int f_x_plansDone, .int f_x_safesDone])), (a_kb, .inl (xB X, 5, .inr (.inr (.inr (.inr (fun j => some (a_b j))))))), ((a_b 0), .inr (1, [])), ((a_b 1), .inr (5, [])), ((a_b 2), .inr (6, [])), ((a_b 3), .inr (2, [])), ((a_b 4), .inr (8, []))] (QcI X res [(a_x, .inr (11, [.ref a_kb, .ref a_xP, .ref a_xG, .ref a_xK, .ref a_xR, .ref a_xA, .ref a_xU, .int f_x_imageKept, .int f_x_tablesRead, .int f_x_plansDone, .int f_x_safesDone])), (a_kb, .inl (xB X, 5, .inr (.inr (.inr (.inr (fun j => some (a_b j))))))), ((a_b 0), .inr (1, [])), ((a_b 1), .inr (5, [])), ((a_b 2), .inr (6, [])), ((a_b 3), .inr (2, [])), ((a_b 4), .inr (8, []))]) := by
  refine CTg.mk (own := RX11) (by decide) rfl (Nat.le_of_ble_eq_true rfl) ?_
  intro p e s m args below meth c A hB hP hD hS ls hl
  obtain ⟨hx, hb, hr, hml, hown, hts, hlocks, hcx, hA, hAB⟩ := id hB
  have hK := hcx.1
  generalize hQ : MQ below (QcI X res [(a_x, .inr (11, [.ref a_kb, .ref a_xP, .ref a_xG, .ref a_xK, .ref a_xR, .ref a_xA, .ref a_xU, .int f_x_imageKept, .int f_x_tablesRead, .int f_x_plansDone, .int f_x_safesDone])), (a_kb, .inl (xB X, 5, .inr (.inr (.inr (.inr (fun j => some (a_b j))))))), ((a_b 0), .inr (1, [])), ((a_b 1), .inr (5, [])), ((a_b 2), .inr (6, [])), ((a_b 3), .inr (2, [])), ((a_b 4), .inr (8, []))] A) args s 0 0 A = Q
  replace hl : lv_has ls 4 [(0, .ref a_x), (1, .int p1), (2, .int p2)] := hl
  unfold f_X11_isOfKind at h
  refine lv_iload_n hx hb dX11_isOfKind_0 rfl (lv_at hl 1 rfl) ?_
  obtain ⟨j22_1, ej22_1, h⟩ := jn_s h
  have J22_1 : j22_1 = some res → ∀ (H : Heap) (locs : List Loc) (ls : Array Slot), va_P (xD X) vwCl [(a_x, .inr (11, [.ref a_kb, .ref a_xP, .ref a_xG, .ref a_xK, .ref a_xR, .ref a_xA, .ref a_xU, .int f_x_imageKept, .int f_x_tablesRead, .int f_x_plansDone, .int f_x_safesDone])), (a_kb, .inl (xB X, 5, .inr (.inr (.inr (.inr (fun j => some (a_b j))))))), ((a_b 0), .inr (1, [])), ((a_b 1), .inr (5, [])), ((a_b 2), .inr (6, [])), ((a_b 3), .inr (2, [])), ((a_b 4), .inr (8, []))] H → va_D A [(a_x, .inr (11, [.ref a_kb, .ref a_xP, .ref a_xG, .ref a_xK, .ref a_xR, .ref a_xA, .ref a_xU, .int f_x_imageKept, .int f_x_tablesRead, .int f_x_plansDone, .int f_x_safesDone])), (a_kb, .inl (xB X, 5, .inr (.inr (.inr (.inr (fun j => some (a_b j))))))), ((a_b 0), .inr (1, [])), ((a_b 1), .inr (5, [])), ((a_b 2), .inr (6, [])), ((a_b 3), .inr (2, [])), ((a_b 4), .inr (8, []))] → va_S A s.heap H locs → lv_has ls 4 [(2, .int p2)] → W p l e (rmF 0 0) s m args below meth c H locs 0 0 Q (F0 m 22 ls []) := by
    clear h
    intro h H locs ls hP hD hS hl
    rw [ej22_1] at h
    refine lv_null hx hb dX11_isOfKind_22 ?_
    refine lv_astore_nN (lv' := [(3, .null), (2, .int p2)]) hx hb dX11_isOfKind_23 rfl hl (by decide) rfl (fun ls hl => ?_)
    refine lv_iload_n hx hb dX11_isOfKind_24 rfl (lv_at hl 1 rfl) ?_
    by_cases c_2 : p2 = 0
    · replace h := it_p c_2 h
      refine lv_tableIn (off := 31) (tgt := 56) hx hb dX11_isOfKind_25 (by rw [c_2]; decide) (by rw [c_2]; decide) (by rw [c_2]; decide) (by decide) ?_
      refine lv_aload_nN hx hb dX11_isOfKind_56 rfl (lv_at hl 0 rfl) ?_
      refine lv_instN hx hb dX11_isOfKind_57 ?_
      obtain rfl := Option.some.inj h
      rw [← hQ]
      exact retZ (r := 0) hB rfl hS hP dX11_isOfKind_60
    replace h := it_n c_2 h
    by_cases c_3 : p2 = 1
    · replace h := it_p c_3 h
      refine lv_tableIn (off := 36) (tgt := 61) hx hb dX11_isOfKind_25 (by rw [c_3]; decide) (by rw [c_3]; decide) (by rw [c_3]; decide) (by decide) ?_
      refine lv_aload_nN hx hb dX11_isOfKind_61 rfl (lv_at hl 0 rfl) ?_
      refine lv_instN hx hb dX11_isOfKind_62 ?_
      obtain rfl := Option.some.inj h
      rw [← hQ]
      exact retZ (r := 0) hB rfl hS hP dX11_isOfKind_65
    replace h := it_n c_3 h
    by_cases c_4 : p2 = 2
    · replace h := it_p c_4 h
      refine lv_tableIn (off := 41) (tgt := 66) hx hb dX11_isOfKind_25 (by rw [c_4]; decide) (by rw [c_4]; decide) (by rw [c_4]; decide) (by decide) ?_
      refine lv_aload_nN hx hb dX11_isOfKind_66 rfl (lv_at hl 0 rfl) ?_
      refine lv_instN hx hb dX11_isOfKind_67 ?_
      obtain rfl := Option.some.inj h
      rw [← hQ]
      exact retZ (r := 0) hB rfl hS hP dX11_isOfKind_70
    replace h := it_n c_4 h
    by_cases c_5 : p2 = 3
    · replace h := it_p c_5 h
      refine lv_tableIn (off := 46) (tgt := 71) hx hb dX11_isOfKind_25 (by rw [c_5]; decide) (by rw [c_5]; decide) (by rw [c_5]; decide) (by decide) ?_
      refine lv_aload_nN hx hb dX11_isOfKind_71 rfl (lv_at hl 0 rfl) ?_
      refine lv_instN hx hb dX11_isOfKind_72 ?_
      obtain rfl := Option.some.inj h
      rw [← hQ]
      exact retZ (r := 0) hB rfl hS hP dX11_isOfKind_75
    replace h := it_n c_5 h
    refine lv_tableOut (tgt := 76) hx hb dX11_isOfKind_25 (tsw_0_4 c_2 c_3 c_4 c_5) (by decide) ?_
    refine lv_aload_nN hx hb dX11_isOfKind_76 rfl (lv_at hl 0 rfl) ?_
    refine lv_instN hx hb dX11_isOfKind_77 ?_
    obtain rfl := Option.some.inj h
    rw [← hQ]
    exact retZ (r := 0) hB rfl hS hP dX11_isOfKind_80
  clear ej22_1
  refine lv_if_lt (tgt := 22) hx hb dX11_isOfKind_1 (by decide) (fun c_6 => ?_) (fun c_6 => ?_)
  · replace h := it_p c_6 h
    exact J22_1 h _ _ _ hP hD hS (lv_sub hl [2] rfl)
  · replace h := it_n c_6 h
    refine lv_iload_n hx hb dX11_isOfKind_4 rfl (lv_at hl 1 rfl) ?_
    refine lv_aload_n hx hb dX11_isOfKind_5 rfl (lv_at hl 0 rfl) ?_
    refine va_get (D := xD X) (ci := 11) (v := .ref a_kb) (C := RX11) (T := TX11) (N := 11) hx hb hts inX11 hown hK hP 0 rfl rfl 0 (by decide) (hts _ wq_1_236) (fun _ h9 => h9) rfl dX11_isOfKind_6 ?_
    refine va_alen (v := 5) hx hb hK hP 1 1 rfl rfl rfl dX11_isOfKind_9 ?_
    refine lv_icmp_ge (tgt := 22) hx hb dX11_isOfKind_10 (by decide) (fun c_7 => ?_) (fun c_7 => ?_)
    · replace h := it_p c_7 h
      exact J22_1 h _ _ _ hP hD hS (lv_sub hl [2] rfl)
    · replace h := it_n c_7 h
      refine lv_aload_n hx hb dX11_isOfKind_13 rfl (lv_at hl 0 rfl) ?_
      refine va_get (D := xD X) (ci := 11) (v := .ref a_kb) (C := RX11) (T := TX11) (N := 11) hx hb hts inX11 hown hK hP 0 rfl rfl 0 (by decide) (hts _ wq_1_236) (fun _ h9 => h9) rfl dX11_isOfKind_14 ?_
      refine lv_iload_n hx hb dX11_isOfKind_17 rfl (lv_at hl 1 rfl) ?_
      obtain ⟨z_8, h⟩ := gd_s h
      refine va_aldq hx hb hK hP 1 1 rfl rfl (inb_vp z_8) dX11_isOfKind_18 ?_
      refine lv_goto (tgt := 23) hx hb dX11_isOfKind_19 (by decide) ?_
      refine lv_astore_n (lv' := [(3, .ref (a_b p1.toNatClampNeg)), (0, .ref a_x), (1, .int p1), (2, .int p2)]) hx hb dX11_isOfKind_23 rfl hl (by decide) rfl (fun ls hl => ?_)
      refine lv_iload_n hx hb dX11_isOfKind_24 rfl (lv_at hl 3 rfl) ?_
      by_cases c_9 : p2 = 0
      · replace h := it_p c_9 h
        refine lv_tableIn (off := 31) (tgt := 56) hx hb dX11_isOfKind_25 (by rw [c_9]; decide) (by rw [c_9]; decide) (by rw [c_9]; decide) (by decide) ?_
        refine lv_aload_n hx hb dX11_isOfKind_56 rfl (lv_at hl 0 rfl) ?_
        obtain ⟨z_10, h⟩ := gd_s h
        refine poly_inst1 hB hP (of_decide_eq_true z_10) 2 rfl rfl rfl rfl rfl wq_1_31 dX11_isOfKind_57 ?_
        obtain ⟨z_11, h⟩ := gd_s h
        obtain rfl := Option.some.inj h
        rw [← hQ]
        exact retZ (r := (instF 1 p1.toNatClampNeg)) hB (isb_n z_11) hS hP dX11_isOfKind_60
      replace h := it_n c_9 h
      by_cases c_12 : p2 = 1
      · replace h := it_p c_12 h
        refine lv_tableIn (off := 36) (tgt := 61) hx hb dX11_isOfKind_25 (by rw [c_12]; decide) (by rw [c_12]; decide) (by rw [c_12]; decide) (by decide) ?_
        refine lv_aload_n hx hb dX11_isOfKind_61 rfl (lv_at hl 0 rfl) ?_
        obtain ⟨z_13, h⟩ := gd_s h
        refine poly_inst5 hB hP (of_decide_eq_true z_13) 2 rfl rfl rfl rfl rfl wq_1_39 dX11_isOfKind_62 ?_
        obtain ⟨z_14, h⟩ := gd_s h
        obtain rfl := Option.some.inj h
        rw [← hQ]
        exact retZ (r := (instF 5 p1.toNatClampNeg)) hB (isb_n z_14) hS hP dX11_isOfKind_65
      replace h := it_n c_12 h
      by_cases c_15 : p2 = 2
      · replace h := it_p c_15 h
        refine lv_tableIn (off := 41) (tgt := 66) hx hb dX11_isOfKind_25 (by rw [c_15]; decide) (by rw [c_15]; decide) (by rw [c_15]; decide) (by decide) ?_
        refine lv_aload_n hx hb dX11_isOfKind_66 rfl (lv_at hl 0 rfl) ?_
        obtain ⟨z_16, h⟩ := gd_s h
        refine poly_inst6 hB hP (of_decide_eq_true z_16) 2 rfl rfl rfl rfl rfl wq_1_46 dX11_isOfKind_67 ?_
        obtain ⟨z_17, h⟩ := gd_s h
        obtain rfl := Option.some.inj h
        rw [← hQ]
        exact retZ (r := (instF 6 p1.toNatClampNeg)) hB (isb_n z_17) hS hP dX11_isOfKind_70
      replace h := it_n c_15 h
      by_cases c_18 : p2 = 3
      · replace h := it_p c_18 h
        refine lv_tableIn (off := 46) (tgt := 71) hx hb dX11_isOfKind_25 (by rw [c_18]; decide) (by rw [c_18]; decide) (by rw [c_18]; decide) (by decide) ?_
        refine lv_aload_n hx hb dX11_isOfKind_71 rfl (lv_at hl 0 rfl) ?_
        obtain ⟨z_19, h⟩ := gd_s h
        refine poly_inst2 hB hP (of_decide_eq_true z_19) 2 rfl rfl rfl rfl rfl wq_1_53 dX11_isOfKind_72 ?_
        obtain ⟨z_20, h⟩ := gd_s h
        obtain rfl := Option.some.inj h
        rw [← hQ]
        exact retZ (r := (instF 2 p1.toNatClampNeg)) hB (isb_n z_20) hS hP dX11_isOfKind_75
      replace h := it_n c_18 h
      refine lv_tableOut (tgt := 76) hx hb dX11_isOfKind_25 (tsw_0_4 c_9 c_12 c_15 c_18) (by decide) ?_
      refine lv_aload_n hx hb dX11_isOfKind_76 rfl (lv_at hl 0 rfl) ?_
      obtain ⟨z_21, h⟩ := gd_s h
      refine poly_inst8 hB hP (of_decide_eq_true z_21) 2 rfl rfl rfl rfl rfl wq_1_60 dX11_isOfKind_77 ?_
      obtain ⟨z_22, h⟩ := gd_s h
      obtain rfl := Option.some.inj h
      rw [← hQ]
      exact retZ (r := (instF 8 p1.toNatClampNeg)) hB (isb_n z_22) hS hP dX11_isOfKind_80


def f_X11_as (f_x_tablesRead : Int32) (f_xGT_size : Int32) (v_xGTk : Nat → Int32) (p1 : Int32) (p2 : Int32) : Option (Int32) :=
  ((f_X11_isBall f_x_tablesRead f_xGT_size p1).bind (fun u_1 => (if u_1 = 0 then (some (-101)) else ((f_X11_within p2 0 4).bind (fun u_3 => (if u_3 = 0 then (some (-102)) else ((f_X10_kindOf v_xGTk p1).bind (fun u_5 => ((f_X11_isOfKind u_5 p2).bind (fun u_6 => (if u_6 = 0 then (some (-1)) else (some p1))))))))))))
theorem hd_X11_as : yX11_as.cls ≠ "java/lang/invoke/MethodHandle" ∧ yX11_as.cls ≠ "java/lang/invoke/VarHandle" ∧ (parseMethodDescriptor yX11_as.desc).map (fun d => d.parameters.length) = some 2 := ⟨by decide +kernel, by decide +kernel, by decide +kernel⟩
set_option maxHeartbeats 4000000 in
set_option maxRecDepth 100000 in
theorem c_X11_as (X : CXp) (l : Launch) (a_x a_kb a_xP a_xG a_xGT a_xGTc a_xGTk a_xGTw a_xGb a_xGd a_xGe a_xGf a_xK a_xR a_xA a_xU : Nat) (a_b : Nat → Nat) (f_x_imageKept : Int32) (f_x_tablesRead : Int32) (f_x_plansDone : Int32) (f_x_safesDone : Int32) (f_xG_seen : Int32) (f_xG_score : Int32) (f_xG_strokes : Int32) (f_xG_fouls : Int32) (f_xGT_taken : Int64) (f_xGT_size : Int32) (f_xGT_spot : Int32) (v_xGTc : Nat → Int32) (v_xGTk : Nat → Int32) (p1 : Int32) (p2 : Int32) (res : Int32) (h : f_X11_as f_x_tablesRead f_xGT_size v_xGTk p1 p2 = some res) : CTg X l yX11_as cX11_as 3 (some .int) 2 43 [.ref a_x, .int p1, .int p2] [(a_x, .inr (11, [.ref a_kb, .ref a_xP, .ref a_xG, .ref a_xK, .ref a_xR, .ref a_xA, .ref a_xU, .int f_x_imageKept, .int f_x_tablesRead, .int f_x_plansDone, .int f_x_safesDone])), (a_kb, .inl (xB X, 5, .inr (.inr (.inr (.inr (fun j => some (a_b j))))))), ((a_b 0), .inr (1, [])), ((a_b 1), .inr (5, [])), ((a_b 2), .inr (6, [])), ((a_b 3), .inr (2, [])), ((a_b 4), .inr (8, [])), (a_xG, .inr (3, [.ref a_xGT, .ref a_xGb, .ref a_xGd, .ref a_xGe, .ref a_xGf, .int f_xG_seen, .int f_xG_score, .int f_xG_strokes, .int f_xG_fouls])), (a_xGT, .inr (10, [.ref a_xGTc, .ref a_xGTk, .ref a_xGTw, .long f_xGT_taken, .int f_xGT_size, .int f_xGT_spot])), (a_xGTc, .inl (xI X, 7, .inl v_xGTc)), (a_xGTk, .inl (xI X, 7, .inl v_xGTk))] (QcI X res [(a_x, .inr (11, [.ref a_kb, .ref a_xP, .ref a_xG, .ref a_xK, .ref a_xR, .ref a_xA, .ref a_xU, .int f_x_imageKept, .int f_x_tablesRead, .int f_x_plansDone, .int f_x_safesDone])), (a_kb, .inl (xB X, 5, .inr (.inr (.inr (.inr (fun j => some (a_b j))))))), ((a_b 0), .inr (1, [])), ((a_b 1), .inr (5, [])), ((a_b 2), .inr (6, [])), ((a_b 3), .inr (2, [])), ((a_b 4), .inr (8, [])), (a_xG, .inr (3, [.ref a_xGT, .ref a_xGb, .ref a_xGd, .ref a_xGe, .ref a_xGf, .int f_xG_seen, .int f_xG_score, .int f_xG_strokes, .int f_xG_fouls])), (a_xGT, .inr (10, [.ref a_xGTc, .ref a_xGTk, .ref a_xGTw, .long f_xGT_taken, .int f_xGT_size, .int f_xGT_spot])), (a_xGTc, .inl (xI X, 7, .inl v_xGTc)), (a_xGTk, .inl (xI X, 7, .inl v_xGTk))]) := by
  refine CTg.mk (own := RX11) (by decide) rfl (Nat.le_of_ble_eq_true rfl) ?_
  intro p e s m args below meth c A hB hP hD hS ls hl
  obtain ⟨hx, hb, hr, hml, hown, hts, hlocks, hcx, hA, hAB⟩ := id hB
  have hK := hcx.1
  generalize hQ : MQ below (QcI X res [(a_x, .inr (11, [.ref a_kb, .ref a_xP, .ref a_xG, .ref a_xK, .ref a_xR, .ref a_xA, .ref a_xU, .int f_x_imageKept, .int f_x_tablesRead, .int f_x_plansDone, .int f_x_safesDone])), (a_kb, .inl (xB X, 5, .inr (.inr (.inr (.inr (fun j => some (a_b j))))))), ((a_b 0), .inr (1, [])), ((a_b 1), .inr (5, [])), ((a_b 2), .inr (6, [])), ((a_b 3), .inr (2, [])), ((a_b 4), .inr (8, [])), (a_xG, .inr (3, [.ref a_xGT, .ref a_xGb, .ref a_xGd, .ref a_xGe, .ref a_xGf, .int f_xG_seen, .int f_xG_score, .int f_xG_strokes, .int f_xG_fouls])), (a_xGT, .inr (10, [.ref a_xGTc, .ref a_xGTk, .ref a_xGTw, .long f_xGT_taken, .int f_xGT_size, .int f_xGT_spot])), (a_xGTc, .inl (xI X, 7, .inl v_xGTc)), (a_xGTk, .inl (xI X, 7, .inl v_xGTk))] A) args s 0 0 A = Q
  replace hl : lv_has ls 3 [(0, .ref a_x), (1, .int p1), (2, .int p2)] := hl
  unfold f_X11_as at h
  refine lv_aload_n hx hb dX11_as_0 rfl (lv_at hl 0 rfl) ?_
  refine lv_iload_n hx hb dX11_as_1 rfl (lv_at hl 1 rfl) ?_
  obtain ⟨u_1, hu_1, h⟩ := ob_s h
  refine cVi (C := RX11) (As := [.int p1]) (rest := []) [(a_x, .inr (11, [.ref a_kb, .ref a_xP, .ref a_xG, .ref a_xK, .ref a_xR, .ref a_xA, .ref a_xU, .int f_x_imageKept, .int f_x_tablesRead, .int f_x_plansDone, .int f_x_safesDone])), (a_kb, .inl (xB X, 5, .inr (.inr (.inr (.inr (fun j => some (a_b j))))))), ((a_b 0), .inr (1, [])), ((a_b 1), .inr (5, [])), ((a_b 2), .inr (6, [])), ((a_b 3), .inr (2, [])), ((a_b 4), .inr (8, [])), (a_xG, .inr (3, [.ref a_xGT, .ref a_xGb, .ref a_xGd, .ref a_xGe, .ref a_xGf, .int f_xG_seen, .int f_xG_score, .int f_xG_strokes, .int f_xG_fouls])), (a_xGT, .inr (10, [.ref a_xGTc, .ref a_xGTk, .ref a_xGTw, .long f_xGT_taken, .int f_xGT_size, .int f_xGT_spot])), (a_xGTc, .inl (xI X, 7, .inl v_xGTc)), (a_xGTk, .inl (xI X, 7, .inl v_xGTk))] hB (c_X11_isBall X l a_x a_kb a_xP a_xG a_xGT a_xGTc a_xGTk a_xGTw a_xGb a_xGd a_xGe a_xGf a_xK a_xR a_xA a_xU f_x_imageKept f_x_tablesRead f_x_plansDone f_x_safesDone f_xG_seen f_xG_score f_xG_strokes f_xG_fouls f_xGT_taken f_xGT_size f_xGT_spot p1 u_1 hu_1) wq_2_217 wq_1_1 wq_2_214 wq_2_216 wp_5 hd_X11_isBall (by decide) hP hD hS hl.1 [0, 7, 8] [1, 2, 3, 4, 5, 6, 9, 10] [(a_kb, .inl (xB X, 5, .inr (.inr (.inr (.inr (fun j => some (a_b j))))))), ((a_b 0), .inr (1, [])), ((a_b 1), .inr (5, [])), ((a_b 2), .inr (6, [])), ((a_b 3), .inr (2, [])), ((a_b 4), .inr (8, [])), (a_xGTc, .inl (xI X, 7, .inl v_xGTc)), (a_xGTk, .inl (xI X, 7, .inl v_xGTk))] rfl (by decide +kernel) rfl rfl rfl (nn := 11) rfl (by decide +kernel) [a_x, a_kb, (a_b 0), (a_b 1), (a_b 2), (a_b 3), (a_b 4), a_xG, a_xGT, a_xGTc, a_xGTk] rfl rfl (q0 := 0) rfl rfl rfl rfl (Nat.le_of_ble_eq_true rfl) dX11_as_2 ⟨Nat.zero_le _, Nat.zero_le _⟩ (fun H locs hP hD hS => ?_)
  refine lv_if_ne (tgt := 11) hx hb dX11_as_5 (by decide) (fun c_2 => ?_) (fun c_2 => ?_)
  · replace h := it_n c_2 h
    refine lv_iload_n hx hb dX11_as_11 rfl (lv_at hl 2 rfl) ?_
    refine lv_iconst (v := 0) hx hb dX11_as_12 (by decide) ?_
    refine lv_iconst (v := 4) hx hb dX11_as_13 (by decide) ?_
    obtain ⟨u_3, hu_3, h⟩ := ob_s h
    refine cSi (As := [.int p2, .int 0, .int 4]) (rest := []) [(a_x, .inr (11, [.ref a_kb, .ref a_xP, .ref a_xG, .ref a_xK, .ref a_xR, .ref a_xA, .ref a_xU, .int f_x_imageKept, .int f_x_tablesRead, .int f_x_plansDone, .int f_x_safesDone])), (a_kb, .inl (xB X, 5, .inr (.inr (.inr (.inr (fun j => some (a_b j))))))), ((a_b 0), .inr (1, [])), ((a_b 1), .inr (5, [])), ((a_b 2), .inr (6, [])), ((a_b 3), .inr (2, [])), ((a_b 4), .inr (8, [])), (a_xG, .inr (3, [.ref a_xGT, .ref a_xGb, .ref a_xGd, .ref a_xGe, .ref a_xGf, .int f_xG_seen, .int f_xG_score, .int f_xG_strokes, .int f_xG_fouls])), (a_xGT, .inr (10, [.ref a_xGTc, .ref a_xGTk, .ref a_xGTw, .long f_xGT_taken, .int f_xGT_size, .int f_xGT_spot])), (a_xGTc, .inl (xI X, 7, .inl v_xGTc)), (a_xGTk, .inl (xI X, 7, .inl v_xGTk))] hB (c_X11_within X l p2 0 4 u_3 hu_3) wq_2_36 wq_1_1 wq_2_34 wq_2_35 hd_X11_within (by decide) hP hD hS hl.1 [] [0, 1, 2, 3, 4, 5, 6, 7, 8, 9, 10] [(a_x, .inr (11, [.ref a_kb, .ref a_xP, .ref a_xG, .ref a_xK, .ref a_xR, .ref a_xA, .ref a_xU, .int f_x_imageKept, .int f_x_tablesRead, .int f_x_plansDone, .int f_x_safesDone])), (a_kb, .inl (xB X, 5, .inr (.inr (.inr (.inr (fun j => some (a_b j))))))), ((a_b 0), .inr (1, [])), ((a_b 1), .inr (5, [])), ((a_b 2), .inr (6, [])), ((a_b 3), .inr (2, [])), ((a_b 4), .inr (8, [])), (a_xG, .inr (3, [.ref a_xGT, .ref a_xGb, .ref a_xGd, .ref a_xGe, .ref a_xGf, .int f_xG_seen, .int f_xG_score, .int f_xG_strokes, .int f_xG_fouls])), (a_xGT, .inr (10, [.ref a_xGTc, .ref a_xGTk, .ref a_xGTw, .long f_xGT_taken, .int f_xGT_size, .int f_xGT_spot])), (a_xGTc, .inl (xI X, 7, .inl v_xGTc)), (a_xGTk, .inl (xI X, 7, .inl v_xGTk))] rfl (by decide +kernel) rfl rfl rfl (nn := 11) rfl (by decide +kernel) [a_x, a_kb, (a_b 0), (a_b 1), (a_b 2), (a_b 3), (a_b 4), a_xG, a_xGT, a_xGTc, a_xGTk] rfl rfl rfl rfl (Nat.le_of_ble_eq_true rfl) dX11_as_14 ⟨Nat.zero_le _, Nat.zero_le _⟩ (fun H locs hP hD hS => ?_)
    refine lv_if_ne (tgt := 23) hx hb dX11_as_17 (by decide) (fun c_4 => ?_) (fun c_4 => ?_)
    · replace h := it_n c_4 h
      refine lv_aload_n hx hb dX11_as_23 rfl (lv_at hl 0 rfl) ?_
      refine lv_aload_n hx hb dX11_as_24 rfl (lv_at hl 0 rfl) ?_
      refine va_get (D := xD X) (ci := 11) (v := .ref a_xG) (C := RX11) (T := TX11) (N := 11) hx hb hts inX11 hown hK hP 0 rfl rfl 2 (by decide) (hts _ wq_1_238) (fun _ h9 => h9) rfl dX11_as_25 ?_
      refine va_getN (D := xD X) (ci := 3) (v := .ref a_xGT) (C := RX3) (T := TX3) (N := 9) hx hb hts inX3 hown hK hP 7 rfl rfl 0 (by decide) (va_Nw.use rfl (hcx.2.1 _ wq_1_122)) (fun _ h9 => h9) rfl dX11_as_28 ?_
      refine lv_iload_n hx hb dX11_as_31 rfl (lv_at hl 1 rfl) ?_
      obtain ⟨u_5, hu_5, h⟩ := ob_s h
      refine cVi (C := RX10) (As := [.int p1]) (rest := [.ref a_x]) [(a_x, .inr (11, [.ref a_kb, .ref a_xP, .ref a_xG, .ref a_xK, .ref a_xR, .ref a_xA, .ref a_xU, .int f_x_imageKept, .int f_x_tablesRead, .int f_x_plansDone, .int f_x_safesDone])), (a_kb, .inl (xB X, 5, .inr (.inr (.inr (.inr (fun j => some (a_b j))))))), ((a_b 0), .inr (1, [])), ((a_b 1), .inr (5, [])), ((a_b 2), .inr (6, [])), ((a_b 3), .inr (2, [])), ((a_b 4), .inr (8, [])), (a_xG, .inr (3, [.ref a_xGT, .ref a_xGb, .ref a_xGd, .ref a_xGe, .ref a_xGf, .int f_xG_seen, .int f_xG_score, .int f_xG_strokes, .int f_xG_fouls])), (a_xGT, .inr (10, [.ref a_xGTc, .ref a_xGTk, .ref a_xGTw, .long f_xGT_taken, .int f_xGT_size, .int f_xGT_spot])), (a_xGTc, .inl (xI X, 7, .inl v_xGTc)), (a_xGTk, .inl (xI X, 7, .inl v_xGTk))] hB (c_X10_kindOf X l a_xGT a_xGTc a_xGTk a_xGTw f_xGT_taken f_xGT_size f_xGT_spot v_xGTc v_xGTk p1 u_5 hu_5) wq_2_225 wq_1_9 wq_2_222 wq_2_223 wq_2_224 hd_X10_kindOf (by decide) hP hD hS hl.1 [8, 9, 10] [0, 1, 2, 3, 4, 5, 6, 7] [(a_x, .inr (11, [.ref a_kb, .ref a_xP, .ref a_xG, .ref a_xK, .ref a_xR, .ref a_xA, .ref a_xU, .int f_x_imageKept, .int f_x_tablesRead, .int f_x_plansDone, .int f_x_safesDone])), (a_kb, .inl (xB X, 5, .inr (.inr (.inr (.inr (fun j => some (a_b j))))))), ((a_b 0), .inr (1, [])), ((a_b 1), .inr (5, [])), ((a_b 2), .inr (6, [])), ((a_b 3), .inr (2, [])), ((a_b 4), .inr (8, [])), (a_xG, .inr (3, [.ref a_xGT, .ref a_xGb, .ref a_xGd, .ref a_xGe, .ref a_xGf, .int f_xG_seen, .int f_xG_score, .int f_xG_strokes, .int f_xG_fouls]))] rfl (by decide +kernel) rfl rfl rfl (nn := 11) rfl (by decide +kernel) [a_x, a_kb, (a_b 0), (a_b 1), (a_b 2), (a_b 3), (a_b 4), a_xG, a_xGT, a_xGTc, a_xGTk] rfl rfl (q0 := 8) rfl rfl rfl rfl (Nat.le_of_ble_eq_true rfl) dX11_as_32 ⟨Nat.zero_le _, Nat.zero_le _⟩ (fun H locs hP hD hS => ?_)
      refine lv_iload_n hx hb dX11_as_35 rfl (lv_at hl 2 rfl) ?_
      obtain ⟨u_6, hu_6, h⟩ := ob_s h
      refine cVi (C := RX11) (As := [.int u_5, .int p2]) (rest := []) [(a_x, .inr (11, [.ref a_kb, .ref a_xP, .ref a_xG, .ref a_xK, .ref a_xR, .ref a_xA, .ref a_xU, .int f_x_imageKept, .int f_x_tablesRead, .int f_x_plansDone, .int f_x_safesDone])), (a_kb, .inl (xB X, 5, .inr (.inr (.inr (.inr (fun j => some (a_b j))))))), ((a_b 0), .inr (1, [])), ((a_b 1), .inr (5, [])), ((a_b 2), .inr (6, [])), ((a_b 3), .inr (2, [])), ((a_b 4), .inr (8, [])), (a_xG, .inr (3, [.ref a_xGT, .ref a_xGb, .ref a_xGd, .ref a_xGe, .ref a_xGf, .int f_xG_seen, .int f_xG_score, .int f_xG_strokes, .int f_xG_fouls])), (a_xGT, .inr (10, [.ref a_xGTc, .ref a_xGTk, .ref a_xGTw, .long f_xGT_taken, .int f_xGT_size, .int f_xGT_spot])), (a_xGTc, .inl (xI X, 7, .inl v_xGTc)), (a_xGTk, .inl (xI X, 7, .inl v_xGTk))] hB (c_X11_isOfKind X l a_x a_kb a_xP a_xG a_xK a_xR a_xA a_xU a_b f_x_imageKept f_x_tablesRead f_x_plansDone f_x_safesDone u_5 p2 u_6 hu_6) wq_3_150 wq_1_1 wq_3_147 wq_3_149 wp_17 hd_X11_isOfKind (by decide) hP hD hS hl.1 [0, 1, 2, 3, 4, 5, 6] [7, 8, 9, 10] [(a_xG, .inr (3, [.ref a_xGT, .ref a_xGb, .ref a_xGd, .ref a_xGe, .ref a_xGf, .int f_xG_seen, .int f_xG_score, .int f_xG_strokes, .int f_xG_fouls])), (a_xGT, .inr (10, [.ref a_xGTc, .ref a_xGTk, .ref a_xGTw, .long f_xGT_taken, .int f_xGT_size, .int f_xGT_spot])), (a_xGTc, .inl (xI X, 7, .inl v_xGTc)), (a_xGTk, .inl (xI X, 7, .inl v_xGTk))] rfl (by decide +kernel) rfl rfl rfl (nn := 11) rfl (by decide +kernel) [a_x, a_kb, (a_b 0), (a_b 1), (a_b 2), (a_b 3), (a_b 4), a_xG, a_xGT, a_xGTc, a_xGTk] rfl rfl (q0 := 0) rfl rfl rfl rfl (Nat.le_of_ble_eq_true rfl) dX11_as_36 ⟨Nat.zero_le _, Nat.zero_le _⟩ (fun H locs hP hD hS => ?_)
      refine lv_if_eq (tgt := 46) hx hb dX11_as_39 (by decide) (fun c_7 => ?_) (fun c_7 => ?_)
      · replace h := it_p c_7 h
        refine lv_iconst (v := (-1)) hx hb dX11_as_46 (by decide) ?_
        obtain rfl := Option.some.inj h
        rw [← hQ]
        exact retI hB hS hP dX11_as_47
      · replace h := it_n c_7 h
        refine lv_iload_n hx hb dX11_as_42 rfl (lv_at hl 1 rfl) ?_
        refine lv_goto (tgt := 47) hx hb dX11_as_43 (by decide) ?_
        obtain rfl := Option.some.inj h
        rw [← hQ]
        exact retI hB hS hP dX11_as_47
    · replace h := it_p c_4 h
      refine lv_bipush (v := (-102)) hx hb dX11_as_20 (by decide) ?_
      obtain rfl := Option.some.inj h
      rw [← hQ]
      exact retI hB hS hP dX11_as_22
  · replace h := it_p c_2 h
    refine lv_bipush (v := (-101)) hx hb dX11_as_8 (by decide) ?_
    obtain rfl := Option.some.inj h
    rw [← hQ]
    exact retI hB hS hP dX11_as_10


def f_X11_isCell (p0 : Int32) : Option (Int32) :=
  ((f_X11_within p0 0 44).bind (fun u_1 => (gd (isb u_1) (some u_1))))
theorem hd_X11_isCell : yX11_isCell.cls ≠ "java/lang/invoke/MethodHandle" ∧ yX11_isCell.cls ≠ "java/lang/invoke/VarHandle" ∧ (parseMethodDescriptor yX11_isCell.desc).map (fun d => d.parameters.length) = some 1 := ⟨by decide +kernel, by decide +kernel, by decide +kernel⟩
set_option maxHeartbeats 4000000 in
set_option maxRecDepth 100000 in
theorem c_X11_isCell (X : CXp) (l : Launch) (p0 : Int32) (res : Int32) (h : f_X11_isCell p0 = some res) : CTg X l yX11_isCell cX11_isCell 1 (some .boolean) 1 22 [.int p0] [] (QcI X res []) := by
  refine CTg.mk (own := RX11) (by decide) rfl (Nat.le_of_ble_eq_true rfl) ?_
  intro p e s m args below meth c A hB hP hD hS ls hl
  obtain ⟨hx, hb, hr, hml, hown, hts, hlocks, hcx, hA, hAB⟩ := id hB
  have hK := hcx.1
  generalize hQ : MQ below (QcI X res [] A) args s 0 0 A = Q
  replace hl : lv_has ls 1 [(0, .int p0)] := hl
  unfold f_X11_isCell at h
  refine lv_iload_n hx hb dX11_isCell_0 rfl (lv_at hl 0 rfl) ?_
  refine lv_iconst (v := 0) hx hb dX11_isCell_1 (by decide) ?_
  refine lv_bipush (v := 44) hx hb dX11_isCell_2 (by decide) ?_
  obtain ⟨u_1, hu_1, h⟩ := ob_s h
  refine cSi (As := [.int p0, .int 0, .int 44]) (rest := []) [] hB (c_X11_within X l p0 0 44 u_1 hu_1) wq_2_36 wq_1_1 wq_2_34 wq_2_35 hd_X11_within (by decide) hP hD hS hl.1 [] [] [] rfl (by decide +kernel) rfl rfl rfl (nn := 0) rfl (by decide +kernel) [] rfl rfl rfl rfl (Nat.le_of_ble_eq_true rfl) dX11_isCell_4 ⟨Nat.zero_le _, Nat.zero_le _⟩ (fun H locs hP hD hS => ?_)
  obtain ⟨z_2, h⟩ := gd_s h
  obtain rfl := Option.some.inj h
  rw [← hQ]
  exact retZ (r := u_1) hB (isb_n z_2) hS hP dX11_isCell_7


def f_X11_cell (n : Nat) (f_x_tablesRead : Int32) (f_xGT_taken : Int64) (v_xGTc : Nat → Int32) (p1 : Int32) : Option (Int32) :=
  ((f_X11_hasTable f_x_tablesRead).bind (fun u_1 => (if u_1 = 0 then (some (-101)) else ((f_X11_isCell p1).bind (fun u_3 => (if u_3 = 0 then (some (-101)) else ((f_X11_isPocket p1).bind (fun u_5 => (if u_5 = 0 then ((f_X10_ballIn n f_xGT_taken v_xGTc p1).bind (fun u_7 => (some u_7))) else (some (-2)))))))))))
theorem hd_X11_cell : yX11_cell.cls ≠ "java/lang/invoke/MethodHandle" ∧ yX11_cell.cls ≠ "java/lang/invoke/VarHandle" ∧ (parseMethodDescriptor yX11_cell.desc).map (fun d => d.parameters.length) = some 1 := ⟨by decide +kernel, by decide +kernel, by decide +kernel⟩
set_option maxHeartbeats 4000000 in
set_option maxRecDepth 100000 in
theorem c_X11_cell (X : CXp) (l : Launch) (n : Nat) (a_x a_kb a_xP a_xG a_xGT a_xGTc a_xGTk a_xGTw a_xGb a_xGd a_xGe a_xGf a_xK a_xR a_xA a_xU : Nat) (f_x_imageKept : Int32) (f_x_tablesRead : Int32) (f_x_plansDone : Int32) (f_x_safesDone : Int32) (f_xG_seen : Int32) (f_xG_score : Int32) (f_xG_strokes : Int32) (f_xG_fouls : Int32) (f_xGT_taken : Int64) (f_xGT_size : Int32) (f_xGT_spot : Int32) (v_xGTc : Nat → Int32) (p1 : Int32) (res : Int32) (h : f_X11_cell n f_x_tablesRead f_xGT_taken v_xGTc p1 = some res) : CTg X l yX11_cell cX11_cell 2 (some .int) 2 42 [.ref a_x, .int p1] [(a_x, .inr (11, [.ref a_kb, .ref a_xP, .ref a_xG, .ref a_xK, .ref a_xR, .ref a_xA, .ref a_xU, .int f_x_imageKept, .int f_x_tablesRead, .int f_x_plansDone, .int f_x_safesDone])), (a_xG, .inr (3, [.ref a_xGT, .ref a_xGb, .ref a_xGd, .ref a_xGe, .ref a_xGf, .int f_xG_seen, .int f_xG_score, .int f_xG_strokes, .int f_xG_fouls])), (a_xGT, .inr (10, [.ref a_xGTc, .ref a_xGTk, .ref a_xGTw, .long f_xGT_taken, .int f_xGT_size, .int f_xGT_spot])), (a_xGTc, .inl (xI X, 7, .inl v_xGTc))] (QcI X res [(a_x, .inr (11, [.ref a_kb, .ref a_xP, .ref a_xG, .ref a_xK, .ref a_xR, .ref a_xA, .ref a_xU, .int f_x_imageKept, .int f_x_tablesRead, .int f_x_plansDone, .int f_x_safesDone])), (a_xG, .inr (3, [.ref a_xGT, .ref a_xGb, .ref a_xGd, .ref a_xGe, .ref a_xGf, .int f_xG_seen, .int f_xG_score, .int f_xG_strokes, .int f_xG_fouls])), (a_xGT, .inr (10, [.ref a_xGTc, .ref a_xGTk, .ref a_xGTw, .long f_xGT_taken, .int f_xGT_size, .int f_xGT_spot])), (a_xGTc, .inl (xI X, 7, .inl v_xGTc))]) := by
  refine CTg.mk (own := RX11) (by decide) rfl (Nat.le_of_ble_eq_true rfl) ?_
  intro p e s m args below meth c A hB hP hD hS ls hl
  obtain ⟨hx, hb, hr, hml, hown, hts, hlocks, hcx, hA, hAB⟩ := id hB
  have hK := hcx.1
  generalize hQ : MQ below (QcI X res [(a_x, .inr (11, [.ref a_kb, .ref a_xP, .ref a_xG, .ref a_xK, .ref a_xR, .ref a_xA, .ref a_xU, .int f_x_imageKept, .int f_x_tablesRead, .int f_x_plansDone, .int f_x_safesDone])), (a_xG, .inr (3, [.ref a_xGT, .ref a_xGb, .ref a_xGd, .ref a_xGe, .ref a_xGf, .int f_xG_seen, .int f_xG_score, .int f_xG_strokes, .int f_xG_fouls])), (a_xGT, .inr (10, [.ref a_xGTc, .ref a_xGTk, .ref a_xGTw, .long f_xGT_taken, .int f_xGT_size, .int f_xGT_spot])), (a_xGTc, .inl (xI X, 7, .inl v_xGTc))] A) args s 0 0 A = Q
  replace hl : lv_has ls 2 [(0, .ref a_x), (1, .int p1)] := hl
  unfold f_X11_cell at h
  refine lv_aload_n hx hb dX11_cell_0 rfl (lv_at hl 0 rfl) ?_
  obtain ⟨u_1, hu_1, h⟩ := ob_s h
  refine cVi (C := RX11) (As := []) (rest := []) [(a_x, .inr (11, [.ref a_kb, .ref a_xP, .ref a_xG, .ref a_xK, .ref a_xR, .ref a_xA, .ref a_xU, .int f_x_imageKept, .int f_x_tablesRead, .int f_x_plansDone, .int f_x_safesDone])), (a_xG, .inr (3, [.ref a_xGT, .ref a_xGb, .ref a_xGd, .ref a_xGe, .ref a_xGf, .int f_xG_seen, .int f_xG_score, .int f_xG_strokes, .int f_xG_fouls])), (a_xGT, .inr (10, [.ref a_xGTc, .ref a_xGTk, .ref a_xGTw, .long f_xGT_taken, .int f_xGT_size, .int f_xGT_spot])), (a_xGTc, .inl (xI X, 7, .inl v_xGTc))] hB (c_X11_hasTable X l a_x a_kb a_xP a_xG a_xK a_xR a_xA a_xU f_x_imageKept f_x_tablesRead f_x_plansDone f_x_safesDone u_1 hu_1) wq_2_221 wq_1_1 wq_2_218 wq_2_220 wp_6 hd_X11_hasTable (by decide) hP hD hS hl.1 [0] [1, 2, 3] [(a_xG, .inr (3, [.ref a_xGT, .ref a_xGb, .ref a_xGd, .ref a_xGe, .ref a_xGf, .int f_xG_seen, .int f_xG_score, .int f_xG_strokes, .int f_xG_fouls])), (a_xGT, .inr (10, [.ref a_xGTc, .ref a_xGTk, .ref a_xGTw, .long f_xGT_taken, .int f_xGT_size, .int f_xGT_spot])), (a_xGTc, .inl (xI X, 7, .inl v_xGTc))] rfl (by decide +kernel) rfl rfl rfl (nn := 4) rfl (by decide +kernel) [a_x, a_xG, a_xGT, a_xGTc] rfl rfl (q0 := 0) rfl rfl rfl rfl (Nat.le_of_ble_eq_true rfl) dX11_cell_1 ⟨Nat.zero_le _, Nat.zero_le _⟩ (fun H locs hP hD hS => ?_)
  refine lv_if_eq (tgt := 14) hx hb dX11_cell_4 (by decide) (fun c_2 => ?_) (fun c_2 => ?_)
  · replace h := it_p c_2 h
    refine lv_bipush (v := (-101)) hx hb dX11_cell_14 (by decide) ?_
    obtain rfl := Option.some.inj h
    rw [← hQ]
    exact retI hB hS hP dX11_cell_16
  · replace h := it_n c_2 h
    refine lv_iload_n hx hb dX11_cell_7 rfl (lv_at hl 1 rfl) ?_
    obtain ⟨u_3, hu_3, h⟩ := ob_s h
    refine cSi (As := [.int p1]) (rest := []) [(a_x, .inr (11, [.ref a_kb, .ref a_xP, .ref a_xG, .ref a_xK, .ref a_xR, .ref a_xA, .ref a_xU, .int f_x_imageKept, .int f_x_tablesRead, .int f_x_plansDone, .int f_x_safesDone])), (a_xG, .inr (3, [.ref a_xGT, .ref a_xGb, .ref a_xGd, .ref a_xGe, .ref a_xGf, .int f_xG_seen, .int f_xG_score, .int f_xG_strokes, .int f_xG_fouls])), (a_xGT, .inr (10, [.ref a_xGTc, .ref a_xGTk, .ref a_xGTw, .long f_xGT_taken, .int f_xGT_size, .int f_xGT_spot])), (a_xGTc, .inl (xI X, 7, .inl v_xGTc))] hB (c_X11_isCell X l p1 u_3 hu_3) wq_3_157 wq_1_1 wq_3_155 wq_3_156 hd_X11_isCell (by decide) hP hD hS hl.1 [] [0, 1, 2, 3] [(a_x, .inr (11, [.ref a_kb, .ref a_xP, .ref a_xG, .ref a_xK, .ref a_xR, .ref a_xA, .ref a_xU, .int f_x_imageKept, .int f_x_tablesRead, .int f_x_plansDone, .int f_x_safesDone])), (a_xG, .inr (3, [.ref a_xGT, .ref a_xGb, .ref a_xGd, .ref a_xGe, .ref a_xGf, .int f_xG_seen, .int f_xG_score, .int f_xG_strokes, .int f_xG_fouls])), (a_xGT, .inr (10, [.ref a_xGTc, .ref a_xGTk, .ref a_xGTw, .long f_xGT_taken, .int f_xGT_size, .int f_xGT_spot])), (a_xGTc, .inl (xI X, 7, .inl v_xGTc))] rfl (by decide +kernel) rfl rfl rfl (nn := 4) rfl (by decide +kernel) [a_x, a_xG, a_xGT, a_xGTc] rfl rfl rfl rfl (Nat.le_of_ble_eq_true rfl) dX11_cell_8 ⟨Nat.zero_le _, Nat.zero_le _⟩ (fun H locs hP hD hS => ?_)
    refine lv_if_ne (tgt := 17) hx hb dX11_cell_11 (by decide) (fun c_4 => ?_) (fun c_4 => ?_)
    · replace h := it_n c_4 h
      refine lv_iload_n hx hb dX11_cell_17 rfl (lv_at hl 1 rfl) ?_
      obtain ⟨u_5, hu_5, h⟩ := ob_s h
      refine cSi (As := [.int p1]) (rest := []) [(a_x, .inr (11, [.ref a_kb, .ref a_xP, .ref a_xG, .ref a_xK, .ref a_xR, .ref a_xA, .ref a_xU, .int f_x_imageKept, .int f_x_tablesRead, .int f_x_plansDone, .int f_x_safesDone])), (a_xG, .inr (3, [.ref a_xGT, .ref a_xGb, .ref a_xGd, .ref a_xGe, .ref a_xGf, .int f_xG_seen, .int f_xG_score, .int f_xG_strokes, .int f_xG_fouls])), (a_xGT, .inr (10, [.ref a_xGTc, .ref a_xGTk, .ref a_xGTw, .long f_xGT_taken, .int f_xGT_size, .int f_xGT_spot])), (a_xGTc, .inl (xI X, 7, .inl v_xGTc))] hB (c_X11_isPocket X l p1 u_5 hu_5) wq_2_86 wq_1_1 wq_3_158 wq_2_85 hd_X11_isPocket (by decide) hP hD hS hl.1 [] [0, 1, 2, 3] [(a_x, .inr (11, [.ref a_kb, .ref a_xP, .ref a_xG, .ref a_xK, .ref a_xR, .ref a_xA, .ref a_xU, .int f_x_imageKept, .int f_x_tablesRead, .int f_x_plansDone, .int f_x_safesDone])), (a_xG, .inr (3, [.ref a_xGT, .ref a_xGb, .ref a_xGd, .ref a_xGe, .ref a_xGf, .int f_xG_seen, .int f_xG_score, .int f_xG_strokes, .int f_xG_fouls])), (a_xGT, .inr (10, [.ref a_xGTc, .ref a_xGTk, .ref a_xGTw, .long f_xGT_taken, .int f_xGT_size, .int f_xGT_spot])), (a_xGTc, .inl (xI X, 7, .inl v_xGTc))] rfl (by decide +kernel) rfl rfl rfl (nn := 4) rfl (by decide +kernel) [a_x, a_xG, a_xGT, a_xGTc] rfl rfl rfl rfl (Nat.le_of_ble_eq_true rfl) dX11_cell_18 ⟨Nat.zero_le _, Nat.zero_le _⟩ (fun H locs hP hD hS => ?_)
      refine lv_if_eq (tgt := 29) hx hb dX11_cell_21 (by decide) (fun c_6 => ?_) (fun c_6 => ?_)
      · replace h := it_p c_6 h
        refine lv_aload_n hx hb dX11_cell_29 rfl (lv_at hl 0 rfl) ?_
        refine va_get (D := xD X) (ci := 11) (v := .ref a_xG) (C := RX11) (T := TX11) (N := 11) hx hb hts inX11 hown hK hP 0 rfl rfl 2 (by decide) (hts _ wq_1_238) (fun _ h9 => h9) rfl dX11_cell_30 ?_
        refine va_getN (D := xD X) (ci := 3) (v := .ref a_xGT) (C := RX3) (T := TX3) (N := 9) hx hb hts inX3 hown hK hP 1 rfl rfl 0 (by decide) (va_Nw.use rfl (hcx.2.1 _ wq_1_122)) (fun _ h9 => h9) rfl dX11_cell_33 ?_
        refine lv_iload_n hx hb dX11_cell_36 rfl (lv_at hl 1 rfl) ?_
        obtain ⟨u_7, hu_7, h⟩ := ob_s h
        refine cVi (C := RX10) (As := [.int p1]) (rest := []) [(a_x, .inr (11, [.ref a_kb, .ref a_xP, .ref a_xG, .ref a_xK, .ref a_xR, .ref a_xA, .ref a_xU, .int f_x_imageKept, .int f_x_tablesRead, .int f_x_plansDone, .int f_x_safesDone])), (a_xG, .inr (3, [.ref a_xGT, .ref a_xGb, .ref a_xGd, .ref a_xGe, .ref a_xGf, .int f_xG_seen, .int f_xG_score, .int f_xG_strokes, .int f_xG_fouls])), (a_xGT, .inr (10, [.ref a_xGTc, .ref a_xGTk, .ref a_xGTw, .long f_xGT_taken, .int f_xGT_size, .int f_xGT_spot])), (a_xGTc, .inl (xI X, 7, .inl v_xGTc))] hB (c_X10_ballIn X l n a_xGT a_xGTc a_xGTk a_xGTw f_xGT_taken f_xGT_size f_xGT_spot v_xGTc p1 u_7 hu_7) wq_3_57 wq_1_9 wq_3_159 wq_3_55 wq_3_56 hd_X10_ballIn (by decide) hP hD hS hl.1 [2, 3] [0, 1] [(a_x, .inr (11, [.ref a_kb, .ref a_xP, .ref a_xG, .ref a_xK, .ref a_xR, .ref a_xA, .ref a_xU, .int f_x_imageKept, .int f_x_tablesRead, .int f_x_plansDone, .int f_x_safesDone])), (a_xG, .inr (3, [.ref a_xGT, .ref a_xGb, .ref a_xGd, .ref a_xGe, .ref a_xGf, .int f_xG_seen, .int f_xG_score, .int f_xG_strokes, .int f_xG_fouls]))] rfl (by decide +kernel) rfl rfl rfl (nn := 4) rfl (by decide +kernel) [a_x, a_xG, a_xGT, a_xGTc] rfl rfl (q0 := 2) rfl rfl rfl rfl (Nat.le_of_ble_eq_true rfl) dX11_cell_37 ⟨Nat.zero_le _, Nat.zero_le _⟩ (fun H locs hP hD hS => ?_)
        obtain rfl := Option.some.inj h
        rw [← hQ]
        exact retI hB hS hP dX11_cell_40
      · replace h := it_n c_6 h
        refine lv_bipush (v := (-2)) hx hb dX11_cell_24 (by decide) ?_
        refine lv_goto (tgt := 40) hx hb dX11_cell_26 (by decide) ?_
        obtain rfl := Option.some.inj h
        rw [← hQ]
        exact retI hB hS hP dX11_cell_40
    · replace h := it_p c_4 h
      refine lv_bipush (v := (-101)) hx hb dX11_cell_14 (by decide) ?_
      obtain rfl := Option.some.inj h
      rw [← hQ]
      exact retI hB hS hP dX11_cell_16


def f_X11_isDirection (p0 : Int32) : Option (Int32) :=
  ((f_X11_within p0 0 7).bind (fun u_1 => (gd (isb u_1) (some u_1))))
theorem hd_X11_isDirection : yX11_isDirection.cls ≠ "java/lang/invoke/MethodHandle" ∧ yX11_isDirection.cls ≠ "java/lang/invoke/VarHandle" ∧ (parseMethodDescriptor yX11_isDirection.desc).map (fun d => d.parameters.length) = some 1 := ⟨by decide +kernel, by decide +kernel, by decide +kernel⟩
set_option maxHeartbeats 4000000 in
set_option maxRecDepth 100000 in
theorem c_X11_isDirection (X : CXp) (l : Launch) (p0 : Int32) (res : Int32) (h : f_X11_isDirection p0 = some res) : CTg X l yX11_isDirection cX11_isDirection 1 (some .boolean) 1 22 [.int p0] [] (QcI X res []) := by
  refine CTg.mk (own := RX11) (by decide) rfl (Nat.le_of_ble_eq_true rfl) ?_
  intro p e s m args below meth c A hB hP hD hS ls hl
  obtain ⟨hx, hb, hr, hml, hown, hts, hlocks, hcx, hA, hAB⟩ := id hB
  have hK := hcx.1
  generalize hQ : MQ below (QcI X res [] A) args s 0 0 A = Q
  replace hl : lv_has ls 1 [(0, .int p0)] := hl
  unfold f_X11_isDirection at h
  refine lv_iload_n hx hb dX11_isDirection_0 rfl (lv_at hl 0 rfl) ?_
  refine lv_iconst (v := 0) hx hb dX11_isDirection_1 (by decide) ?_
  refine lv_bipush (v := 7) hx hb dX11_isDirection_2 (by decide) ?_
  obtain ⟨u_1, hu_1, h⟩ := ob_s h
  refine cSi (As := [.int p0, .int 0, .int 7]) (rest := []) [] hB (c_X11_within X l p0 0 7 u_1 hu_1) wq_2_36 wq_1_1 wq_2_34 wq_2_35 hd_X11_within (by decide) hP hD hS hl.1 [] [] [] rfl (by decide +kernel) rfl rfl rfl (nn := 0) rfl (by decide +kernel) [] rfl rfl rfl rfl (Nat.le_of_ble_eq_true rfl) dX11_isDirection_4 ⟨Nat.zero_le _, Nat.zero_le _⟩ (fun H locs hP hD hS => ?_)
  obtain ⟨z_2, h⟩ := gd_s h
  obtain rfl := Option.some.inj h
  rw [← hQ]
  exact retZ (r := u_1) hB (isb_n z_2) hS hP dX11_isDirection_7


def f_X11_sees (n : Nat) (f_x_tablesRead : Int32) (f_xGT_taken : Int64) (v_xGTc : Nat → Int32) (p1 : Int32) : Option (Int32) :=
  ((f_X11_isDirection p1).bind (fun u_1 => (if u_1 = 0 then (some (-102)) else ((f_X11_hasTable f_x_tablesRead).bind (fun u_3 => (if u_3 = 0 then (some (-103)) else ((f_X10_firstInSight n f_xGT_taken v_xGTc p1).bind (fun u_5 => (some u_5)))))))))
theorem hd_X11_sees : yX11_sees.cls ≠ "java/lang/invoke/MethodHandle" ∧ yX11_sees.cls ≠ "java/lang/invoke/VarHandle" ∧ (parseMethodDescriptor yX11_sees.desc).map (fun d => d.parameters.length) = some 1 := ⟨by decide +kernel, by decide +kernel, by decide +kernel⟩
set_option maxHeartbeats 4000000 in
set_option maxRecDepth 100000 in
theorem c_X11_sees (X : CXp) (l : Launch) (n : Nat) (a_x a_kb a_xP a_xG a_xGT a_xGTc a_xGTk a_xGTw a_xGb a_xGd a_xGe a_xGf a_xK a_xR a_xA a_xU : Nat) (f_x_imageKept : Int32) (f_x_tablesRead : Int32) (f_x_plansDone : Int32) (f_x_safesDone : Int32) (f_xG_seen : Int32) (f_xG_score : Int32) (f_xG_strokes : Int32) (f_xG_fouls : Int32) (f_xGT_taken : Int64) (f_xGT_size : Int32) (f_xGT_spot : Int32) (v_xGTc : Nat → Int32) (p1 : Int32) (res : Int32) (h : f_X11_sees n f_x_tablesRead f_xGT_taken v_xGTc p1 = some res) : CTg X l yX11_sees cX11_sees 2 (some .int) 2 47 [.ref a_x, .int p1] [(a_x, .inr (11, [.ref a_kb, .ref a_xP, .ref a_xG, .ref a_xK, .ref a_xR, .ref a_xA, .ref a_xU, .int f_x_imageKept, .int f_x_tablesRead, .int f_x_plansDone, .int f_x_safesDone])), (a_xG, .inr (3, [.ref a_xGT, .ref a_xGb, .ref a_xGd, .ref a_xGe, .ref a_xGf, .int f_xG_seen, .int f_xG_score, .int f_xG_strokes, .int f_xG_fouls])), (a_xGT, .inr (10, [.ref a_xGTc, .ref a_xGTk, .ref a_xGTw, .long f_xGT_taken, .int f_xGT_size, .int f_xGT_spot])), (a_xGTc, .inl (xI X, 7, .inl v_xGTc))] (QcI X res [(a_x, .inr (11, [.ref a_kb, .ref a_xP, .ref a_xG, .ref a_xK, .ref a_xR, .ref a_xA, .ref a_xU, .int f_x_imageKept, .int f_x_tablesRead, .int f_x_plansDone, .int f_x_safesDone])), (a_xG, .inr (3, [.ref a_xGT, .ref a_xGb, .ref a_xGd, .ref a_xGe, .ref a_xGf, .int f_xG_seen, .int f_xG_score, .int f_xG_strokes, .int f_xG_fouls])), (a_xGT, .inr (10, [.ref a_xGTc, .ref a_xGTk, .ref a_xGTw, .long f_xGT_taken, .int f_xGT_size, .int f_xGT_spot])), (a_xGTc, .inl (xI X, 7, .inl v_xGTc))]) := by
  refine CTg.mk (own := RX11) (by decide) rfl (Nat.le_of_ble_eq_true rfl) ?_
  intro p e s m args below meth c A hB hP hD hS ls hl
  obtain ⟨hx, hb, hr, hml, hown, hts, hlocks, hcx, hA, hAB⟩ := id hB
  have hK := hcx.1
  generalize hQ : MQ below (QcI X res [(a_x, .inr (11, [.ref a_kb, .ref a_xP, .ref a_xG, .ref a_xK, .ref a_xR, .ref a_xA, .ref a_xU, .int f_x_imageKept, .int f_x_tablesRead, .int f_x_plansDone, .int f_x_safesDone])), (a_xG, .inr (3, [.ref a_xGT, .ref a_xGb, .ref a_xGd, .ref a_xGe, .ref a_xGf, .int f_xG_seen, .int f_xG_score, .int f_xG_strokes, .int f_xG_fouls])), (a_xGT, .inr (10, [.ref a_xGTc, .ref a_xGTk, .ref a_xGTw, .long f_xGT_taken, .int f_xGT_size, .int f_xGT_spot])), (a_xGTc, .inl (xI X, 7, .inl v_xGTc))] A) args s 0 0 A = Q
  replace hl : lv_has ls 2 [(0, .ref a_x), (1, .int p1)] := hl
  unfold f_X11_sees at h
  refine lv_iload_n hx hb dX11_sees_0 rfl (lv_at hl 1 rfl) ?_
  obtain ⟨u_1, hu_1, h⟩ := ob_s h
  refine cSi (As := [.int p1]) (rest := []) [(a_x, .inr (11, [.ref a_kb, .ref a_xP, .ref a_xG, .ref a_xK, .ref a_xR, .ref a_xA, .ref a_xU, .int f_x_imageKept, .int f_x_tablesRead, .int f_x_plansDone, .int f_x_safesDone])), (a_xG, .inr (3, [.ref a_xGT, .ref a_xGb, .ref a_xGd, .ref a_xGe, .ref a_xGf, .int f_xG_seen, .int f_xG_score, .int f_xG_strokes, .int f_xG_fouls])), (a_xGT, .inr (10, [.ref a_xGTc, .ref a_xGTk, .ref a_xGTw, .long f_xGT_taken, .int f_xGT_size, .int f_xGT_spot])), (a_xGTc, .inl (xI X, 7, .inl v_xGTc))] hB (c_X11_isDirection X l p1 u_1 hu_1) wq_3_166 wq_1_1 wq_3_164 wq_3_165 hd_X11_isDirection (by decide) hP hD hS hl.1 [] [0, 1, 2, 3] [(a_x, .inr (11, [.ref a_kb, .ref a_xP, .ref a_xG, .ref a_xK, .ref a_xR, .ref a_xA, .ref a_xU, .int f_x_imageKept, .int f_x_tablesRead, .int f_x_plansDone, .int f_x_safesDone])), (a_xG, .inr (3, [.ref a_xGT, .ref a_xGb, .ref a_xGd, .ref a_xGe, .ref a_xGf, .int f_xG_seen, .int f_xG_score, .int f_xG_strokes, .int f_xG_fouls])), (a_xGT, .inr (10, [.ref a_xGTc, .ref a_xGTk, .ref a_xGTw, .long f_xGT_taken, .int f_xGT_size, .int f_xGT_spot])), (a_xGTc, .inl (xI X, 7, .inl v_xGTc))] rfl (by decide +kernel) rfl rfl rfl (nn := 4) rfl (by decide +kernel) [a_x, a_xG, a_xGT, a_xGTc] rfl rfl rfl rfl (Nat.le_of_ble_eq_true rfl) dX11_sees_1 ⟨Nat.zero_le _, Nat.zero_le _⟩ (fun H locs hP hD hS => ?_)
  refine lv_if_ne (tgt := 10) hx hb dX11_sees_4 (by decide) (fun c_2 => ?_) (fun c_2 => ?_)
  · replace h := it_n c_2 h
    refine lv_aload_n hx hb dX11_sees_10 rfl (lv_at hl 0 rfl) ?_
    obtain ⟨u_3, hu_3, h⟩ := ob_s h
    refine cVi (C := RX11) (As := []) (rest := []) [(a_x, .inr (11, [.ref a_kb, .ref a_xP, .ref a_xG, .ref a_xK, .ref a_xR, .ref a_xA, .ref a_xU, .int f_x_imageKept, .int f_x_tablesRead, .int f_x_plansDone, .int f_x_safesDone])), (a_xG, .inr (3, [.ref a_xGT, .ref a_xGb, .ref a_xGd, .ref a_xGe, .ref a_xGf, .int f_xG_seen, .int f_xG_score, .int f_xG_strokes, .int f_xG_fouls])), (a_xGT, .inr (10, [.ref a_xGTc, .ref a_xGTk, .ref a_xGTw, .long f_xGT_taken, .int f_xGT_size, .int f_xGT_spot])), (a_xGTc, .inl (xI X, 7, .inl v_xGTc))] hB (c_X11_hasTable X l a_x a_kb a_xP a_xG a_xK a_xR a_xA a_xU f_x_imageKept f_x_tablesRead f_x_plansDone f_x_safesDone u_3 hu_3) wq_2_221 wq_1_1 wq_2_218 wq_2_220 wp_6 hd_X11_hasTable (by decide) hP hD hS hl.1 [0] [1, 2, 3] [(a_xG, .inr (3, [.ref a_xGT, .ref a_xGb, .ref a_xGd, .ref a_xGe, .ref a_xGf, .int f_xG_seen, .int f_xG_score, .int f_xG_strokes, .int f_xG_fouls])), (a_xGT, .inr (10, [.ref a_xGTc, .ref a_xGTk, .ref a_xGTw, .long f_xGT_taken, .int f_xGT_size, .int f_xGT_spot])), (a_xGTc, .inl (xI X, 7, .inl v_xGTc))] rfl (by decide +kernel) rfl rfl rfl (nn := 4) rfl (by decide +kernel) [a_x, a_xG, a_xGT, a_xGTc] rfl rfl (q0 := 0) rfl rfl rfl rfl (Nat.le_of_ble_eq_true rfl) dX11_sees_11 ⟨Nat.zero_le _, Nat.zero_le _⟩ (fun H locs hP hD hS => ?_)
    refine lv_if_ne (tgt := 20) hx hb dX11_sees_14 (by decide) (fun c_4 => ?_) (fun c_4 => ?_)
    · replace h := it_n c_4 h
      refine lv_aload_n hx hb dX11_sees_20 rfl (lv_at hl 0 rfl) ?_
      refine va_get (D := xD X) (ci := 11) (v := .ref a_xG) (C := RX11) (T := TX11) (N := 11) hx hb hts inX11 hown hK hP 0 rfl rfl 2 (by decide) (hts _ wq_1_238) (fun _ h9 => h9) rfl dX11_sees_21 ?_
      refine va_getN (D := xD X) (ci := 3) (v := .ref a_xGT) (C := RX3) (T := TX3) (N := 9) hx hb hts inX3 hown hK hP 1 rfl rfl 0 (by decide) (va_Nw.use rfl (hcx.2.1 _ wq_1_122)) (fun _ h9 => h9) rfl dX11_sees_24 ?_
      refine lv_iload_n hx hb dX11_sees_27 rfl (lv_at hl 1 rfl) ?_
      obtain ⟨u_5, hu_5, h⟩ := ob_s h
      refine cVi (C := RX10) (As := [.int p1]) (rest := []) [(a_x, .inr (11, [.ref a_kb, .ref a_xP, .ref a_xG, .ref a_xK, .ref a_xR, .ref a_xA, .ref a_xU, .int f_x_imageKept, .int f_x_tablesRead, .int f_x_plansDone, .int f_x_safesDone])), (a_xG, .inr (3, [.ref a_xGT, .ref a_xGb, .ref a_xGd, .ref a_xGe, .ref a_xGf, .int f_xG_seen, .int f_xG_score, .int f_xG_strokes, .int f_xG_fouls])), (a_xGT, .inr (10, [.ref a_xGTc, .ref a_xGTk, .ref a_xGTw, .long f_xGT_taken, .int f_xGT_size, .int f_xGT_spot])), (a_xGTc, .inl (xI X, 7, .inl v_xGTc))] hB (c_X10_firstInSight X l n a_xGT a_xGTc a_xGTk a_xGTw f_xGT_taken f_xGT_size f_xGT_spot v_xGTc p1 u_5 hu_5) wq_3_170 wq_1_9 wq_3_167 wq_3_168 wq_3_169 hd_X10_firstInSight (by decide) hP hD hS hl.1 [2, 3] [0, 1] [(a_x, .inr (11, [.ref a_kb, .ref a_xP, .ref a_xG, .ref a_xK, .ref a_xR, .ref a_xA, .ref a_xU, .int f_x_imageKept, .int f_x_tablesRead, .int f_x_plansDone, .int f_x_safesDone])), (a_xG, .inr (3, [.ref a_xGT, .ref a_xGb, .ref a_xGd, .ref a_xGe, .ref a_xGf, .int f_xG_seen, .int f_xG_score, .int f_xG_strokes, .int f_xG_fouls]))] rfl (by decide +kernel) rfl rfl rfl (nn := 4) rfl (by decide +kernel) [a_x, a_xG, a_xGT, a_xGTc] rfl rfl (q0 := 2) rfl rfl rfl rfl (Nat.le_of_ble_eq_true rfl) dX11_sees_28 ⟨Nat.zero_le _, Nat.zero_le _⟩ (fun H locs hP hD hS => ?_)
      obtain rfl := Option.some.inj h
      rw [← hQ]
      exact retI hB hS hP dX11_sees_31
    · replace h := it_p c_4 h
      refine lv_bipush (v := (-103)) hx hb dX11_sees_17 (by decide) ?_
      obtain rfl := Option.some.inj h
      rw [← hQ]
      exact retI hB hS hP dX11_sees_19
  · replace h := it_p c_2 h
    refine lv_bipush (v := (-102)) hx hb dX11_sees_7 (by decide) ?_
    obtain rfl := Option.some.inj h
    rw [← hQ]
    exact retI hB hS hP dX11_sees_9


def f_X11_put (n : Nat) (f_x_tablesRead : Int32) (f_xGT_taken : Int64) (f_xGT_size : Int32) (v_xGTc : Nat → Int32) (p1 : Int32) (p2 : Int32) : Option (Int32 × Int64 × (Nat → Int32)) :=
  ((f_X11_isBall f_x_tablesRead f_xGT_size p1).bind (fun u_1 => (if u_1 = 0 then (some ((-101), f_xGT_taken, v_xGTc)) else ((f_X11_isCell p2).bind (fun u_3 => (if u_3 = 0 then (some ((-101), f_xGT_taken, v_xGTc)) else ((f_X10_ballIn n f_xGT_taken v_xGTc p2).bind (fun u_5 => ((f_X11_isPocket p2).bind (fun u_6 => (if u_6 = 0 then (jn (((f_X10_cellOf v_xGTc p1).bind (fun u_9 => ((f_X10_lay f_xGT_taken v_xGTc p1 p2).bind (fun u_10 => (some (u_9, u_10.1, u_10.2))))))) (fun (j50_8 : Option (Int32 × Int64 × (Nat → Int32))) => (if u_5 = (-1) then j50_8 else (if u_5 = p1 then j50_8 else (some ((-103), f_xGT_taken, v_xGTc)))))) else (some ((-103), f_xGT_taken, v_xGTc)))))))))))))
theorem hd_X11_put : yX11_put.cls ≠ "java/lang/invoke/MethodHandle" ∧ yX11_put.cls ≠ "java/lang/invoke/VarHandle" ∧ (parseMethodDescriptor yX11_put.desc).map (fun d => d.parameters.length) = some 2 := ⟨by decide +kernel, by decide +kernel, by decide +kernel⟩
set_option maxHeartbeats 4000000 in
set_option maxRecDepth 100000 in
theorem c_X11_put (X : CXp) (l : Launch) (n : Nat) (a_x a_kb a_xP a_xG a_xGT a_xGTc a_xGTk a_xGTw a_xGb a_xGd a_xGe a_xGf a_xK a_xR a_xA a_xU : Nat) (f_x_imageKept : Int32) (f_x_tablesRead : Int32) (f_x_plansDone : Int32) (f_x_safesDone : Int32) (f_xG_seen : Int32) (f_xG_score : Int32) (f_xG_strokes : Int32) (f_xG_fouls : Int32) (f_xGT_taken : Int64) (f_xGT_size : Int32) (f_xGT_spot : Int32) (v_xGTc : Nat → Int32) (p1 : Int32) (p2 : Int32) (res : Int32 × Int64 × (Nat → Int32)) (h : f_X11_put n f_x_tablesRead f_xGT_taken f_xGT_size v_xGTc p1 p2 = some res) : CTg X l yX11_put cX11_put 5 (some .int) 2 43 [.ref a_x, .int p1, .int p2] [(a_x, .inr (11, [.ref a_kb, .ref a_xP, .ref a_xG, .ref a_xK, .ref a_xR, .ref a_xA, .ref a_xU, .int f_x_imageKept, .int f_x_tablesRead, .int f_x_plansDone, .int f_x_safesDone])), (a_xG, .inr (3, [.ref a_xGT, .ref a_xGb, .ref a_xGd, .ref a_xGe, .ref a_xGf, .int f_xG_seen, .int f_xG_score, .int f_xG_strokes, .int f_xG_fouls])), (a_xGT, .inr (10, [.ref a_xGTc, .ref a_xGTk, .ref a_xGTw, .long f_xGT_taken, .int f_xGT_size, .int f_xGT_spot])), (a_xGTc, .inl (xI X, 7, .inl v_xGTc))] (QcI X res.1 [(a_x, .inr (11, [.ref a_kb, .ref a_xP, .ref a_xG, .ref a_xK, .ref a_xR, .ref a_xA, .ref a_xU, .int f_x_imageKept, .int f_x_tablesRead, .int f_x_plansDone, .int f_x_safesDone])), (a_xG, .inr (3, [.ref a_xGT, .ref a_xGb, .ref a_xGd, .ref a_xGe, .ref a_xGf, .int f_xG_seen, .int f_xG_score, .int f_xG_strokes, .int f_xG_fouls])), (a_xGT, .inr (10, [.ref a_xGTc, .ref a_xGTk, .ref a_xGTw, .long res.2.1, .int f_xGT_size, .int f_xGT_spot])), (a_xGTc, .inl (xI X, 7, .inl res.2.2))]) := by
  refine CTg.mk (own := RX11) (by decide) rfl (Nat.le_of_ble_eq_true rfl) ?_
  intro p e s m args below meth c A hB hP hD hS ls hl
  obtain ⟨hx, hb, hr, hml, hown, hts, hlocks, hcx, hA, hAB⟩ := id hB
  have hK := hcx.1
  generalize hQ : MQ below (QcI X res.1 [(a_x, .inr (11, [.ref a_kb, .ref a_xP, .ref a_xG, .ref a_xK, .ref a_xR, .ref a_xA, .ref a_xU, .int f_x_imageKept, .int f_x_tablesRead, .int f_x_plansDone, .int f_x_safesDone])), (a_xG, .inr (3, [.ref a_xGT, .ref a_xGb, .ref a_xGd, .ref a_xGe, .ref a_xGf, .int f_xG_seen, .int f_xG_score, .int f_xG_strokes, .int f_xG_fouls])), (a_xGT, .inr (10, [.ref a_xGTc, .ref a_xGTk, .ref a_xGTw, .long res.2.1, .int f_xGT_size, .int f_xGT_spot])), (a_xGTc, .inl (xI X, 7, .inl res.2.2))] A) args s 0 0 A = Q
  replace hl : lv_has ls 5 [(0, .ref a_x), (1, .int p1), (2, .int p2)] := hl
  unfold f_X11_put at h
  refine lv_aload_n hx hb dX11_put_0 rfl (lv_at hl 0 rfl) ?_
  refine lv_iload_n hx hb dX11_put_1 rfl (lv_at hl 1 rfl) ?_
  obtain ⟨u_1, hu_1, h⟩ := ob_s h
  refine cVi (C := RX11) (As := [.int p1]) (rest := []) [(a_x, .inr (11, [.ref a_kb, .ref a_xP, .ref a_xG, .ref a_xK, .ref a_xR, .ref a_xA, .ref a_xU, .int f_x_imageKept, .int f_x_tablesRead, .int f_x_plansDone, .int f_x_safesDone])), (a_xG, .inr (3, [.ref a_xGT, .ref a_xGb, .ref a_xGd, .ref a_xGe, .ref a_xGf, .int f_xG_seen, .int f_xG_score, .int f_xG_strokes, .int f_xG_fouls])), (a_xGT, .inr (10, [.ref a_xGTc, .ref a_xGTk, .ref a_xGTw, .long f_xGT_taken, .int f_xGT_size, .int f_xGT_spot])), (a_xGTc, .inl (xI X, 7, .inl v_xGTc))] hB (c_X11_isBall X l a_x a_kb a_xP a_xG a_xGT a_xGTc a_xGTk a_xGTw a_xGb a_xGd a_xGe a_xGf a_xK a_xR a_xA a_xU f_x_imageKept f_x_tablesRead f_x_plansDone f_x_safesDone f_xG_seen f_xG_score f_xG_strokes f_xG_fouls f_xGT_taken f_xGT_size f_xGT_spot p1 u_1 hu_1) wq_2_217 wq_1_1 wq_2_214 wq_2_216 wp_5 hd_X11_isBall (by decide) hP hD hS hl.1 [0, 1, 2] [3] [(a_xGTc, .inl (xI X, 7, .inl v_xGTc))] rfl (by decide +kernel) rfl rfl rfl (nn := 4) rfl (by decide +kernel) [a_x, a_xG, a_xGT, a_xGTc] rfl rfl (q0 := 0) rfl rfl rfl rfl (Nat.le_of_ble_eq_true rfl) dX11_put_2 ⟨Nat.zero_le _, Nat.zero_le _⟩ (fun H locs hP hD hS => ?_)
  refine lv_if_eq (tgt := 15) hx hb dX11_put_5 (by decide) (fun c_2 => ?_) (fun c_2 => ?_)
  · replace h := it_p c_2 h
    refine lv_bipush (v := (-101)) hx hb dX11_put_15 (by decide) ?_
    obtain rfl := Option.some.inj h
    rw [← hQ]
    exact retI hB hS hP dX11_put_17
  · replace h := it_n c_2 h
    refine lv_iload_n hx hb dX11_put_8 rfl (lv_at hl 2 rfl) ?_
    obtain ⟨u_3, hu_3, h⟩ := ob_s h
    refine cSi (As := [.int p2]) (rest := []) [(a_x, .inr (11, [.ref a_kb, .ref a_xP, .ref a_xG, .ref a_xK, .ref a_xR, .ref a_xA, .ref a_xU, .int f_x_imageKept, .int f_x_tablesRead, .int f_x_plansDone, .int f_x_safesDone])), (a_xG, .inr (3, [.ref a_xGT, .ref a_xGb, .ref a_xGd, .ref a_xGe, .ref a_xGf, .int f_xG_seen, .int f_xG_score, .int f_xG_strokes, .int f_xG_fouls])), (a_xGT, .inr (10, [.ref a_xGTc, .ref a_xGTk, .ref a_xGTw, .long f_xGT_taken, .int f_xGT_size, .int f_xGT_spot])), (a_xGTc, .inl (xI X, 7, .inl v_xGTc))] hB (c_X11_isCell X l p2 u_3 hu_3) wq_3_157 wq_1_1 wq_3_155 wq_3_156 hd_X11_isCell (by decide) hP hD hS hl.1 [] [0, 1, 2, 3] [(a_x, .inr (11, [.ref a_kb, .ref a_xP, .ref a_xG, .ref a_xK, .ref a_xR, .ref a_xA, .ref a_xU, .int f_x_imageKept, .int f_x_tablesRead, .int f_x_plansDone, .int f_x_safesDone])), (a_xG, .inr (3, [.ref a_xGT, .ref a_xGb, .ref a_xGd, .ref a_xGe, .ref a_xGf, .int f_xG_seen, .int f_xG_score, .int f_xG_strokes, .int f_xG_fouls])), (a_xGT, .inr (10, [.ref a_xGTc, .ref a_xGTk, .ref a_xGTw, .long f_xGT_taken, .int f_xGT_size, .int f_xGT_spot])), (a_xGTc, .inl (xI X, 7, .inl v_xGTc))] rfl (by decide +kernel) rfl rfl rfl (nn := 4) rfl (by decide +kernel) [a_x, a_xG, a_xGT, a_xGTc] rfl rfl rfl rfl (Nat.le_of_ble_eq_true rfl) dX11_put_9 ⟨Nat.zero_le _, Nat.zero_le _⟩ (fun H locs hP hD hS => ?_)
    refine lv_if_ne (tgt := 18) hx hb dX11_put_12 (by decide) (fun c_4 => ?_) (fun c_4 => ?_)
    · replace h := it_n c_4 h
      refine lv_aload_n hx hb dX11_put_18 rfl (lv_at hl 0 rfl) ?_
      refine va_get (D := xD X) (ci := 11) (v := .ref a_xG) (C := RX11) (T := TX11) (N := 11) hx hb hts inX11 hown hK hP 0 rfl rfl 2 (by decide) (hts _ wq_1_238) (fun _ h9 => h9) rfl dX11_put_19 ?_
      refine va_getN (D := xD X) (ci := 3) (v := .ref a_xGT) (C := RX3) (T := TX3) (N := 9) hx hb hts inX3 hown hK hP 1 rfl rfl 0 (by decide) (va_Nw.use rfl (hcx.2.1 _ wq_1_122)) (fun _ h9 => h9) rfl dX11_put_22 ?_
      refine lv_iload_n hx hb dX11_put_25 rfl (lv_at hl 2 rfl) ?_
      obtain ⟨u_5, hu_5, h⟩ := ob_s h
      refine cVi (C := RX10) (As := [.int p2]) (rest := []) [(a_x, .inr (11, [.ref a_kb, .ref a_xP, .ref a_xG, .ref a_xK, .ref a_xR, .ref a_xA, .ref a_xU, .int f_x_imageKept, .int f_x_tablesRead, .int f_x_plansDone, .int f_x_safesDone])), (a_xG, .inr (3, [.ref a_xGT, .ref a_xGb, .ref a_xGd, .ref a_xGe, .ref a_xGf, .int f_xG_seen, .int f_xG_score, .int f_xG_strokes, .int f_xG_fouls])), (a_xGT, .inr (10, [.ref a_xGTc, .ref a_xGTk, .ref a_xGTw, .long f_xGT_taken, .int f_xGT_size, .int f_xGT_spot])), (a_xGTc, .inl (xI X, 7, .inl v_xGTc))] hB (c_X10_ballIn X l n a_xGT a_xGTc a_xGTk a_xGTw f_xGT_taken f_xGT_size f_xGT_spot v_xGTc p2 u_5 hu_5) wq_3_57 wq_1_9 wq_3_159 wq_3_55 wq_3_56 hd_X10_ballIn (by decide) hP hD hS hl.1 [2, 3] [0, 1] [(a_x, .inr (11, [.ref a_kb, .ref a_xP, .ref a_xG, .ref a_xK, .ref a_xR, .ref a_xA, .ref a_xU, .int f_x_imageKept, .int f_x_tablesRead, .int f_x_plansDone, .int f_x_safesDone])), (a_xG, .inr (3, [.ref a_xGT, .ref a_xGb, .ref a_xGd, .ref a_xGe, .ref a_xGf, .int f_xG_seen, .int f_xG_score, .int f_xG_strokes, .int f_xG_fouls]))] rfl (by decide +kernel) rfl rfl rfl (nn := 4) rfl (by decide +kernel) [a_x, a_xG, a_xGT, a_xGTc] rfl rfl (q0 := 2) rfl rfl rfl rfl (Nat.le_of_ble_eq_true rfl) dX11_put_26 ⟨Nat.zero_le _, Nat.zero_le _⟩ (fun H locs hP hD hS => ?_)
      refine lv_istore_n (lv' := [(3, .int u_5), (0, .ref a_x), (1, .int p1), (2, .int p2)]) hx hb dX11_put_29 rfl hl (by decide) rfl (fun ls hl => ?_)
      refine lv_iload_n hx hb dX11_put_30 rfl (lv_at hl 3 rfl) ?_
      obtain ⟨u_6, hu_6, h⟩ := ob_s h
      refine cSi (As := [.int p2]) (rest := []) [(a_x, .inr (11, [.ref a_kb, .ref a_xP, .ref a_xG, .ref a_xK, .ref a_xR, .ref a_xA, .ref a_xU, .int f_x_imageKept, .int f_x_tablesRead, .int f_x_plansDone, .int f_x_safesDone])), (a_xG, .inr (3, [.ref a_xGT, .ref a_xGb, .ref a_xGd, .ref a_xGe, .ref a_xGf, .int f_xG_seen, .int f_xG_score, .int f_xG_strokes, .int f_xG_fouls])), (a_xGT, .inr (10, [.ref a_xGTc, .ref a_xGTk, .ref a_xGTw, .long f_xGT_taken, .int f_xGT_size, .int f_xGT_spot])), (a_xGTc, .inl (xI X, 7, .inl v_xGTc))] hB (c_X11_isPocket X l p2 u_6 hu_6) wq_2_86 wq_1_1 wq_3_158 wq_2_85 hd_X11_isPocket (by decide) hP hD hS hl.1 [] [0, 1, 2, 3] [(a_x, .inr (11, [.ref a_kb, .ref a_xP, .ref a_xG, .ref a_xK, .ref a_xR, .ref a_xA, .ref a_xU, .int f_x_imageKept, .int f_x_tablesRead, .int f_x_plansDone, .int f_x_safesDone])), (a_xG, .inr (3, [.ref a_xGT, .ref a_xGb, .ref a_xGd, .ref a_xGe, .ref a_xGf, .int f_xG_seen, .int f_xG_score, .int f_xG_strokes, .int f_xG_fouls])), (a_xGT, .inr (10, [.ref a_xGTc, .ref a_xGTk, .ref a_xGTw, .long f_xGT_taken, .int f_xGT_size, .int f_xGT_spot])), (a_xGTc, .inl (xI X, 7, .inl v_xGTc))] rfl (by decide +kernel) rfl rfl rfl (nn := 4) rfl (by decide +kernel) [a_x, a_xG, a_xGT, a_xGTc] rfl rfl rfl rfl (Nat.le_of_ble_eq_true rfl) dX11_put_31 ⟨Nat.zero_le _, Nat.zero_le _⟩ (fun H locs hP hD hS => ?_)
      refine lv_if_ne (tgt := 47) hx hb dX11_put_34 (by decide) (fun c_7 => ?_) (fun c_7 => ?_)
      · replace h := it_n c_7 h
        refine lv_bipush (v := (-103)) hx hb dX11_put_47 (by decide) ?_
        obtain rfl := Option.some.inj h
        rw [← hQ]
        exact retI hB hS hP dX11_put_49
      · replace h := it_p c_7 h
        refine lv_iload_n hx hb dX11_put_37 rfl (lv_at hl 0 rfl) ?_
        refine lv_iconst (v := (-1)) hx hb dX11_put_38 (by decide) ?_
        obtain ⟨j50_8, ej50_8, h⟩ := jn_s h
        have J50_8 : j50_8 = some res → ∀ (H : Heap) (locs : List Loc) (ls : Array Slot), va_P (xD X) vwCl [(a_x, .inr (11, [.ref a_kb, .ref a_xP, .ref a_xG, .ref a_xK, .ref a_xR, .ref a_xA, .ref a_xU, .int f_x_imageKept, .int f_x_tablesRead, .int f_x_plansDone, .int f_x_safesDone])), (a_xG, .inr (3, [.ref a_xGT, .ref a_xGb, .ref a_xGd, .ref a_xGe, .ref a_xGf, .int f_xG_seen, .int f_xG_score, .int f_xG_strokes, .int f_xG_fouls])), (a_xGT, .inr (10, [.ref a_xGTc, .ref a_xGTk, .ref a_xGTw, .long f_xGT_taken, .int f_xGT_size, .int f_xGT_spot])), (a_xGTc, .inl (xI X, 7, .inl v_xGTc))] H → va_D A [(a_x, .inr (11, [.ref a_kb, .ref a_xP, .ref a_xG, .ref a_xK, .ref a_xR, .ref a_xA, .ref a_xU, .int f_x_imageKept, .int f_x_tablesRead, .int f_x_plansDone, .int f_x_safesDone])), (a_xG, .inr (3, [.ref a_xGT, .ref a_xGb, .ref a_xGd, .ref a_xGe, .ref a_xGf, .int f_xG_seen, .int f_xG_score, .int f_xG_strokes, .int f_xG_fouls])), (a_xGT, .inr (10, [.ref a_xGTc, .ref a_xGTk, .ref a_xGTw, .long f_xGT_taken, .int f_xGT_size, .int f_xGT_spot])), (a_xGTc, .inl (xI X, 7, .inl v_xGTc))] → va_S A s.heap H locs → lv_has ls 5 [(0, .ref a_x), (1, .int p1), (2, .int p2)] → W p l e (rmF 2 43) s m args below meth c H locs 0 0 Q (F0 m 50 ls []) := by
          clear h
          intro h H locs ls hP hD hS hl
          rw [ej50_8] at h
          refine lv_aload_n hx hb dX11_put_50 rfl (lv_at hl 0 rfl) ?_
          refine va_get (D := xD X) (ci := 11) (v := .ref a_xG) (C := RX11) (T := TX11) (N := 11) hx hb hts inX11 hown hK hP 0 rfl rfl 2 (by decide) (hts _ wq_1_238) (fun _ h9 => h9) rfl dX11_put_51 ?_
          refine va_getN (D := xD X) (ci := 3) (v := .ref a_xGT) (C := RX3) (T := TX3) (N := 9) hx hb hts inX3 hown hK hP 1 rfl rfl 0 (by decide) (va_Nw.use rfl (hcx.2.1 _ wq_1_122)) (fun _ h9 => h9) rfl dX11_put_54 ?_
          refine lv_iload_n hx hb dX11_put_57 rfl (lv_at hl 1 rfl) ?_
          obtain ⟨u_9, hu_9, h⟩ := ob_s h
          refine cVi (C := RX10) (As := [.int p1]) (rest := []) [(a_x, .inr (11, [.ref a_kb, .ref a_xP, .ref a_xG, .ref a_xK, .ref a_xR, .ref a_xA, .ref a_xU, .int f_x_imageKept, .int f_x_tablesRead, .int f_x_plansDone, .int f_x_safesDone])), (a_xG, .inr (3, [.ref a_xGT, .ref a_xGb, .ref a_xGd, .ref a_xGe, .ref a_xGf, .int f_xG_seen, .int f_xG_score, .int f_xG_strokes, .int f_xG_fouls])), (a_xGT, .inr (10, [.ref a_xGTc, .ref a_xGTk, .ref a_xGTw, .long f_xGT_taken, .int f_xGT_size, .int f_xGT_spot])), (a_xGTc, .inl (xI X, 7, .inl v_xGTc))] hB (c_X10_cellOf X l a_xGT a_xGTc a_xGTk a_xGTw f_xGT_taken f_xGT_size f_xGT_spot v_xGTc p1 u_9 hu_9) wq_2_233 wq_1_9 wq_2_230 wq_2_231 wq_2_232 hd_X10_cellOf (by decide) hP hD hS hl.1 [2, 3] [0, 1] [(a_x, .inr (11, [.ref a_kb, .ref a_xP, .ref a_xG, .ref a_xK, .ref a_xR, .ref a_xA, .ref a_xU, .int f_x_imageKept, .int f_x_tablesRead, .int f_x_plansDone, .int f_x_safesDone])), (a_xG, .inr (3, [.ref a_xGT, .ref a_xGb, .ref a_xGd, .ref a_xGe, .ref a_xGf, .int f_xG_seen, .int f_xG_score, .int f_xG_strokes, .int f_xG_fouls]))] rfl (by decide +kernel) rfl rfl rfl (nn := 4) rfl (by decide +kernel) [a_x, a_xG, a_xGT, a_xGTc] rfl rfl (q0 := 2) rfl rfl rfl rfl (Nat.le_of_ble_eq_true rfl) dX11_put_58 ⟨Nat.zero_le _, Nat.zero_le _⟩ (fun H locs hP hD hS => ?_)
          refine lv_istore (lv' := [(4, .int u_9), (0, .ref a_x), (1, .int p1), (2, .int p2)]) hx hb dX11_put_61 hl (by decide) rfl (fun ls hl => ?_)
          refine lv_aload_n hx hb dX11_put_63 rfl (lv_at hl 1 rfl) ?_
          refine va_get (D := xD X) (ci := 11) (v := .ref a_xG) (C := RX11) (T := TX11) (N := 11) hx hb hts inX11 hown hK hP 0 rfl rfl 2 (by decide) (hts _ wq_1_238) (fun _ h9 => h9) rfl dX11_put_64 ?_
          refine va_getN (D := xD X) (ci := 3) (v := .ref a_xGT) (C := RX3) (T := TX3) (N := 9) hx hb hts inX3 hown hK hP 1 rfl rfl 0 (by decide) (va_Nw.use rfl (hcx.2.1 _ wq_1_122)) (fun _ h9 => h9) rfl dX11_put_67 ?_
          refine lv_iload_n hx hb dX11_put_70 rfl (lv_at hl 2 rfl) ?_
          refine lv_iload_n hx hb dX11_put_71 rfl (lv_at hl 3 rfl) ?_
          obtain ⟨u_10, hu_10, h⟩ := ob_s h
          refine cVv (C := RX10) (As := [.int p1, .int p2]) (rest := []) [(a_x, .inr (11, [.ref a_kb, .ref a_xP, .ref a_xG, .ref a_xK, .ref a_xR, .ref a_xA, .ref a_xU, .int f_x_imageKept, .int f_x_tablesRead, .int f_x_plansDone, .int f_x_safesDone])), (a_xG, .inr (3, [.ref a_xGT, .ref a_xGb, .ref a_xGd, .ref a_xGe, .ref a_xGf, .int f_xG_seen, .int f_xG_score, .int f_xG_strokes, .int f_xG_fouls])), (a_xGT, .inr (10, [.ref a_xGTc, .ref a_xGTk, .ref a_xGTw, .long u_10.1, .int f_xGT_size, .int f_xGT_spot])), (a_xGTc, .inl (xI X, 7, .inl u_10.2))] hB (c_X10_lay X l a_xGT a_xGTc a_xGTk a_xGTw f_xGT_taken f_xGT_size f_xGT_spot v_xGTc p1 p2 u_10 hu_10) wq_2_200 wq_1_9 wq_3_180 wq_2_198 wq_2_199 hd_X10_lay (by decide) hP hD hS hl.1 [2, 3] [0, 1] [(a_x, .inr (11, [.ref a_kb, .ref a_xP, .ref a_xG, .ref a_xK, .ref a_xR, .ref a_xA, .ref a_xU, .int f_x_imageKept, .int f_x_tablesRead, .int f_x_plansDone, .int f_x_safesDone])), (a_xG, .inr (3, [.ref a_xGT, .ref a_xGb, .ref a_xGd, .ref a_xGe, .ref a_xGf, .int f_xG_seen, .int f_xG_score, .int f_xG_strokes, .int f_xG_fouls]))] rfl (by decide +kernel) rfl rfl rfl (nn := 4) rfl (by decide +kernel) [a_x, a_xG, a_xGT, a_xGTc] rfl rfl (q0 := 2) rfl rfl rfl rfl (Nat.le_of_ble_eq_true rfl) dX11_put_72 ⟨Nat.zero_le _, Nat.zero_le _⟩ (fun H locs hP hD hS => ?_)
          refine lv_iload hx hb dX11_put_75 (lv_at hl 0 rfl) ?_
          obtain rfl := Option.some.inj h
          rw [← hQ]
          exact retI hB hS hP dX11_put_77
        clear ej50_8
        refine lv_icmp_eq (tgt := 50) hx hb dX11_put_39 (by decide) (fun c_11 => ?_) (fun c_11 => ?_)
        · replace h := it_p c_11 h
          exact J50_8 h _ _ _ hP hD hS (lv_sub hl [1, 2, 3] rfl)
        · replace h := it_n c_11 h
          refine lv_iload_n hx hb dX11_put_42 rfl (lv_at hl 0 rfl) ?_
          refine lv_iload_n hx hb dX11_put_43 rfl (lv_at hl 2 rfl) ?_
          refine lv_icmp_eq (tgt := 50) hx hb dX11_put_44 (by decide) (fun c_12 => ?_) (fun c_12 => ?_)
          · replace h := it_p c_12 h
            exact J50_8 h _ _ _ hP hD hS (lv_sub hl [1, 2, 3] rfl)
          · replace h := it_n c_12 h
            refine lv_bipush (v := (-103)) hx hb dX11_put_47 (by decide) ?_
            obtain rfl := Option.some.inj h
            rw [← hQ]
            exact retI hB hS hP dX11_put_49
    · replace h := it_p c_4 h
      refine lv_bipush (v := (-101)) hx hb dX11_put_15 (by decide) ?_
      obtain rfl := Option.some.inj h
      rw [← hQ]
      exact retI hB hS hP dX11_put_17


def f_X11_isObjectBall (f_x_tablesRead : Int32) (f_xGT_size : Int32) (p1 : Int32) : Option (Int32) :=
  (jn ((some 0)) (fun (j16_1 : Option (Int32)) => (if p1 = 0 then j16_1 else ((f_X11_isBall f_x_tablesRead f_xGT_size p1).bind (fun u_3 => (if u_3 = 0 then j16_1 else (some 1)))))))
theorem hd_X11_isObjectBall : yX11_isObjectBall.cls ≠ "java/lang/invoke/MethodHandle" ∧ yX11_isObjectBall.cls ≠ "java/lang/invoke/VarHandle" ∧ (parseMethodDescriptor yX11_isObjectBall.desc).map (fun d => d.parameters.length) = some 1 := ⟨by decide +kernel, by decide +kernel, by decide +kernel⟩
set_option maxHeartbeats 4000000 in
set_option maxRecDepth 100000 in
theorem c_X11_isObjectBall (X : CXp) (l : Launch) (a_x a_kb a_xP a_xG a_xGT a_xGTc a_xGTk a_xGTw a_xGb a_xGd a_xGe a_xGf a_xK a_xR a_xA a_xU : Nat) (f_x_imageKept : Int32) (f_x_tablesRead : Int32) (f_x_plansDone : Int32) (f_x_safesDone : Int32) (f_xG_seen : Int32) (f_xG_score : Int32) (f_xG_strokes : Int32) (f_xG_fouls : Int32) (f_xGT_taken : Int64) (f_xGT_size : Int32) (f_xGT_spot : Int32) (p1 : Int32) (res : Int32) (h : f_X11_isObjectBall f_x_tablesRead f_xGT_size p1 = some res) : CTg X l yX11_isObjectBall cX11_isObjectBall 2 (some .boolean) 2 43 [.ref a_x, .int p1] [(a_x, .inr (11, [.ref a_kb, .ref a_xP, .ref a_xG, .ref a_xK, .ref a_xR, .ref a_xA, .ref a_xU, .int f_x_imageKept, .int f_x_tablesRead, .int f_x_plansDone, .int f_x_safesDone])), (a_xG, .inr (3, [.ref a_xGT, .ref a_xGb, .ref a_xGd, .ref a_xGe, .ref a_xGf, .int f_xG_seen, .int f_xG_score, .int f_xG_strokes, .int f_xG_fouls])), (a_xGT, .inr (10, [.ref a_xGTc, .ref a_xGTk, .ref a_xGTw, .long f_xGT_taken, .int f_xGT_size, .int f_xGT_spot]))] (QcI X res [(a_x, .inr (11, [.ref a_kb, .ref a_xP, .ref a_xG, .ref a_xK, .ref a_xR, .ref a_xA, .ref a_xU, .int f_x_imageKept, .int f_x_tablesRead, .int f_x_plansDone, .int f_x_safesDone])), (a_xG, .inr (3, [.ref a_xGT, .ref a_xGb, .ref a_xGd, .ref a_xGe, .ref a_xGf, .int f_xG_seen, .int f_xG_score, .int f_xG_strokes, .int f_xG_fouls])), (a_xGT, .inr (10, [.ref a_xGTc, .ref a_xGTk, .ref a_xGTw, .long f_xGT_taken, .int f_xGT_size, .int f_xGT_spot]))]) := by
  refine CTg.mk (own := RX11) (by decide) rfl (Nat.le_of_ble_eq_true rfl) ?_
  intro p e s m args below meth c A hB hP hD hS ls hl
  obtain ⟨hx, hb, hr, hml, hown, hts, hlocks, hcx, hA, hAB⟩ := id hB
  have hK := hcx.1
  generalize hQ : MQ below (QcI X res [(a_x, .inr (11, [.ref a_kb, .ref a_xP, .ref a_xG, .ref a_xK, .ref a_xR, .ref a_xA, .ref a_xU, .int f_x_imageKept, .int f_x_tablesRead, .int f_x_plansDone, .int f_x_safesDone])), (a_xG, .inr (3, [.ref a_xGT, .ref a_xGb, .ref a_xGd, .ref a_xGe, .ref a_xGf, .int f_xG_seen, .int f_xG_score, .int f_xG_strokes, .int f_xG_fouls])), (a_xGT, .inr (10, [.ref a_xGTc, .ref a_xGTk, .ref a_xGTw, .long f_xGT_taken, .int f_xGT_size, .int f_xGT_spot]))] A) args s 0 0 A = Q
  replace hl : lv_has ls 2 [(0, .ref a_x), (1, .int p1)] := hl
  unfold f_X11_isObjectBall at h
  refine lv_iload_n hx hb dX11_isObjectBall_0 rfl (lv_at hl 1 rfl) ?_
  obtain ⟨j16_1, ej16_1, h⟩ := jn_s h
  have J16_1 : j16_1 = some res → ∀ (H : Heap) (locs : List Loc) (ls : Array Slot), va_P (xD X) vwCl [(a_x, .inr (11, [.ref a_kb, .ref a_xP, .ref a_xG, .ref a_xK, .ref a_xR, .ref a_xA, .ref a_xU, .int f_x_imageKept, .int f_x_tablesRead, .int f_x_plansDone, .int f_x_safesDone])), (a_xG, .inr (3, [.ref a_xGT, .ref a_xGb, .ref a_xGd, .ref a_xGe, .ref a_xGf, .int f_xG_seen, .int f_xG_score, .int f_xG_strokes, .int f_xG_fouls])), (a_xGT, .inr (10, [.ref a_xGTc, .ref a_xGTk, .ref a_xGTw, .long f_xGT_taken, .int f_xGT_size, .int f_xGT_spot]))] H → va_D A [(a_x, .inr (11, [.ref a_kb, .ref a_xP, .ref a_xG, .ref a_xK, .ref a_xR, .ref a_xA, .ref a_xU, .int f_x_imageKept, .int f_x_tablesRead, .int f_x_plansDone, .int f_x_safesDone])), (a_xG, .inr (3, [.ref a_xGT, .ref a_xGb, .ref a_xGd, .ref a_xGe, .ref a_xGf, .int f_xG_seen, .int f_xG_score, .int f_xG_strokes, .int f_xG_fouls])), (a_xGT, .inr (10, [.ref a_xGTc, .ref a_xGTk, .ref a_xGTw, .long f_xGT_taken, .int f_xGT_size, .int f_xGT_spot]))] → va_S A s.heap H locs → lv_has ls 2 [] → W p l e (rmF 2 43) s m args below meth c H locs 0 0 Q (F0 m 16 ls []) := by
    clear h
    intro h H locs ls hP hD hS hl
    rw [ej16_1] at h
    refine lv_iconst (v := 0) hx hb dX11_isObjectBall_16 (by decide) ?_
    obtain rfl := Option.some.inj h
    rw [← hQ]
    exact retZ (r := 0) hB rfl hS hP dX11_isObjectBall_17
  clear ej16_1
  refine lv_if_eq (tgt := 16) hx hb dX11_isObjectBall_1 (by decide) (fun c_2 => ?_) (fun c_2 => ?_)
  · replace h := it_p c_2 h
    exact J16_1 h _ _ _ hP hD hS (lv_sub hl [] rfl)
  · replace h := it_n c_2 h
    refine lv_aload_n hx hb dX11_isObjectBall_4 rfl (lv_at hl 0 rfl) ?_
    refine lv_iload_n hx hb dX11_isObjectBall_5 rfl (lv_at hl 1 rfl) ?_
    obtain ⟨u_3, hu_3, h⟩ := ob_s h
    refine cVi (C := RX11) (As := [.int p1]) (rest := []) [(a_x, .inr (11, [.ref a_kb, .ref a_xP, .ref a_xG, .ref a_xK, .ref a_xR, .ref a_xA, .ref a_xU, .int f_x_imageKept, .int f_x_tablesRead, .int f_x_plansDone, .int f_x_safesDone])), (a_xG, .inr (3, [.ref a_xGT, .ref a_xGb, .ref a_xGd, .ref a_xGe, .ref a_xGf, .int f_xG_seen, .int f_xG_score, .int f_xG_strokes, .int f_xG_fouls])), (a_xGT, .inr (10, [.ref a_xGTc, .ref a_xGTk, .ref a_xGTw, .long f_xGT_taken, .int f_xGT_size, .int f_xGT_spot]))] hB (c_X11_isBall X l a_x a_kb a_xP a_xG a_xGT a_xGTc a_xGTk a_xGTw a_xGb a_xGd a_xGe a_xGf a_xK a_xR a_xA a_xU f_x_imageKept f_x_tablesRead f_x_plansDone f_x_safesDone f_xG_seen f_xG_score f_xG_strokes f_xG_fouls f_xGT_taken f_xGT_size f_xGT_spot p1 u_3 hu_3) wq_2_217 wq_1_1 wq_2_214 wq_2_216 wp_5 hd_X11_isBall (by decide) hP hD hS hl.1 [0, 1, 2] [] [] rfl (by decide +kernel) rfl rfl rfl (nn := 3) rfl (by decide +kernel) [a_x, a_xG, a_xGT] rfl rfl (q0 := 0) rfl rfl rfl rfl (Nat.le_of_ble_eq_true rfl) dX11_isObjectBall_6 ⟨Nat.zero_le _, Nat.zero_le _⟩ (fun H locs hP hD hS => ?_)
    refine lv_if_eq (tgt := 16) hx hb dX11_isObjectBall_9 (by decide) (fun c_4 => ?_) (fun c_4 => ?_)
    · replace h := it_p c_4 h
      exact J16_1 h _ _ _ hP hD hS (lv_sub hl [] rfl)
    · replace h := it_n c_4 h
      refine lv_iconst (v := 1) hx hb dX11_isObjectBall_12 (by decide) ?_
      refine lv_goto (tgt := 17) hx hb dX11_isObjectBall_13 (by decide) ?_
      obtain rfl := Option.some.inj h
      rw [← hQ]
      exact retZ (r := 1) hB rfl hS hP dX11_isObjectBall_17


def f_X11_lift (f_x_tablesRead : Int32) (f_xGT_taken : Int64) (f_xGT_size : Int32) (v_xGTc : Nat → Int32) (p1 : Int32) : Option (Int32 × Int64 × (Nat → Int32)) :=
  ((f_X11_isObjectBall f_x_tablesRead f_xGT_size p1).bind (fun u_1 => (if u_1 = 0 then (some ((-101), f_xGT_taken, v_xGTc)) else ((f_X10_cellOf v_xGTc p1).bind (fun u_3 => (if u_3 = (-1) then (some ((-103), f_xGT_taken, v_xGTc)) else ((f_X10_lay f_xGT_taken v_xGTc p1 (-1)).bind (fun u_5 => (some (u_3, u_5.1, u_5.2))))))))))
theorem hd_X11_lift : yX11_lift.cls ≠ "java/lang/invoke/MethodHandle" ∧ yX11_lift.cls ≠ "java/lang/invoke/VarHandle" ∧ (parseMethodDescriptor yX11_lift.desc).map (fun d => d.parameters.length) = some 1 := ⟨by decide +kernel, by decide +kernel, by decide +kernel⟩
set_option maxHeartbeats 4000000 in
set_option maxRecDepth 100000 in
theorem c_X11_lift (X : CXp) (l : Launch) (a_x a_kb a_xP a_xG a_xGT a_xGTc a_xGTk a_xGTw a_xGb a_xGd a_xGe a_xGf a_xK a_xR a_xA a_xU : Nat) (f_x_imageKept : Int32) (f_x_tablesRead : Int32) (f_x_plansDone : Int32) (f_x_safesDone : Int32) (f_xG_seen : Int32) (f_xG_score : Int32) (f_xG_strokes : Int32) (f_xG_fouls : Int32) (f_xGT_taken : Int64) (f_xGT_size : Int32) (f_xGT_spot : Int32) (v_xGTc : Nat → Int32) (p1 : Int32) (res : Int32 × Int64 × (Nat → Int32)) (h : f_X11_lift f_x_tablesRead f_xGT_taken f_xGT_size v_xGTc p1 = some res) : CTg X l yX11_lift cX11_lift 3 (some .int) 3 64 [.ref a_x, .int p1] [(a_x, .inr (11, [.ref a_kb, .ref a_xP, .ref a_xG, .ref a_xK, .ref a_xR, .ref a_xA, .ref a_xU, .int f_x_imageKept, .int f_x_tablesRead, .int f_x_plansDone, .int f_x_safesDone])), (a_xG, .inr (3, [.ref a_xGT, .ref a_xGb, .ref a_xGd, .ref a_xGe, .ref a_xGf, .int f_xG_seen, .int f_xG_score, .int f_xG_strokes, .int f_xG_fouls])), (a_xGT, .inr (10, [.ref a_xGTc, .ref a_xGTk, .ref a_xGTw, .long f_xGT_taken, .int f_xGT_size, .int f_xGT_spot])), (a_xGTc, .inl (xI X, 7, .inl v_xGTc))] (QcI X res.1 [(a_x, .inr (11, [.ref a_kb, .ref a_xP, .ref a_xG, .ref a_xK, .ref a_xR, .ref a_xA, .ref a_xU, .int f_x_imageKept, .int f_x_tablesRead, .int f_x_plansDone, .int f_x_safesDone])), (a_xG, .inr (3, [.ref a_xGT, .ref a_xGb, .ref a_xGd, .ref a_xGe, .ref a_xGf, .int f_xG_seen, .int f_xG_score, .int f_xG_strokes, .int f_xG_fouls])), (a_xGT, .inr (10, [.ref a_xGTc, .ref a_xGTk, .ref a_xGTw, .long res.2.1, .int f_xGT_size, .int f_xGT_spot])), (a_xGTc, .inl (xI X, 7, .inl res.2.2))]) := by
  refine CTg.mk (own := RX11) (by decide) rfl (Nat.le_of_ble_eq_true rfl) ?_
  intro p e s m args below meth c A hB hP hD hS ls hl
  obtain ⟨hx, hb, hr, hml, hown, hts, hlocks, hcx, hA, hAB⟩ := id hB
  have hK := hcx.1
  generalize hQ : MQ below (QcI X res.1 [(a_x, .inr (11, [.ref a_kb, .ref a_xP, .ref a_xG, .ref a_xK, .ref a_xR, .ref a_xA, .ref a_xU, .int f_x_imageKept, .int f_x_tablesRead, .int f_x_plansDone, .int f_x_safesDone])), (a_xG, .inr (3, [.ref a_xGT, .ref a_xGb, .ref a_xGd, .ref a_xGe, .ref a_xGf, .int f_xG_seen, .int f_xG_score, .int f_xG_strokes, .int f_xG_fouls])), (a_xGT, .inr (10, [.ref a_xGTc, .ref a_xGTk, .ref a_xGTw, .long res.2.1, .int f_xGT_size, .int f_xGT_spot])), (a_xGTc, .inl (xI X, 7, .inl res.2.2))] A) args s 0 0 A = Q
  replace hl : lv_has ls 3 [(0, .ref a_x), (1, .int p1)] := hl
  unfold f_X11_lift at h
  refine lv_aload_n hx hb dX11_lift_0 rfl (lv_at hl 0 rfl) ?_
  refine lv_iload_n hx hb dX11_lift_1 rfl (lv_at hl 1 rfl) ?_
  obtain ⟨u_1, hu_1, h⟩ := ob_s h
  refine cVi (C := RX11) (As := [.int p1]) (rest := []) [(a_x, .inr (11, [.ref a_kb, .ref a_xP, .ref a_xG, .ref a_xK, .ref a_xR, .ref a_xA, .ref a_xU, .int f_x_imageKept, .int f_x_tablesRead, .int f_x_plansDone, .int f_x_safesDone])), (a_xG, .inr (3, [.ref a_xGT, .ref a_xGb, .ref a_xGd, .ref a_xGe, .ref a_xGf, .int f_xG_seen, .int f_xG_score, .int f_xG_strokes, .int f_xG_fouls])), (a_xGT, .inr (10, [.ref a_xGTc, .ref a_xGTk, .ref a_xGTw, .long f_xGT_taken, .int f_xGT_size, .int f_xGT_spot])), (a_xGTc, .inl (xI X, 7, .inl v_xGTc))] hB (c_X11_isObjectBall X l a_x a_kb a_xP a_xG a_xGT a_xGTc a_xGTk a_xGTw a_xGb a_xGd a_xGe a_xGf a_xK a_xR a_xA a_xU f_x_imageKept f_x_tablesRead f_x_plansDone f_x_safesDone f_xG_seen f_xG_score f_xG_strokes f_xG_fouls f_xGT_taken f_xGT_size f_xGT_spot p1 u_1 hu_1) wq_3_188 wq_1_1 wq_3_185 wq_3_187 wp_18 hd_X11_isObjectBall (by decide) hP hD hS hl.1 [0, 1, 2] [3] [(a_xGTc, .inl (xI X, 7, .inl v_xGTc))] rfl (by decide +kernel) rfl rfl rfl (nn := 4) rfl (by decide +kernel) [a_x, a_xG, a_xGT, a_xGTc] rfl rfl (q0 := 0) rfl rfl rfl rfl (Nat.le_of_ble_eq_true rfl) dX11_lift_2 ⟨Nat.zero_le _, Nat.zero_le _⟩ (fun H locs hP hD hS => ?_)
  refine lv_if_ne (tgt := 11) hx hb dX11_lift_5 (by decide) (fun c_2 => ?_) (fun c_2 => ?_)
  · replace h := it_n c_2 h
    refine lv_aload_n hx hb dX11_lift_11 rfl (lv_at hl 0 rfl) ?_
    refine va_get (D := xD X) (ci := 11) (v := .ref a_xG) (C := RX11) (T := TX11) (N := 11) hx hb hts inX11 hown hK hP 0 rfl rfl 2 (by decide) (hts _ wq_1_238) (fun _ h9 => h9) rfl dX11_lift_12 ?_
    refine va_getN (D := xD X) (ci := 3) (v := .ref a_xGT) (C := RX3) (T := TX3) (N := 9) hx hb hts inX3 hown hK hP 1 rfl rfl 0 (by decide) (va_Nw.use rfl (hcx.2.1 _ wq_1_122)) (fun _ h9 => h9) rfl dX11_lift_15 ?_
    refine lv_iload_n hx hb dX11_lift_18 rfl (lv_at hl 1 rfl) ?_
    obtain ⟨u_3, hu_3, h⟩ := ob_s h
    refine cVi (C := RX10) (As := [.int p1]) (rest := []) [(a_x, .inr (11, [.ref a_kb, .ref a_xP, .ref a_xG, .ref a_xK, .ref a_xR, .ref a_xA, .ref a_xU, .int f_x_imageKept, .int f_x_tablesRead, .int f_x_plansDone, .int f_x_safesDone])), (a_xG, .inr (3, [.ref a_xGT, .ref a_xGb, .ref a_xGd, .ref a_xGe, .ref a_xGf, .int f_xG_seen, .int f_xG_score, .int f_xG_strokes, .int f_xG_fouls])), (a_xGT, .inr (10, [.ref a_xGTc, .ref a_xGTk, .ref a_xGTw, .long f_xGT_taken, .int f_xGT_size, .int f_xGT_spot])), (a_xGTc, .inl (xI X, 7, .inl v_xGTc))] hB (c_X10_cellOf X l a_xGT a_xGTc a_xGTk a_xGTw f_xGT_taken f_xGT_size f_xGT_spot v_xGTc p1 u_3 hu_3) wq_2_233 wq_1_9 wq_2_230 wq_2_231 wq_2_232 hd_X10_cellOf (by decide) hP hD hS hl.1 [2, 3] [0, 1] [(a_x, .inr (11, [.ref a_kb, .ref a_xP, .ref a_xG, .ref a_xK, .ref a_xR, .ref a_xA, .ref a_xU, .int f_x_imageKept, .int f_x_tablesRead, .int f_x_plansDone, .int f_x_safesDone])), (a_xG, .inr (3, [.ref a_xGT, .ref a_xGb, .ref a_xGd, .ref a_xGe, .ref a_xGf, .int f_xG_seen, .int f_xG_score, .int f_xG_strokes, .int f_xG_fouls]))] rfl (by decide +kernel) rfl rfl rfl (nn := 4) rfl (by decide +kernel) [a_x, a_xG, a_xGT, a_xGTc] rfl rfl (q0 := 2) rfl rfl rfl rfl (Nat.le_of_ble_eq_true rfl) dX11_lift_19 ⟨Nat.zero_le _, Nat.zero_le _⟩ (fun H locs hP hD hS => ?_)
    refine lv_istore_n (lv' := [(2, .int u_3), (0, .ref a_x), (1, .int p1)]) hx hb dX11_lift_22 rfl hl (by decide) rfl (fun ls hl => ?_)
    refine lv_iload_n hx hb dX11_lift_23 rfl (lv_at hl 0 rfl) ?_
    refine lv_iconst (v := (-1)) hx hb dX11_lift_24 (by decide) ?_
    refine lv_icmp_ne (tgt := 31) hx hb dX11_lift_25 (by decide) (fun c_4 => ?_) (fun c_4 => ?_)
    · replace h := it_n c_4 h
      refine lv_aload_n hx hb dX11_lift_31 rfl (lv_at hl 1 rfl) ?_
      refine va_get (D := xD X) (ci := 11) (v := .ref a_xG) (C := RX11) (T := TX11) (N := 11) hx hb hts inX11 hown hK hP 0 rfl rfl 2 (by decide) (hts _ wq_1_238) (fun _ h9 => h9) rfl dX11_lift_32 ?_
      refine va_getN (D := xD X) (ci := 3) (v := .ref a_xGT) (C := RX3) (T := TX3) (N := 9) hx hb hts inX3 hown hK hP 1 rfl rfl 0 (by decide) (va_Nw.use rfl (hcx.2.1 _ wq_1_122)) (fun _ h9 => h9) rfl dX11_lift_35 ?_
      refine lv_iload_n hx hb dX11_lift_38 rfl (lv_at hl 2 rfl) ?_
      refine lv_iconst (v := (-1)) hx hb dX11_lift_39 (by decide) ?_
      obtain ⟨u_5, hu_5, h⟩ := ob_s h
      refine cVv (C := RX10) (As := [.int p1, .int (-1)]) (rest := []) [(a_x, .inr (11, [.ref a_kb, .ref a_xP, .ref a_xG, .ref a_xK, .ref a_xR, .ref a_xA, .ref a_xU, .int f_x_imageKept, .int f_x_tablesRead, .int f_x_plansDone, .int f_x_safesDone])), (a_xG, .inr (3, [.ref a_xGT, .ref a_xGb, .ref a_xGd, .ref a_xGe, .ref a_xGf, .int f_xG_seen, .int f_xG_score, .int f_xG_strokes, .int f_xG_fouls])), (a_xGT, .inr (10, [.ref a_xGTc, .ref a_xGTk, .ref a_xGTw, .long u_5.1, .int f_xGT_size, .int f_xGT_spot])), (a_xGTc, .inl (xI X, 7, .inl u_5.2))] hB (c_X10_lay X l a_xGT a_xGTc a_xGTk a_xGTw f_xGT_taken f_xGT_size f_xGT_spot v_xGTc p1 (-1) u_5 hu_5) wq_2_200 wq_1_9 wq_3_180 wq_2_198 wq_2_199 hd_X10_lay (by decide) hP hD hS hl.1 [2, 3] [0, 1] [(a_x, .inr (11, [.ref a_kb, .ref a_xP, .ref a_xG, .ref a_xK, .ref a_xR, .ref a_xA, .ref a_xU, .int f_x_imageKept, .int f_x_tablesRead, .int f_x_plansDone, .int f_x_safesDone])), (a_xG, .inr (3, [.ref a_xGT, .ref a_xGb, .ref a_xGd, .ref a_xGe, .ref a_xGf, .int f_xG_seen, .int f_xG_score, .int f_xG_strokes, .int f_xG_fouls]))] rfl (by decide +kernel) rfl rfl rfl (nn := 4) rfl (by decide +kernel) [a_x, a_xG, a_xGT, a_xGTc] rfl rfl (q0 := 2) rfl rfl rfl rfl (Nat.le_of_ble_eq_true rfl) dX11_lift_40 ⟨Nat.zero_le _, Nat.zero_le _⟩ (fun H locs hP hD hS => ?_)
      refine lv_iload_n hx hb dX11_lift_43 rfl (lv_at hl 0 rfl) ?_
      obtain rfl := Option.some.inj h
      rw [← hQ]
      exact retI hB hS hP dX11_lift_44
    · replace h := it_p c_4 h
      refine lv_bipush (v := (-103)) hx hb dX11_lift_28 (by decide) ?_
      obtain rfl := Option.some.inj h
      rw [← hQ]
      exact retI hB hS hP dX11_lift_30
  · replace h := it_p c_2 h
    refine lv_bipush (v := (-101)) hx hb dX11_lift_8 (by decide) ?_
    obtain rfl := Option.some.inj h
    rw [← hQ]
    exact retI hB hS hP dX11_lift_10


def f_X11_change (f_x_tablesRead : Int32) (f_xGT_size : Int32) (v_xGTk : Nat → Int32) (p1 : Int32) (p2 : Int32) : Option (Int32 × (Nat → Int32)) :=
  ((f_X11_isObjectBall f_x_tablesRead f_xGT_size p1).bind (fun u_1 => (if u_1 = 0 then (some ((-101), v_xGTk)) else ((f_X11_within p2 0 4).bind (fun u_3 => (if u_3 = 0 then (some ((-102), v_xGTk)) else ((f_X10_kindOf v_xGTk p1).bind (fun u_5 => ((f_X10_setKind v_xGTk p1 p2).bind (fun u_6 => (some (u_5, u_6))))))))))))
theorem hd_X11_change : yX11_change.cls ≠ "java/lang/invoke/MethodHandle" ∧ yX11_change.cls ≠ "java/lang/invoke/VarHandle" ∧ (parseMethodDescriptor yX11_change.desc).map (fun d => d.parameters.length) = some 2 := ⟨by decide +kernel, by decide +kernel, by decide +kernel⟩
set_option maxHeartbeats 4000000 in
set_option maxRecDepth 100000 in
theorem c_X11_change (X : CXp) (l : Launch) (a_x a_kb a_xP a_xG a_xGT a_xGTc a_xGTk a_xGTw a_xGb a_xGd a_xGe a_xGf a_xK a_xR a_xA a_xU : Nat) (f_x_imageKept : Int32) (f_x_tablesRead : Int32) (f_x_plansDone : Int32) (f_x_safesDone : Int32) (f_xG_seen : Int32) (f_xG_score : Int32) (f_xG_strokes : Int32) (f_xG_fouls : Int32) (f_xGT_taken : Int64) (f_xGT_size : Int32) (f_xGT_spot : Int32) (v_xGTc : Nat → Int32) (v_xGTk : Nat → Int32) (p1 : Int32) (p2 : Int32) (res : Int32 × (Nat → Int32)) (h : f_X11_change f_x_tablesRead f_xGT_size v_xGTk p1 p2 = some res) : CTg X l yX11_change cX11_change 4 (some .int) 3 64 [.ref a_x, .int p1, .int p2] [(a_x, .inr (11, [.ref a_kb, .ref a_xP, .ref a_xG, .ref a_xK, .ref a_xR, .ref a_xA, .ref a_xU, .int f_x_imageKept, .int f_x_tablesRead, .int f_x_plansDone, .int f_x_safesDone])), (a_xG, .inr (3, [.ref a_xGT, .ref a_xGb, .ref a_xGd, .ref a_xGe, .ref a_xGf, .int f_xG_seen, .int f_xG_score, .int f_xG_strokes, .int f_xG_fouls])), (a_xGT, .inr (10, [.ref a_xGTc, .ref a_xGTk, .ref a_xGTw, .long f_xGT_taken, .int f_xGT_size, .int f_xGT_spot])), (a_xGTc, .inl (xI X, 7, .inl v_xGTc)), (a_xGTk, .inl (xI X, 7, .inl v_xGTk))] (QcI X res.1 [(a_x, .inr (11, [.ref a_kb, .ref a_xP, .ref a_xG, .ref a_xK, .ref a_xR, .ref a_xA, .ref a_xU, .int f_x_imageKept, .int f_x_tablesRead, .int f_x_plansDone, .int f_x_safesDone])), (a_xG, .inr (3, [.ref a_xGT, .ref a_xGb, .ref a_xGd, .ref a_xGe, .ref a_xGf, .int f_xG_seen, .int f_xG_score, .int f_xG_strokes, .int f_xG_fouls])), (a_xGT, .inr (10, [.ref a_xGTc, .ref a_xGTk, .ref a_xGTw, .long f_xGT_taken, .int f_xGT_size, .int f_xGT_spot])), (a_xGTc, .inl (xI X, 7, .inl v_xGTc)), (a_xGTk, .inl (xI X, 7, .inl res.2))]) := by
  refine CTg.mk (own := RX11) (by decide) rfl (Nat.le_of_ble_eq_true rfl) ?_
  intro p e s m args below meth c A hB hP hD hS ls hl
  obtain ⟨hx, hb, hr, hml, hown, hts, hlocks, hcx, hA, hAB⟩ := id hB
  have hK := hcx.1
  generalize hQ : MQ below (QcI X res.1 [(a_x, .inr (11, [.ref a_kb, .ref a_xP, .ref a_xG, .ref a_xK, .ref a_xR, .ref a_xA, .ref a_xU, .int f_x_imageKept, .int f_x_tablesRead, .int f_x_plansDone, .int f_x_safesDone])), (a_xG, .inr (3, [.ref a_xGT, .ref a_xGb, .ref a_xGd, .ref a_xGe, .ref a_xGf, .int f_xG_seen, .int f_xG_score, .int f_xG_strokes, .int f_xG_fouls])), (a_xGT, .inr (10, [.ref a_xGTc, .ref a_xGTk, .ref a_xGTw, .long f_xGT_taken, .int f_xGT_size, .int f_xGT_spot])), (a_xGTc, .inl (xI X, 7, .inl v_xGTc)), (a_xGTk, .inl (xI X, 7, .inl res.2))] A) args s 0 0 A = Q
  replace hl : lv_has ls 4 [(0, .ref a_x), (1, .int p1), (2, .int p2)] := hl
  unfold f_X11_change at h
  refine lv_aload_n hx hb dX11_change_0 rfl (lv_at hl 0 rfl) ?_
  refine lv_iload_n hx hb dX11_change_1 rfl (lv_at hl 1 rfl) ?_
  obtain ⟨u_1, hu_1, h⟩ := ob_s h
  refine cVi (C := RX11) (As := [.int p1]) (rest := []) [(a_x, .inr (11, [.ref a_kb, .ref a_xP, .ref a_xG, .ref a_xK, .ref a_xR, .ref a_xA, .ref a_xU, .int f_x_imageKept, .int f_x_tablesRead, .int f_x_plansDone, .int f_x_safesDone])), (a_xG, .inr (3, [.ref a_xGT, .ref a_xGb, .ref a_xGd, .ref a_xGe, .ref a_xGf, .int f_xG_seen, .int f_xG_score, .int f_xG_strokes, .int f_xG_fouls])), (a_xGT, .inr (10, [.ref a_xGTc, .ref a_xGTk, .ref a_xGTw, .long f_xGT_taken, .int f_xGT_size, .int f_xGT_spot])), (a_xGTc, .inl (xI X, 7, .inl v_xGTc)), (a_xGTk, .inl (xI X, 7, .inl v_xGTk))] hB (c_X11_isObjectBall X l a_x a_kb a_xP a_xG a_xGT a_xGTc a_xGTk a_xGTw a_xGb a_xGd a_xGe a_xGf a_xK a_xR a_xA a_xU f_x_imageKept f_x_tablesRead f_x_plansDone f_x_safesDone f_xG_seen f_xG_score f_xG_strokes f_xG_fouls f_xGT_taken f_xGT_size f_xGT_spot p1 u_1 hu_1) wq_3_188 wq_1_1 wq_3_185 wq_3_187 wp_18 hd_X11_isObjectBall (by decide) hP hD hS hl.1 [0, 1, 2] [3, 4] [(a_xGTc, .inl (xI X, 7, .inl v_xGTc)), (a_xGTk, .inl (xI X, 7, .inl v_xGTk))] rfl (by decide +kernel) rfl rfl rfl (nn := 5) rfl (by decide +kernel) [a_x, a_xG, a_xGT, a_xGTc, a_xGTk] rfl rfl (q0 := 0) rfl rfl rfl rfl (Nat.le_of_ble_eq_true rfl) dX11_change_2 ⟨Nat.zero_le _, Nat.zero_le _⟩ (fun H locs hP hD hS => ?_)
  refine lv_if_ne (tgt := 11) hx hb dX11_change_5 (by decide) (fun c_2 => ?_) (fun c_2 => ?_)
  · replace h := it_n c_2 h
    refine lv_iload_n hx hb dX11_change_11 rfl (lv_at hl 2 rfl) ?_
    refine lv_iconst (v := 0) hx hb dX11_change_12 (by decide) ?_
    refine lv_iconst (v := 4) hx hb dX11_change_13 (by decide) ?_
    obtain ⟨u_3, hu_3, h⟩ := ob_s h
    refine cSi (As := [.int p2, .int 0, .int 4]) (rest := []) [(a_x, .inr (11, [.ref a_kb, .ref a_xP, .ref a_xG, .ref a_xK, .ref a_xR, .ref a_xA, .ref a_xU, .int f_x_imageKept, .int f_x_tablesRead, .int f_x_plansDone, .int f_x_safesDone])), (a_xG, .inr (3, [.ref a_xGT, .ref a_xGb, .ref a_xGd, .ref a_xGe, .ref a_xGf, .int f_xG_seen, .int f_xG_score, .int f_xG_strokes, .int f_xG_fouls])), (a_xGT, .inr (10, [.ref a_xGTc, .ref a_xGTk, .ref a_xGTw, .long f_xGT_taken, .int f_xGT_size, .int f_xGT_spot])), (a_xGTc, .inl (xI X, 7, .inl v_xGTc)), (a_xGTk, .inl (xI X, 7, .inl v_xGTk))] hB (c_X11_within X l p2 0 4 u_3 hu_3) wq_2_36 wq_1_1 wq_2_34 wq_2_35 hd_X11_within (by decide) hP hD hS hl.1 [] [0, 1, 2, 3, 4] [(a_x, .inr (11, [.ref a_kb, .ref a_xP, .ref a_xG, .ref a_xK, .ref a_xR, .ref a_xA, .ref a_xU, .int f_x_imageKept, .int f_x_tablesRead, .int f_x_plansDone, .int f_x_safesDone])), (a_xG, .inr (3, [.ref a_xGT, .ref a_xGb, .ref a_xGd, .ref a_xGe, .ref a_xGf, .int f_xG_seen, .int f_xG_score, .int f_xG_strokes, .int f_xG_fouls])), (a_xGT, .inr (10, [.ref a_xGTc, .ref a_xGTk, .ref a_xGTw, .long f_xGT_taken, .int f_xGT_size, .int f_xGT_spot])), (a_xGTc, .inl (xI X, 7, .inl v_xGTc)), (a_xGTk, .inl (xI X, 7, .inl v_xGTk))] rfl (by decide +kernel) rfl rfl rfl (nn := 5) rfl (by decide +kernel) [a_x, a_xG, a_xGT, a_xGTc, a_xGTk] rfl rfl rfl rfl (Nat.le_of_ble_eq_true rfl) dX11_change_14 ⟨Nat.zero_le _, Nat.zero_le _⟩ (fun H locs hP hD hS => ?_)
    refine lv_if_ne (tgt := 23) hx hb dX11_change_17 (by decide) (fun c_4 => ?_) (fun c_4 => ?_)
    · replace h := it_n c_4 h
      refine lv_aload_n hx hb dX11_change_23 rfl (lv_at hl 0 rfl) ?_
      refine va_get (D := xD X) (ci := 11) (v := .ref a_xG) (C := RX11) (T := TX11) (N := 11) hx hb hts inX11 hown hK hP 0 rfl rfl 2 (by decide) (hts _ wq_1_238) (fun _ h9 => h9) rfl dX11_change_24 ?_
      refine va_getN (D := xD X) (ci := 3) (v := .ref a_xGT) (C := RX3) (T := TX3) (N := 9) hx hb hts inX3 hown hK hP 1 rfl rfl 0 (by decide) (va_Nw.use rfl (hcx.2.1 _ wq_1_122)) (fun _ h9 => h9) rfl dX11_change_27 ?_
      refine lv_iload_n hx hb dX11_change_30 rfl (lv_at hl 1 rfl) ?_
      obtain ⟨u_5, hu_5, h⟩ := ob_s h
      refine cVi (C := RX10) (As := [.int p1]) (rest := []) [(a_x, .inr (11, [.ref a_kb, .ref a_xP, .ref a_xG, .ref a_xK, .ref a_xR, .ref a_xA, .ref a_xU, .int f_x_imageKept, .int f_x_tablesRead, .int f_x_plansDone, .int f_x_safesDone])), (a_xG, .inr (3, [.ref a_xGT, .ref a_xGb, .ref a_xGd, .ref a_xGe, .ref a_xGf, .int f_xG_seen, .int f_xG_score, .int f_xG_strokes, .int f_xG_fouls])), (a_xGT, .inr (10, [.ref a_xGTc, .ref a_xGTk, .ref a_xGTw, .long f_xGT_taken, .int f_xGT_size, .int f_xGT_spot])), (a_xGTc, .inl (xI X, 7, .inl v_xGTc)), (a_xGTk, .inl (xI X, 7, .inl v_xGTk))] hB (c_X10_kindOf X l a_xGT a_xGTc a_xGTk a_xGTw f_xGT_taken f_xGT_size f_xGT_spot v_xGTc v_xGTk p1 u_5 hu_5) wq_2_225 wq_1_9 wq_2_222 wq_2_223 wq_2_224 hd_X10_kindOf (by decide) hP hD hS hl.1 [2, 3, 4] [0, 1] [(a_x, .inr (11, [.ref a_kb, .ref a_xP, .ref a_xG, .ref a_xK, .ref a_xR, .ref a_xA, .ref a_xU, .int f_x_imageKept, .int f_x_tablesRead, .int f_x_plansDone, .int f_x_safesDone])), (a_xG, .inr (3, [.ref a_xGT, .ref a_xGb, .ref a_xGd, .ref a_xGe, .ref a_xGf, .int f_xG_seen, .int f_xG_score, .int f_xG_strokes, .int f_xG_fouls]))] rfl (by decide +kernel) rfl rfl rfl (nn := 5) rfl (by decide +kernel) [a_x, a_xG, a_xGT, a_xGTc, a_xGTk] rfl rfl (q0 := 2) rfl rfl rfl rfl (Nat.le_of_ble_eq_true rfl) dX11_change_31 ⟨Nat.zero_le _, Nat.zero_le _⟩ (fun H locs hP hD hS => ?_)
      refine lv_istore_n (lv' := [(3, .int u_5), (0, .ref a_x), (1, .int p1), (2, .int p2)]) hx hb dX11_change_34 rfl hl (by decide) rfl (fun ls hl => ?_)
      refine lv_aload_n hx hb dX11_change_35 rfl (lv_at hl 1 rfl) ?_
      refine va_get (D := xD X) (ci := 11) (v := .ref a_xG) (C := RX11) (T := TX11) (N := 11) hx hb hts inX11 hown hK hP 0 rfl rfl 2 (by decide) (hts _ wq_1_238) (fun _ h9 => h9) rfl dX11_change_36 ?_
      refine va_getN (D := xD X) (ci := 3) (v := .ref a_xGT) (C := RX3) (T := TX3) (N := 9) hx hb hts inX3 hown hK hP 1 rfl rfl 0 (by decide) (va_Nw.use rfl (hcx.2.1 _ wq_1_122)) (fun _ h9 => h9) rfl dX11_change_39 ?_
      refine lv_iload_n hx hb dX11_change_42 rfl (lv_at hl 2 rfl) ?_
      refine lv_iload_n hx hb dX11_change_43 rfl (lv_at hl 3 rfl) ?_
      obtain ⟨u_6, hu_6, h⟩ := ob_s h
      refine cVv (C := RX10) (As := [.int p1, .int p2]) (rest := []) [(a_x, .inr (11, [.ref a_kb, .ref a_xP, .ref a_xG, .ref a_xK, .ref a_xR, .ref a_xA, .ref a_xU, .int f_x_imageKept, .int f_x_tablesRead, .int f_x_plansDone, .int f_x_safesDone])), (a_xG, .inr (3, [.ref a_xGT, .ref a_xGb, .ref a_xGd, .ref a_xGe, .ref a_xGf, .int f_xG_seen, .int f_xG_score, .int f_xG_strokes, .int f_xG_fouls])), (a_xGT, .inr (10, [.ref a_xGTc, .ref a_xGTk, .ref a_xGTw, .long f_xGT_taken, .int f_xGT_size, .int f_xGT_spot])), (a_xGTc, .inl (xI X, 7, .inl v_xGTc)), (a_xGTk, .inl (xI X, 7, .inl u_6))] hB (c_X10_setKind X l a_xGT a_xGTc a_xGTk a_xGTw f_xGT_taken f_xGT_size f_xGT_spot v_xGTc v_xGTk p1 p2 u_6 hu_6) wq_2_205 wq_1_9 wq_3_193 wq_2_203 wq_2_204 hd_X10_setKind (by decide) hP hD hS hl.1 [2, 3, 4] [0, 1] [(a_x, .inr (11, [.ref a_kb, .ref a_xP, .ref a_xG, .ref a_xK, .ref a_xR, .ref a_xA, .ref a_xU, .int f_x_imageKept, .int f_x_tablesRead, .int f_x_plansDone, .int f_x_safesDone])), (a_xG, .inr (3, [.ref a_xGT, .ref a_xGb, .ref a_xGd, .ref a_xGe, .ref a_xGf, .int f_xG_seen, .int f_xG_score, .int f_xG_strokes, .int f_xG_fouls]))] rfl (by decide +kernel) rfl rfl rfl (nn := 5) rfl (by decide +kernel) [a_x, a_xG, a_xGT, a_xGTc, a_xGTk] rfl rfl (q0 := 2) rfl rfl rfl rfl (Nat.le_of_ble_eq_true rfl) dX11_change_44 ⟨Nat.zero_le _, Nat.zero_le _⟩ (fun H locs hP hD hS => ?_)
      refine lv_iload_n hx hb dX11_change_47 rfl (lv_at hl 0 rfl) ?_
      obtain rfl := Option.some.inj h
      rw [← hQ]
      exact retI hB hS hP dX11_change_48
    · replace h := it_p c_4 h
      refine lv_bipush (v := (-102)) hx hb dX11_change_20 (by decide) ?_
      obtain rfl := Option.some.inj h
      rw [← hQ]
      exact retI hB hS hP dX11_change_22
  · replace h := it_p c_2 h
    refine lv_bipush (v := (-101)) hx hb dX11_change_8 (by decide) ?_
    obtain rfl := Option.some.inj h
    rw [← hQ]
    exact retI hB hS hP dX11_change_10


def f_X11_isStroke (p0 : Int32) (p1 : Int32) (p2 : Int32) : Option (Int32) :=
  ((f_X11_isDirection p0).bind (fun u_1 => (jn ((some 0)) (fun (j30_2 : Option (Int32)) => (if u_1 = 0 then j30_2 else ((f_X11_within p1 1 9).bind (fun u_4 => (if u_4 = 0 then j30_2 else ((f_X11_within p2 0 2).bind (fun u_6 => (if u_6 = 0 then j30_2 else (some 1))))))))))))
theorem hd_X11_isStroke : yX11_isStroke.cls ≠ "java/lang/invoke/MethodHandle" ∧ yX11_isStroke.cls ≠ "java/lang/invoke/VarHandle" ∧ (parseMethodDescriptor yX11_isStroke.desc).map (fun d => d.parameters.length) = some 3 := ⟨by decide +kernel, by decide +kernel, by decide +kernel⟩
set_option maxHeartbeats 4000000 in
set_option maxRecDepth 100000 in
theorem c_X11_isStroke (X : CXp) (l : Launch) (p0 : Int32) (p1 : Int32) (p2 : Int32) (res : Int32) (h : f_X11_isStroke p0 p1 p2 = some res) : CTg X l yX11_isStroke cX11_isStroke 3 (some .boolean) 2 42 [.int p0, .int p1, .int p2] [] (QcI X res []) := by
  refine CTg.mk (own := RX11) (by decide) rfl (Nat.le_of_ble_eq_true rfl) ?_
  intro p e s m args below meth c A hB hP hD hS ls hl
  obtain ⟨hx, hb, hr, hml, hown, hts, hlocks, hcx, hA, hAB⟩ := id hB
  have hK := hcx.1
  generalize hQ : MQ below (QcI X res [] A) args s 0 0 A = Q
  replace hl : lv_has ls 3 [(0, .int p0), (1, .int p1), (2, .int p2)] := hl
  unfold f_X11_isStroke at h
  refine lv_iload_n hx hb dX11_isStroke_0 rfl (lv_at hl 0 rfl) ?_
  obtain ⟨u_1, hu_1, h⟩ := ob_s h
  refine cSi (As := [.int p0]) (rest := []) [] hB (c_X11_isDirection X l p0 u_1 hu_1) wq_3_166 wq_1_1 wq_3_164 wq_3_165 hd_X11_isDirection (by decide) hP hD hS hl.1 [] [] [] rfl (by decide +kernel) rfl rfl rfl (nn := 0) rfl (by decide +kernel) [] rfl rfl rfl rfl (Nat.le_of_ble_eq_true rfl) dX11_isStroke_1 ⟨Nat.zero_le _, Nat.zero_le _⟩ (fun H locs hP hD hS => ?_)
  obtain ⟨j30_2, ej30_2, h⟩ := jn_s h
  have J30_2 : j30_2 = some res → ∀ (H : Heap) (locs : List Loc) (ls : Array Slot), va_P (xD X) vwCl [] H → va_D A [] → va_S A s.heap H locs → lv_has ls 3 [] → W p l e (rmF 2 42) s m args below meth c H locs 0 0 Q (F0 m 30 ls []) := by
    clear h
    intro h H locs ls hP hD hS hl
    rw [ej30_2] at h
    refine lv_iconst (v := 0) hx hb dX11_isStroke_30 (by decide) ?_
    obtain rfl := Option.some.inj h
    rw [← hQ]
    exact retZ (r := 0) hB rfl hS hP dX11_isStroke_31
  clear ej30_2
  refine lv_if_eq (tgt := 30) hx hb dX11_isStroke_4 (by decide) (fun c_3 => ?_) (fun c_3 => ?_)
  · replace h := it_p c_3 h
    exact J30_2 h _ _ _ hP hD hS (lv_sub hl [] rfl)
  · replace h := it_n c_3 h
    refine lv_iload_n hx hb dX11_isStroke_7 rfl (lv_at hl 1 rfl) ?_
    refine lv_iconst (v := 1) hx hb dX11_isStroke_8 (by decide) ?_
    refine lv_bipush (v := 9) hx hb dX11_isStroke_9 (by decide) ?_
    obtain ⟨u_4, hu_4, h⟩ := ob_s h
    refine cSi (As := [.int p1, .int 1, .int 9]) (rest := []) [] hB (c_X11_within X l p1 1 9 u_4 hu_4) wq_2_36 wq_1_1 wq_2_34 wq_2_35 hd_X11_within (by decide) hP hD hS hl.1 [] [] [] rfl (by decide +kernel) rfl rfl rfl (nn := 0) rfl (by decide +kernel) [] rfl rfl rfl rfl (Nat.le_of_ble_eq_true rfl) dX11_isStroke_11 ⟨Nat.zero_le _, Nat.zero_le _⟩ (fun H locs hP hD hS => ?_)
    refine lv_if_eq (tgt := 30) hx hb dX11_isStroke_14 (by decide) (fun c_5 => ?_) (fun c_5 => ?_)
    · replace h := it_p c_5 h
      exact J30_2 h _ _ _ hP hD hS (lv_sub hl [] rfl)
    · replace h := it_n c_5 h
      refine lv_iload_n hx hb dX11_isStroke_17 rfl (lv_at hl 2 rfl) ?_
      refine lv_iconst (v := 0) hx hb dX11_isStroke_18 (by decide) ?_
      refine lv_iconst (v := 2) hx hb dX11_isStroke_19 (by decide) ?_
      obtain ⟨u_6, hu_6, h⟩ := ob_s h
      refine cSi (As := [.int p2, .int 0, .int 2]) (rest := []) [] hB (c_X11_within X l p2 0 2 u_6 hu_6) wq_2_36 wq_1_1 wq_2_34 wq_2_35 hd_X11_within (by decide) hP hD hS hl.1 [] [] [] rfl (by decide +kernel) rfl rfl rfl (nn := 0) rfl (by decide +kernel) [] rfl rfl rfl rfl (Nat.le_of_ble_eq_true rfl) dX11_isStroke_20 ⟨Nat.zero_le _, Nat.zero_le _⟩ (fun H locs hP hD hS => ?_)
      refine lv_if_eq (tgt := 30) hx hb dX11_isStroke_23 (by decide) (fun c_7 => ?_) (fun c_7 => ?_)
      · replace h := it_p c_7 h
        exact J30_2 h _ _ _ hP hD hS (lv_sub hl [] rfl)
      · replace h := it_n c_7 h
        refine lv_iconst (v := 1) hx hb dX11_isStroke_26 (by decide) ?_
        refine lv_goto (tgt := 31) hx hb dX11_isStroke_27 (by decide) ?_
        obtain rfl := Option.some.inj h
        rw [← hQ]
        exact retZ (r := 1) hB rfl hS hP dX11_isStroke_31


def f_X11_stroke (n : Nat) (f_x_tablesRead : Int32) (f_xG_score : Int32) (f_xG_strokes : Int32) (f_xG_fouls : Int32) (f_xGT_taken : Int64) (f_xGT_size : Int32) (f_xGT_spot : Int32) (v_xGTc : Nat → Int32) (v_xGTk : Nat → Int32) (v_xGTw : Nat → Int32) (f_xR_moves : Int32) (f_xR_bounces : Int32) (f_xR_potted : Int32) (f_xR_brings : Int32) (f_xR_firstHitDirection : Int32) (f_xR_firstHitPower : Int32) (f_xR_foul : Int32) (f_xRT_taken : Int64) (f_xRT_size : Int32) (f_xRT_spot : Int32) (v_xRTc : Nat → Int32) (v_xRTk : Nat → Int32) (v_xRTw : Nat → Int32) (p1 : Int32) (p2 : Int32) (p3 : Int32) : Option (Int32 × Int32 × Int32 × Int32 × Int64 × Int32 × Int32 × (Nat → Int32) × (Nat → Int32) × (Nat → Int32) × Int32 × Int32 × Int32 × Int32 × Int32 × Int32 × Int32 × Int64 × Int32 × Int32 × (Nat → Int32) × (Nat → Int32) × (Nat → Int32)) :=
  ((f_X11_isStroke p1 p2 p3).bind (fun u_1 => (if u_1 = 0 then (some ((-102), f_xG_score, f_xG_strokes, f_xG_fouls, f_xGT_taken, f_xGT_size, f_xGT_spot, v_xGTc, v_xGTk, v_xGTw, f_xR_moves, f_xR_bounces, f_xR_potted, f_xR_brings, f_xR_firstHitDirection, f_xR_firstHitPower, f_xR_foul, f_xRT_taken, f_xRT_size, f_xRT_spot, v_xRTc, v_xRTk, v_xRTw)) else ((f_X11_hasTable f_x_tablesRead).bind (fun u_3 => (if u_3 = 0 then (some ((-103), f_xG_score, f_xG_strokes, f_xG_fouls, f_xGT_taken, f_xGT_size, f_xGT_spot, v_xGTc, v_xGTk, v_xGTw, f_xR_moves, f_xR_bounces, f_xR_potted, f_xR_brings, f_xR_firstHitDirection, f_xR_firstHitPower, f_xR_foul, f_xRT_taken, f_xRT_size, f_xRT_spot, v_xRTc, v_xRTk, v_xRTw)) else ((f_X9_begin f_xRT_taken f_xRT_size f_xRT_spot v_xRTc v_xRTk v_xRTw f_xGT_taken f_xGT_size f_xGT_spot v_xGTc v_xGTk v_xGTw).bind (fun u_5 => ((f_X9_shoot n f_xR_moves f_xR_bounces f_xR_potted f_xR_brings f_xR_firstHitDirection f_xR_firstHitPower f_xR_foul u_5.1 u_5.2.2.1 u_5.2.2.2.1 u_5.2.2.2.2.1 u_5.2.2.2.2.2 p1 p2 p3).bind (fun u_6 => ((f_X3_take f_xG_score f_xG_strokes f_xG_fouls f_xGT_taken f_xGT_size f_xGT_spot v_xGTc v_xGTk v_xGTw u_6.2.2.2.1 u_6.2.2.2.2.2.2.1 u_6.2.2.2.2.2.2.2.1 u_5.2.1 u_5.2.2.1 u_6.2.2.2.2.2.2.2.2 u_5.2.2.2.2.1 u_5.2.2.2.2.2).bind (fun u_7 => (some ((u_6.2.2.2.1 + 100), u_7.1, u_7.2.1, u_7.2.2.1, u_7.2.2.2.1, u_7.2.2.2.2.1, u_7.2.2.2.2.2.1, u_7.2.2.2.2.2.2.1, u_7.2.2.2.2.2.2.2.1, u_7.2.2.2.2.2.2.2.2, u_6.1, u_6.2.1, u_6.2.2.1, u_6.2.2.2.1, u_6.2.2.2.2.1, u_6.2.2.2.2.2.1, u_6.2.2.2.2.2.2.1, u_6.2.2.2.2.2.2.2.1, u_5.2.1, u_5.2.2.1, u_6.2.2.2.2.2.2.2.2, u_5.2.2.2.2.1, u_5.2.2.2.2.2))))))))))))))
theorem hd_X11_stroke : yX11_stroke.cls ≠ "java/lang/invoke/MethodHandle" ∧ yX11_stroke.cls ≠ "java/lang/invoke/VarHandle" ∧ (parseMethodDescriptor yX11_stroke.desc).map (fun d => d.parameters.length) = some 3 := ⟨by decide +kernel, by decide +kernel, by decide +kernel⟩
set_option maxHeartbeats 4000000 in
set_option maxRecDepth 100000 in
theorem c_X11_stroke (X : CXp) (l : Launch) (n : Nat) (a_x a_kb a_xP a_xG a_xGT a_xGTc a_xGTk a_xGTw a_xGb a_xGd a_xGe a_xGf a_xK a_xR a_xRT a_xRTc a_xRTk a_xRTw a_xA a_xU : Nat) (a_b : Nat → Nat) (f_x_imageKept : Int32) (f_x_tablesRead : Int32) (f_x_plansDone : Int32) (f_x_safesDone : Int32) (f_xG_seen : Int32) (f_xG_score : Int32) (f_xG_strokes : Int32) (f_xG_fouls : Int32) (f_xGT_taken : Int64) (f_xGT_size : Int32) (f_xGT_spot : Int32) (v_xGTc : Nat → Int32) (v_xGTk : Nat → Int32) (v_xGTw : Nat → Int32) (f_xR_moves : Int32) (f_xR_bounces : Int32) (f_xR_potted : Int32) (f_xR_brings : Int32) (f_xR_firstHitDirection : Int32) (f_xR_firstHitPower : Int32) (f_xR_foul : Int32) (f_xRT_taken : Int64) (f_xRT_size : Int32) (f_xRT_spot : Int32) (v_xRTc : Nat → Int32) (v_xRTk : Nat → Int32) (v_xRTw : Nat → Int32) (p1 : Int32) (p2 : Int32) (p3 : Int32) (res : Int32 × Int32 × Int32 × Int32 × Int64 × Int32 × Int32 × (Nat → Int32) × (Nat → Int32) × (Nat → Int32) × Int32 × Int32 × Int32 × Int32 × Int32 × Int32 × Int32 × Int64 × Int32 × Int32 × (Nat → Int32) × (Nat → Int32) × (Nat → Int32)) (h : f_X11_stroke n f_x_tablesRead f_xG_score f_xG_strokes f_xG_fouls f_xGT_taken f_xGT_size f_xGT_spot v_xGTc v_xGTk v_xGTw f_xR_moves f_xR_bounces f_xR_potted f_xR_brings f_xR_firstHitDirection f_xR_firstHitPower f_xR_foul f_xRT_taken f_xRT_size f_xRT_spot v_xRTc v_xRTk v_xRTw p1 p2 p3 = some res) : CTg X l yX11_stroke cX11_stroke 4 (some .int) 3 82 [.ref a_x, .int p1, .int p2, .int p3] ((a_x, .inr (11, [.ref a_kb, .ref a_xP, .ref a_xG, .ref a_xK, .ref a_xR, .ref a_xA, .ref a_xU, .int f_x_imageKept, .int f_x_tablesRead, .int f_x_plansDone, .int f_x_safesDone])) :: (a_kb, .inl (xB X, 5, .inr (.inr (.inr (.inr (fun j => some (a_b j))))))) :: ((a_b 0), .inr (1, [])) :: ((a_b 1), .inr (5, [])) :: ((a_b 2), .inr (6, [])) :: ((a_b 3), .inr (2, [])) :: ((a_b 4), .inr (8, [])) :: (a_xG, .inr (3, [.ref a_xGT, .ref a_xGb, .ref a_xGd, .ref a_xGe, .ref a_xGf, .int f_xG_seen, .int f_xG_score, .int f_xG_strokes, .int f_xG_fouls])) :: (a_xGT, .inr (10, [.ref a_xGTc, .ref a_xGTk, .ref a_xGTw, .long f_xGT_taken, .int f_xGT_size, .int f_xGT_spot])) :: (a_xGTc, .inl (xI X, 7, .inl v_xGTc)) :: (a_xGTk, .inl (xI X, 7, .inl v_xGTk)) :: (a_xGTw, .inl (xI X, 7, .inl v_xGTw)) :: (a_xR, .inr (9, [.ref a_xRT, .ref a_kb, .int f_xR_moves, .int f_xR_bounces, .int f_xR_potted, .int f_xR_brings, .int f_xR_firstHitDirection, .int f_xR_firstHitPower, .int f_xR_foul])) :: (a_xRT, .inr (10, [.ref a_xRTc, .ref a_xRTk, .ref a_xRTw, .long f_xRT_taken, .int f_xRT_size, .int f_xRT_spot])) :: (a_xRTc, .inl (xI X, 7, .inl v_xRTc)) :: (a_xRTk, .inl (xI X, 7, .inl v_xRTk)) :: (a_xRTw, .inl (xI X, 7, .inl v_xRTw)) :: []) (QcI X res.1 ((a_x, .inr (11, [.ref a_kb, .ref a_xP, .ref a_xG, .ref a_xK, .ref a_xR, .ref a_xA, .ref a_xU, .int f_x_imageKept, .int f_x_tablesRead, .int f_x_plansDone, .int f_x_safesDone])) :: (a_kb, .inl (xB X, 5, .inr (.inr (.inr (.inr (fun j => some (a_b j))))))) :: ((a_b 0), .inr (1, [])) :: ((a_b 1), .inr (5, [])) :: ((a_b 2), .inr (6, [])) :: ((a_b 3), .inr (2, [])) :: ((a_b 4), .inr (8, [])) :: (a_xG, .inr (3, [.ref a_xGT, .ref a_xGb, .ref a_xGd, .ref a_xGe, .ref a_xGf, .int f_xG_seen, .int res.2.1, .int res.2.2.1, .int res.2.2.2.1])) :: (a_xGT, .inr (10, [.ref a_xGTc, .ref a_xGTk, .ref a_xGTw, .long res.2.2.2.2.1, .int res.2.2.2.2.2.1, .int res.2.2.2.2.2.2.1])) :: (a_xGTc, .inl (xI X, 7, .inl res.2.2.2.2.2.2.2.1)) :: (a_xGTk, .inl (xI X, 7, .inl res.2.2.2.2.2.2.2.2.1)) :: (a_xGTw, .inl (xI X, 7, .inl res.2.2.2.2.2.2.2.2.2.1)) :: (a_xR, .inr (9, [.ref a_xRT, .ref a_kb, .int res.2.2.2.2.2.2.2.2.2.2.1, .int res.2.2.2.2.2.2.2.2.2.2.2.1, .int res.2.2.2.2.2.2.2.2.2.2.2.2.1, .int res.2.2.2.2.2.2.2.2.2.2.2.2.2.1, .int res.2.2.2.2.2.2.2.2.2.2.2.2.2.2.1, .int res.2.2.2.2.2.2.2.2.2.2.2.2.2.2.2.1, .int res.2.2.2.2.2.2.2.2.2.2.2.2.2.2.2.2.1])) :: (a_xRT, .inr (10, [.ref a_xRTc, .ref a_xRTk, .ref a_xRTw, .long res.2.2.2.2.2.2.2.2.2.2.2.2.2.2.2.2.2.1, .int res.2.2.2.2.2.2.2.2.2.2.2.2.2.2.2.2.2.2.1, .int res.2.2.2.2.2.2.2.2.2.2.2.2.2.2.2.2.2.2.2.1])) :: (a_xRTc, .inl (xI X, 7, .inl res.2.2.2.2.2.2.2.2.2.2.2.2.2.2.2.2.2.2.2.2.1)) :: (a_xRTk, .inl (xI X, 7, .inl res.2.2.2.2.2.2.2.2.2.2.2.2.2.2.2.2.2.2.2.2.2.1)) :: (a_xRTw, .inl (xI X, 7, .inl res.2.2.2.2.2.2.2.2.2.2.2.2.2.2.2.2.2.2.2.2.2.2)) :: [])) := by
  refine CTg.mk (own := RX11) (by decide) rfl (Nat.le_of_ble_eq_true rfl) ?_
  intro p e s m args below meth c A hB hP hD hS ls hl
  obtain ⟨hx, hb, hr, hml, hown, hts, hlocks, hcx, hA, hAB⟩ := id hB
  have hK := hcx.1
  generalize hQ : MQ below (QcI X res.1 ((a_x, .inr (11, [.ref a_kb, .ref a_xP, .ref a_xG, .ref a_xK, .ref a_xR, .ref a_xA, .ref a_xU, .int f_x_imageKept, .int f_x_tablesRead, .int f_x_plansDone, .int f_x_safesDone])) :: (a_kb, .inl (xB X, 5, .inr (.inr (.inr (.inr (fun j => some (a_b j))))))) :: ((a_b 0), .inr (1, [])) :: ((a_b 1), .inr (5, [])) :: ((a_b 2), .inr (6, [])) :: ((a_b 3), .inr (2, [])) :: ((a_b 4), .inr (8, [])) :: (a_xG, .inr (3, [.ref a_xGT, .ref a_xGb, .ref a_xGd, .ref a_xGe, .ref a_xGf, .int f_xG_seen, .int res.2.1, .int res.2.2.1, .int res.2.2.2.1])) :: (a_xGT, .inr (10, [.ref a_xGTc, .ref a_xGTk, .ref a_xGTw, .long res.2.2.2.2.1, .int res.2.2.2.2.2.1, .int res.2.2.2.2.2.2.1])) :: (a_xGTc, .inl (xI X, 7, .inl res.2.2.2.2.2.2.2.1)) :: (a_xGTk, .inl (xI X, 7, .inl res.2.2.2.2.2.2.2.2.1)) :: (a_xGTw, .inl (xI X, 7, .inl res.2.2.2.2.2.2.2.2.2.1)) :: (a_xR, .inr (9, [.ref a_xRT, .ref a_kb, .int res.2.2.2.2.2.2.2.2.2.2.1, .int res.2.2.2.2.2.2.2.2.2.2.2.1, .int res.2.2.2.2.2.2.2.2.2.2.2.2.1, .int res.2.2.2.2.2.2.2.2.2.2.2.2.2.1, .int res.2.2.2.2.2.2.2.2.2.2.2.2.2.2.1, .int res.2.2.2.2.2.2.2.2.2.2.2.2.2.2.2.1, .int res.2.2.2.2.2.2.2.2.2.2.2.2.2.2.2.2.1])) :: (a_xRT, .inr (10, [.ref a_xRTc, .ref a_xRTk, .ref a_xRTw, .long res.2.2.2.2.2.2.2.2.2.2.2.2.2.2.2.2.2.1, .int res.2.2.2.2.2.2.2.2.2.2.2.2.2.2.2.2.2.2.1, .int res.2.2.2.2.2.2.2.2.2.2.2.2.2.2.2.2.2.2.2.1])) :: (a_xRTc, .inl (xI X, 7, .inl res.2.2.2.2.2.2.2.2.2.2.2.2.2.2.2.2.2.2.2.2.1)) :: (a_xRTk, .inl (xI X, 7, .inl res.2.2.2.2.2.2.2.2.2.2.2.2.2.2.2.2.2.2.2.2.2.1)) :: (a_xRTw, .inl (xI X, 7, .inl res.2.2.2.2.2.2.2.2.2.2.2.2.2.2.2.2.2.2.2.2.2.2)) :: []) A) args s 0 0 A = Q
  replace hl : lv_has ls 4 [(0, .ref a_x), (1, .int p1), (2, .int p2), (3, .int p3)] := hl
  unfold f_X11_stroke at h
  refine lv_iload_n hx hb dX11_stroke_0 rfl (lv_at hl 1 rfl) ?_
  refine lv_iload_n hx hb dX11_stroke_1 rfl (lv_at hl 2 rfl) ?_
  refine lv_iload_n hx hb dX11_stroke_2 rfl (lv_at hl 3 rfl) ?_
  obtain ⟨u_1, hu_1, h⟩ := ob_s h
  refine cSi (As := [.int p1, .int p2, .int p3]) (rest := []) ((a_x, .inr (11, [.ref a_kb, .ref a_xP, .ref a_xG, .ref a_xK, .ref a_xR, .ref a_xA, .ref a_xU, .int f_x_imageKept, .int f_x_tablesRead, .int f_x_plansDone, .int f_x_safesDone])) :: (a_kb, .inl (xB X, 5, .inr (.inr (.inr (.inr (fun j => some (a_b j))))))) :: ((a_b 0), .inr (1, [])) :: ((a_b 1), .inr (5, [])) :: ((a_b 2), .inr (6, [])) :: ((a_b 3), .inr (2, [])) :: ((a_b 4), .inr (8, [])) :: (a_xG, .inr (3, [.ref a_xGT, .ref a_xGb, .ref a_xGd, .ref a_xGe, .ref a_xGf, .int f_xG_seen, .int f_xG_score, .int f_xG_strokes, .int f_xG_fouls])) :: (a_xGT, .inr (10, [.ref a_xGTc, .ref a_xGTk, .ref a_xGTw, .long f_xGT_taken, .int f_xGT_size, .int f_xGT_spot])) :: (a_xGTc, .inl (xI X, 7, .inl v_xGTc)) :: (a_xGTk, .inl (xI X, 7, .inl v_xGTk)) :: (a_xGTw, .inl (xI X, 7, .inl v_xGTw)) :: (a_xR, .inr (9, [.ref a_xRT, .ref a_kb, .int f_xR_moves, .int f_xR_bounces, .int f_xR_potted, .int f_xR_brings, .int f_xR_firstHitDirection, .int f_xR_firstHitPower, .int f_xR_foul])) :: (a_xRT, .inr (10, [.ref a_xRTc, .ref a_xRTk, .ref a_xRTw, .long f_xRT_taken, .int f_xRT_size, .int f_xRT_spot])) :: (a_xRTc, .inl (xI X, 7, .inl v_xRTc)) :: (a_xRTk, .inl (xI X, 7, .inl v_xRTk)) :: (a_xRTw, .inl (xI X, 7, .inl v_xRTw)) :: []) hB (c_X11_isStroke X l p1 p2 p3 u_1 hu_1) wq_3_200 wq_1_1 wq_3_198 wq_3_199 hd_X11_isStroke (by decide) hP hD hS hl.1 [] [0, 1, 2, 3, 4, 5, 6, 7, 8, 9, 10, 11, 12, 13, 14, 15, 16] ((a_x, .inr (11, [.ref a_kb, .ref a_xP, .ref a_xG, .ref a_xK, .ref a_xR, .ref a_xA, .ref a_xU, .int f_x_imageKept, .int f_x_tablesRead, .int f_x_plansDone, .int f_x_safesDone])) :: (a_kb, .inl (xB X, 5, .inr (.inr (.inr (.inr (fun j => some (a_b j))))))) :: ((a_b 0), .inr (1, [])) :: ((a_b 1), .inr (5, [])) :: ((a_b 2), .inr (6, [])) :: ((a_b 3), .inr (2, [])) :: ((a_b 4), .inr (8, [])) :: (a_xG, .inr (3, [.ref a_xGT, .ref a_xGb, .ref a_xGd, .ref a_xGe, .ref a_xGf, .int f_xG_seen, .int f_xG_score, .int f_xG_strokes, .int f_xG_fouls])) :: (a_xGT, .inr (10, [.ref a_xGTc, .ref a_xGTk, .ref a_xGTw, .long f_xGT_taken, .int f_xGT_size, .int f_xGT_spot])) :: (a_xGTc, .inl (xI X, 7, .inl v_xGTc)) :: (a_xGTk, .inl (xI X, 7, .inl v_xGTk)) :: (a_xGTw, .inl (xI X, 7, .inl v_xGTw)) :: (a_xR, .inr (9, [.ref a_xRT, .ref a_kb, .int f_xR_moves, .int f_xR_bounces, .int f_xR_potted, .int f_xR_brings, .int f_xR_firstHitDirection, .int f_xR_firstHitPower, .int f_xR_foul])) :: (a_xRT, .inr (10, [.ref a_xRTc, .ref a_xRTk, .ref a_xRTw, .long f_xRT_taken, .int f_xRT_size, .int f_xRT_spot])) :: (a_xRTc, .inl (xI X, 7, .inl v_xRTc)) :: (a_xRTk, .inl (xI X, 7, .inl v_xRTk)) :: (a_xRTw, .inl (xI X, 7, .inl v_xRTw)) :: []) rfl (by decide +kernel) rfl rfl rfl (nn := 17) rfl (by decide +kernel) (a_x :: a_kb :: (a_b 0) :: (a_b 1) :: (a_b 2) :: (a_b 3) :: (a_b 4) :: a_xG :: a_xGT :: a_xGTc :: a_xGTk :: a_xGTw :: a_xR :: a_xRT :: a_xRTc :: a_xRTk :: a_xRTw :: []) rfl rfl rfl rfl (Nat.le_of_ble_eq_true rfl) dX11_stroke_3 ⟨Nat.zero_le _, Nat.zero_le _⟩ (fun H locs hP hD hS => ?_)
  refine lv_if_ne (tgt := 12) hx hb dX11_stroke_6 (by decide) (fun c_2 => ?_) (fun c_2 => ?_)
  · replace h := it_n c_2 h
    refine lv_aload_n hx hb dX11_stroke_12 rfl (lv_at hl 0 rfl) ?_
    obtain ⟨u_3, hu_3, h⟩ := ob_s h
    refine cVi (C := RX11) (As := []) (rest := []) ((a_x, .inr (11, [.ref a_kb, .ref a_xP, .ref a_xG, .ref a_xK, .ref a_xR, .ref a_xA, .ref a_xU, .int f_x_imageKept, .int f_x_tablesRead, .int f_x_plansDone, .int f_x_safesDone])) :: (a_kb, .inl (xB X, 5, .inr (.inr (.inr (.inr (fun j => some (a_b j))))))) :: ((a_b 0), .inr (1, [])) :: ((a_b 1), .inr (5, [])) :: ((a_b 2), .inr (6, [])) :: ((a_b 3), .inr (2, [])) :: ((a_b 4), .inr (8, [])) :: (a_xG, .inr (3, [.ref a_xGT, .ref a_xGb, .ref a_xGd, .ref a_xGe, .ref a_xGf, .int f_xG_seen, .int f_xG_score, .int f_xG_strokes, .int f_xG_fouls])) :: (a_xGT, .inr (10, [.ref a_xGTc, .ref a_xGTk, .ref a_xGTw, .long f_xGT_taken, .int f_xGT_size, .int f_xGT_spot])) :: (a_xGTc, .inl (xI X, 7, .inl v_xGTc)) :: (a_xGTk, .inl (xI X, 7, .inl v_xGTk)) :: (a_xGTw, .inl (xI X, 7, .inl v_xGTw)) :: (a_xR, .inr (9, [.ref a_xRT, .ref a_kb, .int f_xR_moves, .int f_xR_bounces, .int f_xR_potted, .int f_xR_brings, .int f_xR_firstHitDirection, .int f_xR_firstHitPower, .int f_xR_foul])) :: (a_xRT, .inr (10, [.ref a_xRTc, .ref a_xRTk, .ref a_xRTw, .long f_xRT_taken, .int f_xRT_size, .int f_xRT_spot])) :: (a_xRTc, .inl (xI X, 7, .inl v_xRTc)) :: (a_xRTk, .inl (xI X, 7, .inl v_xRTk)) :: (a_xRTw, .inl (xI X, 7, .inl v_xRTw)) :: []) hB (c_X11_hasTable X l a_x a_kb a_xP a_xG a_xK a_xR a_xA a_xU f_x_imageKept f_x_tablesRead f_x_plansDone f_x_safesDone u_3 hu_3) wq_2_221 wq_1_1 wq_2_218 wq_2_220 wp_6 hd_X11_hasTable (by decide) hP hD hS hl.1 [0] [1, 2, 3, 4, 5, 6, 7, 8, 9, 10, 11, 12, 13, 14, 15, 16] ((a_kb, .inl (xB X, 5, .inr (.inr (.inr (.inr (fun j => some (a_b j))))))) :: ((a_b 0), .inr (1, [])) :: ((a_b 1), .inr (5, [])) :: ((a_b 2), .inr (6, [])) :: ((a_b 3), .inr (2, [])) :: ((a_b 4), .inr (8, [])) :: (a_xG, .inr (3, [.ref a_xGT, .ref a_xGb, .ref a_xGd, .ref a_xGe, .ref a_xGf, .int f_xG_seen, .int f_xG_score, .int f_xG_strokes, .int f_xG_fouls])) :: (a_xGT, .inr (10, [.ref a_xGTc, .ref a_xGTk, .ref a_xGTw, .long f_xGT_taken, .int f_xGT_size, .int f_xGT_spot])) :: (a_xGTc, .inl (xI X, 7, .inl v_xGTc)) :: (a_xGTk, .inl (xI X, 7, .inl v_xGTk)) :: (a_xGTw, .inl (xI X, 7, .inl v_xGTw)) :: (a_xR, .inr (9, [.ref a_xRT, .ref a_kb, .int f_xR_moves, .int f_xR_bounces, .int f_xR_potted, .int f_xR_brings, .int f_xR_firstHitDirection, .int f_xR_firstHitPower, .int f_xR_foul])) :: (a_xRT, .inr (10, [.ref a_xRTc, .ref a_xRTk, .ref a_xRTw, .long f_xRT_taken, .int f_xRT_size, .int f_xRT_spot])) :: (a_xRTc, .inl (xI X, 7, .inl v_xRTc)) :: (a_xRTk, .inl (xI X, 7, .inl v_xRTk)) :: (a_xRTw, .inl (xI X, 7, .inl v_xRTw)) :: []) rfl (by decide +kernel) rfl rfl rfl (nn := 17) rfl (by decide +kernel) (a_x :: a_kb :: (a_b 0) :: (a_b 1) :: (a_b 2) :: (a_b 3) :: (a_b 4) :: a_xG :: a_xGT :: a_xGTc :: a_xGTk :: a_xGTw :: a_xR :: a_xRT :: a_xRTc :: a_xRTk :: a_xRTw :: []) rfl rfl (q0 := 0) rfl rfl rfl rfl (Nat.le_of_ble_eq_true rfl) dX11_stroke_13 ⟨Nat.zero_le _, Nat.zero_le _⟩ (fun H locs hP hD hS => ?_)
    refine lv_if_ne (tgt := 22) hx hb dX11_stroke_16 (by decide) (fun c_4 => ?_) (fun c_4 => ?_)
    · replace h := it_n c_4 h
      refine lv_aload_n hx hb dX11_stroke_22 rfl (lv_at hl 0 rfl) ?_
      refine va_get (D := xD X) (ci := 11) (v := .ref a_xR) (C := RX11) (T := TX11) (N := 11) hx hb hts inX11 hown hK hP 0 rfl rfl 4 (by decide) (hts _ wq_2_0) (fun _ h9 => h9) rfl dX11_stroke_23 ?_
      refine lv_aload_n hx hb dX11_stroke_26 rfl (lv_at hl 0 rfl) ?_
      refine va_get (D := xD X) (ci := 11) (v := .ref a_xG) (C := RX11) (T := TX11) (N := 11) hx hb hts inX11 hown hK hP 0 rfl rfl 2 (by decide) (hts _ wq_1_238) (fun _ h9 => h9) rfl dX11_stroke_27 ?_
      refine va_getN (D := xD X) (ci := 3) (v := .ref a_xGT) (C := RX3) (T := TX3) (N := 9) hx hb hts inX3 hown hK hP 7 rfl rfl 0 (by decide) (va_Nw.use rfl (hcx.2.1 _ wq_1_122)) (fun _ h9 => h9) rfl dX11_stroke_30 ?_
      obtain ⟨u_5, hu_5, h⟩ := ob_s h
      refine cVv (C := RX9) (As := [.ref a_xGT]) (rest := []) ((a_x, .inr (11, [.ref a_kb, .ref a_xP, .ref a_xG, .ref a_xK, .ref a_xR, .ref a_xA, .ref a_xU, .int f_x_imageKept, .int f_x_tablesRead, .int f_x_plansDone, .int f_x_safesDone])) :: (a_kb, .inl (xB X, 5, .inr (.inr (.inr (.inr (fun j => some (a_b j))))))) :: ((a_b 0), .inr (1, [])) :: ((a_b 1), .inr (5, [])) :: ((a_b 2), .inr (6, [])) :: ((a_b 3), .inr (2, [])) :: ((a_b 4), .inr (8, [])) :: (a_xG, .inr (3, [.ref a_xGT, .ref a_xGb, .ref a_xGd, .ref a_xGe, .ref a_xGf, .int f_xG_seen, .int f_xG_score, .int f_xG_strokes, .int f_xG_fouls])) :: (a_xGT, .inr (10, [.ref a_xGTc, .ref a_xGTk, .ref a_xGTw, .long f_xGT_taken, .int f_xGT_size, .int f_xGT_spot])) :: (a_xGTc, .inl (xI X, 7, .inl v_xGTc)) :: (a_xGTk, .inl (xI X, 7, .inl v_xGTk)) :: (a_xGTw, .inl (xI X, 7, .inl v_xGTw)) :: (a_xR, .inr (9, [.ref a_xRT, .ref a_kb, .int f_xR_moves, .int f_xR_bounces, .int f_xR_potted, .int f_xR_brings, .int f_xR_firstHitDirection, .int f_xR_firstHitPower, .int f_xR_foul])) :: (a_xRT, .inr (10, [.ref a_xRTc, .ref a_xRTk, .ref a_xRTw, .long u_5.1, .int u_5.2.1, .int u_5.2.2.1])) :: (a_xRTc, .inl (xI X, 7, .inl u_5.2.2.2.1)) :: (a_xRTk, .inl (xI X, 7, .inl u_5.2.2.2.2.1)) :: (a_xRTw, .inl (xI X, 7, .inl u_5.2.2.2.2.2)) :: []) hB (c_X9_begin X l a_xR a_xRT a_xRTc a_xRTk a_xRTw a_kb a_xGT a_xGTc a_xGTk a_xGTw f_xR_moves f_xR_bounces f_xR_potted f_xR_brings f_xR_firstHitDirection f_xR_firstHitPower f_xR_foul f_xRT_taken f_xRT_size f_xRT_spot v_xRTc v_xRTk v_xRTw f_xGT_taken f_xGT_size f_xGT_spot v_xGTc v_xGTk v_xGTw u_5 hu_5) wq_3_5 wq_1_11 wq_3_201 wq_3_3 wq_3_4 hd_X9_begin (by decide) hP hD hS hl.1 [12, 13, 14, 15, 16, 8, 9, 10, 11] [0, 1, 2, 3, 4, 5, 6, 7] [(a_x, .inr (11, [.ref a_kb, .ref a_xP, .ref a_xG, .ref a_xK, .ref a_xR, .ref a_xA, .ref a_xU, .int f_x_imageKept, .int f_x_tablesRead, .int f_x_plansDone, .int f_x_safesDone])), (a_kb, .inl (xB X, 5, .inr (.inr (.inr (.inr (fun j => some (a_b j))))))), ((a_b 0), .inr (1, [])), ((a_b 1), .inr (5, [])), ((a_b 2), .inr (6, [])), ((a_b 3), .inr (2, [])), ((a_b 4), .inr (8, [])), (a_xG, .inr (3, [.ref a_xGT, .ref a_xGb, .ref a_xGd, .ref a_xGe, .ref a_xGf, .int f_xG_seen, .int f_xG_score, .int f_xG_strokes, .int f_xG_fouls]))] rfl (by decide +kernel) rfl rfl rfl (nn := 17) rfl (by decide +kernel) (a_x :: a_kb :: (a_b 0) :: (a_b 1) :: (a_b 2) :: (a_b 3) :: (a_b 4) :: a_xG :: a_xGT :: a_xGTc :: a_xGTk :: a_xGTw :: a_xR :: a_xRT :: a_xRTc :: a_xRTk :: a_xRTw :: []) rfl rfl (q0 := 12) rfl rfl rfl rfl (Nat.le_of_ble_eq_true rfl) dX11_stroke_33 ⟨Nat.zero_le _, Nat.zero_le _⟩ (fun H locs hP hD hS => ?_)
      refine lv_aload_n hx hb dX11_stroke_36 rfl (lv_at hl 0 rfl) ?_
      refine va_get (D := xD X) (ci := 11) (v := .ref a_xR) (C := RX11) (T := TX11) (N := 11) hx hb hts inX11 hown hK hP 0 rfl rfl 4 (by decide) (hts _ wq_2_0) (fun _ h9 => h9) rfl dX11_stroke_37 ?_
      refine lv_iload_n hx hb dX11_stroke_40 rfl (lv_at hl 1 rfl) ?_
      refine lv_iload_n hx hb dX11_stroke_41 rfl (lv_at hl 2 rfl) ?_
      refine lv_iload_n hx hb dX11_stroke_42 rfl (lv_at hl 3 rfl) ?_
      obtain ⟨u_6, hu_6, h⟩ := ob_s h
      refine cVv (C := RX9) (As := [.int p1, .int p2, .int p3]) (rest := []) ((a_x, .inr (11, [.ref a_kb, .ref a_xP, .ref a_xG, .ref a_xK, .ref a_xR, .ref a_xA, .ref a_xU, .int f_x_imageKept, .int f_x_tablesRead, .int f_x_plansDone, .int f_x_safesDone])) :: (a_kb, .inl (xB X, 5, .inr (.inr (.inr (.inr (fun j => some (a_b j))))))) :: ((a_b 0), .inr (1, [])) :: ((a_b 1), .inr (5, [])) :: ((a_b 2), .inr (6, [])) :: ((a_b 3), .inr (2, [])) :: ((a_b 4), .inr (8, [])) :: (a_xG, .inr (3, [.ref a_xGT, .ref a_xGb, .ref a_xGd, .ref a_xGe, .ref a_xGf, .int f_xG_seen, .int f_xG_score, .int f_xG_strokes, .int f_xG_fouls])) :: (a_xGT, .inr (10, [.ref a_xGTc, .ref a_xGTk, .ref a_xGTw, .long f_xGT_taken, .int f_xGT_size, .int f_xGT_spot])) :: (a_xGTc, .inl (xI X, 7, .inl v_xGTc)) :: (a_xGTk, .inl (xI X, 7, .inl v_xGTk)) :: (a_xGTw, .inl (xI X, 7, .inl v_xGTw)) :: (a_xR, .inr (9, [.ref a_xRT, .ref a_kb, .int u_6.1, .int u_6.2.1, .int u_6.2.2.1, .int u_6.2.2.2.1, .int u_6.2.2.2.2.1, .int u_6.2.2.2.2.2.1, .int u_6.2.2.2.2.2.2.1])) :: (a_xRT, .inr (10, [.ref a_xRTc, .ref a_xRTk, .ref a_xRTw, .long u_6.2.2.2.2.2.2.2.1, .int u_5.2.1, .int u_5.2.2.1])) :: (a_xRTc, .inl (xI X, 7, .inl u_6.2.2.2.2.2.2.2.2)) :: (a_xRTk, .inl (xI X, 7, .inl u_5.2.2.2.2.1)) :: (a_xRTw, .inl (xI X, 7, .inl u_5.2.2.2.2.2)) :: []) hB (c_X9_shoot X l n a_xR a_xRT a_xRTc a_xRTk a_xRTw a_kb a_b f_xR_moves f_xR_bounces f_xR_potted f_xR_brings f_xR_firstHitDirection f_xR_firstHitPower f_xR_foul u_5.1 u_5.2.1 u_5.2.2.1 u_5.2.2.2.1 u_5.2.2.2.2.1 u_5.2.2.2.2.2 p1 p2 p3 u_6 hu_6) wq_3_17 wq_1_11 wq_3_202 wq_3_15 wq_3_16 hd_X9_shoot (by decide) hP hD hS hl.1 [12, 13, 14, 15, 16, 1, 2, 3, 4, 5, 6] [0, 7, 8, 9, 10, 11] [(a_x, .inr (11, [.ref a_kb, .ref a_xP, .ref a_xG, .ref a_xK, .ref a_xR, .ref a_xA, .ref a_xU, .int f_x_imageKept, .int f_x_tablesRead, .int f_x_plansDone, .int f_x_safesDone])), (a_xG, .inr (3, [.ref a_xGT, .ref a_xGb, .ref a_xGd, .ref a_xGe, .ref a_xGf, .int f_xG_seen, .int f_xG_score, .int f_xG_strokes, .int f_xG_fouls])), (a_xGT, .inr (10, [.ref a_xGTc, .ref a_xGTk, .ref a_xGTw, .long f_xGT_taken, .int f_xGT_size, .int f_xGT_spot])), (a_xGTc, .inl (xI X, 7, .inl v_xGTc)), (a_xGTk, .inl (xI X, 7, .inl v_xGTk)), (a_xGTw, .inl (xI X, 7, .inl v_xGTw))] rfl (by decide +kernel) rfl rfl rfl (nn := 17) rfl (by decide +kernel) (a_x :: a_kb :: (a_b 0) :: (a_b 1) :: (a_b 2) :: (a_b 3) :: (a_b 4) :: a_xG :: a_xGT :: a_xGTc :: a_xGTk :: a_xGTw :: a_xR :: a_xRT :: a_xRTc :: a_xRTk :: a_xRTw :: []) rfl rfl (q0 := 12) rfl rfl rfl rfl (Nat.le_of_ble_eq_true rfl) dX11_stroke_43 ⟨Nat.zero_le _, Nat.zero_le _⟩ (fun H locs hP hD hS => ?_)
      refine lv_aload_n hx hb dX11_stroke_46 rfl (lv_at hl 0 rfl) ?_
      refine va_get (D := xD X) (ci := 11) (v := .ref a_xG) (C := RX11) (T := TX11) (N := 11) hx hb hts inX11 hown hK hP 0 rfl rfl 2 (by decide) (hts _ wq_1_238) (fun _ h9 => h9) rfl dX11_stroke_47 ?_
      refine lv_aload_n hx hb dX11_stroke_50 rfl (lv_at hl 0 rfl) ?_
      refine va_get (D := xD X) (ci := 11) (v := .ref a_xR) (C := RX11) (T := TX11) (N := 11) hx hb hts inX11 hown hK hP 0 rfl rfl 4 (by decide) (hts _ wq_2_0) (fun _ h9 => h9) rfl dX11_stroke_51 ?_
      obtain ⟨u_7, hu_7, h⟩ := ob_s h
      refine cVv (C := RX3) (As := [.ref a_xR]) (rest := []) ((a_x, .inr (11, [.ref a_kb, .ref a_xP, .ref a_xG, .ref a_xK, .ref a_xR, .ref a_xA, .ref a_xU, .int f_x_imageKept, .int f_x_tablesRead, .int f_x_plansDone, .int f_x_safesDone])) :: (a_kb, .inl (xB X, 5, .inr (.inr (.inr (.inr (fun j => some (a_b j))))))) :: ((a_b 0), .inr (1, [])) :: ((a_b 1), .inr (5, [])) :: ((a_b 2), .inr (6, [])) :: ((a_b 3), .inr (2, [])) :: ((a_b 4), .inr (8, [])) :: (a_xG, .inr (3, [.ref a_xGT, .ref a_xGb, .ref a_xGd, .ref a_xGe, .ref a_xGf, .int f_xG_seen, .int u_7.1, .int u_7.2.1, .int u_7.2.2.1])) :: (a_xGT, .inr (10, [.ref a_xGTc, .ref a_xGTk, .ref a_xGTw, .long u_7.2.2.2.1, .int u_7.2.2.2.2.1, .int u_7.2.2.2.2.2.1])) :: (a_xGTc, .inl (xI X, 7, .inl u_7.2.2.2.2.2.2.1)) :: (a_xGTk, .inl (xI X, 7, .inl u_7.2.2.2.2.2.2.2.1)) :: (a_xGTw, .inl (xI X, 7, .inl u_7.2.2.2.2.2.2.2.2)) :: (a_xR, .inr (9, [.ref a_xRT, .ref a_kb, .int u_6.1, .int u_6.2.1, .int u_6.2.2.1, .int u_6.2.2.2.1, .int u_6.2.2.2.2.1, .int u_6.2.2.2.2.2.1, .int u_6.2.2.2.2.2.2.1])) :: (a_xRT, .inr (10, [.ref a_xRTc, .ref a_xRTk, .ref a_xRTw, .long u_6.2.2.2.2.2.2.2.1, .int u_5.2.1, .int u_5.2.2.1])) :: (a_xRTc, .inl (xI X, 7, .inl u_6.2.2.2.2.2.2.2.2)) :: (a_xRTk, .inl (xI X, 7, .inl u_5.2.2.2.2.1)) :: (a_xRTw, .inl (xI X, 7, .inl u_5.2.2.2.2.2)) :: []) hB (c_X3_take X l a_xG a_xGT a_xGTc a_xGTk a_xGTw a_xGb a_xGd a_xGe a_xGf a_xR a_xRT a_xRTc a_xRTk a_xRTw a_kb f_xG_seen f_xG_score f_xG_strokes f_xG_fouls f_xGT_taken f_xGT_size f_xGT_spot v_xGTc v_xGTk v_xGTw u_6.1 u_6.2.1 u_6.2.2.1 u_6.2.2.2.1 u_6.2.2.2.2.1 u_6.2.2.2.2.2.1 u_6.2.2.2.2.2.2.1 u_6.2.2.2.2.2.2.2.1 u_5.2.1 u_5.2.2.1 u_6.2.2.2.2.2.2.2.2 u_5.2.2.2.2.1 u_5.2.2.2.2.2 u_7 hu_7) wq_3_206 wq_1_8 wq_3_203 wq_3_204 wq_3_205 hd_X3_take (by decide) hP hD hS hl.1 [7, 8, 9, 10, 11, 12, 13, 14, 15, 16] [0, 1, 2, 3, 4, 5, 6] [(a_x, .inr (11, [.ref a_kb, .ref a_xP, .ref a_xG, .ref a_xK, .ref a_xR, .ref a_xA, .ref a_xU, .int f_x_imageKept, .int f_x_tablesRead, .int f_x_plansDone, .int f_x_safesDone])), (a_kb, .inl (xB X, 5, .inr (.inr (.inr (.inr (fun j => some (a_b j))))))), ((a_b 0), .inr (1, [])), ((a_b 1), .inr (5, [])), ((a_b 2), .inr (6, [])), ((a_b 3), .inr (2, [])), ((a_b 4), .inr (8, []))] rfl (by decide +kernel) rfl rfl rfl (nn := 17) rfl (by decide +kernel) (a_x :: a_kb :: (a_b 0) :: (a_b 1) :: (a_b 2) :: (a_b 3) :: (a_b 4) :: a_xG :: a_xGT :: a_xGTc :: a_xGTk :: a_xGTw :: a_xR :: a_xRT :: a_xRTc :: a_xRTk :: a_xRTw :: []) rfl rfl (q0 := 7) rfl rfl rfl rfl (Nat.le_of_ble_eq_true rfl) dX11_stroke_54 ⟨Nat.zero_le _, Nat.zero_le _⟩ (fun H locs hP hD hS => ?_)
      refine lv_aload_n hx hb dX11_stroke_57 rfl (lv_at hl 0 rfl) ?_
      refine va_get (D := xD X) (ci := 11) (v := .ref a_xR) (C := RX11) (T := TX11) (N := 11) hx hb hts inX11 hown hK hP 0 rfl rfl 4 (by decide) (hts _ wq_2_0) (fun _ h9 => h9) rfl dX11_stroke_58 ?_
      refine va_getN (D := xD X) (ci := 9) (v := .int u_6.2.2.2.1) (C := RX9) (T := TX9) (N := 9) hx hb hts inX9 hown hK hP 12 rfl rfl 5 (by decide) (va_Nw.use rfl (hcx.2.1 _ wq_1_179)) (fun _ h9 => h9) rfl dX11_stroke_61 ?_
      refine lv_bipush (v := 100) hx hb dX11_stroke_64 (by decide) ?_
      refine lv_iadd hx hb dX11_stroke_66 ?_
      obtain rfl := Option.some.inj h
      rw [← hQ]
      exact retI hB hS hP dX11_stroke_67
    · replace h := it_p c_4 h
      refine lv_bipush (v := (-103)) hx hb dX11_stroke_19 (by decide) ?_
      obtain rfl := Option.some.inj h
      rw [← hQ]
      exact retI hB hS hP dX11_stroke_21
  · replace h := it_p c_2 h
    refine lv_bipush (v := (-102)) hx hb dX11_stroke_9 (by decide) ?_
    obtain rfl := Option.some.inj h
    rw [← hQ]
    exact retI hB hS hP dX11_stroke_11


def f_X11_would (n : Nat) (f_x_tablesRead : Int32) (f_xGT_taken : Int64) (f_xGT_size : Int32) (f_xGT_spot : Int32) (v_xGTc : Nat → Int32) (v_xGTk : Nat → Int32) (v_xGTw : Nat → Int32) (f_xR_moves : Int32) (f_xR_bounces : Int32) (f_xR_potted : Int32) (f_xR_brings : Int32) (f_xR_firstHitDirection : Int32) (f_xR_firstHitPower : Int32) (f_xR_foul : Int32) (f_xRT_taken : Int64) (f_xRT_size : Int32) (f_xRT_spot : Int32) (v_xRTc : Nat → Int32) (v_xRTk : Nat → Int32) (v_xRTw : Nat → Int32) (p1 : Int32) (p2 : Int32) (p3 : Int32) (p4 : Int32) : Option (Int32 × Int32 × Int32 × Int32 × Int32 × Int32 × Int32 × Int32 × Int64 × Int32 × Int32 × (Nat → Int32) × (Nat → Int32) × (Nat → Int32)) :=
  ((f_X11_isStroke p1 p2 p3).bind (fun u_1 => (if u_1 = 0 then (some ((-102), f_xR_moves, f_xR_bounces, f_xR_potted, f_xR_brings, f_xR_firstHitDirection, f_xR_firstHitPower, f_xR_foul, f_xRT_taken, f_xRT_size, f_xRT_spot, v_xRTc, v_xRTk, v_xRTw)) else ((f_X11_within p4 0 5).bind (fun u_3 => (jn (((f_X11_hasTable f_x_tablesRead).bind (fun u_5 => (if u_5 = 0 then (some ((-103), f_xR_moves, f_xR_bounces, f_xR_potted, f_xR_brings, f_xR_firstHitDirection, f_xR_firstHitPower, f_xR_foul, f_xRT_taken, f_xRT_size, f_xRT_spot, v_xRTc, v_xRTk, v_xRTw)) else ((f_X9_begin f_xRT_taken f_xRT_size f_xRT_spot v_xRTc v_xRTk v_xRTw f_xGT_taken f_xGT_size f_xGT_spot v_xGTc v_xGTk v_xGTw).bind (fun u_7 => ((f_X9_shoot n f_xR_moves f_xR_bounces f_xR_potted f_xR_brings f_xR_firstHitDirection f_xR_firstHitPower f_xR_foul u_7.1 u_7.2.2.1 u_7.2.2.2.1 u_7.2.2.2.2.1 u_7.2.2.2.2.2 p1 p2 p3).bind (fun u_8 => ((f_X9_tell u_8.1 u_8.2.1 u_8.2.2.1 u_8.2.2.2.1 u_8.2.2.2.2.2.2.1 u_8.2.2.2.2.2.2.2.2 p4).bind (fun u_9 => (some (u_9, u_8.1, u_8.2.1, u_8.2.2.1, u_8.2.2.2.1, u_8.2.2.2.2.1, u_8.2.2.2.2.2.1, u_8.2.2.2.2.2.2.1, u_8.2.2.2.2.2.2.2.1, u_7.2.1, u_7.2.2.1, u_8.2.2.2.2.2.2.2.2, u_7.2.2.2.2.1, u_7.2.2.2.2.2)))))))))))) (fun (j37_4 : Option (Int32 × Int32 × Int32 × Int32 × Int32 × Int32 × Int32 × Int32 × Int64 × Int32 × Int32 × (Nat → Int32) × (Nat → Int32) × (Nat → Int32))) => (if u_3 = 0 then ((f_X11_within p4 10 15).bind (fun u_11 => (if u_11 = 0 then (some ((-102), f_xR_moves, f_xR_bounces, f_xR_potted, f_xR_brings, f_xR_firstHitDirection, f_xR_firstHitPower, f_xR_foul, f_xRT_taken, f_xRT_size, f_xRT_spot, v_xRTc, v_xRTk, v_xRTw)) else j37_4))) else j37_4))))))))
theorem hd_X11_would : yX11_would.cls ≠ "java/lang/invoke/MethodHandle" ∧ yX11_would.cls ≠ "java/lang/invoke/VarHandle" ∧ (parseMethodDescriptor yX11_would.desc).map (fun d => d.parameters.length) = some 4 := ⟨by decide +kernel, by decide +kernel, by decide +kernel⟩
set_option maxHeartbeats 4000000 in
set_option maxRecDepth 100000 in
theorem c_X11_would (X : CXp) (l : Launch) (n : Nat) (a_x a_kb a_xP a_xG a_xGT a_xGTc a_xGTk a_xGTw a_xGb a_xGd a_xGe a_xGf a_xK a_xR a_xRT a_xRTc a_xRTk a_xRTw a_xA a_xU : Nat) (a_b : Nat → Nat) (f_x_imageKept : Int32) (f_x_tablesRead : Int32) (f_x_plansDone : Int32) (f_x_safesDone : Int32) (f_xG_seen : Int32) (f_xG_score : Int32) (f_xG_strokes : Int32) (f_xG_fouls : Int32) (f_xGT_taken : Int64) (f_xGT_size : Int32) (f_xGT_spot : Int32) (v_xGTc : Nat → Int32) (v_xGTk : Nat → Int32) (v_xGTw : Nat → Int32) (f_xR_moves : Int32) (f_xR_bounces : Int32) (f_xR_potted : Int32) (f_xR_brings : Int32) (f_xR_firstHitDirection : Int32) (f_xR_firstHitPower : Int32) (f_xR_foul : Int32) (f_xRT_taken : Int64) (f_xRT_size : Int32) (f_xRT_spot : Int32) (v_xRTc : Nat → Int32) (v_xRTk : Nat → Int32) (v_xRTw : Nat → Int32) (p1 : Int32) (p2 : Int32) (p3 : Int32) (p4 : Int32) (res : Int32 × Int32 × Int32 × Int32 × Int32 × Int32 × Int32 × Int32 × Int64 × Int32 × Int32 × (Nat → Int32) × (Nat → Int32) × (Nat → Int32)) (h : f_X11_would n f_x_tablesRead f_xGT_taken f_xGT_size f_xGT_spot v_xGTc v_xGTk v_xGTw f_xR_moves f_xR_bounces f_xR_potted f_xR_brings f_xR_firstHitDirection f_xR_firstHitPower f_xR_foul f_xRT_taken f_xRT_size f_xRT_spot v_xRTc v_xRTk v_xRTw p1 p2 p3 p4 = some res) : CTg X l yX11_would cX11_would 5 (some .int) 3 82 [.ref a_x, .int p1, .int p2, .int p3, .int p4] ((a_x, .inr (11, [.ref a_kb, .ref a_xP, .ref a_xG, .ref a_xK, .ref a_xR, .ref a_xA, .ref a_xU, .int f_x_imageKept, .int f_x_tablesRead, .int f_x_plansDone, .int f_x_safesDone])) :: (a_kb, .inl (xB X, 5, .inr (.inr (.inr (.inr (fun j => some (a_b j))))))) :: ((a_b 0), .inr (1, [])) :: ((a_b 1), .inr (5, [])) :: ((a_b 2), .inr (6, [])) :: ((a_b 3), .inr (2, [])) :: ((a_b 4), .inr (8, [])) :: (a_xG, .inr (3, [.ref a_xGT, .ref a_xGb, .ref a_xGd, .ref a_xGe, .ref a_xGf, .int f_xG_seen, .int f_xG_score, .int f_xG_strokes, .int f_xG_fouls])) :: (a_xGT, .inr (10, [.ref a_xGTc, .ref a_xGTk, .ref a_xGTw, .long f_xGT_taken, .int f_xGT_size, .int f_xGT_spot])) :: (a_xGTc, .inl (xI X, 7, .inl v_xGTc)) :: (a_xGTk, .inl (xI X, 7, .inl v_xGTk)) :: (a_xGTw, .inl (xI X, 7, .inl v_xGTw)) :: (a_xR, .inr (9, [.ref a_xRT, .ref a_kb, .int f_xR_moves, .int f_xR_bounces, .int f_xR_potted, .int f_xR_brings, .int f_xR_firstHitDirection, .int f_xR_firstHitPower, .int f_xR_foul])) :: (a_xRT, .inr (10, [.ref a_xRTc, .ref a_xRTk, .ref a_xRTw, .long f_xRT_taken, .int f_xRT_size, .int f_xRT_spot])) :: (a_xRTc, .inl (xI X, 7, .inl v_xRTc)) :: (a_xRTk, .inl (xI X, 7, .inl v_xRTk)) :: (a_xRTw, .inl (xI X, 7, .inl v_xRTw)) :: []) (QcI X res.1 ((a_x, .inr (11, [.ref a_kb, .ref a_xP, .ref a_xG, .ref a_xK, .ref a_xR, .ref a_xA, .ref a_xU, .int f_x_imageKept, .int f_x_tablesRead, .int f_x_plansDone, .int f_x_safesDone])) :: (a_kb, .inl (xB X, 5, .inr (.inr (.inr (.inr (fun j => some (a_b j))))))) :: ((a_b 0), .inr (1, [])) :: ((a_b 1), .inr (5, [])) :: ((a_b 2), .inr (6, [])) :: ((a_b 3), .inr (2, [])) :: ((a_b 4), .inr (8, [])) :: (a_xG, .inr (3, [.ref a_xGT, .ref a_xGb, .ref a_xGd, .ref a_xGe, .ref a_xGf, .int f_xG_seen, .int f_xG_score, .int f_xG_strokes, .int f_xG_fouls])) :: (a_xGT, .inr (10, [.ref a_xGTc, .ref a_xGTk, .ref a_xGTw, .long f_xGT_taken, .int f_xGT_size, .int f_xGT_spot])) :: (a_xGTc, .inl (xI X, 7, .inl v_xGTc)) :: (a_xGTk, .inl (xI X, 7, .inl v_xGTk)) :: (a_xGTw, .inl (xI X, 7, .inl v_xGTw)) :: (a_xR, .inr (9, [.ref a_xRT, .ref a_kb, .int res.2.1, .int res.2.2.1, .int res.2.2.2.1, .int res.2.2.2.2.1, .int res.2.2.2.2.2.1, .int res.2.2.2.2.2.2.1, .int res.2.2.2.2.2.2.2.1])) :: (a_xRT, .inr (10, [.ref a_xRTc, .ref a_xRTk, .ref a_xRTw, .long res.2.2.2.2.2.2.2.2.1, .int res.2.2.2.2.2.2.2.2.2.1, .int res.2.2.2.2.2.2.2.2.2.2.1])) :: (a_xRTc, .inl (xI X, 7, .inl res.2.2.2.2.2.2.2.2.2.2.2.1)) :: (a_xRTk, .inl (xI X, 7, .inl res.2.2.2.2.2.2.2.2.2.2.2.2.1)) :: (a_xRTw, .inl (xI X, 7, .inl res.2.2.2.2.2.2.2.2.2.2.2.2.2)) :: [])) := by
  refine CTg.mk (own := RX11) (by decide) rfl (Nat.le_of_ble_eq_true rfl) ?_
  intro p e s m args below meth c A hB hP hD hS ls hl
  obtain ⟨hx, hb, hr, hml, hown, hts, hlocks, hcx, hA, hAB⟩ := id hB
  have hK := hcx.1
  generalize hQ : MQ below (QcI X res.1 ((a_x, .inr (11, [.ref a_kb, .ref a_xP, .ref a_xG, .ref a_xK, .ref a_xR, .ref a_xA, .ref a_xU, .int f_x_imageKept, .int f_x_tablesRead, .int f_x_plansDone, .int f_x_safesDone])) :: (a_kb, .inl (xB X, 5, .inr (.inr (.inr (.inr (fun j => some (a_b j))))))) :: ((a_b 0), .inr (1, [])) :: ((a_b 1), .inr (5, [])) :: ((a_b 2), .inr (6, [])) :: ((a_b 3), .inr (2, [])) :: ((a_b 4), .inr (8, [])) :: (a_xG, .inr (3, [.ref a_xGT, .ref a_xGb, .ref a_xGd, .ref a_xGe, .ref a_xGf, .int f_xG_seen, .int f_xG_score, .int f_xG_strokes, .int f_xG_fouls])) :: (a_xGT, .inr (10, [.ref a_xGTc, .ref a_xGTk, .ref a_xGTw, .long f_xGT_taken, .int f_xGT_size, .int f_xGT_spot])) :: (a_xGTc, .inl (xI X, 7, .inl v_xGTc)) :: (a_xGTk, .inl (xI X, 7, .inl v_xGTk)) :: (a_xGTw, .inl (xI X, 7, .inl v_xGTw)) :: (a_xR, .inr (9, [.ref a_xRT, .ref a_kb, .int res.2.1, .int res.2.2.1, .int res.2.2.2.1, .int res.2.2.2.2.1, .int res.2.2.2.2.2.1, .int res.2.2.2.2.2.2.1, .int res.2.2.2.2.2.2.2.1])) :: (a_xRT, .inr (10, [.ref a_xRTc, .ref a_xRTk, .ref a_xRTw, .long res.2.2.2.2.2.2.2.2.1, .int res.2.2.2.2.2.2.2.2.2.1, .int res.2.2.2.2.2.2.2.2.2.2.1])) :: (a_xRTc, .inl (xI X, 7, .inl res.2.2.2.2.2.2.2.2.2.2.2.1)) :: (a_xRTk, .inl (xI X, 7, .inl res.2.2.2.2.2.2.2.2.2.2.2.2.1)) :: (a_xRTw, .inl (xI X, 7, .inl res.2.2.2.2.2.2.2.2.2.2.2.2.2)) :: []) A) args s 0 0 A = Q
  replace hl : lv_has ls 5 [(0, .ref a_x), (1, .int p1), (2, .int p2), (3, .int p3), (4, .int p4)] := hl
  unfold f_X11_would at h
  refine lv_iload_n hx hb dX11_would_0 rfl (lv_at hl 1 rfl) ?_
  refine lv_iload_n hx hb dX11_would_1 rfl (lv_at hl 2 rfl) ?_
  refine lv_iload_n hx hb dX11_would_2 rfl (lv_at hl 3 rfl) ?_
  obtain ⟨u_1, hu_1, h⟩ := ob_s h
  refine cSi (As := [.int p1, .int p2, .int p3]) (rest := []) ((a_x, .inr (11, [.ref a_kb, .ref a_xP, .ref a_xG, .ref a_xK, .ref a_xR, .ref a_xA, .ref a_xU, .int f_x_imageKept, .int f_x_tablesRead, .int f_x_plansDone, .int f_x_safesDone])) :: (a_kb, .inl (xB X, 5, .inr (.inr (.inr (.inr (fun j => some (a_b j))))))) :: ((a_b 0), .inr (1, [])) :: ((a_b 1), .inr (5, [])) :: ((a_b 2), .inr (6, [])) :: ((a_b 3), .inr (2, [])) :: ((a_b 4), .inr (8, [])) :: (a_xG, .inr (3, [.ref a_xGT, .ref a_xGb, .ref a_xGd, .ref a_xGe, .ref a_xGf, .int f_xG_seen, .int f_xG_score, .int f_xG_strokes, .int f_xG_fouls])) :: (a_xGT, .inr (10, [.ref a_xGTc, .ref a_xGTk, .ref a_xGTw, .long f_xGT_taken, .int f_xGT_size, .int f_xGT_spot])) :: (a_xGTc, .inl (xI X, 7, .inl v_xGTc)) :: (a_xGTk, .inl (xI X, 7, .inl v_xGTk)) :: (a_xGTw, .inl (xI X, 7, .inl v_xGTw)) :: (a_xR, .inr (9, [.ref a_xRT, .ref a_kb, .int f_xR_moves, .int f_xR_bounces, .int f_xR_potted, .int f_xR_brings, .int f_xR_firstHitDirection, .int f_xR_firstHitPower, .int f_xR_foul])) :: (a_xRT, .inr (10, [.ref a_xRTc, .ref a_xRTk, .ref a_xRTw, .long f_xRT_taken, .int f_xRT_size, .int f_xRT_spot])) :: (a_xRTc, .inl (xI X, 7, .inl v_xRTc)) :: (a_xRTk, .inl (xI X, 7, .inl v_xRTk)) :: (a_xRTw, .inl (xI X, 7, .inl v_xRTw)) :: []) hB (c_X11_isStroke X l p1 p2 p3 u_1 hu_1) wq_3_200 wq_1_1 wq_3_198 wq_3_199 hd_X11_isStroke (by decide) hP hD hS hl.1 [] [0, 1, 2, 3, 4, 5, 6, 7, 8, 9, 10, 11, 12, 13, 14, 15, 16] ((a_x, .inr (11, [.ref a_kb, .ref a_xP, .ref a_xG, .ref a_xK, .ref a_xR, .ref a_xA, .ref a_xU, .int f_x_imageKept, .int f_x_tablesRead, .int f_x_plansDone, .int f_x_safesDone])) :: (a_kb, .inl (xB X, 5, .inr (.inr (.inr (.inr (fun j => some (a_b j))))))) :: ((a_b 0), .inr (1, [])) :: ((a_b 1), .inr (5, [])) :: ((a_b 2), .inr (6, [])) :: ((a_b 3), .inr (2, [])) :: ((a_b 4), .inr (8, [])) :: (a_xG, .inr (3, [.ref a_xGT, .ref a_xGb, .ref a_xGd, .ref a_xGe, .ref a_xGf, .int f_xG_seen, .int f_xG_score, .int f_xG_strokes, .int f_xG_fouls])) :: (a_xGT, .inr (10, [.ref a_xGTc, .ref a_xGTk, .ref a_xGTw, .long f_xGT_taken, .int f_xGT_size, .int f_xGT_spot])) :: (a_xGTc, .inl (xI X, 7, .inl v_xGTc)) :: (a_xGTk, .inl (xI X, 7, .inl v_xGTk)) :: (a_xGTw, .inl (xI X, 7, .inl v_xGTw)) :: (a_xR, .inr (9, [.ref a_xRT, .ref a_kb, .int f_xR_moves, .int f_xR_bounces, .int f_xR_potted, .int f_xR_brings, .int f_xR_firstHitDirection, .int f_xR_firstHitPower, .int f_xR_foul])) :: (a_xRT, .inr (10, [.ref a_xRTc, .ref a_xRTk, .ref a_xRTw, .long f_xRT_taken, .int f_xRT_size, .int f_xRT_spot])) :: (a_xRTc, .inl (xI X, 7, .inl v_xRTc)) :: (a_xRTk, .inl (xI X, 7, .inl v_xRTk)) :: (a_xRTw, .inl (xI X, 7, .inl v_xRTw)) :: []) rfl (by decide +kernel) rfl rfl rfl (nn := 17) rfl (by decide +kernel) (a_x :: a_kb :: (a_b 0) :: (a_b 1) :: (a_b 2) :: (a_b 3) :: (a_b 4) :: a_xG :: a_xGT :: a_xGTc :: a_xGTk :: a_xGTw :: a_xR :: a_xRT :: a_xRTc :: a_xRTk :: a_xRTw :: []) rfl rfl rfl rfl (Nat.le_of_ble_eq_true rfl) dX11_would_3 ⟨Nat.zero_le _, Nat.zero_le _⟩ (fun H locs hP hD hS => ?_)
  refine lv_if_ne (tgt := 12) hx hb dX11_would_6 (by decide) (fun c_2 => ?_) (fun c_2 => ?_)
  · replace h := it_n c_2 h
    refine lv_iload hx hb dX11_would_12 (lv_at hl 4 rfl) ?_
    refine lv_iconst (v := 0) hx hb dX11_would_14 (by decide) ?_
    refine lv_iconst (v := 5) hx hb dX11_would_15 (by decide) ?_
    obtain ⟨u_3, hu_3, h⟩ := ob_s h
    refine cSi (As := [.int p4, .int 0, .int 5]) (rest := []) ((a_x, .inr (11, [.ref a_kb, .ref a_xP, .ref a_xG, .ref a_xK, .ref a_xR, .ref a_xA, .ref a_xU, .int f_x_imageKept, .int f_x_tablesRead, .int f_x_plansDone, .int f_x_safesDone])) :: (a_kb, .inl (xB X, 5, .inr (.inr (.inr (.inr (fun j => some (a_b j))))))) :: ((a_b 0), .inr (1, [])) :: ((a_b 1), .inr (5, [])) :: ((a_b 2), .inr (6, [])) :: ((a_b 3), .inr (2, [])) :: ((a_b 4), .inr (8, [])) :: (a_xG, .inr (3, [.ref a_xGT, .ref a_xGb, .ref a_xGd, .ref a_xGe, .ref a_xGf, .int f_xG_seen, .int f_xG_score, .int f_xG_strokes, .int f_xG_fouls])) :: (a_xGT, .inr (10, [.ref a_xGTc, .ref a_xGTk, .ref a_xGTw, .long f_xGT_taken, .int f_xGT_size, .int f_xGT_spot])) :: (a_xGTc, .inl (xI X, 7, .inl v_xGTc)) :: (a_xGTk, .inl (xI X, 7, .inl v_xGTk)) :: (a_xGTw, .inl (xI X, 7, .inl v_xGTw)) :: (a_xR, .inr (9, [.ref a_xRT, .ref a_kb, .int f_xR_moves, .int f_xR_bounces, .int f_xR_potted, .int f_xR_brings, .int f_xR_firstHitDirection, .int f_xR_firstHitPower, .int f_xR_foul])) :: (a_xRT, .inr (10, [.ref a_xRTc, .ref a_xRTk, .ref a_xRTw, .long f_xRT_taken, .int f_xRT_size, .int f_xRT_spot])) :: (a_xRTc, .inl (xI X, 7, .inl v_xRTc)) :: (a_xRTk, .inl (xI X, 7, .inl v_xRTk)) :: (a_xRTw, .inl (xI X, 7, .inl v_xRTw)) :: []) hB (c_X11_within X l p4 0 5 u_3 hu_3) wq_2_36 wq_1_1 wq_2_34 wq_2_35 hd_X11_within (by decide) hP hD hS hl.1 [] [0, 1, 2, 3, 4, 5, 6, 7, 8, 9, 10, 11, 12, 13, 14, 15, 16] ((a_x, .inr (11, [.ref a_kb, .ref a_xP, .ref a_xG, .ref a_xK, .ref a_xR, .ref a_xA, .ref a_xU, .int f_x_imageKept, .int f_x_tablesRead, .int f_x_plansDone, .int f_x_safesDone])) :: (a_kb, .inl (xB X, 5, .inr (.inr (.inr (.inr (fun j => some (a_b j))))))) :: ((a_b 0), .inr (1, [])) :: ((a_b 1), .inr (5, [])) :: ((a_b 2), .inr (6, [])) :: ((a_b 3), .inr (2, [])) :: ((a_b 4), .inr (8, [])) :: (a_xG, .inr (3, [.ref a_xGT, .ref a_xGb, .ref a_xGd, .ref a_xGe, .ref a_xGf, .int f_xG_seen, .int f_xG_score, .int f_xG_strokes, .int f_xG_fouls])) :: (a_xGT, .inr (10, [.ref a_xGTc, .ref a_xGTk, .ref a_xGTw, .long f_xGT_taken, .int f_xGT_size, .int f_xGT_spot])) :: (a_xGTc, .inl (xI X, 7, .inl v_xGTc)) :: (a_xGTk, .inl (xI X, 7, .inl v_xGTk)) :: (a_xGTw, .inl (xI X, 7, .inl v_xGTw)) :: (a_xR, .inr (9, [.ref a_xRT, .ref a_kb, .int f_xR_moves, .int f_xR_bounces, .int f_xR_potted, .int f_xR_brings, .int f_xR_firstHitDirection, .int f_xR_firstHitPower, .int f_xR_foul])) :: (a_xRT, .inr (10, [.ref a_xRTc, .ref a_xRTk, .ref a_xRTw, .long f_xRT_taken, .int f_xRT_size, .int f_xRT_spot])) :: (a_xRTc, .inl (xI X, 7, .inl v_xRTc)) :: (a_xRTk, .inl (xI X, 7, .inl v_xRTk)) :: (a_xRTw, .inl (xI X, 7, .inl v_xRTw)) :: []) rfl (by decide +kernel) rfl rfl rfl (nn := 17) rfl (by decide +kernel) (a_x :: a_kb :: (a_b 0) :: (a_b 1) :: (a_b 2) :: (a_b 3) :: (a_b 4) :: a_xG :: a_xGT :: a_xGTc :: a_xGTk :: a_xGTw :: a_xR :: a_xRT :: a_xRTc :: a_xRTk :: a_xRTw :: []) rfl rfl rfl rfl (Nat.le_of_ble_eq_true rfl) dX11_would_16 ⟨Nat.zero_le _, Nat.zero_le _⟩ (fun H locs hP hD hS => ?_)
    obtain ⟨j37_4, ej37_4, h⟩ := jn_s h
    have J37_4 : j37_4 = some res → ∀ (H : Heap) (locs : List Loc) (ls : Array Slot), va_P (xD X) vwCl ((a_x, .inr (11, [.ref a_kb, .ref a_xP, .ref a_xG, .ref a_xK, .ref a_xR, .ref a_xA, .ref a_xU, .int f_x_imageKept, .int f_x_tablesRead, .int f_x_plansDone, .int f_x_safesDone])) :: (a_kb, .inl (xB X, 5, .inr (.inr (.inr (.inr (fun j => some (a_b j))))))) :: ((a_b 0), .inr (1, [])) :: ((a_b 1), .inr (5, [])) :: ((a_b 2), .inr (6, [])) :: ((a_b 3), .inr (2, [])) :: ((a_b 4), .inr (8, [])) :: (a_xG, .inr (3, [.ref a_xGT, .ref a_xGb, .ref a_xGd, .ref a_xGe, .ref a_xGf, .int f_xG_seen, .int f_xG_score, .int f_xG_strokes, .int f_xG_fouls])) :: (a_xGT, .inr (10, [.ref a_xGTc, .ref a_xGTk, .ref a_xGTw, .long f_xGT_taken, .int f_xGT_size, .int f_xGT_spot])) :: (a_xGTc, .inl (xI X, 7, .inl v_xGTc)) :: (a_xGTk, .inl (xI X, 7, .inl v_xGTk)) :: (a_xGTw, .inl (xI X, 7, .inl v_xGTw)) :: (a_xR, .inr (9, [.ref a_xRT, .ref a_kb, .int f_xR_moves, .int f_xR_bounces, .int f_xR_potted, .int f_xR_brings, .int f_xR_firstHitDirection, .int f_xR_firstHitPower, .int f_xR_foul])) :: (a_xRT, .inr (10, [.ref a_xRTc, .ref a_xRTk, .ref a_xRTw, .long f_xRT_taken, .int f_xRT_size, .int f_xRT_spot])) :: (a_xRTc, .inl (xI X, 7, .inl v_xRTc)) :: (a_xRTk, .inl (xI X, 7, .inl v_xRTk)) :: (a_xRTw, .inl (xI X, 7, .inl v_xRTw)) :: []) H → va_D A ((a_x, .inr (11, [.ref a_kb, .ref a_xP, .ref a_xG, .ref a_xK, .ref a_xR, .ref a_xA, .ref a_xU, .int f_x_imageKept, .int f_x_tablesRead, .int f_x_plansDone, .int f_x_safesDone])) :: (a_kb, .inl (xB X, 5, .inr (.inr (.inr (.inr (fun j => some (a_b j))))))) :: ((a_b 0), .inr (1, [])) :: ((a_b 1), .inr (5, [])) :: ((a_b 2), .inr (6, [])) :: ((a_b 3), .inr (2, [])) :: ((a_b 4), .inr (8, [])) :: (a_xG, .inr (3, [.ref a_xGT, .ref a_xGb, .ref a_xGd, .ref a_xGe, .ref a_xGf, .int f_xG_seen, .int f_xG_score, .int f_xG_strokes, .int f_xG_fouls])) :: (a_xGT, .inr (10, [.ref a_xGTc, .ref a_xGTk, .ref a_xGTw, .long f_xGT_taken, .int f_xGT_size, .int f_xGT_spot])) :: (a_xGTc, .inl (xI X, 7, .inl v_xGTc)) :: (a_xGTk, .inl (xI X, 7, .inl v_xGTk)) :: (a_xGTw, .inl (xI X, 7, .inl v_xGTw)) :: (a_xR, .inr (9, [.ref a_xRT, .ref a_kb, .int f_xR_moves, .int f_xR_bounces, .int f_xR_potted, .int f_xR_brings, .int f_xR_firstHitDirection, .int f_xR_firstHitPower, .int f_xR_foul])) :: (a_xRT, .inr (10, [.ref a_xRTc, .ref a_xRTk, .ref a_xRTw, .long f_xRT_taken, .int f_xRT_size, .int f_xRT_spot])) :: (a_xRTc, .inl (xI X, 7, .inl v_xRTc)) :: (a_xRTk, .inl (xI X, 7, .inl v_xRTk)) :: (a_xRTw, .inl (xI X, 7, .inl v_xRTw)) :: []) → va_S A s.heap H locs → lv_has ls 5 [(0, .ref a_x), (1, .int p1), (2, .int p2), (3, .int p3), (4, .int p4)] → W p l e (rmF 3 82) s m args below meth c H locs 0 0 Q (F0 m 37 ls []) := by
      clear h
      intro h H locs ls hP hD hS hl
      rw [ej37_4] at h
      refine lv_aload_n hx hb dX11_would_37 rfl (lv_at hl 0 rfl) ?_
      obtain ⟨u_5, hu_5, h⟩ := ob_s h
      refine cVi (C := RX11) (As := []) (rest := []) ((a_x, .inr (11, [.ref a_kb, .ref a_xP, .ref a_xG, .ref a_xK, .ref a_xR, .ref a_xA, .ref a_xU, .int f_x_imageKept, .int f_x_tablesRead, .int f_x_plansDone, .int f_x_safesDone])) :: (a_kb, .inl (xB X, 5, .inr (.inr (.inr (.inr (fun j => some (a_b j))))))) :: ((a_b 0), .inr (1, [])) :: ((a_b 1), .inr (5, [])) :: ((a_b 2), .inr (6, [])) :: ((a_b 3), .inr (2, [])) :: ((a_b 4), .inr (8, [])) :: (a_xG, .inr (3, [.ref a_xGT, .ref a_xGb, .ref a_xGd, .ref a_xGe, .ref a_xGf, .int f_xG_seen, .int f_xG_score, .int f_xG_strokes, .int f_xG_fouls])) :: (a_xGT, .inr (10, [.ref a_xGTc, .ref a_xGTk, .ref a_xGTw, .long f_xGT_taken, .int f_xGT_size, .int f_xGT_spot])) :: (a_xGTc, .inl (xI X, 7, .inl v_xGTc)) :: (a_xGTk, .inl (xI X, 7, .inl v_xGTk)) :: (a_xGTw, .inl (xI X, 7, .inl v_xGTw)) :: (a_xR, .inr (9, [.ref a_xRT, .ref a_kb, .int f_xR_moves, .int f_xR_bounces, .int f_xR_potted, .int f_xR_brings, .int f_xR_firstHitDirection, .int f_xR_firstHitPower, .int f_xR_foul])) :: (a_xRT, .inr (10, [.ref a_xRTc, .ref a_xRTk, .ref a_xRTw, .long f_xRT_taken, .int f_xRT_size, .int f_xRT_spot])) :: (a_xRTc, .inl (xI X, 7, .inl v_xRTc)) :: (a_xRTk, .inl (xI X, 7, .inl v_xRTk)) :: (a_xRTw, .inl (xI X, 7, .inl v_xRTw)) :: []) hB (c_X11_hasTable X l a_x a_kb a_xP a_xG a_xK a_xR a_xA a_xU f_x_imageKept f_x_tablesRead f_x_plansDone f_x_safesDone u_5 hu_5) wq_2_221 wq_1_1 wq_2_218 wq_2_220 wp_6 hd_X11_hasTable (by decide) hP hD hS hl.1 [0] [1, 2, 3, 4, 5, 6, 7, 8, 9, 10, 11, 12, 13, 14, 15, 16] ((a_kb, .inl (xB X, 5, .inr (.inr (.inr (.inr (fun j => some (a_b j))))))) :: ((a_b 0), .inr (1, [])) :: ((a_b 1), .inr (5, [])) :: ((a_b 2), .inr (6, [])) :: ((a_b 3), .inr (2, [])) :: ((a_b 4), .inr (8, [])) :: (a_xG, .inr (3, [.ref a_xGT, .ref a_xGb, .ref a_xGd, .ref a_xGe, .ref a_xGf, .int f_xG_seen, .int f_xG_score, .int f_xG_strokes, .int f_xG_fouls])) :: (a_xGT, .inr (10, [.ref a_xGTc, .ref a_xGTk, .ref a_xGTw, .long f_xGT_taken, .int f_xGT_size, .int f_xGT_spot])) :: (a_xGTc, .inl (xI X, 7, .inl v_xGTc)) :: (a_xGTk, .inl (xI X, 7, .inl v_xGTk)) :: (a_xGTw, .inl (xI X, 7, .inl v_xGTw)) :: (a_xR, .inr (9, [.ref a_xRT, .ref a_kb, .int f_xR_moves, .int f_xR_bounces, .int f_xR_potted, .int f_xR_brings, .int f_xR_firstHitDirection, .int f_xR_firstHitPower, .int f_xR_foul])) :: (a_xRT, .inr (10, [.ref a_xRTc, .ref a_xRTk, .ref a_xRTw, .long f_xRT_taken, .int f_xRT_size, .int f_xRT_spot])) :: (a_xRTc, .inl (xI X, 7, .inl v_xRTc)) :: (a_xRTk, .inl (xI X, 7, .inl v_xRTk)) :: (a_xRTw, .inl (xI X, 7, .inl v_xRTw)) :: []) rfl (by decide +kernel) rfl rfl rfl (nn := 17) rfl (by decide +kernel) (a_x :: a_kb :: (a_b 0) :: (a_b 1) :: (a_b 2) :: (a_b 3) :: (a_b 4) :: a_xG :: a_xGT :: a_xGTc :: a_xGTk :: a_xGTw :: a_xR :: a_xRT :: a_xRTc :: a_xRTk :: a_xRTw :: []) rfl rfl (q0 := 0) rfl rfl rfl rfl (Nat.le_of_ble_eq_true rfl) dX11_would_38 ⟨Nat.zero_le _, Nat.zero_le _⟩ (fun H locs hP hD hS => ?_)
      refine lv_if_ne (tgt := 47) hx hb dX11_would_41 (by decide) (fun c_6 => ?_) (fun c_6 => ?_)
      · replace h := it_n c_6 h
        refine lv_aload_n hx hb dX11_would_47 rfl (lv_at hl 0 rfl) ?_
        refine va_get (D := xD X) (ci := 11) (v := .ref a_xR) (C := RX11) (T := TX11) (N := 11) hx hb hts inX11 hown hK hP 0 rfl rfl 4 (by decide) (hts _ wq_2_0) (fun _ h9 => h9) rfl dX11_would_48 ?_
        refine lv_aload_n hx hb dX11_would_51 rfl (lv_at hl 0 rfl) ?_
        refine va_get (D := xD X) (ci := 11) (v := .ref a_xG) (C := RX11) (T := TX11) (N := 11) hx hb hts inX11 hown hK hP 0 rfl rfl 2 (by decide) (hts _ wq_1_238) (fun _ h9 => h9) rfl dX11_would_52 ?_
        refine va_getN (D := xD X) (ci := 3) (v := .ref a_xGT) (C := RX3) (T := TX3) (N := 9) hx hb hts inX3 hown hK hP 7 rfl rfl 0 (by decide) (va_Nw.use rfl (hcx.2.1 _ wq_1_122)) (fun _ h9 => h9) rfl dX11_would_55 ?_
        obtain ⟨u_7, hu_7, h⟩ := ob_s h
        refine cVv (C := RX9) (As := [.ref a_xGT]) (rest := []) ((a_x, .inr (11, [.ref a_kb, .ref a_xP, .ref a_xG, .ref a_xK, .ref a_xR, .ref a_xA, .ref a_xU, .int f_x_imageKept, .int f_x_tablesRead, .int f_x_plansDone, .int f_x_safesDone])) :: (a_kb, .inl (xB X, 5, .inr (.inr (.inr (.inr (fun j => some (a_b j))))))) :: ((a_b 0), .inr (1, [])) :: ((a_b 1), .inr (5, [])) :: ((a_b 2), .inr (6, [])) :: ((a_b 3), .inr (2, [])) :: ((a_b 4), .inr (8, [])) :: (a_xG, .inr (3, [.ref a_xGT, .ref a_xGb, .ref a_xGd, .ref a_xGe, .ref a_xGf, .int f_xG_seen, .int f_xG_score, .int f_xG_strokes, .int f_xG_fouls])) :: (a_xGT, .inr (10, [.ref a_xGTc, .ref a_xGTk, .ref a_xGTw, .long f_xGT_taken, .int f_xGT_size, .int f_xGT_spot])) :: (a_xGTc, .inl (xI X, 7, .inl v_xGTc)) :: (a_xGTk, .inl (xI X, 7, .inl v_xGTk)) :: (a_xGTw, .inl (xI X, 7, .inl v_xGTw)) :: (a_xR, .inr (9, [.ref a_xRT, .ref a_kb, .int f_xR_moves, .int f_xR_bounces, .int f_xR_potted, .int f_xR_brings, .int f_xR_firstHitDirection, .int f_xR_firstHitPower, .int f_xR_foul])) :: (a_xRT, .inr (10, [.ref a_xRTc, .ref a_xRTk, .ref a_xRTw, .long u_7.1, .int u_7.2.1, .int u_7.2.2.1])) :: (a_xRTc, .inl (xI X, 7, .inl u_7.2.2.2.1)) :: (a_xRTk, .inl (xI X, 7, .inl u_7.2.2.2.2.1)) :: (a_xRTw, .inl (xI X, 7, .inl u_7.2.2.2.2.2)) :: []) hB (c_X9_begin X l a_xR a_xRT a_xRTc a_xRTk a_xRTw a_kb a_xGT a_xGTc a_xGTk a_xGTw f_xR_moves f_xR_bounces f_xR_potted f_xR_brings f_xR_firstHitDirection f_xR_firstHitPower f_xR_foul f_xRT_taken f_xRT_size f_xRT_spot v_xRTc v_xRTk v_xRTw f_xGT_taken f_xGT_size f_xGT_spot v_xGTc v_xGTk v_xGTw u_7 hu_7) wq_3_5 wq_1_11 wq_3_201 wq_3_3 wq_3_4 hd_X9_begin (by decide) hP hD hS hl.1 [12, 13, 14, 15, 16, 8, 9, 10, 11] [0, 1, 2, 3, 4, 5, 6, 7] [(a_x, .inr (11, [.ref a_kb, .ref a_xP, .ref a_xG, .ref a_xK, .ref a_xR, .ref a_xA, .ref a_xU, .int f_x_imageKept, .int f_x_tablesRead, .int f_x_plansDone, .int f_x_safesDone])), (a_kb, .inl (xB X, 5, .inr (.inr (.inr (.inr (fun j => some (a_b j))))))), ((a_b 0), .inr (1, [])), ((a_b 1), .inr (5, [])), ((a_b 2), .inr (6, [])), ((a_b 3), .inr (2, [])), ((a_b 4), .inr (8, [])), (a_xG, .inr (3, [.ref a_xGT, .ref a_xGb, .ref a_xGd, .ref a_xGe, .ref a_xGf, .int f_xG_seen, .int f_xG_score, .int f_xG_strokes, .int f_xG_fouls]))] rfl (by decide +kernel) rfl rfl rfl (nn := 17) rfl (by decide +kernel) (a_x :: a_kb :: (a_b 0) :: (a_b 1) :: (a_b 2) :: (a_b 3) :: (a_b 4) :: a_xG :: a_xGT :: a_xGTc :: a_xGTk :: a_xGTw :: a_xR :: a_xRT :: a_xRTc :: a_xRTk :: a_xRTw :: []) rfl rfl (q0 := 12) rfl rfl rfl rfl (Nat.le_of_ble_eq_true rfl) dX11_would_58 ⟨Nat.zero_le _, Nat.zero_le _⟩ (fun H locs hP hD hS => ?_)
        refine lv_aload_n hx hb dX11_would_61 rfl (lv_at hl 0 rfl) ?_
        refine va_get (D := xD X) (ci := 11) (v := .ref a_xR) (C := RX11) (T := TX11) (N := 11) hx hb hts inX11 hown hK hP 0 rfl rfl 4 (by decide) (hts _ wq_2_0) (fun _ h9 => h9) rfl dX11_would_62 ?_
        refine lv_iload_n hx hb dX11_would_65 rfl (lv_at hl 1 rfl) ?_
        refine lv_iload_n hx hb dX11_would_66 rfl (lv_at hl 2 rfl) ?_
        refine lv_iload_n hx hb dX11_would_67 rfl (lv_at hl 3 rfl) ?_
        obtain ⟨u_8, hu_8, h⟩ := ob_s h
        refine cVv (C := RX9) (As := [.int p1, .int p2, .int p3]) (rest := []) ((a_x, .inr (11, [.ref a_kb, .ref a_xP, .ref a_xG, .ref a_xK, .ref a_xR, .ref a_xA, .ref a_xU, .int f_x_imageKept, .int f_x_tablesRead, .int f_x_plansDone, .int f_x_safesDone])) :: (a_kb, .inl (xB X, 5, .inr (.inr (.inr (.inr (fun j => some (a_b j))))))) :: ((a_b 0), .inr (1, [])) :: ((a_b 1), .inr (5, [])) :: ((a_b 2), .inr (6, [])) :: ((a_b 3), .inr (2, [])) :: ((a_b 4), .inr (8, [])) :: (a_xG, .inr (3, [.ref a_xGT, .ref a_xGb, .ref a_xGd, .ref a_xGe, .ref a_xGf, .int f_xG_seen, .int f_xG_score, .int f_xG_strokes, .int f_xG_fouls])) :: (a_xGT, .inr (10, [.ref a_xGTc, .ref a_xGTk, .ref a_xGTw, .long f_xGT_taken, .int f_xGT_size, .int f_xGT_spot])) :: (a_xGTc, .inl (xI X, 7, .inl v_xGTc)) :: (a_xGTk, .inl (xI X, 7, .inl v_xGTk)) :: (a_xGTw, .inl (xI X, 7, .inl v_xGTw)) :: (a_xR, .inr (9, [.ref a_xRT, .ref a_kb, .int u_8.1, .int u_8.2.1, .int u_8.2.2.1, .int u_8.2.2.2.1, .int u_8.2.2.2.2.1, .int u_8.2.2.2.2.2.1, .int u_8.2.2.2.2.2.2.1])) :: (a_xRT, .inr (10, [.ref a_xRTc, .ref a_xRTk, .ref a_xRTw, .long u_8.2.2.2.2.2.2.2.1, .int u_7.2.1, .int u_7.2.2.1])) :: (a_xRTc, .inl (xI X, 7, .inl u_8.2.2.2.2.2.2.2.2)) :: (a_xRTk, .inl (xI X, 7, .inl u_7.2.2.2.2.1)) :: (a_xRTw, .inl (xI X, 7, .inl u_7.2.2.2.2.2)) :: []) hB (c_X9_shoot X l n a_xR a_xRT a_xRTc a_xRTk a_xRTw a_kb a_b f_xR_moves f_xR_bounces f_xR_potted f_xR_brings f_xR_firstHitDirection f_xR_firstHitPower f_xR_foul u_7.1 u_7.2.1 u_7.2.2.1 u_7.2.2.2.1 u_7.2.2.2.2.1 u_7.2.2.2.2.2 p1 p2 p3 u_8 hu_8) wq_3_17 wq_1_11 wq_3_202 wq_3_15 wq_3_16 hd_X9_shoot (by decide) hP hD hS hl.1 [12, 13, 14, 15, 16, 1, 2, 3, 4, 5, 6] [0, 7, 8, 9, 10, 11] [(a_x, .inr (11, [.ref a_kb, .ref a_xP, .ref a_xG, .ref a_xK, .ref a_xR, .ref a_xA, .ref a_xU, .int f_x_imageKept, .int f_x_tablesRead, .int f_x_plansDone, .int f_x_safesDone])), (a_xG, .inr (3, [.ref a_xGT, .ref a_xGb, .ref a_xGd, .ref a_xGe, .ref a_xGf, .int f_xG_seen, .int f_xG_score, .int f_xG_strokes, .int f_xG_fouls])), (a_xGT, .inr (10, [.ref a_xGTc, .ref a_xGTk, .ref a_xGTw, .long f_xGT_taken, .int f_xGT_size, .int f_xGT_spot])), (a_xGTc, .inl (xI X, 7, .inl v_xGTc)), (a_xGTk, .inl (xI X, 7, .inl v_xGTk)), (a_xGTw, .inl (xI X, 7, .inl v_xGTw))] rfl (by decide +kernel) rfl rfl rfl (nn := 17) rfl (by decide +kernel) (a_x :: a_kb :: (a_b 0) :: (a_b 1) :: (a_b 2) :: (a_b 3) :: (a_b 4) :: a_xG :: a_xGT :: a_xGTc :: a_xGTk :: a_xGTw :: a_xR :: a_xRT :: a_xRTc :: a_xRTk :: a_xRTw :: []) rfl rfl (q0 := 12) rfl rfl rfl rfl (Nat.le_of_ble_eq_true rfl) dX11_would_68 ⟨Nat.zero_le _, Nat.zero_le _⟩ (fun H locs hP hD hS => ?_)
        refine lv_aload_n hx hb dX11_would_71 rfl (lv_at hl 0 rfl) ?_
        refine va_get (D := xD X) (ci := 11) (v := .ref a_xR) (C := RX11) (T := TX11) (N := 11) hx hb hts inX11 hown hK hP 0 rfl rfl 4 (by decide) (hts _ wq_2_0) (fun _ h9 => h9) rfl dX11_would_72 ?_
        refine lv_iload hx hb dX11_would_75 (lv_at hl 4 rfl) ?_
        obtain ⟨u_9, hu_9, h⟩ := ob_s h
        refine cVi (C := RX9) (As := [.int p4]) (rest := []) ((a_x, .inr (11, [.ref a_kb, .ref a_xP, .ref a_xG, .ref a_xK, .ref a_xR, .ref a_xA, .ref a_xU, .int f_x_imageKept, .int f_x_tablesRead, .int f_x_plansDone, .int f_x_safesDone])) :: (a_kb, .inl (xB X, 5, .inr (.inr (.inr (.inr (fun j => some (a_b j))))))) :: ((a_b 0), .inr (1, [])) :: ((a_b 1), .inr (5, [])) :: ((a_b 2), .inr (6, [])) :: ((a_b 3), .inr (2, [])) :: ((a_b 4), .inr (8, [])) :: (a_xG, .inr (3, [.ref a_xGT, .ref a_xGb, .ref a_xGd, .ref a_xGe, .ref a_xGf, .int f_xG_seen, .int f_xG_score, .int f_xG_strokes, .int f_xG_fouls])) :: (a_xGT, .inr (10, [.ref a_xGTc, .ref a_xGTk, .ref a_xGTw, .long f_xGT_taken, .int f_xGT_size, .int f_xGT_spot])) :: (a_xGTc, .inl (xI X, 7, .inl v_xGTc)) :: (a_xGTk, .inl (xI X, 7, .inl v_xGTk)) :: (a_xGTw, .inl (xI X, 7, .inl v_xGTw)) :: (a_xR, .inr (9, [.ref a_xRT, .ref a_kb, .int u_8.1, .int u_8.2.1, .int u_8.2.2.1, .int u_8.2.2.2.1, .int u_8.2.2.2.2.1, .int u_8.2.2.2.2.2.1, .int u_8.2.2.2.2.2.2.1])) :: (a_xRT, .inr (10, [.ref a_xRTc, .ref a_xRTk, .ref a_xRTw, .long u_8.2.2.2.2.2.2.2.1, .int u_7.2.1, .int u_7.2.2.1])) :: (a_xRTc, .inl (xI X, 7, .inl u_8.2.2.2.2.2.2.2.2)) :: (a_xRTk, .inl (xI X, 7, .inl u_7.2.2.2.2.1)) :: (a_xRTw, .inl (xI X, 7, .inl u_7.2.2.2.2.2)) :: []) hB (c_X9_tell X l a_xR a_xRT a_xRTc a_xRTk a_xRTw a_kb u_8.1 u_8.2.1 u_8.2.2.1 u_8.2.2.2.1 u_8.2.2.2.2.1 u_8.2.2.2.2.2.1 u_8.2.2.2.2.2.2.1 u_8.2.2.2.2.2.2.2.1 u_7.2.1 u_7.2.2.1 u_8.2.2.2.2.2.2.2.2 p4 u_9 hu_9) wq_3_215 wq_1_11 wq_3_212 wq_3_213 wq_3_214 hd_X9_tell (by decide) hP hD hS hl.1 [12, 13, 14] [0, 1, 2, 3, 4, 5, 6, 7, 8, 9, 10, 11, 15, 16] ((a_x, .inr (11, [.ref a_kb, .ref a_xP, .ref a_xG, .ref a_xK, .ref a_xR, .ref a_xA, .ref a_xU, .int f_x_imageKept, .int f_x_tablesRead, .int f_x_plansDone, .int f_x_safesDone])) :: (a_kb, .inl (xB X, 5, .inr (.inr (.inr (.inr (fun j => some (a_b j))))))) :: ((a_b 0), .inr (1, [])) :: ((a_b 1), .inr (5, [])) :: ((a_b 2), .inr (6, [])) :: ((a_b 3), .inr (2, [])) :: ((a_b 4), .inr (8, [])) :: (a_xG, .inr (3, [.ref a_xGT, .ref a_xGb, .ref a_xGd, .ref a_xGe, .ref a_xGf, .int f_xG_seen, .int f_xG_score, .int f_xG_strokes, .int f_xG_fouls])) :: (a_xGT, .inr (10, [.ref a_xGTc, .ref a_xGTk, .ref a_xGTw, .long f_xGT_taken, .int f_xGT_size, .int f_xGT_spot])) :: (a_xGTc, .inl (xI X, 7, .inl v_xGTc)) :: (a_xGTk, .inl (xI X, 7, .inl v_xGTk)) :: (a_xGTw, .inl (xI X, 7, .inl v_xGTw)) :: (a_xRTk, .inl (xI X, 7, .inl u_7.2.2.2.2.1)) :: (a_xRTw, .inl (xI X, 7, .inl u_7.2.2.2.2.2)) :: []) rfl (by decide +kernel) rfl rfl rfl (nn := 17) rfl (by decide +kernel) (a_x :: a_kb :: (a_b 0) :: (a_b 1) :: (a_b 2) :: (a_b 3) :: (a_b 4) :: a_xG :: a_xGT :: a_xGTc :: a_xGTk :: a_xGTw :: a_xR :: a_xRT :: a_xRTc :: a_xRTk :: a_xRTw :: []) rfl rfl (q0 := 12) rfl rfl rfl rfl (Nat.le_of_ble_eq_true rfl) dX11_would_77 ⟨Nat.zero_le _, Nat.zero_le _⟩ (fun H locs hP hD hS => ?_)
        obtain rfl := Option.some.inj h
        rw [← hQ]
        exact retI hB hS hP dX11_would_80
      · replace h := it_p c_6 h
        refine lv_bipush (v := (-103)) hx hb dX11_would_44 (by decide) ?_
        obtain rfl := Option.some.inj h
        rw [← hQ]
        exact retI hB hS hP dX11_would_46
    clear ej37_4
    refine lv_if_ne (tgt := 37) hx hb dX11_would_19 (by decide) (fun c_10 => ?_) (fun c_10 => ?_)
    · replace h := it_n c_10 h
      exact J37_4 h _ _ _ hP hD hS (lv_sub hl [0, 1, 2, 3, 4] rfl)
    · replace h := it_p c_10 h
      refine lv_iload hx hb dX11_would_22 (lv_at hl 4 rfl) ?_
      refine lv_bipush (v := 10) hx hb dX11_would_24 (by decide) ?_
      refine lv_bipush (v := 15) hx hb dX11_would_26 (by decide) ?_
      obtain ⟨u_11, hu_11, h⟩ := ob_s h
      refine cSi (As := [.int p4, .int 10, .int 15]) (rest := []) ((a_x, .inr (11, [.ref a_kb, .ref a_xP, .ref a_xG, .ref a_xK, .ref a_xR, .ref a_xA, .ref a_xU, .int f_x_imageKept, .int f_x_tablesRead, .int f_x_plansDone, .int f_x_safesDone])) :: (a_kb, .inl (xB X, 5, .inr (.inr (.inr (.inr (fun j => some (a_b j))))))) :: ((a_b 0), .inr (1, [])) :: ((a_b 1), .inr (5, [])) :: ((a_b 2), .inr (6, [])) :: ((a_b 3), .inr (2, [])) :: ((a_b 4), .inr (8, [])) :: (a_xG, .inr (3, [.ref a_xGT, .ref a_xGb, .ref a_xGd, .ref a_xGe, .ref a_xGf, .int f_xG_seen, .int f_xG_score, .int f_xG_strokes, .int f_xG_fouls])) :: (a_xGT, .inr (10, [.ref a_xGTc, .ref a_xGTk, .ref a_xGTw, .long f_xGT_taken, .int f_xGT_size, .int f_xGT_spot])) :: (a_xGTc, .inl (xI X, 7, .inl v_xGTc)) :: (a_xGTk, .inl (xI X, 7, .inl v_xGTk)) :: (a_xGTw, .inl (xI X, 7, .inl v_xGTw)) :: (a_xR, .inr (9, [.ref a_xRT, .ref a_kb, .int f_xR_moves, .int f_xR_bounces, .int f_xR_potted, .int f_xR_brings, .int f_xR_firstHitDirection, .int f_xR_firstHitPower, .int f_xR_foul])) :: (a_xRT, .inr (10, [.ref a_xRTc, .ref a_xRTk, .ref a_xRTw, .long f_xRT_taken, .int f_xRT_size, .int f_xRT_spot])) :: (a_xRTc, .inl (xI X, 7, .inl v_xRTc)) :: (a_xRTk, .inl (xI X, 7, .inl v_xRTk)) :: (a_xRTw, .inl (xI X, 7, .inl v_xRTw)) :: []) hB (c_X11_within X l p4 10 15 u_11 hu_11) wq_2_36 wq_1_1 wq_2_34 wq_2_35 hd_X11_within (by decide) hP hD hS hl.1 [] [0, 1, 2, 3, 4, 5, 6, 7, 8, 9, 10, 11, 12, 13, 14, 15, 16] ((a_x, .inr (11, [.ref a_kb, .ref a_xP, .ref a_xG, .ref a_xK, .ref a_xR, .ref a_xA, .ref a_xU, .int f_x_imageKept, .int f_x_tablesRead, .int f_x_plansDone, .int f_x_safesDone])) :: (a_kb, .inl (xB X, 5, .inr (.inr (.inr (.inr (fun j => some (a_b j))))))) :: ((a_b 0), .inr (1, [])) :: ((a_b 1), .inr (5, [])) :: ((a_b 2), .inr (6, [])) :: ((a_b 3), .inr (2, [])) :: ((a_b 4), .inr (8, [])) :: (a_xG, .inr (3, [.ref a_xGT, .ref a_xGb, .ref a_xGd, .ref a_xGe, .ref a_xGf, .int f_xG_seen, .int f_xG_score, .int f_xG_strokes, .int f_xG_fouls])) :: (a_xGT, .inr (10, [.ref a_xGTc, .ref a_xGTk, .ref a_xGTw, .long f_xGT_taken, .int f_xGT_size, .int f_xGT_spot])) :: (a_xGTc, .inl (xI X, 7, .inl v_xGTc)) :: (a_xGTk, .inl (xI X, 7, .inl v_xGTk)) :: (a_xGTw, .inl (xI X, 7, .inl v_xGTw)) :: (a_xR, .inr (9, [.ref a_xRT, .ref a_kb, .int f_xR_moves, .int f_xR_bounces, .int f_xR_potted, .int f_xR_brings, .int f_xR_firstHitDirection, .int f_xR_firstHitPower, .int f_xR_foul])) :: (a_xRT, .inr (10, [.ref a_xRTc, .ref a_xRTk, .ref a_xRTw, .long f_xRT_taken, .int f_xRT_size, .int f_xRT_spot])) :: (a_xRTc, .inl (xI X, 7, .inl v_xRTc)) :: (a_xRTk, .inl (xI X, 7, .inl v_xRTk)) :: (a_xRTw, .inl (xI X, 7, .inl v_xRTw)) :: []) rfl (by decide +kernel) rfl rfl rfl (nn := 17) rfl (by decide +kernel) (a_x :: a_kb :: (a_b 0) :: (a_b 1) :: (a_b 2) :: (a_b 3) :: (a_b 4) :: a_xG :: a_xGT :: a_xGTc :: a_xGTk :: a_xGTw :: a_xR :: a_xRT :: a_xRTc :: a_xRTk :: a_xRTw :: []) rfl rfl rfl rfl (Nat.le_of_ble_eq_true rfl) dX11_would_28 ⟨Nat.zero_le _, Nat.zero_le _⟩ (fun H locs hP hD hS => ?_)
      refine lv_if_ne (tgt := 37) hx hb dX11_would_31 (by decide) (fun c_12 => ?_) (fun c_12 => ?_)
      · replace h := it_n c_12 h
        exact J37_4 h _ _ _ hP hD hS (lv_sub hl [0, 1, 2, 3, 4] rfl)
      · replace h := it_p c_12 h
        refine lv_bipush (v := (-102)) hx hb dX11_would_34 (by decide) ?_
        obtain rfl := Option.some.inj h
        rw [← hQ]
        exact retI hB hS hP dX11_would_36
  · replace h := it_p c_2 h
    refine lv_bipush (v := (-102)) hx hb dX11_would_9 (by decide) ?_
    obtain rfl := Option.some.inj h
    rw [← hQ]
    exact retI hB hS hP dX11_would_11

