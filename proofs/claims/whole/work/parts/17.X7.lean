def f_X7_isFull (f_g_size : Int32) : Option (Int32) :=
  (if f_g_size < 34 then (some 0) else (some 1))
theorem hd_X7_isFull : yX7_isFull.cls ≠ "java/lang/invoke/MethodHandle" ∧ yX7_isFull.cls ≠ "java/lang/invoke/VarHandle" ∧ (parseMethodDescriptor yX7_isFull.desc).map (fun d => d.parameters.length) = some 0 := ⟨by decide +kernel, by decide +kernel, by decide +kernel⟩
set_option maxHeartbeats 4000000 in
set_option maxRecDepth 100000 in
theorem c_X7_isFull (X : CXp) (l : Launch) (a_g a_gl : Nat) (f_g_size : Int32) (v_gl : Nat → Int32) (res : Int32) (h : f_X7_isFull f_g_size = some res) : CTg X l yX7_isFull cX7_isFull 1 (some .boolean) 0 0 [.ref a_g] [(a_g, .inr (7, [.ref a_gl, .int f_g_size])), (a_gl, .inl (xI X, 34, .inl v_gl))] (QcI X res [(a_g, .inr (7, [.ref a_gl, .int f_g_size])), (a_gl, .inl (xI X, 34, .inl v_gl))]) := by
  refine CTg.mk (own := RX7) (by decide) rfl (Nat.le_of_ble_eq_true rfl) ?_
  intro p e s m args below meth c A hB hP hD hS ls hl
  obtain ⟨hx, hb, hr, hml, hown, hts, hlocks, hcx, hA, hAB⟩ := id hB
  have hK := hcx.1
  generalize hQ : MQ below (QcI X res [(a_g, .inr (7, [.ref a_gl, .int f_g_size])), (a_gl, .inl (xI X, 34, .inl v_gl))] A) args s 0 0 A = Q
  replace hl : lv_has ls 1 [(0, .ref a_g)] := hl
  unfold f_X7_isFull at h
  refine lv_aload_n hx hb dX7_isFull_0 rfl (lv_at hl 0 rfl) ?_
  refine va_get (D := xD X) (ci := 7) (v := .int f_g_size) (C := RX7) (T := TX7) (N := 2) hx hb hts inX7 hown hK hP 0 rfl rfl 1 (by decide) (hts _ wq_1_74) (fun _ h9 => h9) rfl dX7_isFull_1 ?_
  refine lv_aload_n hx hb dX7_isFull_4 rfl (lv_at hl 0 rfl) ?_
  refine va_get (D := xD X) (ci := 7) (v := .ref a_gl) (C := RX7) (T := TX7) (N := 2) hx hb hts inX7 hown hK hP 0 rfl rfl 0 (by decide) (hts _ wq_1_73) (fun _ h9 => h9) rfl dX7_isFull_5 ?_
  refine va_alen (v := 34) hx hb hK hP 1 0 rfl rfl rfl dX7_isFull_8 ?_
  refine lv_icmp_lt (tgt := 16) hx hb dX7_isFull_9 (by decide) (fun c_1 => ?_) (fun c_1 => ?_)
  · replace h := it_p c_1 h
    refine lv_iconst (v := 0) hx hb dX7_isFull_16 (by decide) ?_
    obtain rfl := Option.some.inj h
    rw [← hQ]
    exact retZ (r := 0) hB rfl hS hP dX7_isFull_17
  · replace h := it_n c_1 h
    refine lv_iconst (v := 1) hx hb dX7_isFull_12 (by decide) ?_
    refine lv_goto (tgt := 17) hx hb dX7_isFull_13 (by decide) ?_
    obtain rfl := Option.some.inj h
    rw [← hQ]
    exact retZ (r := 1) hB rfl hS hP dX7_isFull_17


def f_X7_append (f_g_size : Int32) (v_gl : Nat → Int32) (p1 : Int32) : Option (Int32 × (Nat → Int32)) :=
  ((f_X7_isFull f_g_size).bind (fun u_1 => (if u_1 = 0 then (gd (inb f_g_size 34) (some ((f_g_size + 1), (upd v_gl f_g_size.toNatClampNeg p1)))) else (some (f_g_size, v_gl)))))
theorem hd_X7_append : yX7_append.cls ≠ "java/lang/invoke/MethodHandle" ∧ yX7_append.cls ≠ "java/lang/invoke/VarHandle" ∧ (parseMethodDescriptor yX7_append.desc).map (fun d => d.parameters.length) = some 1 := ⟨by decide +kernel, by decide +kernel, by decide +kernel⟩
set_option maxHeartbeats 4000000 in
set_option maxRecDepth 100000 in
theorem c_X7_append (X : CXp) (l : Launch) (a_g a_gl : Nat) (f_g_size : Int32) (v_gl : Nat → Int32) (p1 : Int32) (res : Int32 × (Nat → Int32)) (h : f_X7_append f_g_size v_gl p1 = some res) : CTg X l yX7_append cX7_append 2 none 1 20 [.ref a_g, .int p1] [(a_g, .inr (7, [.ref a_gl, .int f_g_size])), (a_gl, .inl (xI X, 34, .inl v_gl))] (QcV X [(a_g, .inr (7, [.ref a_gl, .int res.1])), (a_gl, .inl (xI X, 34, .inl res.2))]) := by
  refine CTg.mk (own := RX7) (by decide) rfl (Nat.le_of_ble_eq_true rfl) ?_
  intro p e s m args below meth c A hB hP hD hS ls hl
  obtain ⟨hx, hb, hr, hml, hown, hts, hlocks, hcx, hA, hAB⟩ := id hB
  have hK := hcx.1
  generalize hQ : MQ below (QcV X [(a_g, .inr (7, [.ref a_gl, .int res.1])), (a_gl, .inl (xI X, 34, .inl res.2))] A) args s 0 0 A = Q
  replace hl : lv_has ls 2 [(0, .ref a_g), (1, .int p1)] := hl
  unfold f_X7_append at h
  refine lv_aload_n hx hb dX7_append_0 rfl (lv_at hl 0 rfl) ?_
  obtain ⟨u_1, hu_1, h⟩ := ob_s h
  refine cVi (C := RX7) (As := []) (rest := []) [(a_g, .inr (7, [.ref a_gl, .int f_g_size])), (a_gl, .inl (xI X, 34, .inl v_gl))] hB (c_X7_isFull X l a_g a_gl f_g_size v_gl u_1 hu_1) wq_2_40 wq_1_7 wq_2_45 wq_2_38 wq_2_39 hd_X7_isFull (by decide) hP hD hS hl.1 [0, 1] [] [] rfl (by decide +kernel) rfl rfl rfl (nn := 2) rfl (by decide +kernel) [a_g, a_gl] rfl rfl (q0 := 0) rfl rfl rfl rfl (Nat.le_of_ble_eq_true rfl) dX7_append_1 ⟨Nat.zero_le _, Nat.zero_le _⟩ (fun H locs hP hD hS => ?_)
  refine lv_if_eq (tgt := 8) hx hb dX7_append_4 (by decide) (fun c_2 => ?_) (fun c_2 => ?_)
  · replace h := it_p c_2 h
    refine lv_aload_n hx hb dX7_append_8 rfl (lv_at hl 0 rfl) ?_
    refine va_get (D := xD X) (ci := 7) (v := .ref a_gl) (C := RX7) (T := TX7) (N := 2) hx hb hts inX7 hown hK hP 0 rfl rfl 0 (by decide) (hts _ wq_1_73) (fun _ h9 => h9) rfl dX7_append_9 ?_
    refine lv_aload_n hx hb dX7_append_12 rfl (lv_at hl 0 rfl) ?_
    refine va_get (D := xD X) (ci := 7) (v := .int f_g_size) (C := RX7) (T := TX7) (N := 2) hx hb hts inX7 hown hK hP 0 rfl rfl 1 (by decide) (hts _ wq_1_74) (fun _ h9 => h9) rfl dX7_append_13 ?_
    refine lv_iload_n hx hb dX7_append_16 rfl (lv_at hl 1 rfl) ?_
    obtain ⟨z_3, h⟩ := gd_s h
    refine va_iast hx hb hK hP hD hS 1 0 rfl rfl (inb_vp z_3) dX7_append_17 (fun H locs (hP : va_P (xD X) vwCl [(a_g, .inr (7, [.ref a_gl, .int f_g_size])), (a_gl, .inl (xI X, 34, .inl (upd v_gl f_g_size.toNatClampNeg p1)))] H) (hD : va_D A [(a_g, .inr (7, [.ref a_gl, .int f_g_size])), (a_gl, .inl (xI X, 34, .inl (upd v_gl f_g_size.toNatClampNeg p1)))]) hS => ?_)
    refine lv_aload_n hx hb dX7_append_18 rfl (lv_at hl 0 rfl) ?_
    refine lv_dup hx hb dX7_append_19 rfl ?_
    refine va_get (D := xD X) (ci := 7) (v := .int f_g_size) (C := RX7) (T := TX7) (N := 2) hx hb hts inX7 hown hK hP 0 rfl rfl 1 (by decide) (hts _ wq_1_74) (fun _ h9 => h9) rfl dX7_append_20 ?_
    refine lv_iconst (v := 1) hx hb dX7_append_23 (by decide) ?_
    refine lv_iadd hx hb dX7_append_24 ?_
    refine va_put (D := xD X) (ci := 7) (v := .int (f_g_size + 1)) (ty := .int) (C := RX7) (T := TX7) (N := 2) hx hb hts inX7 tyX7 tyX7_ok nmX7 hown hK hP hD hS 0 rfl rfl 1 (by decide) (hts _ wq_1_74) (fun _ h9 => h9) rfl (by decide +kernel) rfl rfl (Nat.le_of_ble_eq_true rfl) dX7_append_25 (fun H locs (hP : va_P (xD X) vwCl [(a_g, .inr (7, [.ref a_gl, .int (f_g_size + 1)])), (a_gl, .inl (xI X, 34, .inl (upd v_gl f_g_size.toNatClampNeg p1)))] H) (hD : va_D A [(a_g, .inr (7, [.ref a_gl, .int (f_g_size + 1)])), (a_gl, .inl (xI X, 34, .inl (upd v_gl f_g_size.toNatClampNeg p1)))]) hS => ?_)
    obtain rfl := Option.some.inj h
    rw [← hQ]
    exact retV hB hS hP dX7_append_28
  · replace h := it_n c_2 h
    obtain rfl := Option.some.inj h
    rw [← hQ]
    exact retV hB hS hP dX7_append_7


def f_X7_at (v_gl : Nat → Int32) (p1 : Int32) : Option (Int32) :=
  (jn ((some 0)) (fun (j22_1 : Option (Int32)) => (if p1 < 0 then j22_1 else (if 34 ≤ p1 then j22_1 else (gd (inb p1 34) (some (v_gl p1.toNatClampNeg)))))))
theorem hd_X7_at : yX7_at.cls ≠ "java/lang/invoke/MethodHandle" ∧ yX7_at.cls ≠ "java/lang/invoke/VarHandle" ∧ (parseMethodDescriptor yX7_at.desc).map (fun d => d.parameters.length) = some 1 := ⟨by decide +kernel, by decide +kernel, by decide +kernel⟩
set_option maxHeartbeats 4000000 in
set_option maxRecDepth 100000 in
theorem c_X7_at (X : CXp) (l : Launch) (a_g a_gl : Nat) (f_g_size : Int32) (v_gl : Nat → Int32) (p1 : Int32) (res : Int32) (h : f_X7_at v_gl p1 = some res) : CTg X l yX7_at cX7_at 2 (some .int) 0 0 [.ref a_g, .int p1] [(a_g, .inr (7, [.ref a_gl, .int f_g_size])), (a_gl, .inl (xI X, 34, .inl v_gl))] (QcI X res [(a_g, .inr (7, [.ref a_gl, .int f_g_size])), (a_gl, .inl (xI X, 34, .inl v_gl))]) := by
  refine CTg.mk (own := RX7) (by decide) rfl (Nat.le_of_ble_eq_true rfl) ?_
  intro p e s m args below meth c A hB hP hD hS ls hl
  obtain ⟨hx, hb, hr, hml, hown, hts, hlocks, hcx, hA, hAB⟩ := id hB
  have hK := hcx.1
  generalize hQ : MQ below (QcI X res [(a_g, .inr (7, [.ref a_gl, .int f_g_size])), (a_gl, .inl (xI X, 34, .inl v_gl))] A) args s 0 0 A = Q
  replace hl : lv_has ls 2 [(0, .ref a_g), (1, .int p1)] := hl
  unfold f_X7_at at h
  refine lv_iload_n hx hb dX7_at_0 rfl (lv_at hl 1 rfl) ?_
  obtain ⟨j22_1, ej22_1, h⟩ := jn_s h
  have J22_1 : j22_1 = some res → ∀ (H : Heap) (locs : List Loc) (ls : Array Slot), va_P (xD X) vwCl [(a_g, .inr (7, [.ref a_gl, .int f_g_size])), (a_gl, .inl (xI X, 34, .inl v_gl))] H → va_D A [(a_g, .inr (7, [.ref a_gl, .int f_g_size])), (a_gl, .inl (xI X, 34, .inl v_gl))] → va_S A s.heap H locs → lv_has ls 2 [] → W p l e (rmF 0 0) s m args below meth c H locs 0 0 Q (F0 m 22 ls []) := by
    clear h
    intro h H locs ls hP hD hS hl
    rw [ej22_1] at h
    refine lv_iconst (v := 0) hx hb dX7_at_22 (by decide) ?_
    obtain rfl := Option.some.inj h
    rw [← hQ]
    exact retI hB hS hP dX7_at_23
  clear ej22_1
  refine lv_if_lt (tgt := 22) hx hb dX7_at_1 (by decide) (fun c_2 => ?_) (fun c_2 => ?_)
  · replace h := it_p c_2 h
    exact J22_1 h _ _ _ hP hD hS (lv_sub hl [] rfl)
  · replace h := it_n c_2 h
    refine lv_iload_n hx hb dX7_at_4 rfl (lv_at hl 1 rfl) ?_
    refine lv_aload_n hx hb dX7_at_5 rfl (lv_at hl 0 rfl) ?_
    refine va_get (D := xD X) (ci := 7) (v := .ref a_gl) (C := RX7) (T := TX7) (N := 2) hx hb hts inX7 hown hK hP 0 rfl rfl 0 (by decide) (hts _ wq_1_73) (fun _ h9 => h9) rfl dX7_at_6 ?_
    refine va_alen (v := 34) hx hb hK hP 1 0 rfl rfl rfl dX7_at_9 ?_
    refine lv_icmp_ge (tgt := 22) hx hb dX7_at_10 (by decide) (fun c_3 => ?_) (fun c_3 => ?_)
    · replace h := it_p c_3 h
      exact J22_1 h _ _ _ hP hD hS (lv_sub hl [] rfl)
    · replace h := it_n c_3 h
      refine lv_aload_n hx hb dX7_at_13 rfl (lv_at hl 0 rfl) ?_
      refine va_get (D := xD X) (ci := 7) (v := .ref a_gl) (C := RX7) (T := TX7) (N := 2) hx hb hts inX7 hown hK hP 0 rfl rfl 0 (by decide) (hts _ wq_1_73) (fun _ h9 => h9) rfl dX7_at_14 ?_
      refine lv_iload_n hx hb dX7_at_17 rfl (lv_at hl 1 rfl) ?_
      obtain ⟨z_4, h⟩ := gd_s h
      refine va_iald hx hb hK hP 1 0 rfl rfl (inb_vp z_4) dX7_at_18 ?_
      refine lv_goto (tgt := 23) hx hb dX7_at_19 (by decide) ?_
      obtain rfl := Option.some.inj h
      rw [← hQ]
      exact retI hB hS hP dX7_at_23


def f_X7_digitAt (v_gl : Nat → Int32) (p1 : Int32) : Option (Int32) :=
  ((f_X7_at v_gl p1).bind (fun u_1 => (some (u_1 - 48))))
theorem hd_X7_digitAt : yX7_digitAt.cls ≠ "java/lang/invoke/MethodHandle" ∧ yX7_digitAt.cls ≠ "java/lang/invoke/VarHandle" ∧ (parseMethodDescriptor yX7_digitAt.desc).map (fun d => d.parameters.length) = some 1 := ⟨by decide +kernel, by decide +kernel, by decide +kernel⟩
set_option maxHeartbeats 4000000 in
set_option maxRecDepth 100000 in
theorem c_X7_digitAt (X : CXp) (l : Launch) (a_g a_gl : Nat) (f_g_size : Int32) (v_gl : Nat → Int32) (p1 : Int32) (res : Int32) (h : f_X7_digitAt v_gl p1 = some res) : CTg X l yX7_digitAt cX7_digitAt 2 (some .int) 1 21 [.ref a_g, .int p1] [(a_g, .inr (7, [.ref a_gl, .int f_g_size])), (a_gl, .inl (xI X, 34, .inl v_gl))] (QcI X res [(a_g, .inr (7, [.ref a_gl, .int f_g_size])), (a_gl, .inl (xI X, 34, .inl v_gl))]) := by
  refine CTg.mk (own := RX7) (by decide) rfl (Nat.le_of_ble_eq_true rfl) ?_
  intro p e s m args below meth c A hB hP hD hS ls hl
  obtain ⟨hx, hb, hr, hml, hown, hts, hlocks, hcx, hA, hAB⟩ := id hB
  have hK := hcx.1
  generalize hQ : MQ below (QcI X res [(a_g, .inr (7, [.ref a_gl, .int f_g_size])), (a_gl, .inl (xI X, 34, .inl v_gl))] A) args s 0 0 A = Q
  replace hl : lv_has ls 2 [(0, .ref a_g), (1, .int p1)] := hl
  unfold f_X7_digitAt at h
  refine lv_aload_n hx hb dX7_digitAt_0 rfl (lv_at hl 0 rfl) ?_
  refine lv_iload_n hx hb dX7_digitAt_1 rfl (lv_at hl 1 rfl) ?_
  obtain ⟨u_1, hu_1, h⟩ := ob_s h
  refine cVi (C := RX7) (As := [.int p1]) (rest := []) [(a_g, .inr (7, [.ref a_gl, .int f_g_size])), (a_gl, .inl (xI X, 34, .inl v_gl))] hB (c_X7_at X l a_g a_gl f_g_size v_gl p1 u_1 hu_1) wq_2_69 wq_1_7 wq_2_66 wq_2_68 wp_2 hd_X7_at (by decide) hP hD hS hl.1 [0, 1] [] [] rfl (by decide +kernel) rfl rfl rfl (nn := 2) rfl (by decide +kernel) [a_g, a_gl] rfl rfl (q0 := 0) rfl rfl rfl rfl (Nat.le_of_ble_eq_true rfl) dX7_digitAt_2 ⟨Nat.zero_le _, Nat.zero_le _⟩ (fun H locs hP hD hS => ?_)
  refine lv_bipush (v := 48) hx hb dX7_digitAt_5 (by decide) ?_
  refine lv_isub hx hb dX7_digitAt_7 ?_
  obtain rfl := Option.some.inj h
  rw [← hQ]
  exact retI hB hS hP dX7_digitAt_8


def f_X11_within (p0 : Int32) (p1 : Int32) (p2 : Int32) : Option (Int32) :=
  (jn ((some 0)) (fun (j14_1 : Option (Int32)) => (if p0 < p1 then j14_1 else (if p2 < p0 then j14_1 else (some 1)))))
theorem hd_X11_within : yX11_within.cls ≠ "java/lang/invoke/MethodHandle" ∧ yX11_within.cls ≠ "java/lang/invoke/VarHandle" ∧ (parseMethodDescriptor yX11_within.desc).map (fun d => d.parameters.length) = some 3 := ⟨by decide +kernel, by decide +kernel, by decide +kernel⟩
set_option maxHeartbeats 4000000 in
set_option maxRecDepth 100000 in
theorem c_X11_within (X : CXp) (l : Launch) (p0 : Int32) (p1 : Int32) (p2 : Int32) (res : Int32) (h : f_X11_within p0 p1 p2 = some res) : CTg X l yX11_within cX11_within 3 (some .boolean) 0 0 [.int p0, .int p1, .int p2] [] (QcI X res []) := by
  refine CTg.mk (own := RX11) (by decide) rfl (Nat.le_of_ble_eq_true rfl) ?_
  intro p e s m args below meth c A hB hP hD hS ls hl
  obtain ⟨hx, hb, hr, hml, hown, hts, hlocks, hcx, hA, hAB⟩ := id hB
  have hK := hcx.1
  generalize hQ : MQ below (QcI X res [] A) args s 0 0 A = Q
  replace hl : lv_has ls 3 [(0, .int p0), (1, .int p1), (2, .int p2)] := hl
  unfold f_X11_within at h
  refine lv_iload_n hx hb dX11_within_0 rfl (lv_at hl 0 rfl) ?_
  refine lv_iload_n hx hb dX11_within_1 rfl (lv_at hl 1 rfl) ?_
  obtain ⟨j14_1, ej14_1, h⟩ := jn_s h
  have J14_1 : j14_1 = some res → ∀ (H : Heap) (locs : List Loc) (ls : Array Slot), va_P (xD X) vwCl [] H → va_D A [] → va_S A s.heap H locs → lv_has ls 3 [] → W p l e (rmF 0 0) s m args below meth c H locs 0 0 Q (F0 m 14 ls []) := by
    clear h
    intro h H locs ls hP hD hS hl
    rw [ej14_1] at h
    refine lv_iconst (v := 0) hx hb dX11_within_14 (by decide) ?_
    obtain rfl := Option.some.inj h
    rw [← hQ]
    exact retZ (r := 0) hB rfl hS hP dX11_within_15
  clear ej14_1
  refine lv_icmp_lt (tgt := 14) hx hb dX11_within_2 (by decide) (fun c_2 => ?_) (fun c_2 => ?_)
  · replace h := it_p c_2 h
    exact J14_1 h _ _ _ hP hD hS (lv_sub hl [] rfl)
  · replace h := it_n c_2 h
    refine lv_iload_n hx hb dX11_within_5 rfl (lv_at hl 0 rfl) ?_
    refine lv_iload_n hx hb dX11_within_6 rfl (lv_at hl 2 rfl) ?_
    refine lv_icmp_gt (tgt := 14) hx hb dX11_within_7 (by decide) (fun c_3 => ?_) (fun c_3 => ?_)
    · replace h := it_p c_3 h
      exact J14_1 h _ _ _ hP hD hS (lv_sub hl [] rfl)
    · replace h := it_n c_3 h
      refine lv_iconst (v := 1) hx hb dX11_within_10 (by decide) ?_
      refine lv_goto (tgt := 15) hx hb dX11_within_11 (by decide) ?_
      obtain rfl := Option.some.inj h
      rw [← hQ]
      exact retZ (r := 1) hB rfl hS hP dX11_within_15


def f_J0_isLatin1_aae02  : Option (Int32) :=
  (bnd (1 : Int32) (fun w_1 => (jn ((some 0)) (fun (j17_2 : Option (Int32)) => (if w_1 = 0 then j17_2 else (bnd (0 : Int32) (fun w_4 => (if w_4 = 0 then (some 1) else j17_2))))))))
theorem hd_J0_isLatin1_aae02 : yJ0_isLatin1_aae02.cls ≠ "java/lang/invoke/MethodHandle" ∧ yJ0_isLatin1_aae02.cls ≠ "java/lang/invoke/VarHandle" ∧ (parseMethodDescriptor yJ0_isLatin1_aae02.desc).map (fun d => d.parameters.length) = some 0 := ⟨by decide +kernel, by decide +kernel, by decide +kernel⟩
set_option maxHeartbeats 4000000 in
set_option maxRecDepth 100000 in
theorem c_J0_isLatin1_aae02 (X : CXp) (l : Launch) (res : Int32) (h : f_J0_isLatin1_aae02  = some res) : CTg X l yJ0_isLatin1_aae02 cJ0_isLatin1_aae02 1 (some .boolean) 0 0 [.ref (xs X)] [] (QcI X res []) := by
  refine CTg.mk (own := RJ0) (by decide) rfl (Nat.le_of_ble_eq_true rfl) ?_
  intro p e s m args below meth c A hB hP hD hS ls hl
  obtain ⟨hx, hb, hr, hml, hown, hts, hlocks, hcx, hA, hAB⟩ := id hB
  have hK := hcx.1
  generalize hQ : MQ below (QcI X res [] A) args s 0 0 A = Q
  replace hl : lv_has ls 1 [(0, .ref (xs X))] := hl
  unfold f_J0_isLatin1_aae02 at h
  refine va_gets hx hb (hcx.2.2.2.2.2.2.2.1.narrow hAB) hS hown (hts _ wq_2_100) (fun _ h9 => h9) dJ0_isLatin1_aae02_0 ?_
  refine lv_topi (fun w_1 ew_1 => ?_)
  replace h := bn_s h ew_1
  obtain ⟨j17_2, ej17_2, h⟩ := jn_s h
  have J17_2 : j17_2 = some res → ∀ (H : Heap) (locs : List Loc) (ls : Array Slot), va_P (xD X) vwCl [] H → va_D A [] → va_S A s.heap H locs → lv_has ls 1 [] → W p l e (rmF 0 0) s m args below meth c H locs 0 0 Q (F0 m 17 ls []) := by
    clear h
    intro h H locs ls hP hD hS hl
    rw [ej17_2] at h
    refine lv_iconst (v := 0) hx hb dJ0_isLatin1_aae02_17 (by decide) ?_
    obtain rfl := Option.some.inj h
    rw [← hQ]
    exact retZ (r := 0) hB rfl hS hP dJ0_isLatin1_aae02_18
  clear ej17_2
  refine lv_if_eq (tgt := 17) hx hb dJ0_isLatin1_aae02_3 (by decide) (fun c_3 => ?_) (fun c_3 => ?_)
  · replace h := it_p c_3 h
    exact J17_2 h _ _ _ hP hD hS (lv_sub hl [] rfl)
  · replace h := it_n c_3 h
    refine lv_aload_n hx hb dJ0_isLatin1_aae02_6 rfl (lv_at hl 0 rfl) ?_
    refine vk_getf hx hb ((hcx.2.2.2.2.2.2.1.narrow hAB).1 0 (by decide)).2.1 hS hown (hts _ wq_6_27) (fun _ h9 => h9) dJ0_isLatin1_aae02_7 ?_
    refine lv_topi (fun w_4 ew_4 => ?_)
    replace h := bn_s h ew_4
    refine lv_if_ne (tgt := 17) hx hb dJ0_isLatin1_aae02_10 (by decide) (fun c_5 => ?_) (fun c_5 => ?_)
    · replace h := it_n c_5 h
      exact J17_2 h _ _ _ hP hD hS (lv_sub hl [] rfl)
    · replace h := it_p c_5 h
      refine lv_iconst (v := 1) hx hb dJ0_isLatin1_aae02_13 (by decide) ?_
      refine lv_goto (tgt := 18) hx hb dJ0_isLatin1_aae02_14 (by decide) ?_
      obtain rfl := Option.some.inj h
      rw [← hQ]
      exact retZ (r := 1) hB rfl hS hP dJ0_isLatin1_aae02_18


def f_J0_coder_7d493  : Option (Int32) :=
  (bnd (1 : Int32) (fun w_1 => (if w_1 = 0 then (some 1) else (bnd (0 : Int32) (fun w_3 => (gd (isb w_3) (some w_3)))))))
theorem hd_J0_coder_7d493 : yJ0_coder_7d493.cls ≠ "java/lang/invoke/MethodHandle" ∧ yJ0_coder_7d493.cls ≠ "java/lang/invoke/VarHandle" ∧ (parseMethodDescriptor yJ0_coder_7d493.desc).map (fun d => d.parameters.length) = some 0 := ⟨by decide +kernel, by decide +kernel, by decide +kernel⟩
set_option maxHeartbeats 4000000 in
set_option maxRecDepth 100000 in
theorem c_J0_coder_7d493 (X : CXp) (l : Launch) (res : Int32) (h : f_J0_coder_7d493  = some res) : CTg X l yJ0_coder_7d493 cJ0_coder_7d493 1 (some .byte) 0 0 [.ref (xs X)] [] (QcI X res []) := by
  refine CTg.mk (own := RJ0) (by decide) rfl (Nat.le_of_ble_eq_true rfl) ?_
  intro p e s m args below meth c A hB hP hD hS ls hl
  obtain ⟨hx, hb, hr, hml, hown, hts, hlocks, hcx, hA, hAB⟩ := id hB
  have hK := hcx.1
  generalize hQ : MQ below (QcI X res [] A) args s 0 0 A = Q
  replace hl : lv_has ls 1 [(0, .ref (xs X))] := hl
  unfold f_J0_coder_7d493 at h
  refine va_gets hx hb (hcx.2.2.2.2.2.2.2.1.narrow hAB) hS hown (hts _ wq_2_100) (fun _ h9 => h9) dJ0_coder_7d493_0 ?_
  refine lv_topi (fun w_1 ew_1 => ?_)
  replace h := bn_s h ew_1
  refine lv_if_eq (tgt := 13) hx hb dJ0_coder_7d493_3 (by decide) (fun c_2 => ?_) (fun c_2 => ?_)
  · replace h := it_p c_2 h
    refine lv_iconst (v := 1) hx hb dJ0_coder_7d493_13 (by decide) ?_
    obtain rfl := Option.some.inj h
    rw [← hQ]
    exact retZ (r := 1) hB rfl hS hP dJ0_coder_7d493_14
  · replace h := it_n c_2 h
    refine lv_aload_n hx hb dJ0_coder_7d493_6 rfl (lv_at hl 0 rfl) ?_
    refine vk_getf hx hb ((hcx.2.2.2.2.2.2.1.narrow hAB).1 0 (by decide)).2.1 hS hown (hts _ wq_6_27) (fun _ h9 => h9) dJ0_coder_7d493_7 ?_
    refine lv_topi (fun w_3 ew_3 => ?_)
    replace h := bn_s h ew_3
    refine lv_goto (tgt := 14) hx hb dJ0_coder_7d493_10 (by decide) ?_
    obtain ⟨z_4, h⟩ := gd_s h
    obtain rfl := Option.some.inj h
    rw [← hQ]
    exact retZ (r := w_3) hB (isb_nb z_4) hS hP dJ0_coder_7d493_14


def f_J0_length_8abf5  : Option (Int32) :=
  ((f_J0_coder_7d493 ).bind (fun u_1 => (some (5 >>> (u_1 &&& 31)))))
theorem hd_J0_length_8abf5 : yJ0_length_8abf5.cls ≠ "java/lang/invoke/MethodHandle" ∧ yJ0_length_8abf5.cls ≠ "java/lang/invoke/VarHandle" ∧ (parseMethodDescriptor yJ0_length_8abf5.desc).map (fun d => d.parameters.length) = some 0 := ⟨by decide +kernel, by decide +kernel, by decide +kernel⟩
set_option maxHeartbeats 4000000 in
set_option maxRecDepth 100000 in
theorem c_J0_length_8abf5 (X : CXp) (l : Launch) (res : Int32) (h : f_J0_length_8abf5  = some res) : CTg X l yJ0_length_8abf5 cJ0_length_8abf5 1 (some .int) 1 20 [.ref (xs X)] [] (QcI X res []) := by
  refine CTg.mk (own := RJ0) (by decide) rfl (Nat.le_of_ble_eq_true rfl) ?_
  intro p e s m args below meth c A hB hP hD hS ls hl
  obtain ⟨hx, hb, hr, hml, hown, hts, hlocks, hcx, hA, hAB⟩ := id hB
  have hK := hcx.1
  generalize hQ : MQ below (QcI X res [] A) args s 0 0 A = Q
  replace hl : lv_has ls 1 [(0, .ref (xs X))] := hl
  unfold f_J0_length_8abf5 at h
  refine lv_aload_n hx hb dJ0_length_8abf5_0 rfl (lv_at hl 0 rfl) ?_
  refine vk_getf hx hb ((hcx.2.2.2.2.2.2.1.narrow hAB).1 0 (by decide)).2.2.1 hS hown (hts _ wq_6_28) (fun _ h9 => h9) dJ0_length_8abf5_1 ?_
  refine va_tlen (v := 5) hx hb ((hcx.2.2.2.2.2.2.1.narrow hAB).1 0 (by decide)).2.2.2 hS rfl dJ0_length_8abf5_4 ?_
  refine lv_aload_n hx hb dJ0_length_8abf5_5 rfl (lv_at hl 0 rfl) ?_
  obtain ⟨u_1, hu_1, h⟩ := ob_s h
  refine cTi (C := RJ0) (As := []) (rest := [.int 5]) hB (c_J0_coder_7d493 X l u_1 hu_1) wq_2_109 wq_1_15 wq_2_106 wq_2_107 wq_2_108 hd_J0_coder_7d493 (by decide) hP hD hS hl.1 (vk_recv (i := 0) (hcx.2.2.2.2.2.2.1.narrow hAB) (by decide) hS) rfl rfl (Nat.le_of_ble_eq_true rfl) dJ0_length_8abf5_6 ⟨Nat.zero_le _, Nat.zero_le _⟩ (fun H locs hP hD hS => ?_)
  refine lv_ishr hx hb dJ0_length_8abf5_9 ?_
  obtain rfl := Option.some.inj h
  rw [← hQ]
  exact retI hB hS hP dJ0_length_8abf5_10


def f_J1_canEncode_9a6ad (p0 : Int32) : Option (Int32) :=
  (jn ((some 0)) (fun (j15_1 : Option (Int32)) => (if p0 < 0 then j15_1 else (if 255 < p0 then j15_1 else (some 1)))))
theorem hd_J1_canEncode_9a6ad : yJ1_canEncode_9a6ad.cls ≠ "java/lang/invoke/MethodHandle" ∧ yJ1_canEncode_9a6ad.cls ≠ "java/lang/invoke/VarHandle" ∧ (parseMethodDescriptor yJ1_canEncode_9a6ad.desc).map (fun d => d.parameters.length) = some 1 := ⟨by decide +kernel, by decide +kernel, by decide +kernel⟩
set_option maxHeartbeats 4000000 in
set_option maxRecDepth 100000 in
theorem c_J1_canEncode_9a6ad (X : CXp) (l : Launch) (p0 : Int32) (res : Int32) (h : f_J1_canEncode_9a6ad p0 = some res) : CTg X l yJ1_canEncode_9a6ad cJ1_canEncode_9a6ad 1 (some .boolean) 0 0 [.int p0] [] (QcI X res []) := by
  refine CTg.mk (own := RJ1) (by decide) rfl (Nat.le_of_ble_eq_true rfl) ?_
  intro p e s m args below meth c A hB hP hD hS ls hl
  obtain ⟨hx, hb, hr, hml, hown, hts, hlocks, hcx, hA, hAB⟩ := id hB
  have hK := hcx.1
  generalize hQ : MQ below (QcI X res [] A) args s 0 0 A = Q
  replace hl : lv_has ls 1 [(0, .int p0)] := hl
  unfold f_J1_canEncode_9a6ad at h
  refine lv_iload_n hx hb dJ1_canEncode_9a6ad_0 rfl (lv_at hl 0 rfl) ?_
  obtain ⟨j15_1, ej15_1, h⟩ := jn_s h
  have J15_1 : j15_1 = some res → ∀ (H : Heap) (locs : List Loc) (ls : Array Slot), va_P (xD X) vwCl [] H → va_D A [] → va_S A s.heap H locs → lv_has ls 1 [] → W p l e (rmF 0 0) s m args below meth c H locs 0 0 Q (F0 m 15 ls []) := by
    clear h
    intro h H locs ls hP hD hS hl
    rw [ej15_1] at h
    refine lv_iconst (v := 0) hx hb dJ1_canEncode_9a6ad_15 (by decide) ?_
    obtain rfl := Option.some.inj h
    rw [← hQ]
    exact retZ (r := 0) hB rfl hS hP dJ1_canEncode_9a6ad_16
  clear ej15_1
  refine lv_if_lt (tgt := 15) hx hb dJ1_canEncode_9a6ad_1 (by decide) (fun c_2 => ?_) (fun c_2 => ?_)
  · replace h := it_p c_2 h
    exact J15_1 h _ _ _ hP hD hS (lv_sub hl [] rfl)
  · replace h := it_n c_2 h
    refine lv_iload_n hx hb dJ1_canEncode_9a6ad_4 rfl (lv_at hl 0 rfl) ?_
    refine lv_sipush (v := 255) hx hb dJ1_canEncode_9a6ad_5 (by decide) ?_
    refine lv_icmp_gt (tgt := 15) hx hb dJ1_canEncode_9a6ad_8 (by decide) (fun c_3 => ?_) (fun c_3 => ?_)
    · replace h := it_p c_3 h
      exact J15_1 h _ _ _ hP hD hS (lv_sub hl [] rfl)
    · replace h := it_n c_3 h
      refine lv_iconst (v := 1) hx hb dJ1_canEncode_9a6ad_11 (by decide) ?_
      refine lv_goto (tgt := 16) hx hb dJ1_canEncode_9a6ad_12 (by decide) ?_
      obtain rfl := Option.some.inj h
      rw [← hQ]
      exact retZ (r := 1) hB rfl hS hP dJ1_canEncode_9a6ad_16


def b_J1_indexOfChar_4cfef_L7 (p1 : Int32) (p3 : Int32) (go_2 : Int32 → Option (Int32)) (x5_1 : Int32) : Option (Int32) :=
  (if p3 ≤ x5_1 then (some (-1)) else (gd (inb x5_1 5) (if (ltr x5_1.toNatClampNeg) = p1.toInt8.toInt32 then (some x5_1) else (bnd (x5_1 + 1) (fun x5_7 => (go_2 x5_7))))))
def f_J1_indexOfChar_4cfef_L7 (p1 : Int32) (p3 : Int32) (k : Nat) (x5_1 : Int32) : Option (Int32) :=
  lpF (fun (self : Int32 → Option (Int32)) (a : Int32) => b_J1_indexOfChar_4cfef_L7 p1 p3 (fun x5_1 => self x5_1) a) k x5_1
def f_J1_indexOfChar_4cfef (n : Nat) (p1 : Int32) (p2 : Int32) (p3 : Int32) : Option (Int32) :=
  (f_J1_indexOfChar_4cfef_L7 p1 p3 n p2)
theorem hd_J1_indexOfChar_4cfef : yJ1_indexOfChar_4cfef.cls ≠ "java/lang/invoke/MethodHandle" ∧ yJ1_indexOfChar_4cfef.cls ≠ "java/lang/invoke/VarHandle" ∧ (parseMethodDescriptor yJ1_indexOfChar_4cfef.desc).map (fun d => d.parameters.length) = some 4 := ⟨by decide +kernel, by decide +kernel, by decide +kernel⟩
set_option maxHeartbeats 4000000 in
set_option maxRecDepth 100000 in
theorem c_J1_indexOfChar_4cfef (X : CXp) (l : Launch) (n : Nat) (p1 : Int32) (p2 : Int32) (p3 : Int32) (res : Int32) (h : f_J1_indexOfChar_4cfef n p1 p2 p3 = some res) : CTg X l yJ1_indexOfChar_4cfef cJ1_indexOfChar_4cfef 6 (some .int) 0 0 [.ref (xv X), .int p1, .int p2, .int p3] [] (QcI X res []) := by
  refine CTg.mk (own := RJ1) (by decide) rfl (Nat.le_of_ble_eq_true rfl) ?_
  intro p e s m args below meth c A hB hP hD hS ls hl
  obtain ⟨hx, hb, hr, hml, hown, hts, hlocks, hcx, hA, hAB⟩ := id hB
  have hK := hcx.1
  generalize hQ : MQ below (QcI X res [] A) args s 0 0 A = Q
  replace hl : lv_has ls 6 [(0, .ref (xv X)), (1, .int p1), (2, .int p2), (3, .int p3)] := hl
  unfold f_J1_indexOfChar_4cfef at h
  refine lv_iload_n hx hb dJ1_indexOfChar_4cfef_0 rfl (lv_at hl 1 rfl) ?_
  refine lv_i2b (v := p1.toInt8.toInt32) hx hb dJ1_indexOfChar_4cfef_1 rfl ?_
  refine lv_istore (lv' := [(4, .int p1.toInt8.toInt32), (0, .ref (xv X)), (1, .int p1), (2, .int p2), (3, .int p3)]) hx hb dJ1_indexOfChar_4cfef_2 hl (by decide) rfl (fun ls hl => ?_)
  refine lv_iload_n hx hb dJ1_indexOfChar_4cfef_4 rfl (lv_at hl 3 rfl) ?_
  refine lv_istore (lv' := [(5, .int p2), (4, .int p1.toInt8.toInt32), (0, .ref (xv X)), (1, .int p1), (2, .int p2), (3, .int p3)]) hx hb dJ1_indexOfChar_4cfef_5 hl (by decide) rfl (fun ls hl => ?_)
  have L7_go_2 : ∀ (k : Nat), ∀ (x5_1 : Int32), f_J1_indexOfChar_4cfef_L7 p1 p3 k x5_1 = some res → ∀ (H : Heap) (locs : List Loc) (ls : Array Slot), va_P (xD X) vwCl [] H → va_D A [] → va_S A s.heap H locs → lv_has ls 6 [(0, .ref (xv X)), (3, .int p3), (4, .int p1.toInt8.toInt32), (5, .int x5_1)] → W p l e (rmF 0 0) s m args below meth c H locs 0 0 Q (F0 m 7 ls []) := by
    clear h
    intro k
    induction k with
    | zero => intro x5_1 h; cases h
    | succ k ih_3 =>
      intro x5_1 h H locs ls hP hD hS hl
      replace h : b_J1_indexOfChar_4cfef_L7 p1 p3 (fun x5_1 => f_J1_indexOfChar_4cfef_L7 p1 p3 k x5_1) x5_1 = some res := h
      unfold b_J1_indexOfChar_4cfef_L7 at h
      refine lv_iload hx hb dJ1_indexOfChar_4cfef_7 (lv_at hl 3 rfl) ?_
      refine lv_iload_n hx hb dJ1_indexOfChar_4cfef_9 rfl (lv_at hl 1 rfl) ?_
      refine lv_icmp_ge (tgt := 31) hx hb dJ1_indexOfChar_4cfef_10 (by decide) (fun c_4 => ?_) (fun c_4 => ?_)
      · replace h := it_p c_4 h
        refine lv_iconst (v := (-1)) hx hb dJ1_indexOfChar_4cfef_31 (by decide) ?_
        obtain rfl := Option.some.inj h
        rw [← hQ]
        exact retI hB hS hP dJ1_indexOfChar_4cfef_32
      · replace h := it_n c_4 h
        refine lv_aload_n hx hb dJ1_indexOfChar_4cfef_13 rfl (lv_at hl 0 rfl) ?_
        refine lv_iload hx hb dJ1_indexOfChar_4cfef_14 (lv_at hl 3 rfl) ?_
        obtain ⟨z_5, h⟩ := gd_s h
        refine va_tb (v := .int (ltr x5_1.toNatClampNeg)) hx hb ((hcx.2.2.2.2.2.2.1.narrow hAB).1 0 (by decide)).2.2.2 hS (inb_vp z_5) rfl dJ1_indexOfChar_4cfef_16 ?_
        refine lv_iload hx hb dJ1_indexOfChar_4cfef_17 (lv_at hl 2 rfl) ?_
        refine lv_icmp_ne (tgt := 25) hx hb dJ1_indexOfChar_4cfef_19 (by decide) (fun c_6 => ?_) (fun c_6 => ?_)
        · replace h := it_n c_6 h
          obtain ⟨x5_7, ex5_7⟩ : ∃ y : Int32, y = x5_1 + 1 := ⟨_, rfl⟩
          replace h := bn_s h ex5_7
          refine lv_iinc (v := x5_7) (lv' := [(5, .int x5_7), (0, .ref (xv X)), (3, .int p3), (4, .int p1.toInt8.toInt32)]) hx hb dJ1_indexOfChar_4cfef_25 hl (k := 3) rfl (by rw [ex5_7]; rfl) (by decide) rfl (fun ls hl => ?_)
          refine lv_goto (tgt := 7) hx hb dJ1_indexOfChar_4cfef_28 (by decide) ?_
          exact ih_3 x5_7 h _ _ _ hP hD hS (lv_sub hl [1, 2, 3, 0] rfl)
        · replace h := it_p c_6 h
          refine lv_iload hx hb dJ1_indexOfChar_4cfef_22 (lv_at hl 3 rfl) ?_
          obtain rfl := Option.some.inj h
          rw [← hQ]
          exact retI hB hS hP dJ1_indexOfChar_4cfef_24
  exact L7_go_2 n p2 h _ _ _ hP hD hS (lv_sub hl [2, 5, 1, 0] rfl)


def f_J1_indexOf_4cfef (n : Nat) (p1 : Int32) (p2 : Int32) (p3 : Int32) : Option (Int32) :=
  ((f_J1_canEncode_9a6ad p1).bind (fun u_1 => (if u_1 = 0 then (some (-1)) else (bnd (if p2 < 0 then 0 else p2) (fun x2_3 => (bnd (if 5 < p3 then 5 else p3) (fun x3_4 => (if x2_3 < x3_4 then ((f_J1_indexOfChar_4cfef n p1 x2_3 x3_4).bind (fun u_6 => (some u_6))) else (some (-1))))))))))
theorem hd_J1_indexOf_4cfef : yJ1_indexOf_4cfef.cls ≠ "java/lang/invoke/MethodHandle" ∧ yJ1_indexOf_4cfef.cls ≠ "java/lang/invoke/VarHandle" ∧ (parseMethodDescriptor yJ1_indexOf_4cfef.desc).map (fun d => d.parameters.length) = some 4 := ⟨by decide +kernel, by decide +kernel, by decide +kernel⟩
set_option maxHeartbeats 4000000 in
set_option maxRecDepth 100000 in
theorem c_J1_indexOf_4cfef (X : CXp) (l : Launch) (n : Nat) (p1 : Int32) (p2 : Int32) (p3 : Int32) (res : Int32) (h : f_J1_indexOf_4cfef n p1 p2 p3 = some res) : CTg X l yJ1_indexOf_4cfef cJ1_indexOf_4cfef 4 (some .int) 1 25 [.ref (xv X), .int p1, .int p2, .int p3] [] (QcI X res []) := by
  refine CTg.mk (own := RJ1) (by decide) rfl (Nat.le_of_ble_eq_true rfl) ?_
  intro p e s m args below meth c A hB hP hD hS ls hl
  obtain ⟨hx, hb, hr, hml, hown, hts, hlocks, hcx, hA, hAB⟩ := id hB
  have hK := hcx.1
  generalize hQ : MQ below (QcI X res [] A) args s 0 0 A = Q
  replace hl : lv_has ls 4 [(0, .ref (xv X)), (1, .int p1), (2, .int p2), (3, .int p3)] := hl
  unfold f_J1_indexOf_4cfef at h
  refine lv_iload_n hx hb dJ1_indexOf_4cfef_0 rfl (lv_at hl 1 rfl) ?_
  obtain ⟨u_1, hu_1, h⟩ := ob_s h
  refine cSi (As := [.int p1]) (rest := []) [] hB (c_J1_canEncode_9a6ad X l p1 u_1 hu_1) wq_2_115 wq_1_16 wq_2_113 wq_2_114 hd_J1_canEncode_9a6ad (by decide) hP hD hS hl.1 [] [] [] rfl (by decide +kernel) rfl rfl rfl (nn := 0) rfl (by decide +kernel) [] rfl rfl rfl rfl (Nat.le_of_ble_eq_true rfl) dJ1_indexOf_4cfef_1 ⟨Nat.zero_le _, Nat.zero_le _⟩ (fun H locs hP hD hS => ?_)
  refine lv_if_ne (tgt := 9) hx hb dJ1_indexOf_4cfef_4 (by decide) (fun c_2 => ?_) (fun c_2 => ?_)
  · replace h := it_n c_2 h
    refine lv_iload_n hx hb dJ1_indexOf_4cfef_9 rfl (lv_at hl 2 rfl) ?_
    refine lv_iconst (v := 0) hx hb dJ1_indexOf_4cfef_10 (by decide) ?_
    refine mx_row hB hl.1 wq_2_116 ⟨Nat.le_of_ble_eq_true rfl, Nat.le_of_ble_eq_true rfl⟩ ⟨Nat.zero_le _, Nat.zero_le _⟩ dJ1_indexOf_4cfef_11 ?_
    refine lv_topi (fun x2_3 ex2_3 => ?_)
    replace h := bn_s h ex2_3
    refine lv_istore_n (lv' := [(2, .int x2_3), (0, .ref (xv X)), (1, .int p1), (3, .int p3)]) hx hb dJ1_indexOf_4cfef_14 rfl hl (by decide) rfl (fun ls hl => ?_)
    refine lv_iload_n hx hb dJ1_indexOf_4cfef_15 rfl (lv_at hl 3 rfl) ?_
    refine lv_aload_n hx hb dJ1_indexOf_4cfef_16 rfl (lv_at hl 1 rfl) ?_
    refine va_tlen (v := 5) hx hb ((hcx.2.2.2.2.2.2.1.narrow hAB).1 0 (by decide)).2.2.2 hS rfl dJ1_indexOf_4cfef_17 ?_
    refine mn_row hB hl.1 wq_2_119 ⟨Nat.le_of_ble_eq_true rfl, Nat.le_of_ble_eq_true rfl⟩ ⟨Nat.zero_le _, Nat.zero_le _⟩ dJ1_indexOf_4cfef_18 ?_
    refine lv_topi (fun x3_4 ex3_4 => ?_)
    replace h := bn_s h ex3_4
    refine lv_istore_n (lv' := [(3, .int x3_4), (2, .int x2_3), (0, .ref (xv X)), (1, .int p1)]) hx hb dJ1_indexOf_4cfef_21 rfl hl (by decide) rfl (fun ls hl => ?_)
    refine lv_iload_n hx hb dJ1_indexOf_4cfef_22 rfl (lv_at hl 1 rfl) ?_
    refine lv_iload_n hx hb dJ1_indexOf_4cfef_23 rfl (lv_at hl 0 rfl) ?_
    refine lv_icmp_lt (tgt := 29) hx hb dJ1_indexOf_4cfef_24 (by decide) (fun c_5 => ?_) (fun c_5 => ?_)
    · replace h := it_p c_5 h
      refine lv_aload_n hx hb dJ1_indexOf_4cfef_29 rfl (lv_at hl 2 rfl) ?_
      refine lv_iload_n hx hb dJ1_indexOf_4cfef_30 rfl (lv_at hl 3 rfl) ?_
      refine lv_iload_n hx hb dJ1_indexOf_4cfef_31 rfl (lv_at hl 1 rfl) ?_
      refine lv_iload_n hx hb dJ1_indexOf_4cfef_32 rfl (lv_at hl 0 rfl) ?_
      obtain ⟨u_6, hu_6, h⟩ := ob_s h
      refine cSi (As := [.ref (xv X), .int p1, .int x2_3, .int x3_4]) (rest := []) [] hB (c_J1_indexOfChar_4cfef X l n p1 x2_3 x3_4 u_6 hu_6) wq_2_124 wq_1_16 wq_2_122 wq_2_123 hd_J1_indexOfChar_4cfef (by decide) hP hD hS hl.1 [] [] [] rfl (by decide +kernel) rfl rfl rfl (nn := 0) rfl (by decide +kernel) [] rfl rfl rfl rfl (Nat.le_of_ble_eq_true rfl) dJ1_indexOf_4cfef_33 ⟨Nat.zero_le _, Nat.zero_le _⟩ (fun H locs hP hD hS => ?_)
      obtain rfl := Option.some.inj h
      rw [← hQ]
      exact retI hB hS hP dJ1_indexOf_4cfef_36
    · replace h := it_n c_5 h
      refine lv_iconst (v := (-1)) hx hb dJ1_indexOf_4cfef_27 (by decide) ?_
      obtain rfl := Option.some.inj h
      rw [← hQ]
      exact retI hB hS hP dJ1_indexOf_4cfef_28
  · replace h := it_p c_2 h
    refine lv_iconst (v := (-1)) hx hb dJ1_indexOf_4cfef_7 (by decide) ?_
    obtain rfl := Option.some.inj h
    rw [← hQ]
    exact retI hB hS hP dJ1_indexOf_4cfef_8


def f_J0_indexOf_7cf53 (n : Nat) (p1 : Int32) (p2 : Int32) : Option (Int32) :=
  ((f_J0_isLatin1_aae02 ).bind (fun u_1 => (if u_1 = 0 then none else ((f_J0_length_8abf5 ).bind (fun u_3 => ((f_J1_indexOf_4cfef n p1 p2 u_3).bind (fun u_4 => (some u_4))))))))
theorem hd_J0_indexOf_7cf53 : yJ0_indexOf_7cf53.cls ≠ "java/lang/invoke/MethodHandle" ∧ yJ0_indexOf_7cf53.cls ≠ "java/lang/invoke/VarHandle" ∧ (parseMethodDescriptor yJ0_indexOf_7cf53.desc).map (fun d => d.parameters.length) = some 2 := ⟨by decide +kernel, by decide +kernel, by decide +kernel⟩
set_option maxHeartbeats 4000000 in
set_option maxRecDepth 100000 in
theorem c_J0_indexOf_7cf53 (X : CXp) (l : Launch) (n : Nat) (p1 : Int32) (p2 : Int32) (res : Int32) (h : f_J0_indexOf_7cf53 n p1 p2 = some res) : CTg X l yJ0_indexOf_7cf53 cJ0_indexOf_7cf53 3 (some .int) 2 48 [.ref (xs X), .int p1, .int p2] [] (QcI X res []) := by
  refine CTg.mk (own := RJ0) (by decide) rfl (Nat.le_of_ble_eq_true rfl) ?_
  intro p e s m args below meth c A hB hP hD hS ls hl
  obtain ⟨hx, hb, hr, hml, hown, hts, hlocks, hcx, hA, hAB⟩ := id hB
  have hK := hcx.1
  generalize hQ : MQ below (QcI X res [] A) args s 0 0 A = Q
  replace hl : lv_has ls 3 [(0, .ref (xs X)), (1, .int p1), (2, .int p2)] := hl
  unfold f_J0_indexOf_7cf53 at h
  refine lv_aload_n hx hb dJ0_indexOf_7cf53_0 rfl (lv_at hl 0 rfl) ?_
  obtain ⟨u_1, hu_1, h⟩ := ob_s h
  refine cTi (C := RJ0) (As := []) (rest := []) hB (c_J0_isLatin1_aae02 X l u_1 hu_1) wq_2_99 wq_1_15 wq_2_96 wq_2_97 wq_2_98 hd_J0_isLatin1_aae02 (by decide) hP hD hS hl.1 (vk_recv (i := 0) (hcx.2.2.2.2.2.2.1.narrow hAB) (by decide) hS) rfl rfl (Nat.le_of_ble_eq_true rfl) dJ0_indexOf_7cf53_1 ⟨Nat.zero_le _, Nat.zero_le _⟩ (fun H locs hP hD hS => ?_)
  refine lv_if_eq (tgt := 23) hx hb dJ0_indexOf_7cf53_4 (by decide) (fun c_2 => ?_) (fun c_2 => ?_)
  · replace h := it_p c_2 h
    cases h
  · replace h := it_n c_2 h
    refine lv_aload_n hx hb dJ0_indexOf_7cf53_7 rfl (lv_at hl 0 rfl) ?_
    refine vk_getf hx hb ((hcx.2.2.2.2.2.2.1.narrow hAB).1 0 (by decide)).2.2.1 hS hown (hts _ wq_6_28) (fun _ h9 => h9) dJ0_indexOf_7cf53_8 ?_
    refine lv_iload_n hx hb dJ0_indexOf_7cf53_11 rfl (lv_at hl 1 rfl) ?_
    refine lv_iload_n hx hb dJ0_indexOf_7cf53_12 rfl (lv_at hl 2 rfl) ?_
    refine lv_aload_n hx hb dJ0_indexOf_7cf53_13 rfl (lv_at hl 0 rfl) ?_
    obtain ⟨u_3, hu_3, h⟩ := ob_s h
    refine cTi (C := RJ0) (As := []) (rest := [.int p2, .int p1, .ref (xv X)]) hB (c_J0_length_8abf5 X l u_3 hu_3) wq_2_105 wq_1_15 wq_2_102 wq_2_103 wq_2_104 hd_J0_length_8abf5 (by decide) hP hD hS hl.1 (vk_recv (i := 0) (hcx.2.2.2.2.2.2.1.narrow hAB) (by decide) hS) rfl rfl (Nat.le_of_ble_eq_true rfl) dJ0_indexOf_7cf53_14 ⟨Nat.zero_le _, Nat.zero_le _⟩ (fun H locs hP hD hS => ?_)
    obtain ⟨u_4, hu_4, h⟩ := ob_s h
    refine cSi (As := [.ref (xv X), .int p1, .int p2, .int u_3]) (rest := []) [] hB (c_J1_indexOf_4cfef X l n p1 p2 u_3 u_4 hu_4) wq_2_112 wq_1_16 wq_2_110 wq_2_111 hd_J1_indexOf_4cfef (by decide) hP hD hS hl.1 [] [] [] rfl (by decide +kernel) rfl rfl rfl (nn := 0) rfl (by decide +kernel) [] rfl rfl rfl rfl (Nat.le_of_ble_eq_true rfl) dJ0_indexOf_7cf53_17 ⟨Nat.zero_le _, Nat.zero_le _⟩ (fun H locs hP hD hS => ?_)
    refine lv_goto (tgt := 36) hx hb dJ0_indexOf_7cf53_20 (by decide) ?_
    obtain rfl := Option.some.inj h
    rw [← hQ]
    exact retI hB hS hP dJ0_indexOf_7cf53_36


def f_J0_indexOf_0f7a4 (n : Nat) (p1 : Int32) : Option (Int32) :=
  ((f_J0_indexOf_7cf53 n p1 0).bind (fun u_1 => (some u_1)))
theorem hd_J0_indexOf_0f7a4 : yJ0_indexOf_0f7a4.cls ≠ "java/lang/invoke/MethodHandle" ∧ yJ0_indexOf_0f7a4.cls ≠ "java/lang/invoke/VarHandle" ∧ (parseMethodDescriptor yJ0_indexOf_0f7a4.desc).map (fun d => d.parameters.length) = some 1 := ⟨by decide +kernel, by decide +kernel, by decide +kernel⟩
set_option maxHeartbeats 4000000 in
set_option maxRecDepth 100000 in
theorem c_J0_indexOf_0f7a4 (X : CXp) (l : Launch) (n : Nat) (p1 : Int32) (res : Int32) (h : f_J0_indexOf_0f7a4 n p1 = some res) : CTg X l yJ0_indexOf_0f7a4 cJ0_indexOf_0f7a4 2 (some .int) 3 70 [.ref (xs X), .int p1] [] (QcI X res []) := by
  refine CTg.mk (own := RJ0) (by decide) rfl (Nat.le_of_ble_eq_true rfl) ?_
  intro p e s m args below meth c A hB hP hD hS ls hl
  obtain ⟨hx, hb, hr, hml, hown, hts, hlocks, hcx, hA, hAB⟩ := id hB
  have hK := hcx.1
  generalize hQ : MQ below (QcI X res [] A) args s 0 0 A = Q
  replace hl : lv_has ls 2 [(0, .ref (xs X)), (1, .int p1)] := hl
  unfold f_J0_indexOf_0f7a4 at h
  refine lv_aload_n hx hb dJ0_indexOf_0f7a4_0 rfl (lv_at hl 0 rfl) ?_
  refine lv_iload_n hx hb dJ0_indexOf_0f7a4_1 rfl (lv_at hl 1 rfl) ?_
  refine lv_iconst (v := 0) hx hb dJ0_indexOf_0f7a4_2 (by decide) ?_
  obtain ⟨u_1, hu_1, h⟩ := ob_s h
  refine cTi (C := RJ0) (As := [.int p1, .int 0]) (rest := []) hB (c_J0_indexOf_7cf53 X l n p1 0 u_1 hu_1) wq_2_95 wq_1_15 wq_2_92 wq_2_93 wq_2_94 hd_J0_indexOf_7cf53 (by decide) hP hD hS hl.1 (vk_recv (i := 0) (hcx.2.2.2.2.2.2.1.narrow hAB) (by decide) hS) rfl rfl (Nat.le_of_ble_eq_true rfl) dJ0_indexOf_0f7a4_3 ⟨Nat.zero_le _, Nat.zero_le _⟩ (fun H locs hP hD hS => ?_)
  obtain rfl := Option.some.inj h
  rw [← hQ]
  exact retI hB hS hP dJ0_indexOf_0f7a4_6


def f_X7_cellAt (v_gl : Nat → Int32) (p1 : Int32) : Option (Int32) :=
  ((f_X7_digitAt v_gl (p1 - 1)).bind (fun u_1 => ((f_X7_digitAt v_gl p1).bind (fun u_2 => (some ((9 * u_1) + u_2))))))
theorem hd_X7_cellAt : yX7_cellAt.cls ≠ "java/lang/invoke/MethodHandle" ∧ yX7_cellAt.cls ≠ "java/lang/invoke/VarHandle" ∧ (parseMethodDescriptor yX7_cellAt.desc).map (fun d => d.parameters.length) = some 1 := ⟨by decide +kernel, by decide +kernel, by decide +kernel⟩
set_option maxHeartbeats 4000000 in
set_option maxRecDepth 100000 in
theorem c_X7_cellAt (X : CXp) (l : Launch) (a_g a_gl : Nat) (f_g_size : Int32) (v_gl : Nat → Int32) (p1 : Int32) (res : Int32) (h : f_X7_cellAt v_gl p1 = some res) : CTg X l yX7_cellAt cX7_cellAt 2 (some .int) 2 42 [.ref a_g, .int p1] [(a_g, .inr (7, [.ref a_gl, .int f_g_size])), (a_gl, .inl (xI X, 34, .inl v_gl))] (QcI X res [(a_g, .inr (7, [.ref a_gl, .int f_g_size])), (a_gl, .inl (xI X, 34, .inl v_gl))]) := by
  refine CTg.mk (own := RX7) (by decide) rfl (Nat.le_of_ble_eq_true rfl) ?_
  intro p e s m args below meth c A hB hP hD hS ls hl
  obtain ⟨hx, hb, hr, hml, hown, hts, hlocks, hcx, hA, hAB⟩ := id hB
  have hK := hcx.1
  generalize hQ : MQ below (QcI X res [(a_g, .inr (7, [.ref a_gl, .int f_g_size])), (a_gl, .inl (xI X, 34, .inl v_gl))] A) args s 0 0 A = Q
  replace hl : lv_has ls 2 [(0, .ref a_g), (1, .int p1)] := hl
  unfold f_X7_cellAt at h
  refine lv_bipush (v := 9) hx hb dX7_cellAt_0 (by decide) ?_
  refine lv_aload_n hx hb dX7_cellAt_2 rfl (lv_at hl 0 rfl) ?_
  refine lv_iload_n hx hb dX7_cellAt_3 rfl (lv_at hl 1 rfl) ?_
  refine lv_iconst (v := 1) hx hb dX7_cellAt_4 (by decide) ?_
  refine lv_isub hx hb dX7_cellAt_5 ?_
  obtain ⟨u_1, hu_1, h⟩ := ob_s h
  refine cVi (C := RX7) (As := [.int (p1 - 1)]) (rest := [.int 9]) [(a_g, .inr (7, [.ref a_gl, .int f_g_size])), (a_gl, .inl (xI X, 34, .inl v_gl))] hB (c_X7_digitAt X l a_g a_gl f_g_size v_gl (p1 - 1) u_1 hu_1) wq_2_65 wq_1_7 wq_2_62 wq_2_64 wp_1 hd_X7_digitAt (by decide) hP hD hS hl.1 [0, 1] [] [] rfl (by decide +kernel) rfl rfl rfl (nn := 2) rfl (by decide +kernel) [a_g, a_gl] rfl rfl (q0 := 0) rfl rfl rfl rfl (Nat.le_of_ble_eq_true rfl) dX7_cellAt_6 ⟨Nat.zero_le _, Nat.zero_le _⟩ (fun H locs hP hD hS => ?_)
  refine lv_imul hx hb dX7_cellAt_9 ?_
  refine lv_aload_n hx hb dX7_cellAt_10 rfl (lv_at hl 0 rfl) ?_
  refine lv_iload_n hx hb dX7_cellAt_11 rfl (lv_at hl 1 rfl) ?_
  obtain ⟨u_2, hu_2, h⟩ := ob_s h
  refine cVi (C := RX7) (As := [.int p1]) (rest := [.int (9 * u_1)]) [(a_g, .inr (7, [.ref a_gl, .int f_g_size])), (a_gl, .inl (xI X, 34, .inl v_gl))] hB (c_X7_digitAt X l a_g a_gl f_g_size v_gl p1 u_2 hu_2) wq_2_65 wq_1_7 wq_2_62 wq_2_64 wp_1 hd_X7_digitAt (by decide) hP hD hS hl.1 [0, 1] [] [] rfl (by decide +kernel) rfl rfl rfl (nn := 2) rfl (by decide +kernel) [a_g, a_gl] rfl rfl (q0 := 0) rfl rfl rfl rfl (Nat.le_of_ble_eq_true rfl) dX7_cellAt_12 ⟨Nat.zero_le _, Nat.zero_le _⟩ (fun H locs hP hD hS => ?_)
  refine lv_iadd hx hb dX7_cellAt_15 ?_
  obtain rfl := Option.some.inj h
  rw [← hQ]
  exact retI hB hS hP dX7_cellAt_16


def b_X7_isFreeCell_L8 (v_gl : Nat → Int32) (p1 : Int32) (u_1 : Int32) (j30_2 : Option (Int32)) (go_6 : Int32 → Option (Int32)) (x3_5 : Int32) : Option (Int32) :=
  (if p1 ≤ x3_5 then j30_2 else ((f_X7_cellAt v_gl x3_5).bind (fun u_9 => (if u_9 = u_1 then (some 0) else (bnd (x3_5 + 5) (fun x3_11 => (go_6 x3_11)))))))
def f_X7_isFreeCell_L8 (v_gl : Nat → Int32) (p1 : Int32) (u_1 : Int32) (j30_2 : Option (Int32)) (k : Nat) (x3_5 : Int32) : Option (Int32) :=
  lpF (fun (self : Int32 → Option (Int32)) (a : Int32) => b_X7_isFreeCell_L8 v_gl p1 u_1 j30_2 (fun x3_5 => self x3_5) a) k x3_5
def f_X7_isFreeCell (n : Nat) (v_gl : Nat → Int32) (p1 : Int32) : Option (Int32) :=
  ((f_X7_cellAt v_gl p1).bind (fun u_1 => (jn (((f_X11_isPocket u_1).bind (fun u_3 => (if u_3 = 0 then (some 1) else (some 0))))) (fun (j30_2 : Option (Int32)) => (f_X7_isFreeCell_L8 v_gl p1 u_1 j30_2 n 1)))))
theorem hd_X7_isFreeCell : yX7_isFreeCell.cls ≠ "java/lang/invoke/MethodHandle" ∧ yX7_isFreeCell.cls ≠ "java/lang/invoke/VarHandle" ∧ (parseMethodDescriptor yX7_isFreeCell.desc).map (fun d => d.parameters.length) = some 1 := ⟨by decide +kernel, by decide +kernel, by decide +kernel⟩
set_option maxHeartbeats 4000000 in
set_option maxRecDepth 100000 in
theorem c_X7_isFreeCell (X : CXp) (l : Launch) (n : Nat) (a_g a_gl : Nat) (f_g_size : Int32) (v_gl : Nat → Int32) (p1 : Int32) (res : Int32) (h : f_X7_isFreeCell n v_gl p1 = some res) : CTg X l yX7_isFreeCell cX7_isFreeCell 4 (some .boolean) 3 63 [.ref a_g, .int p1] [(a_g, .inr (7, [.ref a_gl, .int f_g_size])), (a_gl, .inl (xI X, 34, .inl v_gl))] (QcI X res [(a_g, .inr (7, [.ref a_gl, .int f_g_size])), (a_gl, .inl (xI X, 34, .inl v_gl))]) := by
  refine CTg.mk (own := RX7) (by decide) rfl (Nat.le_of_ble_eq_true rfl) ?_
  intro p e s m args below meth c A hB hP hD hS ls hl
  obtain ⟨hx, hb, hr, hml, hown, hts, hlocks, hcx, hA, hAB⟩ := id hB
  have hK := hcx.1
  generalize hQ : MQ below (QcI X res [(a_g, .inr (7, [.ref a_gl, .int f_g_size])), (a_gl, .inl (xI X, 34, .inl v_gl))] A) args s 0 0 A = Q
  replace hl : lv_has ls 4 [(0, .ref a_g), (1, .int p1)] := hl
  unfold f_X7_isFreeCell at h
  refine lv_aload_n hx hb dX7_isFreeCell_0 rfl (lv_at hl 0 rfl) ?_
  refine lv_iload_n hx hb dX7_isFreeCell_1 rfl (lv_at hl 1 rfl) ?_
  obtain ⟨u_1, hu_1, h⟩ := ob_s h
  refine cVi (C := RX7) (As := [.int p1]) (rest := []) [(a_g, .inr (7, [.ref a_gl, .int f_g_size])), (a_gl, .inl (xI X, 34, .inl v_gl))] hB (c_X7_cellAt X l a_g a_gl f_g_size v_gl p1 u_1 hu_1) wq_2_83 wq_1_7 wq_2_80 wq_2_82 wp_4 hd_X7_cellAt (by decide) hP hD hS hl.1 [0, 1] [] [] rfl (by decide +kernel) rfl rfl rfl (nn := 2) rfl (by decide +kernel) [a_g, a_gl] rfl rfl (q0 := 0) rfl rfl rfl rfl (Nat.le_of_ble_eq_true rfl) dX7_isFreeCell_2 ⟨Nat.zero_le _, Nat.zero_le _⟩ (fun H locs hP hD hS => ?_)
  refine lv_istore_n (lv' := [(2, .int u_1), (0, .ref a_g), (1, .int p1)]) hx hb dX7_isFreeCell_5 rfl hl (by decide) rfl (fun ls hl => ?_)
  refine lv_iconst (v := 1) hx hb dX7_isFreeCell_6 (by decide) ?_
  refine lv_istore_n (lv' := [(3, .int 1), (2, .int u_1), (0, .ref a_g), (1, .int p1)]) hx hb dX7_isFreeCell_7 rfl hl (by decide) rfl (fun ls hl => ?_)
  obtain ⟨j30_2, ej30_2, h⟩ := jn_s h
  have J30_2 : j30_2 = some res → ∀ (H : Heap) (locs : List Loc) (ls : Array Slot), va_P (xD X) vwCl [(a_g, .inr (7, [.ref a_gl, .int f_g_size])), (a_gl, .inl (xI X, 34, .inl v_gl))] H → va_D A [(a_g, .inr (7, [.ref a_gl, .int f_g_size])), (a_gl, .inl (xI X, 34, .inl v_gl))] → va_S A s.heap H locs → lv_has ls 4 [(2, .int u_1)] → W p l e (rmF 3 63) s m args below meth c H locs 0 0 Q (F0 m 30 ls []) := by
    clear h
    intro h H locs ls hP hD hS hl
    rw [ej30_2] at h
    refine lv_iload_n hx hb dX7_isFreeCell_30 rfl (lv_at hl 0 rfl) ?_
    obtain ⟨u_3, hu_3, h⟩ := ob_s h
    refine cNi (host := "WhiteWanted") (As := [.int u_1]) (rest := []) [(a_g, .inr (7, [.ref a_gl, .int f_g_size])), (a_gl, .inl (xI X, 34, .inl v_gl))] hB (c_X11_isPocket X l u_1 u_3 hu_3) wq_2_86 wq_1_1 wq_2_84 wq_2_85 hd_X11_isPocket (by decide) hP hD hS hl.1 [] [0, 1] [(a_g, .inr (7, [.ref a_gl, .int f_g_size])), (a_gl, .inl (xI X, 34, .inl v_gl))] rfl (by decide +kernel) rfl rfl rfl (nn := 2) rfl (by decide +kernel) [a_g, a_gl] rfl rfl rfl rfl (Nat.le_of_ble_eq_true rfl) dX7_isFreeCell_31 ⟨Nat.zero_le _, Nat.zero_le _⟩ (fun H locs hP hD hS => ?_)
    refine lv_if_ne (tgt := 41) hx hb dX7_isFreeCell_34 (by decide) (fun c_4 => ?_) (fun c_4 => ?_)
    · replace h := it_n c_4 h
      refine lv_iconst (v := 0) hx hb dX7_isFreeCell_41 (by decide) ?_
      obtain rfl := Option.some.inj h
      rw [← hQ]
      exact retZ (r := 0) hB rfl hS hP dX7_isFreeCell_42
    · replace h := it_p c_4 h
      refine lv_iconst (v := 1) hx hb dX7_isFreeCell_37 (by decide) ?_
      refine lv_goto (tgt := 42) hx hb dX7_isFreeCell_38 (by decide) ?_
      obtain rfl := Option.some.inj h
      rw [← hQ]
      exact retZ (r := 1) hB rfl hS hP dX7_isFreeCell_42
  clear ej30_2
  have L8_go_6 : ∀ (k : Nat), ∀ (x3_5 : Int32), f_X7_isFreeCell_L8 v_gl p1 u_1 j30_2 k x3_5 = some res → ∀ (H : Heap) (locs : List Loc) (ls : Array Slot), va_P (xD X) vwCl [(a_g, .inr (7, [.ref a_gl, .int f_g_size])), (a_gl, .inl (xI X, 34, .inl v_gl))] H → va_D A [(a_g, .inr (7, [.ref a_gl, .int f_g_size])), (a_gl, .inl (xI X, 34, .inl v_gl))] → va_S A s.heap H locs → lv_has ls 4 [(0, .ref a_g), (1, .int p1), (2, .int u_1), (3, .int x3_5)] → W p l e (rmF 3 63) s m args below meth c H locs 0 0 Q (F0 m 8 ls []) := by
    clear h
    intro k
    induction k with
    | zero => intro x3_5 h; cases h
    | succ k ih_7 =>
      intro x3_5 h H locs ls hP hD hS hl
      replace h : b_X7_isFreeCell_L8 v_gl p1 u_1 j30_2 (fun x3_5 => f_X7_isFreeCell_L8 v_gl p1 u_1 j30_2 k x3_5) x3_5 = some res := h
      unfold b_X7_isFreeCell_L8 at h
      refine lv_iload_n hx hb dX7_isFreeCell_8 rfl (lv_at hl 3 rfl) ?_
      refine lv_iload_n hx hb dX7_isFreeCell_9 rfl (lv_at hl 1 rfl) ?_
      refine lv_icmp_ge (tgt := 30) hx hb dX7_isFreeCell_10 (by decide) (fun c_8 => ?_) (fun c_8 => ?_)
      · replace h := it_p c_8 h
        exact J30_2 h _ _ _ hP hD hS (lv_sub hl [2] rfl)
      · replace h := it_n c_8 h
        refine lv_aload_n hx hb dX7_isFreeCell_13 rfl (lv_at hl 0 rfl) ?_
        refine lv_iload_n hx hb dX7_isFreeCell_14 rfl (lv_at hl 3 rfl) ?_
        obtain ⟨u_9, hu_9, h⟩ := ob_s h
        refine cVi (C := RX7) (As := [.int x3_5]) (rest := []) [(a_g, .inr (7, [.ref a_gl, .int f_g_size])), (a_gl, .inl (xI X, 34, .inl v_gl))] hB (c_X7_cellAt X l a_g a_gl f_g_size v_gl x3_5 u_9 hu_9) wq_2_83 wq_1_7 wq_2_80 wq_2_82 wp_4 hd_X7_cellAt (by decide) hP hD hS hl.1 [0, 1] [] [] rfl (by decide +kernel) rfl rfl rfl (nn := 2) rfl (by decide +kernel) [a_g, a_gl] rfl rfl (q0 := 0) rfl rfl rfl rfl (Nat.le_of_ble_eq_true rfl) dX7_isFreeCell_15 ⟨Nat.zero_le _, Nat.zero_le _⟩ (fun H locs hP hD hS => ?_)
        refine lv_iload_n hx hb dX7_isFreeCell_18 rfl (lv_at hl 2 rfl) ?_
        refine lv_icmp_ne (tgt := 24) hx hb dX7_isFreeCell_19 (by decide) (fun c_10 => ?_) (fun c_10 => ?_)
        · replace h := it_n c_10 h
          obtain ⟨x3_11, ex3_11⟩ : ∃ y : Int32, y = x3_5 + 5 := ⟨_, rfl⟩
          replace h := bn_s h ex3_11
          refine lv_iinc (v := x3_11) (lv' := [(3, .int x3_11), (0, .ref a_g), (1, .int p1), (2, .int u_1)]) hx hb dX7_isFreeCell_24 hl (k := 3) rfl (by rw [ex3_11]; rfl) (by decide) rfl (fun ls hl => ?_)
          refine lv_goto (tgt := 8) hx hb dX7_isFreeCell_27 (by decide) ?_
          exact ih_7 x3_11 h _ _ _ hP hD hS (lv_sub hl [1, 2, 3, 0] rfl)
        · replace h := it_p c_10 h
          refine lv_iconst (v := 0) hx hb dX7_isFreeCell_22 (by decide) ?_
          obtain rfl := Option.some.inj h
          rw [← hQ]
          exact retZ (r := 0) hB rfl hS hP dX7_isFreeCell_23
  exact L8_go_6 n 1 h _ _ _ hP hD hS (lv_sub hl [2, 3, 1, 0] rfl)


def f_X7_fits (n : Nat) (v_gl : Nat → Int32) (p1 : Int32) : Option (Int32) :=
  (if p1 < 32 then (bnd (p1 - p1 / 5 * 5) (fun w_2 => (if w_2 = 0 then ((f_X7_digitAt v_gl p1).bind (fun u_4 => ((f_X11_isRow u_4).bind (fun u_5 => (gd (isb u_5) (some u_5)))))) else (if w_2 = 1 then ((f_X7_digitAt v_gl p1).bind (fun u_8 => ((f_X11_isColumn u_8).bind (fun u_9 => (jn ((some 0)) (fun (j72_10 : Option (Int32)) => (if u_9 = 0 then j72_10 else ((f_X7_isFreeCell n v_gl p1).bind (fun u_12 => (if u_12 = 0 then j72_10 else (some 1))))))))))) else (if w_2 = 2 then ((f_X7_at v_gl p1).bind (fun u_15 => (jn (fun (k_16 : Int32) (k_17 : Int32) => (if k_16 = k_17 then (some 1) else (some 0))) (fun (j91_18 : Int32 → Int32 → Option (Int32)) => (if p1 = 2 then (j91_18 u_15 59) else (j91_18 u_15 44)))))) else (if w_2 = 3 then ((f_X7_at v_gl p1).bind (fun u_22 => ((f_J0_indexOf_0f7a4 n ((u_22.toUInt32 % 65536).toInt32)).bind (fun u_23 => (if u_23 < 0 then (some 0) else (some 1)))))) else ((f_X7_digitAt v_gl p1).bind (fun u_25 => ((f_X11_within u_25 1 7).bind (fun u_26 => (gd (isb u_26) (some u_26)))))))))))) else (some 0))
theorem hd_X7_fits : yX7_fits.cls ≠ "java/lang/invoke/MethodHandle" ∧ yX7_fits.cls ≠ "java/lang/invoke/VarHandle" ∧ (parseMethodDescriptor yX7_fits.desc).map (fun d => d.parameters.length) = some 1 := ⟨by decide +kernel, by decide +kernel, by decide +kernel⟩
set_option maxHeartbeats 4000000 in
set_option maxRecDepth 100000 in
theorem c_X7_fits (X : CXp) (l : Launch) (n : Nat) (a_g a_gl : Nat) (f_g_size : Int32) (v_gl : Nat → Int32) (p1 : Int32) (res : Int32) (h : f_X7_fits n v_gl p1 = some res) : CTg X l yX7_fits cX7_fits 2 (some .boolean) 4 91 [.ref a_g, .int p1] [(a_g, .inr (7, [.ref a_gl, .int f_g_size])), (a_gl, .inl (xI X, 34, .inl v_gl))] (QcI X res [(a_g, .inr (7, [.ref a_gl, .int f_g_size])), (a_gl, .inl (xI X, 34, .inl v_gl))]) := by
  refine CTg.mk (own := RX7) (by decide) rfl (Nat.le_of_ble_eq_true rfl) ?_
  intro p e s m args below meth c A hB hP hD hS ls hl
  obtain ⟨hx, hb, hr, hml, hown, hts, hlocks, hcx, hA, hAB⟩ := id hB
  have hK := hcx.1
  generalize hQ : MQ below (QcI X res [(a_g, .inr (7, [.ref a_gl, .int f_g_size])), (a_gl, .inl (xI X, 34, .inl v_gl))] A) args s 0 0 A = Q
  replace hl : lv_has ls 2 [(0, .ref a_g), (1, .int p1)] := hl
  unfold f_X7_fits at h
  refine lv_iload_n hx hb dX7_fits_0 rfl (lv_at hl 1 rfl) ?_
  refine lv_bipush (v := 32) hx hb dX7_fits_1 (by decide) ?_
  refine lv_icmp_lt (tgt := 8) hx hb dX7_fits_3 (by decide) (fun c_1 => ?_) (fun c_1 => ?_)
  · replace h := it_p c_1 h
    refine lv_iload_n hx hb dX7_fits_8 rfl (lv_at hl 1 rfl) ?_
    refine lv_iconst (v := 5) hx hb dX7_fits_9 (by decide) ?_
    refine lv_irem hx hb dX7_fits_10 (by decide) ?_
    refine lv_topi (fun w_2 ew_2 => ?_)
    replace h := bn_s h ew_2
    by_cases c_3 : w_2 = 0
    · replace h := it_p c_3 h
      refine lv_tableIn (off := 29) (tgt := 40) hx hb dX7_fits_11 (by rw [c_3]; decide) (by rw [c_3]; decide) (by rw [c_3]; decide) (by decide) ?_
      refine lv_aload_n hx hb dX7_fits_40 rfl (lv_at hl 0 rfl) ?_
      refine lv_iload_n hx hb dX7_fits_41 rfl (lv_at hl 1 rfl) ?_
      obtain ⟨u_4, hu_4, h⟩ := ob_s h
      refine cVi (C := RX7) (As := [.int p1]) (rest := []) [(a_g, .inr (7, [.ref a_gl, .int f_g_size])), (a_gl, .inl (xI X, 34, .inl v_gl))] hB (c_X7_digitAt X l a_g a_gl f_g_size v_gl p1 u_4 hu_4) wq_2_65 wq_1_7 wq_2_62 wq_2_64 wp_1 hd_X7_digitAt (by decide) hP hD hS hl.1 [0, 1] [] [] rfl (by decide +kernel) rfl rfl rfl (nn := 2) rfl (by decide +kernel) [a_g, a_gl] rfl rfl (q0 := 0) rfl rfl rfl rfl (Nat.le_of_ble_eq_true rfl) dX7_fits_42 ⟨Nat.zero_le _, Nat.zero_le _⟩ (fun H locs hP hD hS => ?_)
      obtain ⟨u_5, hu_5, h⟩ := ob_s h
      refine cNi (host := "WhiteWanted") (As := [.int u_4]) (rest := []) [(a_g, .inr (7, [.ref a_gl, .int f_g_size])), (a_gl, .inl (xI X, 34, .inl v_gl))] hB (c_X11_isRow X l u_4 u_5 hu_5) wq_2_72 wq_1_1 wq_2_70 wq_2_71 hd_X11_isRow (by decide) hP hD hS hl.1 [] [0, 1] [(a_g, .inr (7, [.ref a_gl, .int f_g_size])), (a_gl, .inl (xI X, 34, .inl v_gl))] rfl (by decide +kernel) rfl rfl rfl (nn := 2) rfl (by decide +kernel) [a_g, a_gl] rfl rfl rfl rfl (Nat.le_of_ble_eq_true rfl) dX7_fits_45 ⟨Nat.zero_le _, Nat.zero_le _⟩ (fun H locs hP hD hS => ?_)
      obtain ⟨z_6, h⟩ := gd_s h
      obtain rfl := Option.some.inj h
      rw [← hQ]
      exact retZ (r := u_5) hB (isb_n z_6) hS hP dX7_fits_48
    replace h := it_n c_3 h
    by_cases c_7 : w_2 = 1
    · replace h := it_p c_7 h
      refine lv_tableIn (off := 38) (tgt := 49) hx hb dX7_fits_11 (by rw [c_7]; decide) (by rw [c_7]; decide) (by rw [c_7]; decide) (by decide) ?_
      refine lv_aload_n hx hb dX7_fits_49 rfl (lv_at hl 0 rfl) ?_
      refine lv_iload_n hx hb dX7_fits_50 rfl (lv_at hl 1 rfl) ?_
      obtain ⟨u_8, hu_8, h⟩ := ob_s h
      refine cVi (C := RX7) (As := [.int p1]) (rest := []) [(a_g, .inr (7, [.ref a_gl, .int f_g_size])), (a_gl, .inl (xI X, 34, .inl v_gl))] hB (c_X7_digitAt X l a_g a_gl f_g_size v_gl p1 u_8 hu_8) wq_2_65 wq_1_7 wq_2_62 wq_2_64 wp_1 hd_X7_digitAt (by decide) hP hD hS hl.1 [0, 1] [] [] rfl (by decide +kernel) rfl rfl rfl (nn := 2) rfl (by decide +kernel) [a_g, a_gl] rfl rfl (q0 := 0) rfl rfl rfl rfl (Nat.le_of_ble_eq_true rfl) dX7_fits_51 ⟨Nat.zero_le _, Nat.zero_le _⟩ (fun H locs hP hD hS => ?_)
      obtain ⟨u_9, hu_9, h⟩ := ob_s h
      refine cNi (host := "WhiteWanted") (As := [.int u_8]) (rest := []) [(a_g, .inr (7, [.ref a_gl, .int f_g_size])), (a_gl, .inl (xI X, 34, .inl v_gl))] hB (c_X11_isColumn X l u_8 u_9 hu_9) wq_2_75 wq_1_1 wq_2_73 wq_2_74 hd_X11_isColumn (by decide) hP hD hS hl.1 [] [0, 1] [(a_g, .inr (7, [.ref a_gl, .int f_g_size])), (a_gl, .inl (xI X, 34, .inl v_gl))] rfl (by decide +kernel) rfl rfl rfl (nn := 2) rfl (by decide +kernel) [a_g, a_gl] rfl rfl rfl rfl (Nat.le_of_ble_eq_true rfl) dX7_fits_54 ⟨Nat.zero_le _, Nat.zero_le _⟩ (fun H locs hP hD hS => ?_)
      obtain ⟨j72_10, ej72_10, h⟩ := jn_s h
      have J72_10 : j72_10 = some res → ∀ (H : Heap) (locs : List Loc) (ls : Array Slot), va_P (xD X) vwCl [(a_g, .inr (7, [.ref a_gl, .int f_g_size])), (a_gl, .inl (xI X, 34, .inl v_gl))] H → va_D A [(a_g, .inr (7, [.ref a_gl, .int f_g_size])), (a_gl, .inl (xI X, 34, .inl v_gl))] → va_S A s.heap H locs → lv_has ls 2 [] → W p l e (rmF 4 91) s m args below meth c H locs 0 0 Q (F0 m 72 ls []) := by
        clear h
        intro h H locs ls hP hD hS hl
        rw [ej72_10] at h
        refine lv_iconst (v := 0) hx hb dX7_fits_72 (by decide) ?_
        obtain rfl := Option.some.inj h
        rw [← hQ]
        exact retZ (r := 0) hB rfl hS hP dX7_fits_73
      clear ej72_10
      refine lv_if_eq (tgt := 72) hx hb dX7_fits_57 (by decide) (fun c_11 => ?_) (fun c_11 => ?_)
      · replace h := it_p c_11 h
        exact J72_10 h _ _ _ hP hD hS (lv_sub hl [] rfl)
      · replace h := it_n c_11 h
        refine lv_aload_n hx hb dX7_fits_60 rfl (lv_at hl 0 rfl) ?_
        refine lv_iload_n hx hb dX7_fits_61 rfl (lv_at hl 1 rfl) ?_
        obtain ⟨u_12, hu_12, h⟩ := ob_s h
        refine cVi (C := RX7) (As := [.int p1]) (rest := []) [(a_g, .inr (7, [.ref a_gl, .int f_g_size])), (a_gl, .inl (xI X, 34, .inl v_gl))] hB (c_X7_isFreeCell X l n a_g a_gl f_g_size v_gl p1 u_12 hu_12) wq_2_79 wq_1_7 wq_2_76 wq_2_78 wp_3 hd_X7_isFreeCell (by decide) hP hD hS hl.1 [0, 1] [] [] rfl (by decide +kernel) rfl rfl rfl (nn := 2) rfl (by decide +kernel) [a_g, a_gl] rfl rfl (q0 := 0) rfl rfl rfl rfl (Nat.le_of_ble_eq_true rfl) dX7_fits_62 ⟨Nat.zero_le _, Nat.zero_le _⟩ (fun H locs hP hD hS => ?_)
        refine lv_if_eq (tgt := 72) hx hb dX7_fits_65 (by decide) (fun c_13 => ?_) (fun c_13 => ?_)
        · replace h := it_p c_13 h
          exact J72_10 h _ _ _ hP hD hS (lv_sub hl [] rfl)
        · replace h := it_n c_13 h
          refine lv_iconst (v := 1) hx hb dX7_fits_68 (by decide) ?_
          refine lv_goto (tgt := 73) hx hb dX7_fits_69 (by decide) ?_
          obtain rfl := Option.some.inj h
          rw [← hQ]
          exact retZ (r := 1) hB rfl hS hP dX7_fits_73
    replace h := it_n c_7 h
    by_cases c_14 : w_2 = 2
    · replace h := it_p c_14 h
      refine lv_tableIn (off := 63) (tgt := 74) hx hb dX7_fits_11 (by rw [c_14]; decide) (by rw [c_14]; decide) (by rw [c_14]; decide) (by decide) ?_
      refine lv_aload_n hx hb dX7_fits_74 rfl (lv_at hl 0 rfl) ?_
      refine lv_iload_n hx hb dX7_fits_75 rfl (lv_at hl 1 rfl) ?_
      obtain ⟨u_15, hu_15, h⟩ := ob_s h
      refine cVi (C := RX7) (As := [.int p1]) (rest := []) [(a_g, .inr (7, [.ref a_gl, .int f_g_size])), (a_gl, .inl (xI X, 34, .inl v_gl))] hB (c_X7_at X l a_g a_gl f_g_size v_gl p1 u_15 hu_15) wq_2_69 wq_1_7 wq_2_66 wq_2_68 wp_2 hd_X7_at (by decide) hP hD hS hl.1 [0, 1] [] [] rfl (by decide +kernel) rfl rfl rfl (nn := 2) rfl (by decide +kernel) [a_g, a_gl] rfl rfl (q0 := 0) rfl rfl rfl rfl (Nat.le_of_ble_eq_true rfl) dX7_fits_76 ⟨Nat.zero_le _, Nat.zero_le _⟩ (fun H locs hP hD hS => ?_)
      refine lv_iload_n hx hb dX7_fits_79 rfl (lv_at hl 1 rfl) ?_
      refine lv_iconst (v := 2) hx hb dX7_fits_80 (by decide) ?_
      obtain ⟨j91_18, ej91_18, h⟩ := jn_s h
      have J91_18 : ∀ (k_16 : Int32) (k_17 : Int32), j91_18 k_16 k_17 = some res → ∀ (H : Heap) (locs : List Loc) (ls : Array Slot), va_P (xD X) vwCl [(a_g, .inr (7, [.ref a_gl, .int f_g_size])), (a_gl, .inl (xI X, 34, .inl v_gl))] H → va_D A [(a_g, .inr (7, [.ref a_gl, .int f_g_size])), (a_gl, .inl (xI X, 34, .inl v_gl))] → va_S A s.heap H locs → lv_has ls 2 [] → W p l e (rmF 4 91) s m args below meth c H locs 0 0 Q (F0 m 91 ls [.int k_17, .int k_16]) := by
        clear h
        intro k_16 k_17 h H locs ls hP hD hS hl
        rw [ej91_18] at h
        replace h := id h
        refine lv_icmp_ne (tgt := 98) hx hb dX7_fits_91 (by decide) (fun c_19 => ?_) (fun c_19 => ?_)
        · replace h := it_n c_19 h
          refine lv_iconst (v := 0) hx hb dX7_fits_98 (by decide) ?_
          obtain rfl := Option.some.inj h
          rw [← hQ]
          exact retZ (r := 0) hB rfl hS hP dX7_fits_99
        · replace h := it_p c_19 h
          refine lv_iconst (v := 1) hx hb dX7_fits_94 (by decide) ?_
          refine lv_goto (tgt := 99) hx hb dX7_fits_95 (by decide) ?_
          obtain rfl := Option.some.inj h
          rw [← hQ]
          exact retZ (r := 1) hB rfl hS hP dX7_fits_99
      clear ej91_18
      refine lv_icmp_ne (tgt := 89) hx hb dX7_fits_81 (by decide) (fun c_20 => ?_) (fun c_20 => ?_)
      · replace h := it_n c_20 h
        refine lv_bipush (v := 44) hx hb dX7_fits_89 (by decide) ?_
        exact J91_18 u_15 44 h _ _ _ hP hD hS (lv_sub hl [] rfl)
      · replace h := it_p c_20 h
        refine lv_bipush (v := 59) hx hb dX7_fits_84 (by decide) ?_
        refine lv_goto (tgt := 91) hx hb dX7_fits_86 (by decide) ?_
        exact J91_18 u_15 59 h _ _ _ hP hD hS (lv_sub hl [] rfl)
    replace h := it_n c_14 h
    by_cases c_21 : w_2 = 3
    · replace h := it_p c_21 h
      refine lv_tableIn (off := 89) (tgt := 100) hx hb dX7_fits_11 (by rw [c_21]; decide) (by rw [c_21]; decide) (by rw [c_21]; decide) (by decide) ?_
      refine va_ldcS hx hb hown hcx.2.2.2.2.2.1 dX7_fits_100 ?_
      refine lv_aload_n hx hb dX7_fits_102 rfl (lv_at hl 0 rfl) ?_
      refine lv_iload_n hx hb dX7_fits_103 rfl (lv_at hl 1 rfl) ?_
      obtain ⟨u_22, hu_22, h⟩ := ob_s h
      refine cVi (C := RX7) (As := [.int p1]) (rest := [.ref (xs X)]) [(a_g, .inr (7, [.ref a_gl, .int f_g_size])), (a_gl, .inl (xI X, 34, .inl v_gl))] hB (c_X7_at X l a_g a_gl f_g_size v_gl p1 u_22 hu_22) wq_2_69 wq_1_7 wq_2_66 wq_2_68 wp_2 hd_X7_at (by decide) hP hD hS hl.1 [0, 1] [] [] rfl (by decide +kernel) rfl rfl rfl (nn := 2) rfl (by decide +kernel) [a_g, a_gl] rfl rfl (q0 := 0) rfl rfl rfl rfl (Nat.le_of_ble_eq_true rfl) dX7_fits_104 ⟨Nat.zero_le _, Nat.zero_le _⟩ (fun H locs hP hD hS => ?_)
      refine lv_i2c (v := (u_22.toUInt32 % 65536).toInt32) hx hb dX7_fits_107 rfl ?_
      obtain ⟨u_23, hu_23, h⟩ := ob_s h
      refine cTi (C := RJ0) (As := [.int ((u_22.toUInt32 % 65536).toInt32)]) (rest := []) hB (c_J0_indexOf_0f7a4 X l n ((u_22.toUInt32 % 65536).toInt32) u_23 hu_23) wq_2_91 wq_1_15 wq_2_88 wq_2_89 wq_2_90 hd_J0_indexOf_0f7a4 (by decide) hP hD hS hl.1 (vk_recv (i := 0) (hcx.2.2.2.2.2.2.1.narrow hAB) (by decide) hS) rfl rfl (Nat.le_of_ble_eq_true rfl) dX7_fits_108 ⟨Nat.zero_le _, Nat.zero_le _⟩ (fun H locs hP hD hS => ?_)
      refine lv_if_lt (tgt := 118) hx hb dX7_fits_111 (by decide) (fun c_24 => ?_) (fun c_24 => ?_)
      · replace h := it_p c_24 h
        refine lv_iconst (v := 0) hx hb dX7_fits_118 (by decide) ?_
        obtain rfl := Option.some.inj h
        rw [← hQ]
        exact retZ (r := 0) hB rfl hS hP dX7_fits_119
      · replace h := it_n c_24 h
        refine lv_iconst (v := 1) hx hb dX7_fits_114 (by decide) ?_
        refine lv_goto (tgt := 119) hx hb dX7_fits_115 (by decide) ?_
        obtain rfl := Option.some.inj h
        rw [← hQ]
        exact retZ (r := 1) hB rfl hS hP dX7_fits_119
    replace h := it_n c_21 h
    refine lv_tableOut (tgt := 120) hx hb dX7_fits_11 (tsw_0_4 c_3 c_7 c_14 c_21) (by decide) ?_
    refine lv_aload_n hx hb dX7_fits_120 rfl (lv_at hl 0 rfl) ?_
    refine lv_iload_n hx hb dX7_fits_121 rfl (lv_at hl 1 rfl) ?_
    obtain ⟨u_25, hu_25, h⟩ := ob_s h
    refine cVi (C := RX7) (As := [.int p1]) (rest := []) [(a_g, .inr (7, [.ref a_gl, .int f_g_size])), (a_gl, .inl (xI X, 34, .inl v_gl))] hB (c_X7_digitAt X l a_g a_gl f_g_size v_gl p1 u_25 hu_25) wq_2_65 wq_1_7 wq_2_62 wq_2_64 wp_1 hd_X7_digitAt (by decide) hP hD hS hl.1 [0, 1] [] [] rfl (by decide +kernel) rfl rfl rfl (nn := 2) rfl (by decide +kernel) [a_g, a_gl] rfl rfl (q0 := 0) rfl rfl rfl rfl (Nat.le_of_ble_eq_true rfl) dX7_fits_122 ⟨Nat.zero_le _, Nat.zero_le _⟩ (fun H locs hP hD hS => ?_)
    refine lv_iconst (v := 1) hx hb dX7_fits_125 (by decide) ?_
    refine lv_bipush (v := 7) hx hb dX7_fits_126 (by decide) ?_
    obtain ⟨u_26, hu_26, h⟩ := ob_s h
    refine cNi (host := "WhiteWanted") (As := [.int u_25, .int 1, .int 7]) (rest := []) [(a_g, .inr (7, [.ref a_gl, .int f_g_size])), (a_gl, .inl (xI X, 34, .inl v_gl))] hB (c_X11_within X l u_25 1 7 u_26 hu_26) wq_2_36 wq_1_1 wq_2_174 wq_2_35 hd_X11_within (by decide) hP hD hS hl.1 [] [0, 1] [(a_g, .inr (7, [.ref a_gl, .int f_g_size])), (a_gl, .inl (xI X, 34, .inl v_gl))] rfl (by decide +kernel) rfl rfl rfl (nn := 2) rfl (by decide +kernel) [a_g, a_gl] rfl rfl rfl rfl (Nat.le_of_ble_eq_true rfl) dX7_fits_128 ⟨Nat.zero_le _, Nat.zero_le _⟩ (fun H locs hP hD hS => ?_)
    obtain ⟨z_27, h⟩ := gd_s h
    obtain rfl := Option.some.inj h
    rw [← hQ]
    exact retZ (r := u_26) hB (isb_n z_27) hS hP dX7_fits_131
  · replace h := it_n c_1 h
    refine lv_iconst (v := 0) hx hb dX7_fits_6 (by decide) ?_
    obtain rfl := Option.some.inj h
    rw [← hQ]
    exact retZ (r := 0) hB rfl hS hP dX7_fits_7


def b_X7_firstFault_L2 (f_g_size : Int32) (v_gl : Nat → Int32) (n : Nat) (j26_1 : Option (Int32)) (go_3 : Int32 → Option (Int32)) (x1_2 : Int32) : Option (Int32) :=
  (if f_g_size ≤ x1_2 then j26_1 else ((f_X7_fits n v_gl x1_2).bind (fun u_6 => (if u_6 = 0 then (some x1_2) else (bnd (x1_2 + 1) (fun x1_8 => (go_3 x1_8)))))))
def f_X7_firstFault_L2 (f_g_size : Int32) (v_gl : Nat → Int32) (n : Nat) (j26_1 : Option (Int32)) (k : Nat) (x1_2 : Int32) : Option (Int32) :=
  lpF (fun (self : Int32 → Option (Int32)) (a : Int32) => b_X7_firstFault_L2 f_g_size v_gl n j26_1 (fun x1_2 => self x1_2) a) k x1_2
def f_X7_firstFault (n : Nat) (f_g_size : Int32) (v_gl : Nat → Int32) : Option (Int32) :=
  (jn ((some f_g_size)) (fun (j26_1 : Option (Int32)) => (f_X7_firstFault_L2 f_g_size v_gl n j26_1 n 0)))
theorem hd_X7_firstFault : yX7_firstFault.cls ≠ "java/lang/invoke/MethodHandle" ∧ yX7_firstFault.cls ≠ "java/lang/invoke/VarHandle" ∧ (parseMethodDescriptor yX7_firstFault.desc).map (fun d => d.parameters.length) = some 0 := ⟨by decide +kernel, by decide +kernel, by decide +kernel⟩
set_option maxHeartbeats 4000000 in
set_option maxRecDepth 100000 in
theorem c_X7_firstFault (X : CXp) (l : Launch) (n : Nat) (a_g a_gl : Nat) (f_g_size : Int32) (v_gl : Nat → Int32) (res : Int32) (h : f_X7_firstFault n f_g_size v_gl = some res) : CTg X l yX7_firstFault cX7_firstFault 2 (some .int) 5 112 [.ref a_g] [(a_g, .inr (7, [.ref a_gl, .int f_g_size])), (a_gl, .inl (xI X, 34, .inl v_gl))] (QcI X res [(a_g, .inr (7, [.ref a_gl, .int f_g_size])), (a_gl, .inl (xI X, 34, .inl v_gl))]) := by
  refine CTg.mk (own := RX7) (by decide) rfl (Nat.le_of_ble_eq_true rfl) ?_
  intro p e s m args below meth c A hB hP hD hS ls hl
  obtain ⟨hx, hb, hr, hml, hown, hts, hlocks, hcx, hA, hAB⟩ := id hB
  have hK := hcx.1
  generalize hQ : MQ below (QcI X res [(a_g, .inr (7, [.ref a_gl, .int f_g_size])), (a_gl, .inl (xI X, 34, .inl v_gl))] A) args s 0 0 A = Q
  replace hl : lv_has ls 2 [(0, .ref a_g)] := hl
  unfold f_X7_firstFault at h
  refine lv_iconst (v := 0) hx hb dX7_firstFault_0 (by decide) ?_
  refine lv_istore_n (lv' := [(1, .int 0), (0, .ref a_g)]) hx hb dX7_firstFault_1 rfl hl (by decide) rfl (fun ls hl => ?_)
  obtain ⟨j26_1, ej26_1, h⟩ := jn_s h
  have J26_1 : j26_1 = some res → ∀ (H : Heap) (locs : List Loc) (ls : Array Slot), va_P (xD X) vwCl [(a_g, .inr (7, [.ref a_gl, .int f_g_size])), (a_gl, .inl (xI X, 34, .inl v_gl))] H → va_D A [(a_g, .inr (7, [.ref a_gl, .int f_g_size])), (a_gl, .inl (xI X, 34, .inl v_gl))] → va_S A s.heap H locs → lv_has ls 2 [(0, .ref a_g)] → W p l e (rmF 5 112) s m args below meth c H locs 0 0 Q (F0 m 26 ls []) := by
    clear h
    intro h H locs ls hP hD hS hl
    rw [ej26_1] at h
    refine lv_aload_n hx hb dX7_firstFault_26 rfl (lv_at hl 0 rfl) ?_
    refine va_get (D := xD X) (ci := 7) (v := .int f_g_size) (C := RX7) (T := TX7) (N := 2) hx hb hts inX7 hown hK hP 0 rfl rfl 1 (by decide) (hts _ wq_1_74) (fun _ h9 => h9) rfl dX7_firstFault_27 ?_
    obtain rfl := Option.some.inj h
    rw [← hQ]
    exact retI hB hS hP dX7_firstFault_30
  clear ej26_1
  have L2_go_3 : ∀ (k : Nat), ∀ (x1_2 : Int32), f_X7_firstFault_L2 f_g_size v_gl n j26_1 k x1_2 = some res → ∀ (H : Heap) (locs : List Loc) (ls : Array Slot), va_P (xD X) vwCl [(a_g, .inr (7, [.ref a_gl, .int f_g_size])), (a_gl, .inl (xI X, 34, .inl v_gl))] H → va_D A [(a_g, .inr (7, [.ref a_gl, .int f_g_size])), (a_gl, .inl (xI X, 34, .inl v_gl))] → va_S A s.heap H locs → lv_has ls 2 [(0, .ref a_g), (1, .int x1_2)] → W p l e (rmF 5 112) s m args below meth c H locs 0 0 Q (F0 m 2 ls []) := by
    clear h
    intro k
    induction k with
    | zero => intro x1_2 h; cases h
    | succ k ih_4 =>
      intro x1_2 h H locs ls hP hD hS hl
      replace h : b_X7_firstFault_L2 f_g_size v_gl n j26_1 (fun x1_2 => f_X7_firstFault_L2 f_g_size v_gl n j26_1 k x1_2) x1_2 = some res := h
      unfold b_X7_firstFault_L2 at h
      refine lv_iload_n hx hb dX7_firstFault_2 rfl (lv_at hl 1 rfl) ?_
      refine lv_aload_n hx hb dX7_firstFault_3 rfl (lv_at hl 0 rfl) ?_
      refine va_get (D := xD X) (ci := 7) (v := .int f_g_size) (C := RX7) (T := TX7) (N := 2) hx hb hts inX7 hown hK hP 0 rfl rfl 1 (by decide) (hts _ wq_1_74) (fun _ h9 => h9) rfl dX7_firstFault_4 ?_
      refine lv_icmp_ge (tgt := 26) hx hb dX7_firstFault_7 (by decide) (fun c_5 => ?_) (fun c_5 => ?_)
      · replace h := it_p c_5 h
        exact J26_1 h _ _ _ hP hD hS (lv_sub hl [0] rfl)
      · replace h := it_n c_5 h
        refine lv_aload_n hx hb dX7_firstFault_10 rfl (lv_at hl 0 rfl) ?_
        refine lv_iload_n hx hb dX7_firstFault_11 rfl (lv_at hl 1 rfl) ?_
        obtain ⟨u_6, hu_6, h⟩ := ob_s h
        refine cVi (C := RX7) (As := [.int x1_2]) (rest := []) [(a_g, .inr (7, [.ref a_gl, .int f_g_size])), (a_gl, .inl (xI X, 34, .inl v_gl))] hB (c_X7_fits X l n a_g a_gl f_g_size v_gl x1_2 u_6 hu_6) wq_2_61 wq_1_7 wq_2_58 wq_2_60 wp_0 hd_X7_fits (by decide) hP hD hS hl.1 [0, 1] [] [] rfl (by decide +kernel) rfl rfl rfl (nn := 2) rfl (by decide +kernel) [a_g, a_gl] rfl rfl (q0 := 0) rfl rfl rfl rfl (Nat.le_of_ble_eq_true rfl) dX7_firstFault_12 ⟨Nat.zero_le _, Nat.zero_le _⟩ (fun H locs hP hD hS => ?_)
        refine lv_if_ne (tgt := 20) hx hb dX7_firstFault_15 (by decide) (fun c_7 => ?_) (fun c_7 => ?_)
        · replace h := it_n c_7 h
          obtain ⟨x1_8, ex1_8⟩ : ∃ y : Int32, y = x1_2 + 1 := ⟨_, rfl⟩
          replace h := bn_s h ex1_8
          refine lv_iinc (v := x1_8) (lv' := [(1, .int x1_8), (0, .ref a_g)]) hx hb dX7_firstFault_20 hl (k := 1) rfl (by rw [ex1_8]; rfl) (by decide) rfl (fun ls hl => ?_)
          refine lv_goto (tgt := 2) hx hb dX7_firstFault_23 (by decide) ?_
          exact ih_4 x1_8 h _ _ _ hP hD hS (lv_sub hl [1, 0] rfl)
        · replace h := it_p c_7 h
          refine lv_iload_n hx hb dX7_firstFault_18 rfl (lv_at hl 1 rfl) ?_
          obtain rfl := Option.some.inj h
          rw [← hQ]
          exact retI hB hS hP dX7_firstFault_19
  exact L2_go_3 n 0 h _ _ _ hP hD hS (lv_sub hl [1, 0] rfl)


def f_X7_isWhole (n : Nat) (f_g_size : Int32) (v_gl : Nat → Int32) : Option (Int32) :=
  (jn ((some 0)) (fun (j34_1 : Option (Int32)) => (if f_g_size < 7 then j34_1 else (if (f_g_size - f_g_size / 5 * 5) = 2 then ((f_X7_firstFault n f_g_size v_gl).bind (fun u_4 => (if u_4 = f_g_size then (some 1) else j34_1))) else j34_1))))
theorem hd_X7_isWhole : yX7_isWhole.cls ≠ "java/lang/invoke/MethodHandle" ∧ yX7_isWhole.cls ≠ "java/lang/invoke/VarHandle" ∧ (parseMethodDescriptor yX7_isWhole.desc).map (fun d => d.parameters.length) = some 0 := ⟨by decide +kernel, by decide +kernel, by decide +kernel⟩
set_option maxHeartbeats 4000000 in
set_option maxRecDepth 100000 in
theorem c_X7_isWhole (X : CXp) (l : Launch) (n : Nat) (a_g a_gl : Nat) (f_g_size : Int32) (v_gl : Nat → Int32) (res : Int32) (h : f_X7_isWhole n f_g_size v_gl = some res) : CTg X l yX7_isWhole cX7_isWhole 1 (some .boolean) 6 133 [.ref a_g] [(a_g, .inr (7, [.ref a_gl, .int f_g_size])), (a_gl, .inl (xI X, 34, .inl v_gl))] (QcI X res [(a_g, .inr (7, [.ref a_gl, .int f_g_size])), (a_gl, .inl (xI X, 34, .inl v_gl))]) := by
  refine CTg.mk (own := RX7) (by decide) rfl (Nat.le_of_ble_eq_true rfl) ?_
  intro p e s m args below meth c A hB hP hD hS ls hl
  obtain ⟨hx, hb, hr, hml, hown, hts, hlocks, hcx, hA, hAB⟩ := id hB
  have hK := hcx.1
  generalize hQ : MQ below (QcI X res [(a_g, .inr (7, [.ref a_gl, .int f_g_size])), (a_gl, .inl (xI X, 34, .inl v_gl))] A) args s 0 0 A = Q
  replace hl : lv_has ls 1 [(0, .ref a_g)] := hl
  unfold f_X7_isWhole at h
  refine lv_aload_n hx hb dX7_isWhole_0 rfl (lv_at hl 0 rfl) ?_
  refine va_get (D := xD X) (ci := 7) (v := .int f_g_size) (C := RX7) (T := TX7) (N := 2) hx hb hts inX7 hown hK hP 0 rfl rfl 1 (by decide) (hts _ wq_1_74) (fun _ h9 => h9) rfl dX7_isWhole_1 ?_
  refine lv_bipush (v := 7) hx hb dX7_isWhole_4 (by decide) ?_
  obtain ⟨j34_1, ej34_1, h⟩ := jn_s h
  have J34_1 : j34_1 = some res → ∀ (H : Heap) (locs : List Loc) (ls : Array Slot), va_P (xD X) vwCl [(a_g, .inr (7, [.ref a_gl, .int f_g_size])), (a_gl, .inl (xI X, 34, .inl v_gl))] H → va_D A [(a_g, .inr (7, [.ref a_gl, .int f_g_size])), (a_gl, .inl (xI X, 34, .inl v_gl))] → va_S A s.heap H locs → lv_has ls 1 [] → W p l e (rmF 6 133) s m args below meth c H locs 0 0 Q (F0 m 34 ls []) := by
    clear h
    intro h H locs ls hP hD hS hl
    rw [ej34_1] at h
    refine lv_iconst (v := 0) hx hb dX7_isWhole_34 (by decide) ?_
    obtain rfl := Option.some.inj h
    rw [← hQ]
    exact retZ (r := 0) hB rfl hS hP dX7_isWhole_35
  clear ej34_1
  refine lv_icmp_lt (tgt := 34) hx hb dX7_isWhole_6 (by decide) (fun c_2 => ?_) (fun c_2 => ?_)
  · replace h := it_p c_2 h
    exact J34_1 h _ _ _ hP hD hS (lv_sub hl [] rfl)
  · replace h := it_n c_2 h
    refine lv_aload_n hx hb dX7_isWhole_9 rfl (lv_at hl 0 rfl) ?_
    refine va_get (D := xD X) (ci := 7) (v := .int f_g_size) (C := RX7) (T := TX7) (N := 2) hx hb hts inX7 hown hK hP 0 rfl rfl 1 (by decide) (hts _ wq_1_74) (fun _ h9 => h9) rfl dX7_isWhole_10 ?_
    refine lv_iconst (v := 5) hx hb dX7_isWhole_13 (by decide) ?_
    refine lv_irem hx hb dX7_isWhole_14 (by decide) ?_
    refine lv_iconst (v := 2) hx hb dX7_isWhole_15 (by decide) ?_
    refine lv_icmp_ne (tgt := 34) hx hb dX7_isWhole_16 (by decide) (fun c_3 => ?_) (fun c_3 => ?_)
    · replace h := it_n c_3 h
      exact J34_1 h _ _ _ hP hD hS (lv_sub hl [] rfl)
    · replace h := it_p c_3 h
      refine lv_aload_n hx hb dX7_isWhole_19 rfl (lv_at hl 0 rfl) ?_
      obtain ⟨u_4, hu_4, h⟩ := ob_s h
      refine cVi (C := RX7) (As := []) (rest := []) [(a_g, .inr (7, [.ref a_gl, .int f_g_size])), (a_gl, .inl (xI X, 34, .inl v_gl))] hB (c_X7_firstFault X l n a_g a_gl f_g_size v_gl u_4 hu_4) wq_2_57 wq_1_7 wq_2_184 wq_2_55 wq_2_56 hd_X7_firstFault (by decide) hP hD hS hl.1 [0, 1] [] [] rfl (by decide +kernel) rfl rfl rfl (nn := 2) rfl (by decide +kernel) [a_g, a_gl] rfl rfl (q0 := 0) rfl rfl rfl rfl (Nat.le_of_ble_eq_true rfl) dX7_isWhole_20 ⟨Nat.zero_le _, Nat.zero_le _⟩ (fun H locs hP hD hS => ?_)
      refine lv_aload_n hx hb dX7_isWhole_23 rfl (lv_at hl 0 rfl) ?_
      refine va_get (D := xD X) (ci := 7) (v := .int f_g_size) (C := RX7) (T := TX7) (N := 2) hx hb hts inX7 hown hK hP 0 rfl rfl 1 (by decide) (hts _ wq_1_74) (fun _ h9 => h9) rfl dX7_isWhole_24 ?_
      refine lv_icmp_ne (tgt := 34) hx hb dX7_isWhole_27 (by decide) (fun c_5 => ?_) (fun c_5 => ?_)
      · replace h := it_n c_5 h
        exact J34_1 h _ _ _ hP hD hS (lv_sub hl [] rfl)
      · replace h := it_p c_5 h
        refine lv_iconst (v := 1) hx hb dX7_isWhole_30 (by decide) ?_
        refine lv_goto (tgt := 35) hx hb dX7_isWhole_31 (by decide) ?_
        obtain rfl := Option.some.inj h
        rw [← hQ]
        exact retZ (r := 1) hB rfl hS hP dX7_isWhole_35


def b_X7_readInto_L30 (f_g_size : Int32) (v_gl : Nat → Int32) (n : Nat) (u_1 : Int32) (go_8 : Int32 → Int64 → (Nat → Int32) → (Nat → Int32) → (Nat → Int32) → Option (Int64 × Int32 × Int32 × (Nat → Int32) × (Nat → Int32) × (Nat → Int32))) (x2_3 : Int32) (f_o_taken_4 : Int64) (v_oc_5 : Nat → Int32) (v_ok_6 : Nat → Int32) (v_ow_7 : Nat → Int32) : Option (Int64 × Int32 × Int32 × (Nat → Int32) × (Nat → Int32) × (Nat → Int32)) :=
  (if (f_g_size / 5) < x2_3 then (some (f_o_taken_4, (f_g_size / 5), u_1, v_oc_5, v_ok_6, v_ow_7)) else (bnd ((5 * x2_3) + 1) (fun x3_11 => ((f_X7_at v_gl (x3_11 - 3)).bind (fun u_12 => ((f_J0_indexOf_0f7a4 n ((u_12.toUInt32 % 65536).toInt32)).bind (fun u_13 => ((f_X10_setKind v_ok_6 x2_3 u_13).bind (fun u_14 => ((f_X7_digitAt v_gl (x3_11 - 2)).bind (fun u_15 => ((f_X10_setWorth v_ow_7 x2_3 u_15).bind (fun u_16 => ((f_X7_cellAt v_gl x3_11).bind (fun u_17 => ((f_X10_lay f_o_taken_4 v_oc_5 x2_3 u_17).bind (fun u_18 => (bnd (x2_3 + 1) (fun x2_19 => (go_8 x2_19 u_18.1 u_18.2 u_14 u_16))))))))))))))))))))
def f_X7_readInto_L30 (f_g_size : Int32) (v_gl : Nat → Int32) (n : Nat) (u_1 : Int32) (k : Nat) (x2_3 : Int32) (f_o_taken_4 : Int64) (v_oc_5 : Nat → Int32) (v_ok_6 : Nat → Int32) (v_ow_7 : Nat → Int32) : Option (Int64 × Int32 × Int32 × (Nat → Int32) × (Nat → Int32) × (Nat → Int32)) :=
  lpF (fun (self : (Int32 × Int64 × (Nat → Int32) × (Nat → Int32) × (Nat → Int32)) → Option (Int64 × Int32 × Int32 × (Nat → Int32) × (Nat → Int32) × (Nat → Int32))) (a : Int32 × Int64 × (Nat → Int32) × (Nat → Int32) × (Nat → Int32)) => b_X7_readInto_L30 f_g_size v_gl n u_1 (fun x2_3 f_o_taken_4 v_oc_5 v_ok_6 v_ow_7 => self (x2_3, f_o_taken_4, v_oc_5, v_ok_6, v_ow_7)) a.1 a.2.1 a.2.2.1 a.2.2.2.1 a.2.2.2.2) k (x2_3, f_o_taken_4, v_oc_5, v_ok_6, v_ow_7)
def f_X7_readInto (n : Nat) (f_g_size : Int32) (v_gl : Nat → Int32) (f_o_taken : Int64) (f_o_size : Int32) (f_o_spot : Int32) (v_oc : Nat → Int32) (v_ok : Nat → Int32) (v_ow : Nat → Int32) : Option (Int64 × Int32 × Int32 × (Nat → Int32) × (Nat → Int32) × (Nat → Int32)) :=
  ((f_X7_cellAt v_gl 1).bind (fun u_1 => ((f_X10_lay f_o_taken v_oc 0 u_1).bind (fun u_2 => (f_X7_readInto_L30 f_g_size v_gl n u_1 n 1 u_2.1 u_2.2 v_ok v_ow)))))
theorem hd_X7_readInto : yX7_readInto.cls ≠ "java/lang/invoke/MethodHandle" ∧ yX7_readInto.cls ≠ "java/lang/invoke/VarHandle" ∧ (parseMethodDescriptor yX7_readInto.desc).map (fun d => d.parameters.length) = some 1 := ⟨by decide +kernel, by decide +kernel, by decide +kernel⟩
set_option maxHeartbeats 4000000 in
set_option maxRecDepth 100000 in
theorem c_X7_readInto (X : CXp) (l : Launch) (n : Nat) (a_g a_gl a_o a_oc a_ok a_ow : Nat) (f_g_size : Int32) (v_gl : Nat → Int32) (f_o_taken : Int64) (f_o_size : Int32) (f_o_spot : Int32) (v_oc : Nat → Int32) (v_ok : Nat → Int32) (v_ow : Nat → Int32) (res : Int64 × Int32 × Int32 × (Nat → Int32) × (Nat → Int32) × (Nat → Int32)) (h : f_X7_readInto n f_g_size v_gl f_o_taken f_o_size f_o_spot v_oc v_ok v_ow = some res) : CTg X l yX7_readInto cX7_readInto 4 none 4 91 [.ref a_g, .ref a_o] [(a_g, .inr (7, [.ref a_gl, .int f_g_size])), (a_gl, .inl (xI X, 34, .inl v_gl)), (a_o, .inr (10, [.ref a_oc, .ref a_ok, .ref a_ow, .long f_o_taken, .int f_o_size, .int f_o_spot])), (a_oc, .inl (xI X, 7, .inl v_oc)), (a_ok, .inl (xI X, 7, .inl v_ok)), (a_ow, .inl (xI X, 7, .inl v_ow))] (QcV X [(a_g, .inr (7, [.ref a_gl, .int f_g_size])), (a_gl, .inl (xI X, 34, .inl v_gl)), (a_o, .inr (10, [.ref a_oc, .ref a_ok, .ref a_ow, .long res.1, .int res.2.1, .int res.2.2.1])), (a_oc, .inl (xI X, 7, .inl res.2.2.2.1)), (a_ok, .inl (xI X, 7, .inl res.2.2.2.2.1)), (a_ow, .inl (xI X, 7, .inl res.2.2.2.2.2))]) := by
  refine CTg.mk (own := RX7) (by decide) rfl (Nat.le_of_ble_eq_true rfl) ?_
  intro p e s m args below meth c A hB hP hD hS ls hl
  obtain ⟨hx, hb, hr, hml, hown, hts, hlocks, hcx, hA, hAB⟩ := id hB
  have hK := hcx.1
  generalize hQ : MQ below (QcV X [(a_g, .inr (7, [.ref a_gl, .int f_g_size])), (a_gl, .inl (xI X, 34, .inl v_gl)), (a_o, .inr (10, [.ref a_oc, .ref a_ok, .ref a_ow, .long res.1, .int res.2.1, .int res.2.2.1])), (a_oc, .inl (xI X, 7, .inl res.2.2.2.1)), (a_ok, .inl (xI X, 7, .inl res.2.2.2.2.1)), (a_ow, .inl (xI X, 7, .inl res.2.2.2.2.2))] A) args s 0 0 A = Q
  replace hl : lv_has ls 4 [(0, .ref a_g), (1, .ref a_o)] := hl
  unfold f_X7_readInto at h
  refine lv_aload_n hx hb dX7_readInto_0 rfl (lv_at hl 1 rfl) ?_
  refine lv_aload_n hx hb dX7_readInto_1 rfl (lv_at hl 0 rfl) ?_
  refine va_get (D := xD X) (ci := 7) (v := .int f_g_size) (C := RX7) (T := TX7) (N := 2) hx hb hts inX7 hown hK hP 0 rfl rfl 1 (by decide) (hts _ wq_1_74) (fun _ h9 => h9) rfl dX7_readInto_2 ?_
  refine lv_iconst (v := 5) hx hb dX7_readInto_5 (by decide) ?_
  refine lv_idiv hx hb dX7_readInto_6 (by decide) ?_
  refine va_putN (D := xD X) (ci := 10) (v := .int (f_g_size / 5)) (ty := .int) (C := RX10) (T := TX10) (N := 6) hx hb hts inX10 tyX10 tyX10_ok nmX10 hown hK hP hD hS 2 rfl rfl 4 (by decide) (va_Nw.use rfl (hcx.2.1 _ wq_1_103)) (fun _ h9 => h9) rfl (by decide +kernel) rfl rfl (Nat.le_of_ble_eq_true rfl) dX7_readInto_7 (fun H locs (hP : va_P (xD X) vwCl [(a_g, .inr (7, [.ref a_gl, .int f_g_size])), (a_gl, .inl (xI X, 34, .inl v_gl)), (a_o, .inr (10, [.ref a_oc, .ref a_ok, .ref a_ow, .long f_o_taken, .int (f_g_size / 5), .int f_o_spot])), (a_oc, .inl (xI X, 7, .inl v_oc)), (a_ok, .inl (xI X, 7, .inl v_ok)), (a_ow, .inl (xI X, 7, .inl v_ow))] H) (hD : va_D A [(a_g, .inr (7, [.ref a_gl, .int f_g_size])), (a_gl, .inl (xI X, 34, .inl v_gl)), (a_o, .inr (10, [.ref a_oc, .ref a_ok, .ref a_ow, .long f_o_taken, .int (f_g_size / 5), .int f_o_spot])), (a_oc, .inl (xI X, 7, .inl v_oc)), (a_ok, .inl (xI X, 7, .inl v_ok)), (a_ow, .inl (xI X, 7, .inl v_ow))]) hS => ?_)
  refine lv_aload_n hx hb dX7_readInto_10 rfl (lv_at hl 1 rfl) ?_
  refine lv_aload_n hx hb dX7_readInto_11 rfl (lv_at hl 0 rfl) ?_
  refine lv_iconst (v := 1) hx hb dX7_readInto_12 (by decide) ?_
  obtain ⟨u_1, hu_1, h⟩ := ob_s h
  refine cVi (C := RX7) (As := [.int 1]) (rest := [.ref a_o]) [(a_g, .inr (7, [.ref a_gl, .int f_g_size])), (a_gl, .inl (xI X, 34, .inl v_gl)), (a_o, .inr (10, [.ref a_oc, .ref a_ok, .ref a_ow, .long f_o_taken, .int (f_g_size / 5), .int f_o_spot])), (a_oc, .inl (xI X, 7, .inl v_oc)), (a_ok, .inl (xI X, 7, .inl v_ok)), (a_ow, .inl (xI X, 7, .inl v_ow))] hB (c_X7_cellAt X l a_g a_gl f_g_size v_gl 1 u_1 hu_1) wq_2_83 wq_1_7 wq_2_80 wq_2_82 wp_4 hd_X7_cellAt (by decide) hP hD hS hl.1 [0, 1] [2, 3, 4, 5] [(a_o, .inr (10, [.ref a_oc, .ref a_ok, .ref a_ow, .long f_o_taken, .int (f_g_size / 5), .int f_o_spot])), (a_oc, .inl (xI X, 7, .inl v_oc)), (a_ok, .inl (xI X, 7, .inl v_ok)), (a_ow, .inl (xI X, 7, .inl v_ow))] rfl (by decide +kernel) rfl rfl rfl (nn := 6) rfl (by decide +kernel) [a_g, a_gl, a_o, a_oc, a_ok, a_ow] rfl rfl (q0 := 0) rfl rfl rfl rfl (Nat.le_of_ble_eq_true rfl) dX7_readInto_13 ⟨Nat.zero_le _, Nat.zero_le _⟩ (fun H locs hP hD hS => ?_)
  refine va_putN (D := xD X) (ci := 10) (v := .int u_1) (ty := .int) (C := RX10) (T := TX10) (N := 6) hx hb hts inX10 tyX10 tyX10_ok nmX10 hown hK hP hD hS 2 rfl rfl 5 (by decide) (va_Nw.use rfl (hcx.2.1 _ wq_1_105)) (fun _ h9 => h9) rfl (by decide +kernel) rfl rfl (Nat.le_of_ble_eq_true rfl) dX7_readInto_16 (fun H locs (hP : va_P (xD X) vwCl [(a_g, .inr (7, [.ref a_gl, .int f_g_size])), (a_gl, .inl (xI X, 34, .inl v_gl)), (a_o, .inr (10, [.ref a_oc, .ref a_ok, .ref a_ow, .long f_o_taken, .int (f_g_size / 5), .int u_1])), (a_oc, .inl (xI X, 7, .inl v_oc)), (a_ok, .inl (xI X, 7, .inl v_ok)), (a_ow, .inl (xI X, 7, .inl v_ow))] H) (hD : va_D A [(a_g, .inr (7, [.ref a_gl, .int f_g_size])), (a_gl, .inl (xI X, 34, .inl v_gl)), (a_o, .inr (10, [.ref a_oc, .ref a_ok, .ref a_ow, .long f_o_taken, .int (f_g_size / 5), .int u_1])), (a_oc, .inl (xI X, 7, .inl v_oc)), (a_ok, .inl (xI X, 7, .inl v_ok)), (a_ow, .inl (xI X, 7, .inl v_ow))]) hS => ?_)
  refine lv_aload_n hx hb dX7_readInto_19 rfl (lv_at hl 1 rfl) ?_
  refine lv_iconst (v := 0) hx hb dX7_readInto_20 (by decide) ?_
  refine lv_aload_n hx hb dX7_readInto_21 rfl (lv_at hl 1 rfl) ?_
  refine va_getN (D := xD X) (ci := 10) (v := .int u_1) (C := RX10) (T := TX10) (N := 6) hx hb hts inX10 hown hK hP 2 rfl rfl 5 (by decide) (va_Nw.use rfl (hcx.2.1 _ wq_1_105)) (fun _ h9 => h9) rfl dX7_readInto_22 ?_
  obtain ⟨u_2, hu_2, h⟩ := ob_s h
  refine cVv (C := RX10) (As := [.int 0, .int u_1]) (rest := []) [(a_g, .inr (7, [.ref a_gl, .int f_g_size])), (a_gl, .inl (xI X, 34, .inl v_gl)), (a_o, .inr (10, [.ref a_oc, .ref a_ok, .ref a_ow, .long u_2.1, .int (f_g_size / 5), .int u_1])), (a_oc, .inl (xI X, 7, .inl u_2.2)), (a_ok, .inl (xI X, 7, .inl v_ok)), (a_ow, .inl (xI X, 7, .inl v_ow))] hB (c_X10_lay X l a_o a_oc a_ok a_ow f_o_taken (f_g_size / 5) u_1 v_oc 0 u_1 u_2 hu_2) wq_2_200 wq_1_9 wq_2_197 wq_2_198 wq_2_199 hd_X10_lay (by decide) hP hD hS hl.1 [2, 3] [0, 1, 4, 5] [(a_g, .inr (7, [.ref a_gl, .int f_g_size])), (a_gl, .inl (xI X, 34, .inl v_gl)), (a_ok, .inl (xI X, 7, .inl v_ok)), (a_ow, .inl (xI X, 7, .inl v_ow))] rfl (by decide +kernel) rfl rfl rfl (nn := 6) rfl (by decide +kernel) [a_g, a_gl, a_o, a_oc, a_ok, a_ow] rfl rfl (q0 := 2) rfl rfl rfl rfl (Nat.le_of_ble_eq_true rfl) dX7_readInto_25 ⟨Nat.zero_le _, Nat.zero_le _⟩ (fun H locs hP hD hS => ?_)
  refine lv_iconst (v := 1) hx hb dX7_readInto_28 (by decide) ?_
  refine lv_istore_n (lv' := [(2, .int 1), (0, .ref a_g), (1, .ref a_o)]) hx hb dX7_readInto_29 rfl hl (by decide) rfl (fun ls hl => ?_)
  have L30_go_8 : ∀ (k : Nat), ∀ (x2_3 : Int32) (f_o_taken_4 : Int64) (v_oc_5 : Nat → Int32) (v_ok_6 : Nat → Int32) (v_ow_7 : Nat → Int32), f_X7_readInto_L30 f_g_size v_gl n u_1 k x2_3 f_o_taken_4 v_oc_5 v_ok_6 v_ow_7 = some res → ∀ (H : Heap) (locs : List Loc) (ls : Array Slot), va_P (xD X) vwCl [(a_g, .inr (7, [.ref a_gl, .int f_g_size])), (a_gl, .inl (xI X, 34, .inl v_gl)), (a_o, .inr (10, [.ref a_oc, .ref a_ok, .ref a_ow, .long f_o_taken_4, .int (f_g_size / 5), .int u_1])), (a_oc, .inl (xI X, 7, .inl v_oc_5)), (a_ok, .inl (xI X, 7, .inl v_ok_6)), (a_ow, .inl (xI X, 7, .inl v_ow_7))] H → va_D A [(a_g, .inr (7, [.ref a_gl, .int f_g_size])), (a_gl, .inl (xI X, 34, .inl v_gl)), (a_o, .inr (10, [.ref a_oc, .ref a_ok, .ref a_ow, .long f_o_taken_4, .int (f_g_size / 5), .int u_1])), (a_oc, .inl (xI X, 7, .inl v_oc_5)), (a_ok, .inl (xI X, 7, .inl v_ok_6)), (a_ow, .inl (xI X, 7, .inl v_ow_7))] → va_S A s.heap H locs → lv_has ls 4 [(0, .ref a_g), (1, .ref a_o), (2, .int x2_3)] → W p l e (rmF 4 91) s m args below meth c H locs 0 0 Q (F0 m 30 ls []) := by
    clear h
    intro k
    induction k with
    | zero => intro x2_3 f_o_taken_4 v_oc_5 v_ok_6 v_ow_7 h; cases h
    | succ k ih_9 =>
      intro x2_3 f_o_taken_4 v_oc_5 v_ok_6 v_ow_7 h H locs ls hP hD hS hl
      replace h : b_X7_readInto_L30 f_g_size v_gl n u_1 (fun x2_3 f_o_taken_4 v_oc_5 v_ok_6 v_ow_7 => f_X7_readInto_L30 f_g_size v_gl n u_1 k x2_3 f_o_taken_4 v_oc_5 v_ok_6 v_ow_7) x2_3 f_o_taken_4 v_oc_5 v_ok_6 v_ow_7 = some res := h
      unfold b_X7_readInto_L30 at h
      refine lv_iload_n hx hb dX7_readInto_30 rfl (lv_at hl 2 rfl) ?_
      refine lv_aload_n hx hb dX7_readInto_31 rfl (lv_at hl 1 rfl) ?_
      refine va_getN (D := xD X) (ci := 10) (v := .int (f_g_size / 5)) (C := RX10) (T := TX10) (N := 6) hx hb hts inX10 hown hK hP 2 rfl rfl 4 (by decide) (va_Nw.use rfl (hcx.2.1 _ wq_1_103)) (fun _ h9 => h9) rfl dX7_readInto_32 ?_
      refine lv_icmp_gt (tgt := 90) hx hb dX7_readInto_35 (by decide) (fun c_10 => ?_) (fun c_10 => ?_)
      · replace h := it_p c_10 h
        obtain rfl := Option.some.inj h
        rw [← hQ]
        exact retV hB hS hP dX7_readInto_90
      · replace h := it_n c_10 h
        refine lv_iconst (v := 5) hx hb dX7_readInto_38 (by decide) ?_
        refine lv_iload_n hx hb dX7_readInto_39 rfl (lv_at hl 2 rfl) ?_
        refine lv_imul hx hb dX7_readInto_40 ?_
        refine lv_iconst (v := 1) hx hb dX7_readInto_41 (by decide) ?_
        refine lv_iadd hx hb dX7_readInto_42 ?_
        refine lv_topi (fun x3_11 ex3_11 => ?_)
        replace h := bn_s h ex3_11
        refine lv_istore_n (lv' := [(3, .int x3_11), (0, .ref a_g), (1, .ref a_o), (2, .int x2_3)]) hx hb dX7_readInto_43 rfl hl (by decide) rfl (fun ls hl => ?_)
        refine lv_aload_n hx hb dX7_readInto_44 rfl (lv_at hl 2 rfl) ?_
        refine lv_iload_n hx hb dX7_readInto_45 rfl (lv_at hl 3 rfl) ?_
        refine va_ldcS hx hb hown hcx.2.2.2.2.2.1 dX7_readInto_46 ?_
        refine lv_aload_n hx hb dX7_readInto_48 rfl (lv_at hl 1 rfl) ?_
        refine lv_iload_n hx hb dX7_readInto_49 rfl (lv_at hl 0 rfl) ?_
        refine lv_iconst (v := 3) hx hb dX7_readInto_50 (by decide) ?_
        refine lv_isub hx hb dX7_readInto_51 ?_
        obtain ⟨u_12, hu_12, h⟩ := ob_s h
        refine cVi (C := RX7) (As := [.int (x3_11 - 3)]) (rest := [.ref (xs X), .int x2_3, .ref a_o]) [(a_g, .inr (7, [.ref a_gl, .int f_g_size])), (a_gl, .inl (xI X, 34, .inl v_gl)), (a_o, .inr (10, [.ref a_oc, .ref a_ok, .ref a_ow, .long f_o_taken_4, .int (f_g_size / 5), .int u_1])), (a_oc, .inl (xI X, 7, .inl v_oc_5)), (a_ok, .inl (xI X, 7, .inl v_ok_6)), (a_ow, .inl (xI X, 7, .inl v_ow_7))] hB (c_X7_at X l a_g a_gl f_g_size v_gl (x3_11 - 3) u_12 hu_12) wq_2_69 wq_1_7 wq_2_66 wq_2_68 wp_2 hd_X7_at (by decide) hP hD hS hl.1 [0, 1] [2, 3, 4, 5] [(a_o, .inr (10, [.ref a_oc, .ref a_ok, .ref a_ow, .long f_o_taken_4, .int (f_g_size / 5), .int u_1])), (a_oc, .inl (xI X, 7, .inl v_oc_5)), (a_ok, .inl (xI X, 7, .inl v_ok_6)), (a_ow, .inl (xI X, 7, .inl v_ow_7))] rfl (by decide +kernel) rfl rfl rfl (nn := 6) rfl (by decide +kernel) [a_g, a_gl, a_o, a_oc, a_ok, a_ow] rfl rfl (q0 := 0) rfl rfl rfl rfl (Nat.le_of_ble_eq_true rfl) dX7_readInto_52 ⟨Nat.zero_le _, Nat.zero_le _⟩ (fun H locs hP hD hS => ?_)
        refine lv_i2c (v := (u_12.toUInt32 % 65536).toInt32) hx hb dX7_readInto_55 rfl ?_
        obtain ⟨u_13, hu_13, h⟩ := ob_s h
        refine cTi (C := RJ0) (As := [.int ((u_12.toUInt32 % 65536).toInt32)]) (rest := [.int x2_3, .ref a_o]) hB (c_J0_indexOf_0f7a4 X l n ((u_12.toUInt32 % 65536).toInt32) u_13 hu_13) wq_2_91 wq_1_15 wq_2_88 wq_2_89 wq_2_90 hd_J0_indexOf_0f7a4 (by decide) hP hD hS hl.1 (vk_recv (i := 0) (hcx.2.2.2.2.2.2.1.narrow hAB) (by decide) hS) rfl rfl (Nat.le_of_ble_eq_true rfl) dX7_readInto_56 ⟨Nat.zero_le _, Nat.zero_le _⟩ (fun H locs hP hD hS => ?_)
        obtain ⟨u_14, hu_14, h⟩ := ob_s h
        refine cVv (C := RX10) (As := [.int x2_3, .int u_13]) (rest := []) [(a_g, .inr (7, [.ref a_gl, .int f_g_size])), (a_gl, .inl (xI X, 34, .inl v_gl)), (a_o, .inr (10, [.ref a_oc, .ref a_ok, .ref a_ow, .long f_o_taken_4, .int (f_g_size / 5), .int u_1])), (a_oc, .inl (xI X, 7, .inl v_oc_5)), (a_ok, .inl (xI X, 7, .inl u_14)), (a_ow, .inl (xI X, 7, .inl v_ow_7))] hB (c_X10_setKind X l a_o a_oc a_ok a_ow f_o_taken_4 (f_g_size / 5) u_1 v_oc_5 v_ok_6 x2_3 u_13 u_14 hu_14) wq_2_205 wq_1_9 wq_2_202 wq_2_203 wq_2_204 hd_X10_setKind (by decide) hP hD hS hl.1 [2, 3, 4] [0, 1, 5] [(a_g, .inr (7, [.ref a_gl, .int f_g_size])), (a_gl, .inl (xI X, 34, .inl v_gl)), (a_ow, .inl (xI X, 7, .inl v_ow_7))] rfl (by decide +kernel) rfl rfl rfl (nn := 6) rfl (by decide +kernel) [a_g, a_gl, a_o, a_oc, a_ok, a_ow] rfl rfl (q0 := 2) rfl rfl rfl rfl (Nat.le_of_ble_eq_true rfl) dX7_readInto_59 ⟨Nat.zero_le _, Nat.zero_le _⟩ (fun H locs hP hD hS => ?_)
        refine lv_aload_n hx hb dX7_readInto_62 rfl (lv_at hl 2 rfl) ?_
        refine lv_iload_n hx hb dX7_readInto_63 rfl (lv_at hl 3 rfl) ?_
        refine lv_aload_n hx hb dX7_readInto_64 rfl (lv_at hl 1 rfl) ?_
        refine lv_iload_n hx hb dX7_readInto_65 rfl (lv_at hl 0 rfl) ?_
        refine lv_iconst (v := 2) hx hb dX7_readInto_66 (by decide) ?_
        refine lv_isub hx hb dX7_readInto_67 ?_
        obtain ⟨u_15, hu_15, h⟩ := ob_s h
        refine cVi (C := RX7) (As := [.int (x3_11 - 2)]) (rest := [.int x2_3, .ref a_o]) [(a_g, .inr (7, [.ref a_gl, .int f_g_size])), (a_gl, .inl (xI X, 34, .inl v_gl)), (a_o, .inr (10, [.ref a_oc, .ref a_ok, .ref a_ow, .long f_o_taken_4, .int (f_g_size / 5), .int u_1])), (a_oc, .inl (xI X, 7, .inl v_oc_5)), (a_ok, .inl (xI X, 7, .inl u_14)), (a_ow, .inl (xI X, 7, .inl v_ow_7))] hB (c_X7_digitAt X l a_g a_gl f_g_size v_gl (x3_11 - 2) u_15 hu_15) wq_2_65 wq_1_7 wq_2_62 wq_2_64 wp_1 hd_X7_digitAt (by decide) hP hD hS hl.1 [0, 1] [2, 3, 4, 5] [(a_o, .inr (10, [.ref a_oc, .ref a_ok, .ref a_ow, .long f_o_taken_4, .int (f_g_size / 5), .int u_1])), (a_oc, .inl (xI X, 7, .inl v_oc_5)), (a_ok, .inl (xI X, 7, .inl u_14)), (a_ow, .inl (xI X, 7, .inl v_ow_7))] rfl (by decide +kernel) rfl rfl rfl (nn := 6) rfl (by decide +kernel) [a_g, a_gl, a_o, a_oc, a_ok, a_ow] rfl rfl (q0 := 0) rfl rfl rfl rfl (Nat.le_of_ble_eq_true rfl) dX7_readInto_68 ⟨Nat.zero_le _, Nat.zero_le _⟩ (fun H locs hP hD hS => ?_)
        obtain ⟨u_16, hu_16, h⟩ := ob_s h
        refine cVv (C := RX10) (As := [.int x2_3, .int u_15]) (rest := []) [(a_g, .inr (7, [.ref a_gl, .int f_g_size])), (a_gl, .inl (xI X, 34, .inl v_gl)), (a_o, .inr (10, [.ref a_oc, .ref a_ok, .ref a_ow, .long f_o_taken_4, .int (f_g_size / 5), .int u_1])), (a_oc, .inl (xI X, 7, .inl v_oc_5)), (a_ok, .inl (xI X, 7, .inl u_14)), (a_ow, .inl (xI X, 7, .inl u_16))] hB (c_X10_setWorth X l a_o a_oc a_ok a_ow f_o_taken_4 (f_g_size / 5) u_1 v_oc_5 v_ow_7 x2_3 u_15 u_16 hu_16) wq_2_209 wq_1_9 wq_2_206 wq_2_207 wq_2_208 hd_X10_setWorth (by decide) hP hD hS hl.1 [2, 3, 5] [0, 1, 4] [(a_g, .inr (7, [.ref a_gl, .int f_g_size])), (a_gl, .inl (xI X, 34, .inl v_gl)), (a_ok, .inl (xI X, 7, .inl u_14))] rfl (by decide +kernel) rfl rfl rfl (nn := 6) rfl (by decide +kernel) [a_g, a_gl, a_o, a_oc, a_ok, a_ow] rfl rfl (q0 := 2) rfl rfl rfl rfl (Nat.le_of_ble_eq_true rfl) dX7_readInto_71 ⟨Nat.zero_le _, Nat.zero_le _⟩ (fun H locs hP hD hS => ?_)
        refine lv_aload_n hx hb dX7_readInto_74 rfl (lv_at hl 2 rfl) ?_
        refine lv_iload_n hx hb dX7_readInto_75 rfl (lv_at hl 3 rfl) ?_
        refine lv_aload_n hx hb dX7_readInto_76 rfl (lv_at hl 1 rfl) ?_
        refine lv_iload_n hx hb dX7_readInto_77 rfl (lv_at hl 0 rfl) ?_
        obtain ⟨u_17, hu_17, h⟩ := ob_s h
        refine cVi (C := RX7) (As := [.int x3_11]) (rest := [.int x2_3, .ref a_o]) [(a_g, .inr (7, [.ref a_gl, .int f_g_size])), (a_gl, .inl (xI X, 34, .inl v_gl)), (a_o, .inr (10, [.ref a_oc, .ref a_ok, .ref a_ow, .long f_o_taken_4, .int (f_g_size / 5), .int u_1])), (a_oc, .inl (xI X, 7, .inl v_oc_5)), (a_ok, .inl (xI X, 7, .inl u_14)), (a_ow, .inl (xI X, 7, .inl u_16))] hB (c_X7_cellAt X l a_g a_gl f_g_size v_gl x3_11 u_17 hu_17) wq_2_83 wq_1_7 wq_2_80 wq_2_82 wp_4 hd_X7_cellAt (by decide) hP hD hS hl.1 [0, 1] [2, 3, 4, 5] [(a_o, .inr (10, [.ref a_oc, .ref a_ok, .ref a_ow, .long f_o_taken_4, .int (f_g_size / 5), .int u_1])), (a_oc, .inl (xI X, 7, .inl v_oc_5)), (a_ok, .inl (xI X, 7, .inl u_14)), (a_ow, .inl (xI X, 7, .inl u_16))] rfl (by decide +kernel) rfl rfl rfl (nn := 6) rfl (by decide +kernel) [a_g, a_gl, a_o, a_oc, a_ok, a_ow] rfl rfl (q0 := 0) rfl rfl rfl rfl (Nat.le_of_ble_eq_true rfl) dX7_readInto_78 ⟨Nat.zero_le _, Nat.zero_le _⟩ (fun H locs hP hD hS => ?_)
        obtain ⟨u_18, hu_18, h⟩ := ob_s h
        refine cVv (C := RX10) (As := [.int x2_3, .int u_17]) (rest := []) [(a_g, .inr (7, [.ref a_gl, .int f_g_size])), (a_gl, .inl (xI X, 34, .inl v_gl)), (a_o, .inr (10, [.ref a_oc, .ref a_ok, .ref a_ow, .long u_18.1, .int (f_g_size / 5), .int u_1])), (a_oc, .inl (xI X, 7, .inl u_18.2)), (a_ok, .inl (xI X, 7, .inl u_14)), (a_ow, .inl (xI X, 7, .inl u_16))] hB (c_X10_lay X l a_o a_oc a_ok a_ow f_o_taken_4 (f_g_size / 5) u_1 v_oc_5 x2_3 u_17 u_18 hu_18) wq_2_200 wq_1_9 wq_2_197 wq_2_198 wq_2_199 hd_X10_lay (by decide) hP hD hS hl.1 [2, 3] [0, 1, 4, 5] [(a_g, .inr (7, [.ref a_gl, .int f_g_size])), (a_gl, .inl (xI X, 34, .inl v_gl)), (a_ok, .inl (xI X, 7, .inl u_14)), (a_ow, .inl (xI X, 7, .inl u_16))] rfl (by decide +kernel) rfl rfl rfl (nn := 6) rfl (by decide +kernel) [a_g, a_gl, a_o, a_oc, a_ok, a_ow] rfl rfl (q0 := 2) rfl rfl rfl rfl (Nat.le_of_ble_eq_true rfl) dX7_readInto_81 ⟨Nat.zero_le _, Nat.zero_le _⟩ (fun H locs hP hD hS => ?_)
        obtain ⟨x2_19, ex2_19⟩ : ∃ y : Int32, y = x2_3 + 1 := ⟨_, rfl⟩
        replace h := bn_s h ex2_19
        refine lv_iinc (v := x2_19) (lv' := [(2, .int x2_19), (3, .int x3_11), (0, .ref a_g), (1, .ref a_o)]) hx hb dX7_readInto_84 hl (k := 3) rfl (by rw [ex2_19]; rfl) (by decide) rfl (fun ls hl => ?_)
        refine lv_goto (tgt := 30) hx hb dX7_readInto_87 (by decide) ?_
        exact ih_9 x2_19 u_18.1 u_18.2 u_14 u_16 h _ _ _ hP hD hS (lv_sub hl [2, 3, 0] rfl)
  exact L30_go_8 n 1 u_2.1 u_2.2 v_ok v_ow h _ _ _ hP hD hS (lv_sub hl [1, 2, 0] rfl)


def b_X7_digestOn_L5 (f_g_size : Int32) (v_gl : Nat → Int32) (go_3 : Int64 → Int32 → Option (Int64)) (x3_1 : Int64) (x5_2 : Int32) : Option (Int64) :=
  (if f_g_size ≤ x5_2 then (some x3_1) else ((f_X7_at v_gl x5_2).bind (fun u_6 => (bnd ((31 * x3_1) + u_6.toInt64) (fun x3_7 => (bnd (x5_2 + 1) (fun x5_8 => (go_3 x3_7 x5_8))))))))
def f_X7_digestOn_L5 (f_g_size : Int32) (v_gl : Nat → Int32) (k : Nat) (x3_1 : Int64) (x5_2 : Int32) : Option (Int64) :=
  lpF (fun (self : (Int64 × Int32) → Option (Int64)) (a : Int64 × Int32) => b_X7_digestOn_L5 f_g_size v_gl (fun x3_1 x5_2 => self (x3_1, x5_2)) a.1 a.2) k (x3_1, x5_2)
def f_X7_digestOn (n : Nat) (f_g_size : Int32) (v_gl : Nat → Int32) (p1 : Int64) : Option (Int64) :=
  (f_X7_digestOn_L5 f_g_size v_gl n p1 0)
theorem hd_X7_digestOn : yX7_digestOn.cls ≠ "java/lang/invoke/MethodHandle" ∧ yX7_digestOn.cls ≠ "java/lang/invoke/VarHandle" ∧ (parseMethodDescriptor yX7_digestOn.desc).map (fun d => d.parameters.length) = some 1 := ⟨by decide +kernel, by decide +kernel, by decide +kernel⟩
set_option maxHeartbeats 4000000 in
set_option maxRecDepth 100000 in
theorem c_X7_digestOn (X : CXp) (l : Launch) (n : Nat) (a_g a_gl : Nat) (f_g_size : Int32) (v_gl : Nat → Int32) (p1 : Int64) (res : Int64) (h : f_X7_digestOn n f_g_size v_gl p1 = some res) : CTg X l yX7_digestOn cX7_digestOn 6 (some .long) 1 21 [.ref a_g, .long p1] [(a_g, .inr (7, [.ref a_gl, .int f_g_size])), (a_gl, .inl (xI X, 34, .inl v_gl))] (QcL X res [(a_g, .inr (7, [.ref a_gl, .int f_g_size])), (a_gl, .inl (xI X, 34, .inl v_gl))]) := by
  refine CTg.mk (own := RX7) (by decide) rfl (Nat.le_of_ble_eq_true rfl) ?_
  intro p e s m args below meth c A hB hP hD hS ls hl
  obtain ⟨hx, hb, hr, hml, hown, hts, hlocks, hcx, hA, hAB⟩ := id hB
  have hK := hcx.1
  generalize hQ : MQ below (QcL X res [(a_g, .inr (7, [.ref a_gl, .int f_g_size])), (a_gl, .inl (xI X, 34, .inl v_gl))] A) args s 0 0 A = Q
  replace hl : lv_has ls 6 [(0, .ref a_g), (1, .long p1)] := hl
  unfold f_X7_digestOn at h
  refine lv_lload_n hx hb dX7_digestOn_0 rfl (lv_at hl 1 rfl) ?_
  refine lv_lstore_n (lv' := [(3, .long p1), (0, .ref a_g), (1, .long p1)]) hx hb dX7_digestOn_1 rfl hl (by decide) rfl (fun ls hl => ?_)
  refine lv_iconst (v := 0) hx hb dX7_digestOn_2 (by decide) ?_
  refine lv_istore (lv' := [(5, .int 0), (3, .long p1), (0, .ref a_g), (1, .long p1)]) hx hb dX7_digestOn_3 hl (by decide) rfl (fun ls hl => ?_)
  have L5_go_3 : ∀ (k : Nat), ∀ (x3_1 : Int64) (x5_2 : Int32), f_X7_digestOn_L5 f_g_size v_gl k x3_1 x5_2 = some res → ∀ (H : Heap) (locs : List Loc) (ls : Array Slot), va_P (xD X) vwCl [(a_g, .inr (7, [.ref a_gl, .int f_g_size])), (a_gl, .inl (xI X, 34, .inl v_gl))] H → va_D A [(a_g, .inr (7, [.ref a_gl, .int f_g_size])), (a_gl, .inl (xI X, 34, .inl v_gl))] → va_S A s.heap H locs → lv_has ls 6 [(0, .ref a_g), (3, .long x3_1), (5, .int x5_2)] → W p l e (rmF 1 21) s m args below meth c H locs 0 0 Q (F0 m 5 ls []) := by
    clear h
    intro k
    induction k with
    | zero => intro x3_1 x5_2 h; cases h
    | succ k ih_4 =>
      intro x3_1 x5_2 h H locs ls hP hD hS hl
      replace h : b_X7_digestOn_L5 f_g_size v_gl (fun x3_1 x5_2 => f_X7_digestOn_L5 f_g_size v_gl k x3_1 x5_2) x3_1 x5_2 = some res := h
      unfold b_X7_digestOn_L5 at h
      refine lv_iload hx hb dX7_digestOn_5 (lv_at hl 2 rfl) ?_
      refine lv_aload_n hx hb dX7_digestOn_7 rfl (lv_at hl 0 rfl) ?_
      refine va_get (D := xD X) (ci := 7) (v := .int f_g_size) (C := RX7) (T := TX7) (N := 2) hx hb hts inX7 hown hK hP 0 rfl rfl 1 (by decide) (hts _ wq_1_74) (fun _ h9 => h9) rfl dX7_digestOn_8 ?_
      refine lv_icmp_ge (tgt := 34) hx hb dX7_digestOn_11 (by decide) (fun c_5 => ?_) (fun c_5 => ?_)
      · replace h := it_p c_5 h
        refine lv_lload_n hx hb dX7_digestOn_34 rfl (lv_at hl 1 rfl) ?_
        obtain rfl := Option.some.inj h
        rw [← hQ]
        exact retL hB hS hP dX7_digestOn_35
      · replace h := it_n c_5 h
        refine lv_ldc2 (v := 31) hx hb hown (hts _ wq_4_99) dX7_digestOn_14 ?_
        refine lv_lload_n hx hb dX7_digestOn_17 rfl (lv_at hl 1 rfl) ?_
        refine lv_lmul hx hb dX7_digestOn_18 ?_
        refine lv_aload_n hx hb dX7_digestOn_19 rfl (lv_at hl 0 rfl) ?_
        refine lv_iload hx hb dX7_digestOn_20 (lv_at hl 2 rfl) ?_
        obtain ⟨u_6, hu_6, h⟩ := ob_s h
        refine cVi (C := RX7) (As := [.int x5_2]) (rest := [.long (31 * x3_1)]) [(a_g, .inr (7, [.ref a_gl, .int f_g_size])), (a_gl, .inl (xI X, 34, .inl v_gl))] hB (c_X7_at X l a_g a_gl f_g_size v_gl x5_2 u_6 hu_6) wq_2_69 wq_1_7 wq_2_66 wq_2_68 wp_2 hd_X7_at (by decide) hP hD hS hl.1 [0, 1] [] [] rfl (by decide +kernel) rfl rfl rfl (nn := 2) rfl (by decide +kernel) [a_g, a_gl] rfl rfl (q0 := 0) rfl rfl rfl rfl (Nat.le_of_ble_eq_true rfl) dX7_digestOn_22 ⟨Nat.zero_le _, Nat.zero_le _⟩ (fun H locs hP hD hS => ?_)
        refine lv_i2l (v := u_6.toInt64) hx hb dX7_digestOn_25 rfl ?_
        refine lv_ladd hx hb dX7_digestOn_26 ?_
        refine lv_topl (fun x3_7 ex3_7 => ?_)
        replace h := bn_s h ex3_7
        refine lv_lstore_n (lv' := [(3, .long x3_7), (0, .ref a_g), (5, .int x5_2)]) hx hb dX7_digestOn_27 rfl hl (by decide) rfl (fun ls hl => ?_)
        obtain ⟨x5_8, ex5_8⟩ : ∃ y : Int32, y = x5_2 + 1 := ⟨_, rfl⟩
        replace h := bn_s h ex5_8
        refine lv_iinc (v := x5_8) (lv' := [(5, .int x5_8), (3, .long x3_7), (0, .ref a_g)]) hx hb dX7_digestOn_28 hl (k := 2) rfl (by rw [ex5_8]; rfl) (by decide) rfl (fun ls hl => ?_)
        refine lv_goto (tgt := 5) hx hb dX7_digestOn_31 (by decide) ?_
        exact ih_4 x3_7 x5_8 h _ _ _ hP hD hS (lv_sub hl [2, 1, 0] rfl)
  exact L5_go_3 n p1 0 h _ _ _ hP hD hS (lv_sub hl [2, 1, 0] rfl)

