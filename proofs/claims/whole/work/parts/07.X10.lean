def b_J7_fill_53178_L5 (p1 : Int32) (N : Nat) (x3_1 : Int32) (go_4 : Int32 → (Nat → Int32) → Option ((Nat → Int32))) (x2_2 : Int32) (v_q0_3 : Nat → Int32) : Option ((Nat → Int32)) :=
  (if x3_1 ≤ x2_2 then (some v_q0_3) else (gd (inb x2_2 N) (bnd (x2_2 + 1) (fun x2_8 => (go_4 x2_8 (upd v_q0_3 x2_2.toNatClampNeg p1))))))
def f_J7_fill_53178_L5 (p1 : Int32) (N : Nat) (x3_1 : Int32) (k : Nat) (x2_2 : Int32) (v_q0_3 : Nat → Int32) : Option ((Nat → Int32)) :=
  lpF (fun (self : (Int32 × (Nat → Int32)) → Option ((Nat → Int32))) (a : Int32 × (Nat → Int32)) => b_J7_fill_53178_L5 p1 N x3_1 (fun x2_2 v_q0_3 => self (x2_2, v_q0_3)) a.1 a.2) k (x2_2, v_q0_3)
def f_J7_fill_53178 (n : Nat) (N : Nat) (v_q0 : Nat → Int32) (p1 : Int32) : Option ((Nat → Int32)) :=
  (bnd (Int32.ofNat N) (fun x3_1 => (f_J7_fill_53178_L5 p1 N x3_1 n 0 v_q0)))
theorem hd_J7_fill_53178 : yJ7_fill_53178.cls ≠ "java/lang/invoke/MethodHandle" ∧ yJ7_fill_53178.cls ≠ "java/lang/invoke/VarHandle" ∧ (parseMethodDescriptor yJ7_fill_53178.desc).map (fun d => d.parameters.length) = some 2 := ⟨by decide +kernel, by decide +kernel, by decide +kernel⟩
set_option maxHeartbeats 4000000 in
set_option maxRecDepth 100000 in
theorem c_J7_fill_53178 (X : CXp) (l : Launch) (n : Nat) (N : Nat) (a_q0 : Nat) (v_q0 : Nat → Int32) (p1 : Int32) (res : (Nat → Int32)) (h : f_J7_fill_53178 n N v_q0 p1 = some res) : CTg X l yJ7_fill_53178 cJ7_fill_53178 4 none 0 0 [.ref a_q0, .int p1] [(a_q0, .inl (xI X, N, .inl v_q0))] (QcV X [(a_q0, .inl (xI X, N, .inl res))]) := by
  refine CTg.mk (own := RJ7) (by decide) rfl (Nat.le_of_ble_eq_true rfl) ?_
  intro p e s m args below meth c A hB hP hD hS ls hl
  obtain ⟨hx, hb, hr, hml, hown, hts, hlocks, hcx, hA, hAB⟩ := id hB
  have hK := hcx.1
  generalize hQ : MQ below (QcV X [(a_q0, .inl (xI X, N, .inl res))] A) args s 0 0 A = Q
  replace hl : lv_has ls 4 [(0, .ref a_q0), (1, .int p1)] := hl
  unfold f_J7_fill_53178 at h
  refine lv_iconst (v := 0) hx hb dJ7_fill_53178_0 (by decide) ?_
  refine lv_istore_n (lv' := [(2, .int 0), (0, .ref a_q0), (1, .int p1)]) hx hb dJ7_fill_53178_1 rfl hl (by decide) rfl (fun ls hl => ?_)
  refine lv_aload_n hx hb dJ7_fill_53178_2 rfl (lv_at hl 1 rfl) ?_
  refine va_alen (v := (Int32.ofNat N)) hx hb hK hP 0 0 rfl rfl rfl dJ7_fill_53178_3 ?_
  refine lv_topi (fun x3_1 ex3_1 => ?_)
  replace h := bn_s h ex3_1
  refine lv_istore_n (lv' := [(3, .int x3_1), (2, .int 0), (0, .ref a_q0), (1, .int p1)]) hx hb dJ7_fill_53178_4 rfl hl (by decide) rfl (fun ls hl => ?_)
  have L5_go_4 : ∀ (k : Nat), ∀ (x2_2 : Int32) (v_q0_3 : Nat → Int32), f_J7_fill_53178_L5 p1 N x3_1 k x2_2 v_q0_3 = some res → ∀ (H : Heap) (locs : List Loc) (ls : Array Slot), va_P (xD X) vwCl [(a_q0, .inl (xI X, N, .inl v_q0_3))] H → va_D A [(a_q0, .inl (xI X, N, .inl v_q0_3))] → va_S A s.heap H locs → lv_has ls 4 [(0, .ref a_q0), (1, .int p1), (2, .int x2_2), (3, .int x3_1)] → W p l e (rmF 0 0) s m args below meth c H locs 0 0 Q (F0 m 5 ls []) := by
    clear h
    intro k
    induction k with
    | zero => intro x2_2 v_q0_3 h; cases h
    | succ k ih_5 =>
      intro x2_2 v_q0_3 h H locs ls hP hD hS hl
      replace h : b_J7_fill_53178_L5 p1 N x3_1 (fun x2_2 v_q0_3 => f_J7_fill_53178_L5 p1 N x3_1 k x2_2 v_q0_3) x2_2 v_q0_3 = some res := h
      unfold b_J7_fill_53178_L5 at h
      refine lv_iload_n hx hb dJ7_fill_53178_5 rfl (lv_at hl 2 rfl) ?_
      refine lv_iload_n hx hb dJ7_fill_53178_6 rfl (lv_at hl 3 rfl) ?_
      refine lv_icmp_ge (tgt := 20) hx hb dJ7_fill_53178_7 (by decide) (fun c_6 => ?_) (fun c_6 => ?_)
      · replace h := it_p c_6 h
        obtain rfl := Option.some.inj h
        rw [← hQ]
        exact retV hB hS hP dJ7_fill_53178_20
      · replace h := it_n c_6 h
        refine lv_aload_n hx hb dJ7_fill_53178_10 rfl (lv_at hl 0 rfl) ?_
        refine lv_iload_n hx hb dJ7_fill_53178_11 rfl (lv_at hl 2 rfl) ?_
        refine lv_iload_n hx hb dJ7_fill_53178_12 rfl (lv_at hl 1 rfl) ?_
        obtain ⟨z_7, h⟩ := gd_s h
        refine va_iast hx hb hK hP hD hS 0 0 rfl rfl (inb_vp z_7) dJ7_fill_53178_13 (fun H locs (hP : va_P (xD X) vwCl [(a_q0, .inl (xI X, N, .inl (upd v_q0_3 x2_2.toNatClampNeg p1)))] H) (hD : va_D A [(a_q0, .inl (xI X, N, .inl (upd v_q0_3 x2_2.toNatClampNeg p1)))]) hS => ?_)
        obtain ⟨x2_8, ex2_8⟩ : ∃ y : Int32, y = x2_2 + 1 := ⟨_, rfl⟩
        replace h := bn_s h ex2_8
        refine lv_iinc (v := x2_8) (lv' := [(2, .int x2_8), (0, .ref a_q0), (1, .int p1), (3, .int x3_1)]) hx hb dJ7_fill_53178_14 hl (k := 2) rfl (by rw [ex2_8]; rfl) (by decide) rfl (fun ls hl => ?_)
        refine lv_goto (tgt := 5) hx hb dJ7_fill_53178_17 (by decide) ?_
        exact ih_5 x2_8 (upd v_q0_3 x2_2.toNatClampNeg p1) h _ _ _ hP hD hS (lv_sub hl [1, 2, 0, 3] rfl)
  exact L5_go_4 n 0 v_q0 h _ _ _ hP hD hS (lv_sub hl [2, 3, 1, 0] rfl)


def f_X10_clear (n : Nat) (f_t_taken : Int64) (v_tc : Nat → Int32) : Option (Int64 × (Nat → Int32)) :=
  ((f_J7_fill_53178 n 7 v_tc (-1)).bind (fun u_1 => (some (0, u_1))))
theorem hd_X10_clear : yX10_clear.cls ≠ "java/lang/invoke/MethodHandle" ∧ yX10_clear.cls ≠ "java/lang/invoke/VarHandle" ∧ (parseMethodDescriptor yX10_clear.desc).map (fun d => d.parameters.length) = some 0 := ⟨by decide +kernel, by decide +kernel, by decide +kernel⟩
set_option maxHeartbeats 4000000 in
set_option maxRecDepth 100000 in
theorem c_X10_clear (X : CXp) (l : Launch) (n : Nat) (a_t a_tc a_tk a_tw : Nat) (f_t_taken : Int64) (f_t_size : Int32) (f_t_spot : Int32) (v_tc : Nat → Int32) (res : Int64 × (Nat → Int32)) (h : f_X10_clear n f_t_taken v_tc = some res) : CTg X l yX10_clear cX10_clear 1 none 1 23 [.ref a_t] [(a_t, .inr (10, [.ref a_tc, .ref a_tk, .ref a_tw, .long f_t_taken, .int f_t_size, .int f_t_spot])), (a_tc, .inl (xI X, 7, .inl v_tc))] (QcV X [(a_t, .inr (10, [.ref a_tc, .ref a_tk, .ref a_tw, .long res.1, .int f_t_size, .int f_t_spot])), (a_tc, .inl (xI X, 7, .inl res.2))]) := by
  refine CTg.mk (own := RX10) (by decide) rfl (Nat.le_of_ble_eq_true rfl) ?_
  intro p e s m args below meth c A hB hP hD hS ls hl
  obtain ⟨hx, hb, hr, hml, hown, hts, hlocks, hcx, hA, hAB⟩ := id hB
  have hK := hcx.1
  generalize hQ : MQ below (QcV X [(a_t, .inr (10, [.ref a_tc, .ref a_tk, .ref a_tw, .long res.1, .int f_t_size, .int f_t_spot])), (a_tc, .inl (xI X, 7, .inl res.2))] A) args s 0 0 A = Q
  replace hl : lv_has ls 1 [(0, .ref a_t)] := hl
  unfold f_X10_clear at h
  refine lv_aload_n hx hb dX10_clear_0 rfl (lv_at hl 0 rfl) ?_
  refine va_get (D := xD X) (ci := 10) (v := .ref a_tc) (C := RX10) (T := TX10) (N := 6) hx hb hts inX10 hown hK hP 0 rfl rfl 0 (by decide) (hts _ wq_1_97) (fun _ h9 => h9) rfl dX10_clear_1 ?_
  refine lv_iconst (v := (-1)) hx hb dX10_clear_4 (by decide) ?_
  obtain ⟨u_1, hu_1, h⟩ := ob_s h
  refine cSv (As := [.ref a_tc, .int (-1)]) (rest := []) [(a_t, .inr (10, [.ref a_tc, .ref a_tk, .ref a_tw, .long f_t_taken, .int f_t_size, .int f_t_spot])), (a_tc, .inl (xI X, 7, .inl u_1))] hB (c_J7_fill_53178 X l n 7 a_tc v_tc (-1) u_1 hu_1) wq_1_96 wq_1_10 wq_1_94 wq_1_95 hd_J7_fill_53178 (by decide) hP hD hS hl.1 [1] [0] [(a_t, .inr (10, [.ref a_tc, .ref a_tk, .ref a_tw, .long f_t_taken, .int f_t_size, .int f_t_spot]))] rfl (by decide +kernel) rfl rfl rfl (nn := 2) rfl (by decide +kernel) [a_t, a_tc] rfl rfl rfl rfl (Nat.le_of_ble_eq_true rfl) dX10_clear_5 ⟨Nat.zero_le _, Nat.zero_le _⟩ (fun H locs hP hD hS => ?_)
  refine lv_aload_n hx hb dX10_clear_8 rfl (lv_at hl 0 rfl) ?_
  refine lv_lconst (v := 0) hx hb dX10_clear_9 (by decide) ?_
  refine va_put (D := xD X) (ci := 10) (v := .long 0) (ty := .long) (C := RX10) (T := TX10) (N := 6) hx hb hts inX10 tyX10 tyX10_ok nmX10 hown hK hP hD hS 0 rfl rfl 3 (by decide) (hts _ wq_1_100) (fun _ h9 => h9) rfl (by decide +kernel) rfl rfl (Nat.le_of_ble_eq_true rfl) dX10_clear_10 (fun H locs (hP : va_P (xD X) vwCl [(a_t, .inr (10, [.ref a_tc, .ref a_tk, .ref a_tw, .long 0, .int f_t_size, .int f_t_spot])), (a_tc, .inl (xI X, 7, .inl u_1))] H) (hD : va_D A [(a_t, .inr (10, [.ref a_tc, .ref a_tk, .ref a_tw, .long 0, .int f_t_size, .int f_t_spot])), (a_tc, .inl (xI X, 7, .inl u_1))]) hS => ?_)
  obtain rfl := Option.some.inj h
  rw [← hQ]
  exact retV hB hS hP dX10_clear_13


def f_X10_copy (f_t_taken : Int64) (f_t_size : Int32) (f_t_spot : Int32) (v_tc : Nat → Int32) (v_tk : Nat → Int32) (v_tw : Nat → Int32) (f_o_taken : Int64) (f_o_size : Int32) (f_o_spot : Int32) (v_oc : Nat → Int32) (v_ok : Nat → Int32) (v_ow : Nat → Int32) : Option (Int64 × Int32 × Int32 × (Nat → Int32) × (Nat → Int32) × (Nat → Int32)) :=
  (some (f_o_taken, f_o_size, f_o_spot, v_oc, v_ok, v_ow))
theorem hd_X10_copy : yX10_copy.cls ≠ "java/lang/invoke/MethodHandle" ∧ yX10_copy.cls ≠ "java/lang/invoke/VarHandle" ∧ (parseMethodDescriptor yX10_copy.desc).map (fun d => d.parameters.length) = some 1 := ⟨by decide +kernel, by decide +kernel, by decide +kernel⟩
set_option maxHeartbeats 4000000 in
set_option maxRecDepth 100000 in
theorem c_X10_copy (X : CXp) (l : Launch) (a_t a_tc a_tk a_tw a_o a_oc a_ok a_ow : Nat) (f_t_taken : Int64) (f_t_size : Int32) (f_t_spot : Int32) (v_tc : Nat → Int32) (v_tk : Nat → Int32) (v_tw : Nat → Int32) (f_o_taken : Int64) (f_o_size : Int32) (f_o_spot : Int32) (v_oc : Nat → Int32) (v_ok : Nat → Int32) (v_ow : Nat → Int32) (res : Int64 × Int32 × Int32 × (Nat → Int32) × (Nat → Int32) × (Nat → Int32)) (h : f_X10_copy f_t_taken f_t_size f_t_spot v_tc v_tk v_tw f_o_taken f_o_size f_o_spot v_oc v_ok v_ow = some res) : CTg X l yX10_copy cX10_copy 2 none 1 40 [.ref a_t, .ref a_o] [(a_t, .inr (10, [.ref a_tc, .ref a_tk, .ref a_tw, .long f_t_taken, .int f_t_size, .int f_t_spot])), (a_tc, .inl (xI X, 7, .inl v_tc)), (a_tk, .inl (xI X, 7, .inl v_tk)), (a_tw, .inl (xI X, 7, .inl v_tw)), (a_o, .inr (10, [.ref a_oc, .ref a_ok, .ref a_ow, .long f_o_taken, .int f_o_size, .int f_o_spot])), (a_oc, .inl (xI X, 7, .inl v_oc)), (a_ok, .inl (xI X, 7, .inl v_ok)), (a_ow, .inl (xI X, 7, .inl v_ow))] (QcV X [(a_t, .inr (10, [.ref a_tc, .ref a_tk, .ref a_tw, .long res.1, .int res.2.1, .int res.2.2.1])), (a_tc, .inl (xI X, 7, .inl res.2.2.2.1)), (a_tk, .inl (xI X, 7, .inl res.2.2.2.2.1)), (a_tw, .inl (xI X, 7, .inl res.2.2.2.2.2)), (a_o, .inr (10, [.ref a_oc, .ref a_ok, .ref a_ow, .long f_o_taken, .int f_o_size, .int f_o_spot])), (a_oc, .inl (xI X, 7, .inl v_oc)), (a_ok, .inl (xI X, 7, .inl v_ok)), (a_ow, .inl (xI X, 7, .inl v_ow))]) := by
  refine CTg.mk (own := RX10) (by decide) rfl (Nat.le_of_ble_eq_true rfl) ?_
  intro p e s m args below meth c A hB hP hD hS ls hl
  obtain ⟨hx, hb, hr, hml, hown, hts, hlocks, hcx, hA, hAB⟩ := id hB
  have hK := hcx.1
  generalize hQ : MQ below (QcV X [(a_t, .inr (10, [.ref a_tc, .ref a_tk, .ref a_tw, .long res.1, .int res.2.1, .int res.2.2.1])), (a_tc, .inl (xI X, 7, .inl res.2.2.2.1)), (a_tk, .inl (xI X, 7, .inl res.2.2.2.2.1)), (a_tw, .inl (xI X, 7, .inl res.2.2.2.2.2)), (a_o, .inr (10, [.ref a_oc, .ref a_ok, .ref a_ow, .long f_o_taken, .int f_o_size, .int f_o_spot])), (a_oc, .inl (xI X, 7, .inl v_oc)), (a_ok, .inl (xI X, 7, .inl v_ok)), (a_ow, .inl (xI X, 7, .inl v_ow))] A) args s 0 0 A = Q
  replace hl : lv_has ls 2 [(0, .ref a_t), (1, .ref a_o)] := hl
  unfold f_X10_copy at h
  refine lv_aload_n hx hb dX10_copy_0 rfl (lv_at hl 1 rfl) ?_
  refine va_get (D := xD X) (ci := 10) (v := .ref a_oc) (C := RX10) (T := TX10) (N := 6) hx hb hts inX10 hown hK hP 4 rfl rfl 0 (by decide) (hts _ wq_1_97) (fun _ h9 => h9) rfl dX10_copy_1 ?_
  refine lv_iconst (v := 0) hx hb dX10_copy_4 (by decide) ?_
  refine lv_aload_n hx hb dX10_copy_5 rfl (lv_at hl 0 rfl) ?_
  refine va_get (D := xD X) (ci := 10) (v := .ref a_tc) (C := RX10) (T := TX10) (N := 6) hx hb hts inX10 hown hK hP 0 rfl rfl 0 (by decide) (hts _ wq_1_97) (fun _ h9 => h9) rfl dX10_copy_6 ?_
  refine lv_iconst (v := 0) hx hb dX10_copy_9 (by decide) ?_
  refine lv_aload_n hx hb dX10_copy_10 rfl (lv_at hl 0 rfl) ?_
  refine va_get (D := xD X) (ci := 10) (v := .ref a_tc) (C := RX10) (T := TX10) (N := 6) hx hb hts inX10 hown hK hP 0 rfl rfl 0 (by decide) (hts _ wq_1_97) (fun _ h9 => h9) rfl dX10_copy_11 ?_
  refine va_alen (v := 7) hx hb hK hP 1 0 rfl rfl rfl dX10_copy_14 ?_
  refine cp_full hB hl.1 wq_3_10 ⟨Nat.le_of_ble_eq_true rfl, Nat.le_of_ble_eq_true rfl⟩ hP hD hS 5 1 rfl rfl rfl (by decide) dX10_copy_15 (fun H locs (hP : va_P (xD X) vwCl [(a_t, .inr (10, [.ref a_tc, .ref a_tk, .ref a_tw, .long f_t_taken, .int f_t_size, .int f_t_spot])), (a_tc, .inl (xI X, 7, .inl v_oc)), (a_tk, .inl (xI X, 7, .inl v_tk)), (a_tw, .inl (xI X, 7, .inl v_tw)), (a_o, .inr (10, [.ref a_oc, .ref a_ok, .ref a_ow, .long f_o_taken, .int f_o_size, .int f_o_spot])), (a_oc, .inl (xI X, 7, .inl v_oc)), (a_ok, .inl (xI X, 7, .inl v_ok)), (a_ow, .inl (xI X, 7, .inl v_ow))] H) (hD : va_D A [(a_t, .inr (10, [.ref a_tc, .ref a_tk, .ref a_tw, .long f_t_taken, .int f_t_size, .int f_t_spot])), (a_tc, .inl (xI X, 7, .inl v_oc)), (a_tk, .inl (xI X, 7, .inl v_tk)), (a_tw, .inl (xI X, 7, .inl v_tw)), (a_o, .inr (10, [.ref a_oc, .ref a_ok, .ref a_ow, .long f_o_taken, .int f_o_size, .int f_o_spot])), (a_oc, .inl (xI X, 7, .inl v_oc)), (a_ok, .inl (xI X, 7, .inl v_ok)), (a_ow, .inl (xI X, 7, .inl v_ow))]) hS => ?_)
  refine lv_aload_n hx hb dX10_copy_18 rfl (lv_at hl 1 rfl) ?_
  refine va_get (D := xD X) (ci := 10) (v := .ref a_ok) (C := RX10) (T := TX10) (N := 6) hx hb hts inX10 hown hK hP 4 rfl rfl 1 (by decide) (hts _ wq_1_98) (fun _ h9 => h9) rfl dX10_copy_19 ?_
  refine lv_iconst (v := 0) hx hb dX10_copy_22 (by decide) ?_
  refine lv_aload_n hx hb dX10_copy_23 rfl (lv_at hl 0 rfl) ?_
  refine va_get (D := xD X) (ci := 10) (v := .ref a_tk) (C := RX10) (T := TX10) (N := 6) hx hb hts inX10 hown hK hP 0 rfl rfl 1 (by decide) (hts _ wq_1_98) (fun _ h9 => h9) rfl dX10_copy_24 ?_
  refine lv_iconst (v := 0) hx hb dX10_copy_27 (by decide) ?_
  refine lv_aload_n hx hb dX10_copy_28 rfl (lv_at hl 0 rfl) ?_
  refine va_get (D := xD X) (ci := 10) (v := .ref a_tk) (C := RX10) (T := TX10) (N := 6) hx hb hts inX10 hown hK hP 0 rfl rfl 1 (by decide) (hts _ wq_1_98) (fun _ h9 => h9) rfl dX10_copy_29 ?_
  refine va_alen (v := 7) hx hb hK hP 2 0 rfl rfl rfl dX10_copy_32 ?_
  refine cp_full hB hl.1 wq_3_10 ⟨Nat.le_of_ble_eq_true rfl, Nat.le_of_ble_eq_true rfl⟩ hP hD hS 6 2 rfl rfl rfl (by decide) dX10_copy_33 (fun H locs (hP : va_P (xD X) vwCl [(a_t, .inr (10, [.ref a_tc, .ref a_tk, .ref a_tw, .long f_t_taken, .int f_t_size, .int f_t_spot])), (a_tc, .inl (xI X, 7, .inl v_oc)), (a_tk, .inl (xI X, 7, .inl v_ok)), (a_tw, .inl (xI X, 7, .inl v_tw)), (a_o, .inr (10, [.ref a_oc, .ref a_ok, .ref a_ow, .long f_o_taken, .int f_o_size, .int f_o_spot])), (a_oc, .inl (xI X, 7, .inl v_oc)), (a_ok, .inl (xI X, 7, .inl v_ok)), (a_ow, .inl (xI X, 7, .inl v_ow))] H) (hD : va_D A [(a_t, .inr (10, [.ref a_tc, .ref a_tk, .ref a_tw, .long f_t_taken, .int f_t_size, .int f_t_spot])), (a_tc, .inl (xI X, 7, .inl v_oc)), (a_tk, .inl (xI X, 7, .inl v_ok)), (a_tw, .inl (xI X, 7, .inl v_tw)), (a_o, .inr (10, [.ref a_oc, .ref a_ok, .ref a_ow, .long f_o_taken, .int f_o_size, .int f_o_spot])), (a_oc, .inl (xI X, 7, .inl v_oc)), (a_ok, .inl (xI X, 7, .inl v_ok)), (a_ow, .inl (xI X, 7, .inl v_ow))]) hS => ?_)
  refine lv_aload_n hx hb dX10_copy_36 rfl (lv_at hl 1 rfl) ?_
  refine va_get (D := xD X) (ci := 10) (v := .ref a_ow) (C := RX10) (T := TX10) (N := 6) hx hb hts inX10 hown hK hP 4 rfl rfl 2 (by decide) (hts _ wq_1_99) (fun _ h9 => h9) rfl dX10_copy_37 ?_
  refine lv_iconst (v := 0) hx hb dX10_copy_40 (by decide) ?_
  refine lv_aload_n hx hb dX10_copy_41 rfl (lv_at hl 0 rfl) ?_
  refine va_get (D := xD X) (ci := 10) (v := .ref a_tw) (C := RX10) (T := TX10) (N := 6) hx hb hts inX10 hown hK hP 0 rfl rfl 2 (by decide) (hts _ wq_1_99) (fun _ h9 => h9) rfl dX10_copy_42 ?_
  refine lv_iconst (v := 0) hx hb dX10_copy_45 (by decide) ?_
  refine lv_aload_n hx hb dX10_copy_46 rfl (lv_at hl 0 rfl) ?_
  refine va_get (D := xD X) (ci := 10) (v := .ref a_tw) (C := RX10) (T := TX10) (N := 6) hx hb hts inX10 hown hK hP 0 rfl rfl 2 (by decide) (hts _ wq_1_99) (fun _ h9 => h9) rfl dX10_copy_47 ?_
  refine va_alen (v := 7) hx hb hK hP 3 0 rfl rfl rfl dX10_copy_50 ?_
  refine cp_full hB hl.1 wq_3_10 ⟨Nat.le_of_ble_eq_true rfl, Nat.le_of_ble_eq_true rfl⟩ hP hD hS 7 3 rfl rfl rfl (by decide) dX10_copy_51 (fun H locs (hP : va_P (xD X) vwCl [(a_t, .inr (10, [.ref a_tc, .ref a_tk, .ref a_tw, .long f_t_taken, .int f_t_size, .int f_t_spot])), (a_tc, .inl (xI X, 7, .inl v_oc)), (a_tk, .inl (xI X, 7, .inl v_ok)), (a_tw, .inl (xI X, 7, .inl v_ow)), (a_o, .inr (10, [.ref a_oc, .ref a_ok, .ref a_ow, .long f_o_taken, .int f_o_size, .int f_o_spot])), (a_oc, .inl (xI X, 7, .inl v_oc)), (a_ok, .inl (xI X, 7, .inl v_ok)), (a_ow, .inl (xI X, 7, .inl v_ow))] H) (hD : va_D A [(a_t, .inr (10, [.ref a_tc, .ref a_tk, .ref a_tw, .long f_t_taken, .int f_t_size, .int f_t_spot])), (a_tc, .inl (xI X, 7, .inl v_oc)), (a_tk, .inl (xI X, 7, .inl v_ok)), (a_tw, .inl (xI X, 7, .inl v_ow)), (a_o, .inr (10, [.ref a_oc, .ref a_ok, .ref a_ow, .long f_o_taken, .int f_o_size, .int f_o_spot])), (a_oc, .inl (xI X, 7, .inl v_oc)), (a_ok, .inl (xI X, 7, .inl v_ok)), (a_ow, .inl (xI X, 7, .inl v_ow))]) hS => ?_)
  refine lv_aload_n hx hb dX10_copy_54 rfl (lv_at hl 0 rfl) ?_
  refine lv_aload_n hx hb dX10_copy_55 rfl (lv_at hl 1 rfl) ?_
  refine va_get (D := xD X) (ci := 10) (v := .long f_o_taken) (C := RX10) (T := TX10) (N := 6) hx hb hts inX10 hown hK hP 4 rfl rfl 3 (by decide) (hts _ wq_1_100) (fun _ h9 => h9) rfl dX10_copy_56 ?_
  refine va_put (D := xD X) (ci := 10) (v := .long f_o_taken) (ty := .long) (C := RX10) (T := TX10) (N := 6) hx hb hts inX10 tyX10 tyX10_ok nmX10 hown hK hP hD hS 0 rfl rfl 3 (by decide) (hts _ wq_1_100) (fun _ h9 => h9) rfl (by decide +kernel) rfl rfl (Nat.le_of_ble_eq_true rfl) dX10_copy_59 (fun H locs (hP : va_P (xD X) vwCl [(a_t, .inr (10, [.ref a_tc, .ref a_tk, .ref a_tw, .long f_o_taken, .int f_t_size, .int f_t_spot])), (a_tc, .inl (xI X, 7, .inl v_oc)), (a_tk, .inl (xI X, 7, .inl v_ok)), (a_tw, .inl (xI X, 7, .inl v_ow)), (a_o, .inr (10, [.ref a_oc, .ref a_ok, .ref a_ow, .long f_o_taken, .int f_o_size, .int f_o_spot])), (a_oc, .inl (xI X, 7, .inl v_oc)), (a_ok, .inl (xI X, 7, .inl v_ok)), (a_ow, .inl (xI X, 7, .inl v_ow))] H) (hD : va_D A [(a_t, .inr (10, [.ref a_tc, .ref a_tk, .ref a_tw, .long f_o_taken, .int f_t_size, .int f_t_spot])), (a_tc, .inl (xI X, 7, .inl v_oc)), (a_tk, .inl (xI X, 7, .inl v_ok)), (a_tw, .inl (xI X, 7, .inl v_ow)), (a_o, .inr (10, [.ref a_oc, .ref a_ok, .ref a_ow, .long f_o_taken, .int f_o_size, .int f_o_spot])), (a_oc, .inl (xI X, 7, .inl v_oc)), (a_ok, .inl (xI X, 7, .inl v_ok)), (a_ow, .inl (xI X, 7, .inl v_ow))]) hS => ?_)
  refine lv_aload_n hx hb dX10_copy_62 rfl (lv_at hl 0 rfl) ?_
  refine lv_aload_n hx hb dX10_copy_63 rfl (lv_at hl 1 rfl) ?_
  refine va_get (D := xD X) (ci := 10) (v := .int f_o_size) (C := RX10) (T := TX10) (N := 6) hx hb hts inX10 hown hK hP 4 rfl rfl 4 (by decide) (hts _ wq_1_101) (fun _ h9 => h9) rfl dX10_copy_64 ?_
  refine va_put (D := xD X) (ci := 10) (v := .int f_o_size) (ty := .int) (C := RX10) (T := TX10) (N := 6) hx hb hts inX10 tyX10 tyX10_ok nmX10 hown hK hP hD hS 0 rfl rfl 4 (by decide) (hts _ wq_1_101) (fun _ h9 => h9) rfl (by decide +kernel) rfl rfl (Nat.le_of_ble_eq_true rfl) dX10_copy_67 (fun H locs (hP : va_P (xD X) vwCl [(a_t, .inr (10, [.ref a_tc, .ref a_tk, .ref a_tw, .long f_o_taken, .int f_o_size, .int f_t_spot])), (a_tc, .inl (xI X, 7, .inl v_oc)), (a_tk, .inl (xI X, 7, .inl v_ok)), (a_tw, .inl (xI X, 7, .inl v_ow)), (a_o, .inr (10, [.ref a_oc, .ref a_ok, .ref a_ow, .long f_o_taken, .int f_o_size, .int f_o_spot])), (a_oc, .inl (xI X, 7, .inl v_oc)), (a_ok, .inl (xI X, 7, .inl v_ok)), (a_ow, .inl (xI X, 7, .inl v_ow))] H) (hD : va_D A [(a_t, .inr (10, [.ref a_tc, .ref a_tk, .ref a_tw, .long f_o_taken, .int f_o_size, .int f_t_spot])), (a_tc, .inl (xI X, 7, .inl v_oc)), (a_tk, .inl (xI X, 7, .inl v_ok)), (a_tw, .inl (xI X, 7, .inl v_ow)), (a_o, .inr (10, [.ref a_oc, .ref a_ok, .ref a_ow, .long f_o_taken, .int f_o_size, .int f_o_spot])), (a_oc, .inl (xI X, 7, .inl v_oc)), (a_ok, .inl (xI X, 7, .inl v_ok)), (a_ow, .inl (xI X, 7, .inl v_ow))]) hS => ?_)
  refine lv_aload_n hx hb dX10_copy_70 rfl (lv_at hl 0 rfl) ?_
  refine lv_aload_n hx hb dX10_copy_71 rfl (lv_at hl 1 rfl) ?_
  refine va_get (D := xD X) (ci := 10) (v := .int f_o_spot) (C := RX10) (T := TX10) (N := 6) hx hb hts inX10 hown hK hP 4 rfl rfl 5 (by decide) (hts _ wq_1_104) (fun _ h9 => h9) rfl dX10_copy_72 ?_
  refine va_put (D := xD X) (ci := 10) (v := .int f_o_spot) (ty := .int) (C := RX10) (T := TX10) (N := 6) hx hb hts inX10 tyX10 tyX10_ok nmX10 hown hK hP hD hS 0 rfl rfl 5 (by decide) (hts _ wq_1_104) (fun _ h9 => h9) rfl (by decide +kernel) rfl rfl (Nat.le_of_ble_eq_true rfl) dX10_copy_75 (fun H locs (hP : va_P (xD X) vwCl [(a_t, .inr (10, [.ref a_tc, .ref a_tk, .ref a_tw, .long f_o_taken, .int f_o_size, .int f_o_spot])), (a_tc, .inl (xI X, 7, .inl v_oc)), (a_tk, .inl (xI X, 7, .inl v_ok)), (a_tw, .inl (xI X, 7, .inl v_ow)), (a_o, .inr (10, [.ref a_oc, .ref a_ok, .ref a_ow, .long f_o_taken, .int f_o_size, .int f_o_spot])), (a_oc, .inl (xI X, 7, .inl v_oc)), (a_ok, .inl (xI X, 7, .inl v_ok)), (a_ow, .inl (xI X, 7, .inl v_ow))] H) (hD : va_D A [(a_t, .inr (10, [.ref a_tc, .ref a_tk, .ref a_tw, .long f_o_taken, .int f_o_size, .int f_o_spot])), (a_tc, .inl (xI X, 7, .inl v_oc)), (a_tk, .inl (xI X, 7, .inl v_ok)), (a_tw, .inl (xI X, 7, .inl v_ow)), (a_o, .inr (10, [.ref a_oc, .ref a_ok, .ref a_ow, .long f_o_taken, .int f_o_size, .int f_o_spot])), (a_oc, .inl (xI X, 7, .inl v_oc)), (a_ok, .inl (xI X, 7, .inl v_ok)), (a_ow, .inl (xI X, 7, .inl v_ow))]) hS => ?_)
  obtain rfl := Option.some.inj h
  rw [← hQ]
  exact retV hB hS hP dX10_copy_78


def f_X10_cellOf (v_tc : Nat → Int32) (p1 : Int32) : Option (Int32) :=
  (jn ((some (-1))) (fun (j22_1 : Option (Int32)) => (if p1 < 0 then j22_1 else (if 7 ≤ p1 then j22_1 else (gd (inb p1 7) (some (v_tc p1.toNatClampNeg)))))))
theorem hd_X10_cellOf : yX10_cellOf.cls ≠ "java/lang/invoke/MethodHandle" ∧ yX10_cellOf.cls ≠ "java/lang/invoke/VarHandle" ∧ (parseMethodDescriptor yX10_cellOf.desc).map (fun d => d.parameters.length) = some 1 := ⟨by decide +kernel, by decide +kernel, by decide +kernel⟩
set_option maxHeartbeats 4000000 in
set_option maxRecDepth 100000 in
theorem c_X10_cellOf (X : CXp) (l : Launch) (a_t a_tc a_tk a_tw : Nat) (f_t_taken : Int64) (f_t_size : Int32) (f_t_spot : Int32) (v_tc : Nat → Int32) (p1 : Int32) (res : Int32) (h : f_X10_cellOf v_tc p1 = some res) : CTg X l yX10_cellOf cX10_cellOf 2 (some .int) 0 0 [.ref a_t, .int p1] [(a_t, .inr (10, [.ref a_tc, .ref a_tk, .ref a_tw, .long f_t_taken, .int f_t_size, .int f_t_spot])), (a_tc, .inl (xI X, 7, .inl v_tc))] (QcI X res [(a_t, .inr (10, [.ref a_tc, .ref a_tk, .ref a_tw, .long f_t_taken, .int f_t_size, .int f_t_spot])), (a_tc, .inl (xI X, 7, .inl v_tc))]) := by
  refine CTg.mk (own := RX10) (by decide) rfl (Nat.le_of_ble_eq_true rfl) ?_
  intro p e s m args below meth c A hB hP hD hS ls hl
  obtain ⟨hx, hb, hr, hml, hown, hts, hlocks, hcx, hA, hAB⟩ := id hB
  have hK := hcx.1
  generalize hQ : MQ below (QcI X res [(a_t, .inr (10, [.ref a_tc, .ref a_tk, .ref a_tw, .long f_t_taken, .int f_t_size, .int f_t_spot])), (a_tc, .inl (xI X, 7, .inl v_tc))] A) args s 0 0 A = Q
  replace hl : lv_has ls 2 [(0, .ref a_t), (1, .int p1)] := hl
  unfold f_X10_cellOf at h
  refine lv_iload_n hx hb dX10_cellOf_0 rfl (lv_at hl 1 rfl) ?_
  obtain ⟨j22_1, ej22_1, h⟩ := jn_s h
  have J22_1 : j22_1 = some res → ∀ (H : Heap) (locs : List Loc) (ls : Array Slot), va_P (xD X) vwCl [(a_t, .inr (10, [.ref a_tc, .ref a_tk, .ref a_tw, .long f_t_taken, .int f_t_size, .int f_t_spot])), (a_tc, .inl (xI X, 7, .inl v_tc))] H → va_D A [(a_t, .inr (10, [.ref a_tc, .ref a_tk, .ref a_tw, .long f_t_taken, .int f_t_size, .int f_t_spot])), (a_tc, .inl (xI X, 7, .inl v_tc))] → va_S A s.heap H locs → lv_has ls 2 [] → W p l e (rmF 0 0) s m args below meth c H locs 0 0 Q (F0 m 22 ls []) := by
    clear h
    intro h H locs ls hP hD hS hl
    rw [ej22_1] at h
    refine lv_iconst (v := (-1)) hx hb dX10_cellOf_22 (by decide) ?_
    obtain rfl := Option.some.inj h
    rw [← hQ]
    exact retI hB hS hP dX10_cellOf_23
  clear ej22_1
  refine lv_if_lt (tgt := 22) hx hb dX10_cellOf_1 (by decide) (fun c_2 => ?_) (fun c_2 => ?_)
  · replace h := it_p c_2 h
    exact J22_1 h _ _ _ hP hD hS (lv_sub hl [] rfl)
  · replace h := it_n c_2 h
    refine lv_iload_n hx hb dX10_cellOf_4 rfl (lv_at hl 1 rfl) ?_
    refine lv_aload_n hx hb dX10_cellOf_5 rfl (lv_at hl 0 rfl) ?_
    refine va_get (D := xD X) (ci := 10) (v := .ref a_tc) (C := RX10) (T := TX10) (N := 6) hx hb hts inX10 hown hK hP 0 rfl rfl 0 (by decide) (hts _ wq_1_97) (fun _ h9 => h9) rfl dX10_cellOf_6 ?_
    refine va_alen (v := 7) hx hb hK hP 1 0 rfl rfl rfl dX10_cellOf_9 ?_
    refine lv_icmp_ge (tgt := 22) hx hb dX10_cellOf_10 (by decide) (fun c_3 => ?_) (fun c_3 => ?_)
    · replace h := it_p c_3 h
      exact J22_1 h _ _ _ hP hD hS (lv_sub hl [] rfl)
    · replace h := it_n c_3 h
      refine lv_aload_n hx hb dX10_cellOf_13 rfl (lv_at hl 0 rfl) ?_
      refine va_get (D := xD X) (ci := 10) (v := .ref a_tc) (C := RX10) (T := TX10) (N := 6) hx hb hts inX10 hown hK hP 0 rfl rfl 0 (by decide) (hts _ wq_1_97) (fun _ h9 => h9) rfl dX10_cellOf_14 ?_
      refine lv_iload_n hx hb dX10_cellOf_17 rfl (lv_at hl 1 rfl) ?_
      obtain ⟨z_4, h⟩ := gd_s h
      refine va_iald hx hb hK hP 1 0 rfl rfl (inb_vp z_4) dX10_cellOf_18 ?_
      refine lv_goto (tgt := 23) hx hb dX10_cellOf_19 (by decide) ?_
      obtain rfl := Option.some.inj h
      rw [← hQ]
      exact retI hB hS hP dX10_cellOf_23


def f_X10_kindOf (v_tk : Nat → Int32) (p1 : Int32) : Option (Int32) :=
  (jn ((some 0)) (fun (j22_1 : Option (Int32)) => (if p1 < 0 then j22_1 else (if 7 ≤ p1 then j22_1 else (gd (inb p1 7) (some (v_tk p1.toNatClampNeg)))))))
theorem hd_X10_kindOf : yX10_kindOf.cls ≠ "java/lang/invoke/MethodHandle" ∧ yX10_kindOf.cls ≠ "java/lang/invoke/VarHandle" ∧ (parseMethodDescriptor yX10_kindOf.desc).map (fun d => d.parameters.length) = some 1 := ⟨by decide +kernel, by decide +kernel, by decide +kernel⟩
set_option maxHeartbeats 4000000 in
set_option maxRecDepth 100000 in
theorem c_X10_kindOf (X : CXp) (l : Launch) (a_t a_tc a_tk a_tw : Nat) (f_t_taken : Int64) (f_t_size : Int32) (f_t_spot : Int32) (v_tc : Nat → Int32) (v_tk : Nat → Int32) (p1 : Int32) (res : Int32) (h : f_X10_kindOf v_tk p1 = some res) : CTg X l yX10_kindOf cX10_kindOf 2 (some .int) 0 0 [.ref a_t, .int p1] [(a_t, .inr (10, [.ref a_tc, .ref a_tk, .ref a_tw, .long f_t_taken, .int f_t_size, .int f_t_spot])), (a_tc, .inl (xI X, 7, .inl v_tc)), (a_tk, .inl (xI X, 7, .inl v_tk))] (QcI X res [(a_t, .inr (10, [.ref a_tc, .ref a_tk, .ref a_tw, .long f_t_taken, .int f_t_size, .int f_t_spot])), (a_tc, .inl (xI X, 7, .inl v_tc)), (a_tk, .inl (xI X, 7, .inl v_tk))]) := by
  refine CTg.mk (own := RX10) (by decide) rfl (Nat.le_of_ble_eq_true rfl) ?_
  intro p e s m args below meth c A hB hP hD hS ls hl
  obtain ⟨hx, hb, hr, hml, hown, hts, hlocks, hcx, hA, hAB⟩ := id hB
  have hK := hcx.1
  generalize hQ : MQ below (QcI X res [(a_t, .inr (10, [.ref a_tc, .ref a_tk, .ref a_tw, .long f_t_taken, .int f_t_size, .int f_t_spot])), (a_tc, .inl (xI X, 7, .inl v_tc)), (a_tk, .inl (xI X, 7, .inl v_tk))] A) args s 0 0 A = Q
  replace hl : lv_has ls 2 [(0, .ref a_t), (1, .int p1)] := hl
  unfold f_X10_kindOf at h
  refine lv_iload_n hx hb dX10_kindOf_0 rfl (lv_at hl 1 rfl) ?_
  obtain ⟨j22_1, ej22_1, h⟩ := jn_s h
  have J22_1 : j22_1 = some res → ∀ (H : Heap) (locs : List Loc) (ls : Array Slot), va_P (xD X) vwCl [(a_t, .inr (10, [.ref a_tc, .ref a_tk, .ref a_tw, .long f_t_taken, .int f_t_size, .int f_t_spot])), (a_tc, .inl (xI X, 7, .inl v_tc)), (a_tk, .inl (xI X, 7, .inl v_tk))] H → va_D A [(a_t, .inr (10, [.ref a_tc, .ref a_tk, .ref a_tw, .long f_t_taken, .int f_t_size, .int f_t_spot])), (a_tc, .inl (xI X, 7, .inl v_tc)), (a_tk, .inl (xI X, 7, .inl v_tk))] → va_S A s.heap H locs → lv_has ls 2 [] → W p l e (rmF 0 0) s m args below meth c H locs 0 0 Q (F0 m 22 ls []) := by
    clear h
    intro h H locs ls hP hD hS hl
    rw [ej22_1] at h
    refine lv_iconst (v := 0) hx hb dX10_kindOf_22 (by decide) ?_
    obtain rfl := Option.some.inj h
    rw [← hQ]
    exact retI hB hS hP dX10_kindOf_23
  clear ej22_1
  refine lv_if_lt (tgt := 22) hx hb dX10_kindOf_1 (by decide) (fun c_2 => ?_) (fun c_2 => ?_)
  · replace h := it_p c_2 h
    exact J22_1 h _ _ _ hP hD hS (lv_sub hl [] rfl)
  · replace h := it_n c_2 h
    refine lv_iload_n hx hb dX10_kindOf_4 rfl (lv_at hl 1 rfl) ?_
    refine lv_aload_n hx hb dX10_kindOf_5 rfl (lv_at hl 0 rfl) ?_
    refine va_get (D := xD X) (ci := 10) (v := .ref a_tc) (C := RX10) (T := TX10) (N := 6) hx hb hts inX10 hown hK hP 0 rfl rfl 0 (by decide) (hts _ wq_1_97) (fun _ h9 => h9) rfl dX10_kindOf_6 ?_
    refine va_alen (v := 7) hx hb hK hP 1 0 rfl rfl rfl dX10_kindOf_9 ?_
    refine lv_icmp_ge (tgt := 22) hx hb dX10_kindOf_10 (by decide) (fun c_3 => ?_) (fun c_3 => ?_)
    · replace h := it_p c_3 h
      exact J22_1 h _ _ _ hP hD hS (lv_sub hl [] rfl)
    · replace h := it_n c_3 h
      refine lv_aload_n hx hb dX10_kindOf_13 rfl (lv_at hl 0 rfl) ?_
      refine va_get (D := xD X) (ci := 10) (v := .ref a_tk) (C := RX10) (T := TX10) (N := 6) hx hb hts inX10 hown hK hP 0 rfl rfl 1 (by decide) (hts _ wq_1_98) (fun _ h9 => h9) rfl dX10_kindOf_14 ?_
      refine lv_iload_n hx hb dX10_kindOf_17 rfl (lv_at hl 1 rfl) ?_
      obtain ⟨z_4, h⟩ := gd_s h
      refine va_iald hx hb hK hP 2 0 rfl rfl (inb_vp z_4) dX10_kindOf_18 ?_
      refine lv_goto (tgt := 23) hx hb dX10_kindOf_19 (by decide) ?_
      obtain rfl := Option.some.inj h
      rw [← hQ]
      exact retI hB hS hP dX10_kindOf_23


def f_X10_worthOf (v_tw : Nat → Int32) (p1 : Int32) : Option (Int32) :=
  (jn ((some 0)) (fun (j22_1 : Option (Int32)) => (if p1 < 0 then j22_1 else (if 7 ≤ p1 then j22_1 else (gd (inb p1 7) (some (v_tw p1.toNatClampNeg)))))))
theorem hd_X10_worthOf : yX10_worthOf.cls ≠ "java/lang/invoke/MethodHandle" ∧ yX10_worthOf.cls ≠ "java/lang/invoke/VarHandle" ∧ (parseMethodDescriptor yX10_worthOf.desc).map (fun d => d.parameters.length) = some 1 := ⟨by decide +kernel, by decide +kernel, by decide +kernel⟩
set_option maxHeartbeats 4000000 in
set_option maxRecDepth 100000 in
theorem c_X10_worthOf (X : CXp) (l : Launch) (a_t a_tc a_tk a_tw : Nat) (f_t_taken : Int64) (f_t_size : Int32) (f_t_spot : Int32) (v_tc : Nat → Int32) (v_tw : Nat → Int32) (p1 : Int32) (res : Int32) (h : f_X10_worthOf v_tw p1 = some res) : CTg X l yX10_worthOf cX10_worthOf 2 (some .int) 0 0 [.ref a_t, .int p1] [(a_t, .inr (10, [.ref a_tc, .ref a_tk, .ref a_tw, .long f_t_taken, .int f_t_size, .int f_t_spot])), (a_tc, .inl (xI X, 7, .inl v_tc)), (a_tw, .inl (xI X, 7, .inl v_tw))] (QcI X res [(a_t, .inr (10, [.ref a_tc, .ref a_tk, .ref a_tw, .long f_t_taken, .int f_t_size, .int f_t_spot])), (a_tc, .inl (xI X, 7, .inl v_tc)), (a_tw, .inl (xI X, 7, .inl v_tw))]) := by
  refine CTg.mk (own := RX10) (by decide) rfl (Nat.le_of_ble_eq_true rfl) ?_
  intro p e s m args below meth c A hB hP hD hS ls hl
  obtain ⟨hx, hb, hr, hml, hown, hts, hlocks, hcx, hA, hAB⟩ := id hB
  have hK := hcx.1
  generalize hQ : MQ below (QcI X res [(a_t, .inr (10, [.ref a_tc, .ref a_tk, .ref a_tw, .long f_t_taken, .int f_t_size, .int f_t_spot])), (a_tc, .inl (xI X, 7, .inl v_tc)), (a_tw, .inl (xI X, 7, .inl v_tw))] A) args s 0 0 A = Q
  replace hl : lv_has ls 2 [(0, .ref a_t), (1, .int p1)] := hl
  unfold f_X10_worthOf at h
  refine lv_iload_n hx hb dX10_worthOf_0 rfl (lv_at hl 1 rfl) ?_
  obtain ⟨j22_1, ej22_1, h⟩ := jn_s h
  have J22_1 : j22_1 = some res → ∀ (H : Heap) (locs : List Loc) (ls : Array Slot), va_P (xD X) vwCl [(a_t, .inr (10, [.ref a_tc, .ref a_tk, .ref a_tw, .long f_t_taken, .int f_t_size, .int f_t_spot])), (a_tc, .inl (xI X, 7, .inl v_tc)), (a_tw, .inl (xI X, 7, .inl v_tw))] H → va_D A [(a_t, .inr (10, [.ref a_tc, .ref a_tk, .ref a_tw, .long f_t_taken, .int f_t_size, .int f_t_spot])), (a_tc, .inl (xI X, 7, .inl v_tc)), (a_tw, .inl (xI X, 7, .inl v_tw))] → va_S A s.heap H locs → lv_has ls 2 [] → W p l e (rmF 0 0) s m args below meth c H locs 0 0 Q (F0 m 22 ls []) := by
    clear h
    intro h H locs ls hP hD hS hl
    rw [ej22_1] at h
    refine lv_iconst (v := 0) hx hb dX10_worthOf_22 (by decide) ?_
    obtain rfl := Option.some.inj h
    rw [← hQ]
    exact retI hB hS hP dX10_worthOf_23
  clear ej22_1
  refine lv_if_lt (tgt := 22) hx hb dX10_worthOf_1 (by decide) (fun c_2 => ?_) (fun c_2 => ?_)
  · replace h := it_p c_2 h
    exact J22_1 h _ _ _ hP hD hS (lv_sub hl [] rfl)
  · replace h := it_n c_2 h
    refine lv_iload_n hx hb dX10_worthOf_4 rfl (lv_at hl 1 rfl) ?_
    refine lv_aload_n hx hb dX10_worthOf_5 rfl (lv_at hl 0 rfl) ?_
    refine va_get (D := xD X) (ci := 10) (v := .ref a_tc) (C := RX10) (T := TX10) (N := 6) hx hb hts inX10 hown hK hP 0 rfl rfl 0 (by decide) (hts _ wq_1_97) (fun _ h9 => h9) rfl dX10_worthOf_6 ?_
    refine va_alen (v := 7) hx hb hK hP 1 0 rfl rfl rfl dX10_worthOf_9 ?_
    refine lv_icmp_ge (tgt := 22) hx hb dX10_worthOf_10 (by decide) (fun c_3 => ?_) (fun c_3 => ?_)
    · replace h := it_p c_3 h
      exact J22_1 h _ _ _ hP hD hS (lv_sub hl [] rfl)
    · replace h := it_n c_3 h
      refine lv_aload_n hx hb dX10_worthOf_13 rfl (lv_at hl 0 rfl) ?_
      refine va_get (D := xD X) (ci := 10) (v := .ref a_tw) (C := RX10) (T := TX10) (N := 6) hx hb hts inX10 hown hK hP 0 rfl rfl 2 (by decide) (hts _ wq_1_99) (fun _ h9 => h9) rfl dX10_worthOf_14 ?_
      refine lv_iload_n hx hb dX10_worthOf_17 rfl (lv_at hl 1 rfl) ?_
      obtain ⟨z_4, h⟩ := gd_s h
      refine va_iald hx hb hK hP 2 0 rfl rfl (inb_vp z_4) dX10_worthOf_18 ?_
      refine lv_goto (tgt := 23) hx hb dX10_worthOf_19 (by decide) ?_
      obtain rfl := Option.some.inj h
      rw [← hQ]
      exact retI hB hS hP dX10_worthOf_23


def f_X10_setKind (v_tk : Nat → Int32) (p1 : Int32) (p2 : Int32) : Option ((Nat → Int32)) :=
  (if p1 < 0 then (some v_tk) else (if 7 ≤ p1 then (some v_tk) else (gd (inb p1 7) (some (upd v_tk p1.toNatClampNeg p2)))))
theorem hd_X10_setKind : yX10_setKind.cls ≠ "java/lang/invoke/MethodHandle" ∧ yX10_setKind.cls ≠ "java/lang/invoke/VarHandle" ∧ (parseMethodDescriptor yX10_setKind.desc).map (fun d => d.parameters.length) = some 2 := ⟨by decide +kernel, by decide +kernel, by decide +kernel⟩
set_option maxHeartbeats 4000000 in
set_option maxRecDepth 100000 in
theorem c_X10_setKind (X : CXp) (l : Launch) (a_t a_tc a_tk a_tw : Nat) (f_t_taken : Int64) (f_t_size : Int32) (f_t_spot : Int32) (v_tc : Nat → Int32) (v_tk : Nat → Int32) (p1 : Int32) (p2 : Int32) (res : (Nat → Int32)) (h : f_X10_setKind v_tk p1 p2 = some res) : CTg X l yX10_setKind cX10_setKind 3 none 0 0 [.ref a_t, .int p1, .int p2] [(a_t, .inr (10, [.ref a_tc, .ref a_tk, .ref a_tw, .long f_t_taken, .int f_t_size, .int f_t_spot])), (a_tc, .inl (xI X, 7, .inl v_tc)), (a_tk, .inl (xI X, 7, .inl v_tk))] (QcV X [(a_t, .inr (10, [.ref a_tc, .ref a_tk, .ref a_tw, .long f_t_taken, .int f_t_size, .int f_t_spot])), (a_tc, .inl (xI X, 7, .inl v_tc)), (a_tk, .inl (xI X, 7, .inl res))]) := by
  refine CTg.mk (own := RX10) (by decide) rfl (Nat.le_of_ble_eq_true rfl) ?_
  intro p e s m args below meth c A hB hP hD hS ls hl
  obtain ⟨hx, hb, hr, hml, hown, hts, hlocks, hcx, hA, hAB⟩ := id hB
  have hK := hcx.1
  generalize hQ : MQ below (QcV X [(a_t, .inr (10, [.ref a_tc, .ref a_tk, .ref a_tw, .long f_t_taken, .int f_t_size, .int f_t_spot])), (a_tc, .inl (xI X, 7, .inl v_tc)), (a_tk, .inl (xI X, 7, .inl res))] A) args s 0 0 A = Q
  replace hl : lv_has ls 3 [(0, .ref a_t), (1, .int p1), (2, .int p2)] := hl
  unfold f_X10_setKind at h
  refine lv_iload_n hx hb dX10_setKind_0 rfl (lv_at hl 1 rfl) ?_
  refine lv_if_lt (tgt := 20) hx hb dX10_setKind_1 (by decide) (fun c_1 => ?_) (fun c_1 => ?_)
  · replace h := it_p c_1 h
    obtain rfl := Option.some.inj h
    rw [← hQ]
    exact retV hB hS hP dX10_setKind_20
  · replace h := it_n c_1 h
    refine lv_iload_n hx hb dX10_setKind_4 rfl (lv_at hl 1 rfl) ?_
    refine lv_aload_n hx hb dX10_setKind_5 rfl (lv_at hl 0 rfl) ?_
    refine va_get (D := xD X) (ci := 10) (v := .ref a_tc) (C := RX10) (T := TX10) (N := 6) hx hb hts inX10 hown hK hP 0 rfl rfl 0 (by decide) (hts _ wq_1_97) (fun _ h9 => h9) rfl dX10_setKind_6 ?_
    refine va_alen (v := 7) hx hb hK hP 1 0 rfl rfl rfl dX10_setKind_9 ?_
    refine lv_icmp_ge (tgt := 20) hx hb dX10_setKind_10 (by decide) (fun c_2 => ?_) (fun c_2 => ?_)
    · replace h := it_p c_2 h
      obtain rfl := Option.some.inj h
      rw [← hQ]
      exact retV hB hS hP dX10_setKind_20
    · replace h := it_n c_2 h
      refine lv_aload_n hx hb dX10_setKind_13 rfl (lv_at hl 0 rfl) ?_
      refine va_get (D := xD X) (ci := 10) (v := .ref a_tk) (C := RX10) (T := TX10) (N := 6) hx hb hts inX10 hown hK hP 0 rfl rfl 1 (by decide) (hts _ wq_1_98) (fun _ h9 => h9) rfl dX10_setKind_14 ?_
      refine lv_iload_n hx hb dX10_setKind_17 rfl (lv_at hl 1 rfl) ?_
      refine lv_iload_n hx hb dX10_setKind_18 rfl (lv_at hl 2 rfl) ?_
      obtain ⟨z_3, h⟩ := gd_s h
      refine va_iast hx hb hK hP hD hS 2 0 rfl rfl (inb_vp z_3) dX10_setKind_19 (fun H locs (hP : va_P (xD X) vwCl [(a_t, .inr (10, [.ref a_tc, .ref a_tk, .ref a_tw, .long f_t_taken, .int f_t_size, .int f_t_spot])), (a_tc, .inl (xI X, 7, .inl v_tc)), (a_tk, .inl (xI X, 7, .inl (upd v_tk p1.toNatClampNeg p2)))] H) (hD : va_D A [(a_t, .inr (10, [.ref a_tc, .ref a_tk, .ref a_tw, .long f_t_taken, .int f_t_size, .int f_t_spot])), (a_tc, .inl (xI X, 7, .inl v_tc)), (a_tk, .inl (xI X, 7, .inl (upd v_tk p1.toNatClampNeg p2)))]) hS => ?_)
      obtain rfl := Option.some.inj h
      rw [← hQ]
      exact retV hB hS hP dX10_setKind_20


def f_X10_setWorth (v_tw : Nat → Int32) (p1 : Int32) (p2 : Int32) : Option ((Nat → Int32)) :=
  (if p1 < 0 then (some v_tw) else (if 7 ≤ p1 then (some v_tw) else (gd (inb p1 7) (some (upd v_tw p1.toNatClampNeg p2)))))
theorem hd_X10_setWorth : yX10_setWorth.cls ≠ "java/lang/invoke/MethodHandle" ∧ yX10_setWorth.cls ≠ "java/lang/invoke/VarHandle" ∧ (parseMethodDescriptor yX10_setWorth.desc).map (fun d => d.parameters.length) = some 2 := ⟨by decide +kernel, by decide +kernel, by decide +kernel⟩
set_option maxHeartbeats 4000000 in
set_option maxRecDepth 100000 in
theorem c_X10_setWorth (X : CXp) (l : Launch) (a_t a_tc a_tk a_tw : Nat) (f_t_taken : Int64) (f_t_size : Int32) (f_t_spot : Int32) (v_tc : Nat → Int32) (v_tw : Nat → Int32) (p1 : Int32) (p2 : Int32) (res : (Nat → Int32)) (h : f_X10_setWorth v_tw p1 p2 = some res) : CTg X l yX10_setWorth cX10_setWorth 3 none 0 0 [.ref a_t, .int p1, .int p2] [(a_t, .inr (10, [.ref a_tc, .ref a_tk, .ref a_tw, .long f_t_taken, .int f_t_size, .int f_t_spot])), (a_tc, .inl (xI X, 7, .inl v_tc)), (a_tw, .inl (xI X, 7, .inl v_tw))] (QcV X [(a_t, .inr (10, [.ref a_tc, .ref a_tk, .ref a_tw, .long f_t_taken, .int f_t_size, .int f_t_spot])), (a_tc, .inl (xI X, 7, .inl v_tc)), (a_tw, .inl (xI X, 7, .inl res))]) := by
  refine CTg.mk (own := RX10) (by decide) rfl (Nat.le_of_ble_eq_true rfl) ?_
  intro p e s m args below meth c A hB hP hD hS ls hl
  obtain ⟨hx, hb, hr, hml, hown, hts, hlocks, hcx, hA, hAB⟩ := id hB
  have hK := hcx.1
  generalize hQ : MQ below (QcV X [(a_t, .inr (10, [.ref a_tc, .ref a_tk, .ref a_tw, .long f_t_taken, .int f_t_size, .int f_t_spot])), (a_tc, .inl (xI X, 7, .inl v_tc)), (a_tw, .inl (xI X, 7, .inl res))] A) args s 0 0 A = Q
  replace hl : lv_has ls 3 [(0, .ref a_t), (1, .int p1), (2, .int p2)] := hl
  unfold f_X10_setWorth at h
  refine lv_iload_n hx hb dX10_setWorth_0 rfl (lv_at hl 1 rfl) ?_
  refine lv_if_lt (tgt := 20) hx hb dX10_setWorth_1 (by decide) (fun c_1 => ?_) (fun c_1 => ?_)
  · replace h := it_p c_1 h
    obtain rfl := Option.some.inj h
    rw [← hQ]
    exact retV hB hS hP dX10_setWorth_20
  · replace h := it_n c_1 h
    refine lv_iload_n hx hb dX10_setWorth_4 rfl (lv_at hl 1 rfl) ?_
    refine lv_aload_n hx hb dX10_setWorth_5 rfl (lv_at hl 0 rfl) ?_
    refine va_get (D := xD X) (ci := 10) (v := .ref a_tc) (C := RX10) (T := TX10) (N := 6) hx hb hts inX10 hown hK hP 0 rfl rfl 0 (by decide) (hts _ wq_1_97) (fun _ h9 => h9) rfl dX10_setWorth_6 ?_
    refine va_alen (v := 7) hx hb hK hP 1 0 rfl rfl rfl dX10_setWorth_9 ?_
    refine lv_icmp_ge (tgt := 20) hx hb dX10_setWorth_10 (by decide) (fun c_2 => ?_) (fun c_2 => ?_)
    · replace h := it_p c_2 h
      obtain rfl := Option.some.inj h
      rw [← hQ]
      exact retV hB hS hP dX10_setWorth_20
    · replace h := it_n c_2 h
      refine lv_aload_n hx hb dX10_setWorth_13 rfl (lv_at hl 0 rfl) ?_
      refine va_get (D := xD X) (ci := 10) (v := .ref a_tw) (C := RX10) (T := TX10) (N := 6) hx hb hts inX10 hown hK hP 0 rfl rfl 2 (by decide) (hts _ wq_1_99) (fun _ h9 => h9) rfl dX10_setWorth_14 ?_
      refine lv_iload_n hx hb dX10_setWorth_17 rfl (lv_at hl 1 rfl) ?_
      refine lv_iload_n hx hb dX10_setWorth_18 rfl (lv_at hl 2 rfl) ?_
      obtain ⟨z_3, h⟩ := gd_s h
      refine va_iast hx hb hK hP hD hS 2 0 rfl rfl (inb_vp z_3) dX10_setWorth_19 (fun H locs (hP : va_P (xD X) vwCl [(a_t, .inr (10, [.ref a_tc, .ref a_tk, .ref a_tw, .long f_t_taken, .int f_t_size, .int f_t_spot])), (a_tc, .inl (xI X, 7, .inl v_tc)), (a_tw, .inl (xI X, 7, .inl (upd v_tw p1.toNatClampNeg p2)))] H) (hD : va_D A [(a_t, .inr (10, [.ref a_tc, .ref a_tk, .ref a_tw, .long f_t_taken, .int f_t_size, .int f_t_spot])), (a_tc, .inl (xI X, 7, .inl v_tc)), (a_tw, .inl (xI X, 7, .inl (upd v_tw p1.toNatClampNeg p2)))]) hS => ?_)
      obtain rfl := Option.some.inj h
      rw [← hQ]
      exact retV hB hS hP dX10_setWorth_20


def f_X10_lay (f_t_taken : Int64) (v_tc : Nat → Int32) (p1 : Int32) (p2 : Int32) : Option (Int64 × (Nat → Int32)) :=
  (if p1 < 0 then (some (f_t_taken, v_tc)) else (if p1 < 7 then (gd (inb p1 7) (jn (fun (f_t_taken_4 : Int64) => (jn (fun (f_t_taken_6 : Int64) => (gd (inb p1 7) (some (f_t_taken_6, (upd v_tc p1.toNatClampNeg p2))))) (fun (j62_7 : Int64 → Option (Int64 × (Nat → Int32))) => (if p2 = (-1) then (j62_7 f_t_taken_4) else (j62_7 (f_t_taken_4 ||| (1 <<< (p2.toInt64 &&& 63)))))))) (fun (j45_5 : Int64 → Option (Int64 × (Nat → Int32))) => (if (v_tc p1.toNatClampNeg) = (-1) then (j45_5 f_t_taken) else (gd (inb p1 7) (j45_5 (f_t_taken &&& ((1 <<< ((v_tc p1.toNatClampNeg).toInt64 &&& 63)) ^^^ (-1))))))))) else (some (f_t_taken, v_tc))))
theorem hd_X10_lay : yX10_lay.cls ≠ "java/lang/invoke/MethodHandle" ∧ yX10_lay.cls ≠ "java/lang/invoke/VarHandle" ∧ (parseMethodDescriptor yX10_lay.desc).map (fun d => d.parameters.length) = some 2 := ⟨by decide +kernel, by decide +kernel, by decide +kernel⟩
set_option maxHeartbeats 4000000 in
set_option maxRecDepth 100000 in
theorem c_X10_lay (X : CXp) (l : Launch) (a_t a_tc a_tk a_tw : Nat) (f_t_taken : Int64) (f_t_size : Int32) (f_t_spot : Int32) (v_tc : Nat → Int32) (p1 : Int32) (p2 : Int32) (res : Int64 × (Nat → Int32)) (h : f_X10_lay f_t_taken v_tc p1 p2 = some res) : CTg X l yX10_lay cX10_lay 3 none 0 0 [.ref a_t, .int p1, .int p2] [(a_t, .inr (10, [.ref a_tc, .ref a_tk, .ref a_tw, .long f_t_taken, .int f_t_size, .int f_t_spot])), (a_tc, .inl (xI X, 7, .inl v_tc))] (QcV X [(a_t, .inr (10, [.ref a_tc, .ref a_tk, .ref a_tw, .long res.1, .int f_t_size, .int f_t_spot])), (a_tc, .inl (xI X, 7, .inl res.2))]) := by
  refine CTg.mk (own := RX10) (by decide) rfl (Nat.le_of_ble_eq_true rfl) ?_
  intro p e s m args below meth c A hB hP hD hS ls hl
  obtain ⟨hx, hb, hr, hml, hown, hts, hlocks, hcx, hA, hAB⟩ := id hB
  have hK := hcx.1
  generalize hQ : MQ below (QcV X [(a_t, .inr (10, [.ref a_tc, .ref a_tk, .ref a_tw, .long res.1, .int f_t_size, .int f_t_spot])), (a_tc, .inl (xI X, 7, .inl res.2))] A) args s 0 0 A = Q
  replace hl : lv_has ls 3 [(0, .ref a_t), (1, .int p1), (2, .int p2)] := hl
  unfold f_X10_lay at h
  refine lv_iload_n hx hb dX10_lay_0 rfl (lv_at hl 1 rfl) ?_
  refine lv_if_lt (tgt := 13) hx hb dX10_lay_1 (by decide) (fun c_1 => ?_) (fun c_1 => ?_)
  · replace h := it_p c_1 h
    obtain rfl := Option.some.inj h
    rw [← hQ]
    exact retV hB hS hP dX10_lay_13
  · replace h := it_n c_1 h
    refine lv_iload_n hx hb dX10_lay_4 rfl (lv_at hl 1 rfl) ?_
    refine lv_aload_n hx hb dX10_lay_5 rfl (lv_at hl 0 rfl) ?_
    refine va_get (D := xD X) (ci := 10) (v := .ref a_tc) (C := RX10) (T := TX10) (N := 6) hx hb hts inX10 hown hK hP 0 rfl rfl 0 (by decide) (hts _ wq_1_97) (fun _ h9 => h9) rfl dX10_lay_6 ?_
    refine va_alen (v := 7) hx hb hK hP 1 0 rfl rfl rfl dX10_lay_9 ?_
    refine lv_icmp_lt (tgt := 14) hx hb dX10_lay_10 (by decide) (fun c_2 => ?_) (fun c_2 => ?_)
    · replace h := it_p c_2 h
      refine lv_aload_n hx hb dX10_lay_14 rfl (lv_at hl 0 rfl) ?_
      refine va_get (D := xD X) (ci := 10) (v := .ref a_tc) (C := RX10) (T := TX10) (N := 6) hx hb hts inX10 hown hK hP 0 rfl rfl 0 (by decide) (hts _ wq_1_97) (fun _ h9 => h9) rfl dX10_lay_15 ?_
      refine lv_iload_n hx hb dX10_lay_18 rfl (lv_at hl 1 rfl) ?_
      obtain ⟨z_3, h⟩ := gd_s h
      refine va_iald hx hb hK hP 1 0 rfl rfl (inb_vp z_3) dX10_lay_19 ?_
      refine lv_iconst (v := (-1)) hx hb dX10_lay_20 (by decide) ?_
      obtain ⟨j45_5, ej45_5, h⟩ := jn_s h
      have J45_5 : ∀ (f_t_taken_4 : Int64), j45_5 f_t_taken_4 = some res → ∀ (H : Heap) (locs : List Loc) (ls : Array Slot), va_P (xD X) vwCl [(a_t, .inr (10, [.ref a_tc, .ref a_tk, .ref a_tw, .long f_t_taken_4, .int f_t_size, .int f_t_spot])), (a_tc, .inl (xI X, 7, .inl v_tc))] H → va_D A [(a_t, .inr (10, [.ref a_tc, .ref a_tk, .ref a_tw, .long f_t_taken_4, .int f_t_size, .int f_t_spot])), (a_tc, .inl (xI X, 7, .inl v_tc))] → va_S A s.heap H locs → lv_has ls 3 [(0, .ref a_t), (1, .int p1), (2, .int p2)] → W p l e (rmF 0 0) s m args below meth c H locs 0 0 Q (F0 m 45 ls []) := by
        clear h
        intro f_t_taken_4 h H locs ls hP hD hS hl
        rw [ej45_5] at h
        replace h := id h
        refine lv_iload_n hx hb dX10_lay_45 rfl (lv_at hl 2 rfl) ?_
        refine lv_iconst (v := (-1)) hx hb dX10_lay_46 (by decide) ?_
        obtain ⟨j62_7, ej62_7, h⟩ := jn_s h
        have J62_7 : ∀ (f_t_taken_6 : Int64), j62_7 f_t_taken_6 = some res → ∀ (H : Heap) (locs : List Loc) (ls : Array Slot), va_P (xD X) vwCl [(a_t, .inr (10, [.ref a_tc, .ref a_tk, .ref a_tw, .long f_t_taken_6, .int f_t_size, .int f_t_spot])), (a_tc, .inl (xI X, 7, .inl v_tc))] H → va_D A [(a_t, .inr (10, [.ref a_tc, .ref a_tk, .ref a_tw, .long f_t_taken_6, .int f_t_size, .int f_t_spot])), (a_tc, .inl (xI X, 7, .inl v_tc))] → va_S A s.heap H locs → lv_has ls 3 [(0, .ref a_t), (1, .int p1), (2, .int p2)] → W p l e (rmF 0 0) s m args below meth c H locs 0 0 Q (F0 m 62 ls []) := by
          clear h
          intro f_t_taken_6 h H locs ls hP hD hS hl
          rw [ej62_7] at h
          replace h := id h
          refine lv_aload_n hx hb dX10_lay_62 rfl (lv_at hl 0 rfl) ?_
          refine va_get (D := xD X) (ci := 10) (v := .ref a_tc) (C := RX10) (T := TX10) (N := 6) hx hb hts inX10 hown hK hP 0 rfl rfl 0 (by decide) (hts _ wq_1_97) (fun _ h9 => h9) rfl dX10_lay_63 ?_
          refine lv_iload_n hx hb dX10_lay_66 rfl (lv_at hl 1 rfl) ?_
          refine lv_iload_n hx hb dX10_lay_67 rfl (lv_at hl 2 rfl) ?_
          obtain ⟨z_8, h⟩ := gd_s h
          refine va_iast hx hb hK hP hD hS 1 0 rfl rfl (inb_vp z_8) dX10_lay_68 (fun H locs (hP : va_P (xD X) vwCl [(a_t, .inr (10, [.ref a_tc, .ref a_tk, .ref a_tw, .long f_t_taken_6, .int f_t_size, .int f_t_spot])), (a_tc, .inl (xI X, 7, .inl (upd v_tc p1.toNatClampNeg p2)))] H) (hD : va_D A [(a_t, .inr (10, [.ref a_tc, .ref a_tk, .ref a_tw, .long f_t_taken_6, .int f_t_size, .int f_t_spot])), (a_tc, .inl (xI X, 7, .inl (upd v_tc p1.toNatClampNeg p2)))]) hS => ?_)
          obtain rfl := Option.some.inj h
          rw [← hQ]
          exact retV hB hS hP dX10_lay_69
        clear ej62_7
        refine lv_icmp_eq (tgt := 62) hx hb dX10_lay_47 (by decide) (fun c_9 => ?_) (fun c_9 => ?_)
        · replace h := it_p c_9 h
          exact J62_7 f_t_taken_4 h _ _ _ hP hD hS (lv_sub hl [0, 1, 2] rfl)
        · replace h := it_n c_9 h
          refine lv_aload_n hx hb dX10_lay_50 rfl (lv_at hl 0 rfl) ?_
          refine lv_dup hx hb dX10_lay_51 rfl ?_
          refine va_get (D := xD X) (ci := 10) (v := .long f_t_taken_4) (C := RX10) (T := TX10) (N := 6) hx hb hts inX10 hown hK hP 0 rfl rfl 3 (by decide) (hts _ wq_1_100) (fun _ h9 => h9) rfl dX10_lay_52 ?_
          refine lv_lconst (v := 1) hx hb dX10_lay_55 (by decide) ?_
          refine lv_iload_n hx hb dX10_lay_56 rfl (lv_at hl 2 rfl) ?_
          refine lv_lshl (v := (1 <<< (p2.toInt64 &&& 63))) hx hb dX10_lay_57 rfl ?_
          refine lv_lor hx hb dX10_lay_58 ?_
          refine va_put (D := xD X) (ci := 10) (v := .long (f_t_taken_4 ||| (1 <<< (p2.toInt64 &&& 63)))) (ty := .long) (C := RX10) (T := TX10) (N := 6) hx hb hts inX10 tyX10 tyX10_ok nmX10 hown hK hP hD hS 0 rfl rfl 3 (by decide) (hts _ wq_1_100) (fun _ h9 => h9) rfl (by decide +kernel) rfl rfl (Nat.le_of_ble_eq_true rfl) dX10_lay_59 (fun H locs (hP : va_P (xD X) vwCl [(a_t, .inr (10, [.ref a_tc, .ref a_tk, .ref a_tw, .long (f_t_taken_4 ||| (1 <<< (p2.toInt64 &&& 63))), .int f_t_size, .int f_t_spot])), (a_tc, .inl (xI X, 7, .inl v_tc))] H) (hD : va_D A [(a_t, .inr (10, [.ref a_tc, .ref a_tk, .ref a_tw, .long (f_t_taken_4 ||| (1 <<< (p2.toInt64 &&& 63))), .int f_t_size, .int f_t_spot])), (a_tc, .inl (xI X, 7, .inl v_tc))]) hS => ?_)
          exact J62_7 (f_t_taken_4 ||| (1 <<< (p2.toInt64 &&& 63))) h _ _ _ hP hD hS (lv_sub hl [0, 1, 2] rfl)
      clear ej45_5
      refine lv_icmp_eq (tgt := 45) hx hb dX10_lay_21 (by decide) (fun c_10 => ?_) (fun c_10 => ?_)
      · replace h := it_p c_10 h
        exact J45_5 f_t_taken h _ _ _ hP hD hS (lv_sub hl [0, 1, 2] rfl)
      · replace h := it_n c_10 h
        refine lv_aload_n hx hb dX10_lay_24 rfl (lv_at hl 0 rfl) ?_
        refine lv_dup hx hb dX10_lay_25 rfl ?_
        refine va_get (D := xD X) (ci := 10) (v := .long f_t_taken) (C := RX10) (T := TX10) (N := 6) hx hb hts inX10 hown hK hP 0 rfl rfl 3 (by decide) (hts _ wq_1_100) (fun _ h9 => h9) rfl dX10_lay_26 ?_
        refine lv_lconst (v := 1) hx hb dX10_lay_29 (by decide) ?_
        refine lv_aload_n hx hb dX10_lay_30 rfl (lv_at hl 0 rfl) ?_
        refine va_get (D := xD X) (ci := 10) (v := .ref a_tc) (C := RX10) (T := TX10) (N := 6) hx hb hts inX10 hown hK hP 0 rfl rfl 0 (by decide) (hts _ wq_1_97) (fun _ h9 => h9) rfl dX10_lay_31 ?_
        refine lv_iload_n hx hb dX10_lay_34 rfl (lv_at hl 1 rfl) ?_
        obtain ⟨z_11, h⟩ := gd_s h
        refine va_iald hx hb hK hP 1 0 rfl rfl (inb_vp z_11) dX10_lay_35 ?_
        refine lv_lshl (v := (1 <<< ((v_tc p1.toNatClampNeg).toInt64 &&& 63))) hx hb dX10_lay_36 rfl ?_
        refine lv_ldc2 (v := (-1)) hx hb hown (hts _ wq_2_201) dX10_lay_37 ?_
        refine lv_lxor hx hb dX10_lay_40 ?_
        refine lv_land hx hb dX10_lay_41 ?_
        refine va_put (D := xD X) (ci := 10) (v := .long (f_t_taken &&& ((1 <<< ((v_tc p1.toNatClampNeg).toInt64 &&& 63)) ^^^ (-1)))) (ty := .long) (C := RX10) (T := TX10) (N := 6) hx hb hts inX10 tyX10 tyX10_ok nmX10 hown hK hP hD hS 0 rfl rfl 3 (by decide) (hts _ wq_1_100) (fun _ h9 => h9) rfl (by decide +kernel) rfl rfl (Nat.le_of_ble_eq_true rfl) dX10_lay_42 (fun H locs (hP : va_P (xD X) vwCl [(a_t, .inr (10, [.ref a_tc, .ref a_tk, .ref a_tw, .long (f_t_taken &&& ((1 <<< ((v_tc p1.toNatClampNeg).toInt64 &&& 63)) ^^^ (-1))), .int f_t_size, .int f_t_spot])), (a_tc, .inl (xI X, 7, .inl v_tc))] H) (hD : va_D A [(a_t, .inr (10, [.ref a_tc, .ref a_tk, .ref a_tw, .long (f_t_taken &&& ((1 <<< ((v_tc p1.toNatClampNeg).toInt64 &&& 63)) ^^^ (-1))), .int f_t_size, .int f_t_spot])), (a_tc, .inl (xI X, 7, .inl v_tc))]) hS => ?_)
        exact J45_5 (f_t_taken &&& ((1 <<< ((v_tc p1.toNatClampNeg).toInt64 &&& 63)) ^^^ (-1))) h _ _ _ hP hD hS (lv_sub hl [0, 1, 2] rfl)
    · replace h := it_n c_2 h
      obtain rfl := Option.some.inj h
      rw [← hQ]
      exact retV hB hS hP dX10_lay_13


def b_X10_ballIn_L17 (v_tc : Nat → Int32) (p1 : Int32) (go_3 : Int32 → Option (Int32)) (x2_2 : Int32) : Option (Int32) :=
  (if 7 ≤ x2_2 then (some (-1)) else (gd (inb x2_2 7) (if (v_tc x2_2.toNatClampNeg) = p1 then (some x2_2) else (bnd (x2_2 + 1) (fun x2_8 => (go_3 x2_8))))))
def f_X10_ballIn_L17 (v_tc : Nat → Int32) (p1 : Int32) (k : Nat) (x2_2 : Int32) : Option (Int32) :=
  lpF (fun (self : Int32 → Option (Int32)) (a : Int32) => b_X10_ballIn_L17 v_tc p1 (fun x2_2 => self x2_2) a) k x2_2
def f_X10_ballIn (n : Nat) (f_t_taken : Int64) (v_tc : Nat → Int32) (p1 : Int32) : Option (Int32) :=
  (if (lg_cmp (((f_t_taken.toUInt64 >>> (p1.toInt64.toUInt64 &&& Int64.toUInt64 63)).toInt64) &&& 1) 0) = 0 then (some (-1)) else (f_X10_ballIn_L17 v_tc p1 n 0))
theorem hd_X10_ballIn : yX10_ballIn.cls ≠ "java/lang/invoke/MethodHandle" ∧ yX10_ballIn.cls ≠ "java/lang/invoke/VarHandle" ∧ (parseMethodDescriptor yX10_ballIn.desc).map (fun d => d.parameters.length) = some 1 := ⟨by decide +kernel, by decide +kernel, by decide +kernel⟩
set_option maxHeartbeats 4000000 in
set_option maxRecDepth 100000 in
theorem c_X10_ballIn (X : CXp) (l : Launch) (n : Nat) (a_t a_tc a_tk a_tw : Nat) (f_t_taken : Int64) (f_t_size : Int32) (f_t_spot : Int32) (v_tc : Nat → Int32) (p1 : Int32) (res : Int32) (h : f_X10_ballIn n f_t_taken v_tc p1 = some res) : CTg X l yX10_ballIn cX10_ballIn 3 (some .int) 0 0 [.ref a_t, .int p1] [(a_t, .inr (10, [.ref a_tc, .ref a_tk, .ref a_tw, .long f_t_taken, .int f_t_size, .int f_t_spot])), (a_tc, .inl (xI X, 7, .inl v_tc))] (QcI X res [(a_t, .inr (10, [.ref a_tc, .ref a_tk, .ref a_tw, .long f_t_taken, .int f_t_size, .int f_t_spot])), (a_tc, .inl (xI X, 7, .inl v_tc))]) := by
  refine CTg.mk (own := RX10) (by decide) rfl (Nat.le_of_ble_eq_true rfl) ?_
  intro p e s m args below meth c A hB hP hD hS ls hl
  obtain ⟨hx, hb, hr, hml, hown, hts, hlocks, hcx, hA, hAB⟩ := id hB
  have hK := hcx.1
  generalize hQ : MQ below (QcI X res [(a_t, .inr (10, [.ref a_tc, .ref a_tk, .ref a_tw, .long f_t_taken, .int f_t_size, .int f_t_spot])), (a_tc, .inl (xI X, 7, .inl v_tc))] A) args s 0 0 A = Q
  replace hl : lv_has ls 3 [(0, .ref a_t), (1, .int p1)] := hl
  unfold f_X10_ballIn at h
  refine lv_aload_n hx hb dX10_ballIn_0 rfl (lv_at hl 0 rfl) ?_
  refine va_get (D := xD X) (ci := 10) (v := .long f_t_taken) (C := RX10) (T := TX10) (N := 6) hx hb hts inX10 hown hK hP 0 rfl rfl 3 (by decide) (hts _ wq_1_100) (fun _ h9 => h9) rfl dX10_ballIn_1 ?_
  refine lv_iload_n hx hb dX10_ballIn_4 rfl (lv_at hl 1 rfl) ?_
  refine lv_lushr (v := (f_t_taken.toUInt64 >>> (p1.toInt64.toUInt64 &&& Int64.toUInt64 63)).toInt64) hx hb dX10_ballIn_5 rfl ?_
  refine lv_lconst (v := 1) hx hb dX10_ballIn_6 (by decide) ?_
  refine lv_land hx hb dX10_ballIn_7 ?_
  refine lv_lconst (v := 0) hx hb dX10_ballIn_8 (by decide) ?_
  refine W.lcmp hx hb dX10_ballIn_9 ?_
  refine lv_if_ne (tgt := 15) hx hb dX10_ballIn_10 (by decide) (fun c_1 => ?_) (fun c_1 => ?_)
  · replace h := it_n c_1 h
    refine lv_iconst (v := 0) hx hb dX10_ballIn_15 (by decide) ?_
    refine lv_istore_n (lv' := [(2, .int 0), (0, .ref a_t), (1, .int p1)]) hx hb dX10_ballIn_16 rfl hl (by decide) rfl (fun ls hl => ?_)
    have L17_go_3 : ∀ (k : Nat), ∀ (x2_2 : Int32), f_X10_ballIn_L17 v_tc p1 k x2_2 = some res → ∀ (H : Heap) (locs : List Loc) (ls : Array Slot), va_P (xD X) vwCl [(a_t, .inr (10, [.ref a_tc, .ref a_tk, .ref a_tw, .long f_t_taken, .int f_t_size, .int f_t_spot])), (a_tc, .inl (xI X, 7, .inl v_tc))] H → va_D A [(a_t, .inr (10, [.ref a_tc, .ref a_tk, .ref a_tw, .long f_t_taken, .int f_t_size, .int f_t_spot])), (a_tc, .inl (xI X, 7, .inl v_tc))] → va_S A s.heap H locs → lv_has ls 3 [(0, .ref a_t), (1, .int p1), (2, .int x2_2)] → W p l e (rmF 0 0) s m args below meth c H locs 0 0 Q (F0 m 17 ls []) := by
      clear h
      intro k
      induction k with
      | zero => intro x2_2 h; cases h
      | succ k ih_4 =>
        intro x2_2 h H locs ls hP hD hS hl
        replace h : b_X10_ballIn_L17 v_tc p1 (fun x2_2 => f_X10_ballIn_L17 v_tc p1 k x2_2) x2_2 = some res := h
        unfold b_X10_ballIn_L17 at h
        refine lv_iload_n hx hb dX10_ballIn_17 rfl (lv_at hl 2 rfl) ?_
        refine lv_aload_n hx hb dX10_ballIn_18 rfl (lv_at hl 0 rfl) ?_
        refine va_get (D := xD X) (ci := 10) (v := .ref a_tc) (C := RX10) (T := TX10) (N := 6) hx hb hts inX10 hown hK hP 0 rfl rfl 0 (by decide) (hts _ wq_1_97) (fun _ h9 => h9) rfl dX10_ballIn_19 ?_
        refine va_alen (v := 7) hx hb hK hP 1 0 rfl rfl rfl dX10_ballIn_22 ?_
        refine lv_icmp_ge (tgt := 44) hx hb dX10_ballIn_23 (by decide) (fun c_5 => ?_) (fun c_5 => ?_)
        · replace h := it_p c_5 h
          refine lv_iconst (v := (-1)) hx hb dX10_ballIn_44 (by decide) ?_
          obtain rfl := Option.some.inj h
          rw [← hQ]
          exact retI hB hS hP dX10_ballIn_45
        · replace h := it_n c_5 h
          refine lv_aload_n hx hb dX10_ballIn_26 rfl (lv_at hl 0 rfl) ?_
          refine va_get (D := xD X) (ci := 10) (v := .ref a_tc) (C := RX10) (T := TX10) (N := 6) hx hb hts inX10 hown hK hP 0 rfl rfl 0 (by decide) (hts _ wq_1_97) (fun _ h9 => h9) rfl dX10_ballIn_27 ?_
          refine lv_iload_n hx hb dX10_ballIn_30 rfl (lv_at hl 2 rfl) ?_
          obtain ⟨z_6, h⟩ := gd_s h
          refine va_iald hx hb hK hP 1 0 rfl rfl (inb_vp z_6) dX10_ballIn_31 ?_
          refine lv_iload_n hx hb dX10_ballIn_32 rfl (lv_at hl 1 rfl) ?_
          refine lv_icmp_ne (tgt := 38) hx hb dX10_ballIn_33 (by decide) (fun c_7 => ?_) (fun c_7 => ?_)
          · replace h := it_n c_7 h
            obtain ⟨x2_8, ex2_8⟩ : ∃ y : Int32, y = x2_2 + 1 := ⟨_, rfl⟩
            replace h := bn_s h ex2_8
            refine lv_iinc (v := x2_8) (lv' := [(2, .int x2_8), (0, .ref a_t), (1, .int p1)]) hx hb dX10_ballIn_38 hl (k := 2) rfl (by rw [ex2_8]; rfl) (by decide) rfl (fun ls hl => ?_)
            refine lv_goto (tgt := 17) hx hb dX10_ballIn_41 (by decide) ?_
            exact ih_4 x2_8 h _ _ _ hP hD hS (lv_sub hl [1, 2, 0] rfl)
          · replace h := it_p c_7 h
            refine lv_iload_n hx hb dX10_ballIn_36 rfl (lv_at hl 2 rfl) ?_
            obtain rfl := Option.some.inj h
            rw [← hQ]
            exact retI hB hS hP dX10_ballIn_37
    exact L17_go_3 n 0 h _ _ _ hP hD hS (lv_sub hl [1, 2, 0] rfl)
  · replace h := it_p c_1 h
    refine lv_iconst (v := (-1)) hx hb dX10_ballIn_13 (by decide) ?_
    obtain rfl := Option.some.inj h
    rw [← hQ]
    exact retI hB hS hP dX10_ballIn_14


def b_X10_lying_L4 (v_tc : Nat → Int32) (go_3 : Int32 → Int32 → Option (Int32)) (x1_1 : Int32) (x2_2 : Int32) : Option (Int32) :=
  (if 7 ≤ x2_2 then (some x1_1) else (gd (inb x2_2 7) (jn (fun (x1_7 : Int32) => (bnd (x2_2 + 1) (fun x2_9 => (go_3 x1_7 x2_9)))) (fun (j26_8 : Int32 → Option (Int32)) => (if (v_tc x2_2.toNatClampNeg) = (-1) then (j26_8 x1_1) else (bnd (x1_1 + 1) (fun x1_11 => (j26_8 x1_11))))))))
def f_X10_lying_L4 (v_tc : Nat → Int32) (k : Nat) (x1_1 : Int32) (x2_2 : Int32) : Option (Int32) :=
  lpF (fun (self : (Int32 × Int32) → Option (Int32)) (a : Int32 × Int32) => b_X10_lying_L4 v_tc (fun x1_1 x2_2 => self (x1_1, x2_2)) a.1 a.2) k (x1_1, x2_2)
def f_X10_lying (n : Nat) (v_tc : Nat → Int32) : Option (Int32) :=
  (f_X10_lying_L4 v_tc n 0 1)
theorem hd_X10_lying : yX10_lying.cls ≠ "java/lang/invoke/MethodHandle" ∧ yX10_lying.cls ≠ "java/lang/invoke/VarHandle" ∧ (parseMethodDescriptor yX10_lying.desc).map (fun d => d.parameters.length) = some 0 := ⟨by decide +kernel, by decide +kernel, by decide +kernel⟩
set_option maxHeartbeats 4000000 in
set_option maxRecDepth 100000 in
theorem c_X10_lying (X : CXp) (l : Launch) (n : Nat) (a_t a_tc a_tk a_tw : Nat) (f_t_taken : Int64) (f_t_size : Int32) (f_t_spot : Int32) (v_tc : Nat → Int32) (res : Int32) (h : f_X10_lying n v_tc = some res) : CTg X l yX10_lying cX10_lying 3 (some .int) 0 0 [.ref a_t] [(a_t, .inr (10, [.ref a_tc, .ref a_tk, .ref a_tw, .long f_t_taken, .int f_t_size, .int f_t_spot])), (a_tc, .inl (xI X, 7, .inl v_tc))] (QcI X res [(a_t, .inr (10, [.ref a_tc, .ref a_tk, .ref a_tw, .long f_t_taken, .int f_t_size, .int f_t_spot])), (a_tc, .inl (xI X, 7, .inl v_tc))]) := by
  refine CTg.mk (own := RX10) (by decide) rfl (Nat.le_of_ble_eq_true rfl) ?_
  intro p e s m args below meth c A hB hP hD hS ls hl
  obtain ⟨hx, hb, hr, hml, hown, hts, hlocks, hcx, hA, hAB⟩ := id hB
  have hK := hcx.1
  generalize hQ : MQ below (QcI X res [(a_t, .inr (10, [.ref a_tc, .ref a_tk, .ref a_tw, .long f_t_taken, .int f_t_size, .int f_t_spot])), (a_tc, .inl (xI X, 7, .inl v_tc))] A) args s 0 0 A = Q
  replace hl : lv_has ls 3 [(0, .ref a_t)] := hl
  unfold f_X10_lying at h
  refine lv_iconst (v := 0) hx hb dX10_lying_0 (by decide) ?_
  refine lv_istore_n (lv' := [(1, .int 0), (0, .ref a_t)]) hx hb dX10_lying_1 rfl hl (by decide) rfl (fun ls hl => ?_)
  refine lv_iconst (v := 1) hx hb dX10_lying_2 (by decide) ?_
  refine lv_istore_n (lv' := [(2, .int 1), (1, .int 0), (0, .ref a_t)]) hx hb dX10_lying_3 rfl hl (by decide) rfl (fun ls hl => ?_)
  have L4_go_3 : ∀ (k : Nat), ∀ (x1_1 : Int32) (x2_2 : Int32), f_X10_lying_L4 v_tc k x1_1 x2_2 = some res → ∀ (H : Heap) (locs : List Loc) (ls : Array Slot), va_P (xD X) vwCl [(a_t, .inr (10, [.ref a_tc, .ref a_tk, .ref a_tw, .long f_t_taken, .int f_t_size, .int f_t_spot])), (a_tc, .inl (xI X, 7, .inl v_tc))] H → va_D A [(a_t, .inr (10, [.ref a_tc, .ref a_tk, .ref a_tw, .long f_t_taken, .int f_t_size, .int f_t_spot])), (a_tc, .inl (xI X, 7, .inl v_tc))] → va_S A s.heap H locs → lv_has ls 3 [(0, .ref a_t), (1, .int x1_1), (2, .int x2_2)] → W p l e (rmF 0 0) s m args below meth c H locs 0 0 Q (F0 m 4 ls []) := by
    clear h
    intro k
    induction k with
    | zero => intro x1_1 x2_2 h; cases h
    | succ k ih_4 =>
      intro x1_1 x2_2 h H locs ls hP hD hS hl
      replace h : b_X10_lying_L4 v_tc (fun x1_1 x2_2 => f_X10_lying_L4 v_tc k x1_1 x2_2) x1_1 x2_2 = some res := h
      unfold b_X10_lying_L4 at h
      refine lv_iload_n hx hb dX10_lying_4 rfl (lv_at hl 2 rfl) ?_
      refine lv_aload_n hx hb dX10_lying_5 rfl (lv_at hl 0 rfl) ?_
      refine va_get (D := xD X) (ci := 10) (v := .ref a_tc) (C := RX10) (T := TX10) (N := 6) hx hb hts inX10 hown hK hP 0 rfl rfl 0 (by decide) (hts _ wq_1_97) (fun _ h9 => h9) rfl dX10_lying_6 ?_
      refine va_alen (v := 7) hx hb hK hP 1 0 rfl rfl rfl dX10_lying_9 ?_
      refine lv_icmp_ge (tgt := 32) hx hb dX10_lying_10 (by decide) (fun c_5 => ?_) (fun c_5 => ?_)
      · replace h := it_p c_5 h
        refine lv_iload_n hx hb dX10_lying_32 rfl (lv_at hl 1 rfl) ?_
        obtain rfl := Option.some.inj h
        rw [← hQ]
        exact retI hB hS hP dX10_lying_33
      · replace h := it_n c_5 h
        refine lv_aload_n hx hb dX10_lying_13 rfl (lv_at hl 0 rfl) ?_
        refine va_get (D := xD X) (ci := 10) (v := .ref a_tc) (C := RX10) (T := TX10) (N := 6) hx hb hts inX10 hown hK hP 0 rfl rfl 0 (by decide) (hts _ wq_1_97) (fun _ h9 => h9) rfl dX10_lying_14 ?_
        refine lv_iload_n hx hb dX10_lying_17 rfl (lv_at hl 2 rfl) ?_
        obtain ⟨z_6, h⟩ := gd_s h
        refine va_iald hx hb hK hP 1 0 rfl rfl (inb_vp z_6) dX10_lying_18 ?_
        refine lv_iconst (v := (-1)) hx hb dX10_lying_19 (by decide) ?_
        obtain ⟨j26_8, ej26_8, h⟩ := jn_s h
        have J26_8 : ∀ (x1_7 : Int32), j26_8 x1_7 = some res → ∀ (H : Heap) (locs : List Loc) (ls : Array Slot), va_P (xD X) vwCl [(a_t, .inr (10, [.ref a_tc, .ref a_tk, .ref a_tw, .long f_t_taken, .int f_t_size, .int f_t_spot])), (a_tc, .inl (xI X, 7, .inl v_tc))] H → va_D A [(a_t, .inr (10, [.ref a_tc, .ref a_tk, .ref a_tw, .long f_t_taken, .int f_t_size, .int f_t_spot])), (a_tc, .inl (xI X, 7, .inl v_tc))] → va_S A s.heap H locs → lv_has ls 3 [(0, .ref a_t), (1, .int x1_7), (2, .int x2_2)] → W p l e (rmF 0 0) s m args below meth c H locs 0 0 Q (F0 m 26 ls []) := by
          clear h
          intro x1_7 h H locs ls hP hD hS hl
          rw [ej26_8] at h
          replace h := id h
          obtain ⟨x2_9, ex2_9⟩ : ∃ y : Int32, y = x2_2 + 1 := ⟨_, rfl⟩
          replace h := bn_s h ex2_9
          refine lv_iinc (v := x2_9) (lv' := [(2, .int x2_9), (0, .ref a_t), (1, .int x1_7)]) hx hb dX10_lying_26 hl (k := 2) rfl (by rw [ex2_9]; rfl) (by decide) rfl (fun ls hl => ?_)
          refine lv_goto (tgt := 4) hx hb dX10_lying_29 (by decide) ?_
          exact ih_4 x1_7 x2_9 h _ _ _ hP hD hS (lv_sub hl [1, 2, 0] rfl)
        clear ej26_8
        refine lv_icmp_eq (tgt := 26) hx hb dX10_lying_20 (by decide) (fun c_10 => ?_) (fun c_10 => ?_)
        · replace h := it_p c_10 h
          exact J26_8 x1_1 h _ _ _ hP hD hS (lv_sub hl [0, 1, 2] rfl)
        · replace h := it_n c_10 h
          obtain ⟨x1_11, ex1_11⟩ : ∃ y : Int32, y = x1_1 + 1 := ⟨_, rfl⟩
          replace h := bn_s h ex1_11
          refine lv_iinc (v := x1_11) (lv' := [(1, .int x1_11), (0, .ref a_t), (2, .int x2_2)]) hx hb dX10_lying_23 hl (k := 1) rfl (by rw [ex1_11]; rfl) (by decide) rfl (fun ls hl => ?_)
          exact J26_8 x1_11 h _ _ _ hP hD hS (lv_sub hl [1, 0, 2] rfl)
  exact L4_go_3 n 0 1 h _ _ _ hP hD hS (lv_sub hl [2, 1, 0] rfl)


def b_X10_worthLying_L4 (v_tc : Nat → Int32) (v_tw : Nat → Int32) (go_3 : Int32 → Int32 → Option (Int32)) (x1_1 : Int32) (x2_2 : Int32) : Option (Int32) :=
  (if 7 ≤ x2_2 then (some x1_1) else (gd (inb x2_2 7) (jn (fun (x1_7 : Int32) => (bnd (x2_2 + 1) (fun x2_9 => (go_3 x1_7 x2_9)))) (fun (j31_8 : Int32 → Option (Int32)) => (if (v_tc x2_2.toNatClampNeg) = (-1) then (j31_8 x1_1) else ((f_X10_worthOf v_tw x2_2).bind (fun u_11 => (bnd (x1_1 + u_11) (fun x1_12 => (j31_8 x1_12))))))))))
def f_X10_worthLying_L4 (v_tc : Nat → Int32) (v_tw : Nat → Int32) (k : Nat) (x1_1 : Int32) (x2_2 : Int32) : Option (Int32) :=
  lpF (fun (self : (Int32 × Int32) → Option (Int32)) (a : Int32 × Int32) => b_X10_worthLying_L4 v_tc v_tw (fun x1_1 x2_2 => self (x1_1, x2_2)) a.1 a.2) k (x1_1, x2_2)
def f_X10_worthLying (n : Nat) (v_tc : Nat → Int32) (v_tw : Nat → Int32) : Option (Int32) :=
  (f_X10_worthLying_L4 v_tc v_tw n 0 1)
theorem hd_X10_worthLying : yX10_worthLying.cls ≠ "java/lang/invoke/MethodHandle" ∧ yX10_worthLying.cls ≠ "java/lang/invoke/VarHandle" ∧ (parseMethodDescriptor yX10_worthLying.desc).map (fun d => d.parameters.length) = some 0 := ⟨by decide +kernel, by decide +kernel, by decide +kernel⟩
set_option maxHeartbeats 4000000 in
set_option maxRecDepth 100000 in
theorem c_X10_worthLying (X : CXp) (l : Launch) (n : Nat) (a_t a_tc a_tk a_tw : Nat) (f_t_taken : Int64) (f_t_size : Int32) (f_t_spot : Int32) (v_tc : Nat → Int32) (v_tw : Nat → Int32) (res : Int32) (h : f_X10_worthLying n v_tc v_tw = some res) : CTg X l yX10_worthLying cX10_worthLying 3 (some .int) 1 21 [.ref a_t] [(a_t, .inr (10, [.ref a_tc, .ref a_tk, .ref a_tw, .long f_t_taken, .int f_t_size, .int f_t_spot])), (a_tc, .inl (xI X, 7, .inl v_tc)), (a_tw, .inl (xI X, 7, .inl v_tw))] (QcI X res [(a_t, .inr (10, [.ref a_tc, .ref a_tk, .ref a_tw, .long f_t_taken, .int f_t_size, .int f_t_spot])), (a_tc, .inl (xI X, 7, .inl v_tc)), (a_tw, .inl (xI X, 7, .inl v_tw))]) := by
  refine CTg.mk (own := RX10) (by decide) rfl (Nat.le_of_ble_eq_true rfl) ?_
  intro p e s m args below meth c A hB hP hD hS ls hl
  obtain ⟨hx, hb, hr, hml, hown, hts, hlocks, hcx, hA, hAB⟩ := id hB
  have hK := hcx.1
  generalize hQ : MQ below (QcI X res [(a_t, .inr (10, [.ref a_tc, .ref a_tk, .ref a_tw, .long f_t_taken, .int f_t_size, .int f_t_spot])), (a_tc, .inl (xI X, 7, .inl v_tc)), (a_tw, .inl (xI X, 7, .inl v_tw))] A) args s 0 0 A = Q
  replace hl : lv_has ls 3 [(0, .ref a_t)] := hl
  unfold f_X10_worthLying at h
  refine lv_iconst (v := 0) hx hb dX10_worthLying_0 (by decide) ?_
  refine lv_istore_n (lv' := [(1, .int 0), (0, .ref a_t)]) hx hb dX10_worthLying_1 rfl hl (by decide) rfl (fun ls hl => ?_)
  refine lv_iconst (v := 1) hx hb dX10_worthLying_2 (by decide) ?_
  refine lv_istore_n (lv' := [(2, .int 1), (1, .int 0), (0, .ref a_t)]) hx hb dX10_worthLying_3 rfl hl (by decide) rfl (fun ls hl => ?_)
  have L4_go_3 : ∀ (k : Nat), ∀ (x1_1 : Int32) (x2_2 : Int32), f_X10_worthLying_L4 v_tc v_tw k x1_1 x2_2 = some res → ∀ (H : Heap) (locs : List Loc) (ls : Array Slot), va_P (xD X) vwCl [(a_t, .inr (10, [.ref a_tc, .ref a_tk, .ref a_tw, .long f_t_taken, .int f_t_size, .int f_t_spot])), (a_tc, .inl (xI X, 7, .inl v_tc)), (a_tw, .inl (xI X, 7, .inl v_tw))] H → va_D A [(a_t, .inr (10, [.ref a_tc, .ref a_tk, .ref a_tw, .long f_t_taken, .int f_t_size, .int f_t_spot])), (a_tc, .inl (xI X, 7, .inl v_tc)), (a_tw, .inl (xI X, 7, .inl v_tw))] → va_S A s.heap H locs → lv_has ls 3 [(0, .ref a_t), (1, .int x1_1), (2, .int x2_2)] → W p l e (rmF 1 21) s m args below meth c H locs 0 0 Q (F0 m 4 ls []) := by
    clear h
    intro k
    induction k with
    | zero => intro x1_1 x2_2 h; cases h
    | succ k ih_4 =>
      intro x1_1 x2_2 h H locs ls hP hD hS hl
      replace h : b_X10_worthLying_L4 v_tc v_tw (fun x1_1 x2_2 => f_X10_worthLying_L4 v_tc v_tw k x1_1 x2_2) x1_1 x2_2 = some res := h
      unfold b_X10_worthLying_L4 at h
      refine lv_iload_n hx hb dX10_worthLying_4 rfl (lv_at hl 2 rfl) ?_
      refine lv_aload_n hx hb dX10_worthLying_5 rfl (lv_at hl 0 rfl) ?_
      refine va_get (D := xD X) (ci := 10) (v := .ref a_tc) (C := RX10) (T := TX10) (N := 6) hx hb hts inX10 hown hK hP 0 rfl rfl 0 (by decide) (hts _ wq_1_97) (fun _ h9 => h9) rfl dX10_worthLying_6 ?_
      refine va_alen (v := 7) hx hb hK hP 1 0 rfl rfl rfl dX10_worthLying_9 ?_
      refine lv_icmp_ge (tgt := 37) hx hb dX10_worthLying_10 (by decide) (fun c_5 => ?_) (fun c_5 => ?_)
      · replace h := it_p c_5 h
        refine lv_iload_n hx hb dX10_worthLying_37 rfl (lv_at hl 1 rfl) ?_
        obtain rfl := Option.some.inj h
        rw [← hQ]
        exact retI hB hS hP dX10_worthLying_38
      · replace h := it_n c_5 h
        refine lv_aload_n hx hb dX10_worthLying_13 rfl (lv_at hl 0 rfl) ?_
        refine va_get (D := xD X) (ci := 10) (v := .ref a_tc) (C := RX10) (T := TX10) (N := 6) hx hb hts inX10 hown hK hP 0 rfl rfl 0 (by decide) (hts _ wq_1_97) (fun _ h9 => h9) rfl dX10_worthLying_14 ?_
        refine lv_iload_n hx hb dX10_worthLying_17 rfl (lv_at hl 2 rfl) ?_
        obtain ⟨z_6, h⟩ := gd_s h
        refine va_iald hx hb hK hP 1 0 rfl rfl (inb_vp z_6) dX10_worthLying_18 ?_
        refine lv_iconst (v := (-1)) hx hb dX10_worthLying_19 (by decide) ?_
        obtain ⟨j31_8, ej31_8, h⟩ := jn_s h
        have J31_8 : ∀ (x1_7 : Int32), j31_8 x1_7 = some res → ∀ (H : Heap) (locs : List Loc) (ls : Array Slot), va_P (xD X) vwCl [(a_t, .inr (10, [.ref a_tc, .ref a_tk, .ref a_tw, .long f_t_taken, .int f_t_size, .int f_t_spot])), (a_tc, .inl (xI X, 7, .inl v_tc)), (a_tw, .inl (xI X, 7, .inl v_tw))] H → va_D A [(a_t, .inr (10, [.ref a_tc, .ref a_tk, .ref a_tw, .long f_t_taken, .int f_t_size, .int f_t_spot])), (a_tc, .inl (xI X, 7, .inl v_tc)), (a_tw, .inl (xI X, 7, .inl v_tw))] → va_S A s.heap H locs → lv_has ls 3 [(0, .ref a_t), (1, .int x1_7), (2, .int x2_2)] → W p l e (rmF 1 21) s m args below meth c H locs 0 0 Q (F0 m 31 ls []) := by
          clear h
          intro x1_7 h H locs ls hP hD hS hl
          rw [ej31_8] at h
          replace h := id h
          obtain ⟨x2_9, ex2_9⟩ : ∃ y : Int32, y = x2_2 + 1 := ⟨_, rfl⟩
          replace h := bn_s h ex2_9
          refine lv_iinc (v := x2_9) (lv' := [(2, .int x2_9), (0, .ref a_t), (1, .int x1_7)]) hx hb dX10_worthLying_31 hl (k := 2) rfl (by rw [ex2_9]; rfl) (by decide) rfl (fun ls hl => ?_)
          refine lv_goto (tgt := 4) hx hb dX10_worthLying_34 (by decide) ?_
          exact ih_4 x1_7 x2_9 h _ _ _ hP hD hS (lv_sub hl [1, 2, 0] rfl)
        clear ej31_8
        refine lv_icmp_eq (tgt := 31) hx hb dX10_worthLying_20 (by decide) (fun c_10 => ?_) (fun c_10 => ?_)
        · replace h := it_p c_10 h
          exact J31_8 x1_1 h _ _ _ hP hD hS (lv_sub hl [0, 1, 2] rfl)
        · replace h := it_n c_10 h
          refine lv_iload_n hx hb dX10_worthLying_23 rfl (lv_at hl 1 rfl) ?_
          refine lv_aload_n hx hb dX10_worthLying_24 rfl (lv_at hl 0 rfl) ?_
          refine lv_iload_n hx hb dX10_worthLying_25 rfl (lv_at hl 2 rfl) ?_
          obtain ⟨u_11, hu_11, h⟩ := ob_s h
          refine cVi (C := RX10) (As := [.int x2_2]) (rest := [.int x1_1]) [(a_t, .inr (10, [.ref a_tc, .ref a_tk, .ref a_tw, .long f_t_taken, .int f_t_size, .int f_t_spot])), (a_tc, .inl (xI X, 7, .inl v_tc)), (a_tw, .inl (xI X, 7, .inl v_tw))] hB (c_X10_worthOf X l a_t a_tc a_tk a_tw f_t_taken f_t_size f_t_spot v_tc v_tw x2_2 u_11 hu_11) wq_2_229 wq_1_9 wq_4_75 wq_2_227 wq_2_228 hd_X10_worthOf (by decide) hP hD hS hl.1 [0, 1, 2] [] [] rfl (by decide +kernel) rfl rfl rfl (nn := 3) rfl (by decide +kernel) [a_t, a_tc, a_tw] rfl rfl (q0 := 0) rfl rfl rfl rfl (Nat.le_of_ble_eq_true rfl) dX10_worthLying_26 ⟨Nat.zero_le _, Nat.zero_le _⟩ (fun H locs hP hD hS => ?_)
          refine lv_iadd hx hb dX10_worthLying_29 ?_
          refine lv_topi (fun x1_12 ex1_12 => ?_)
          replace h := bn_s h ex1_12
          refine lv_istore_n (lv' := [(1, .int x1_12), (0, .ref a_t), (2, .int x2_2)]) hx hb dX10_worthLying_30 rfl hl (by decide) rfl (fun ls hl => ?_)
          exact J31_8 x1_12 h _ _ _ hP hD hS (lv_sub hl [1, 0, 2] rfl)
  exact L4_go_3 n 0 1 h _ _ _ hP hD hS (lv_sub hl [2, 1, 0] rfl)


def f_X10_rowStep (p0 : Int32) : Option (Int32) :=
  (gd (inb (p0 &&& 7) 8) (some (rowS (p0 &&& 7).toNatClampNeg)))
theorem hd_X10_rowStep : yX10_rowStep.cls ≠ "java/lang/invoke/MethodHandle" ∧ yX10_rowStep.cls ≠ "java/lang/invoke/VarHandle" ∧ (parseMethodDescriptor yX10_rowStep.desc).map (fun d => d.parameters.length) = some 1 := ⟨by decide +kernel, by decide +kernel, by decide +kernel⟩
set_option maxHeartbeats 4000000 in
set_option maxRecDepth 100000 in
theorem c_X10_rowStep (X : CXp) (l : Launch) (p0 : Int32) (res : Int32) (h : f_X10_rowStep p0 = some res) : CTg X l yX10_rowStep cX10_rowStep 1 (some .int) 0 0 [.int p0] [] (QcI X res []) := by
  refine CTg.mk (own := RX10) (by decide) rfl (Nat.le_of_ble_eq_true rfl) ?_
  intro p e s m args below meth c A hB hP hD hS ls hl
  obtain ⟨hx, hb, hr, hml, hown, hts, hlocks, hcx, hA, hAB⟩ := id hB
  have hK := hcx.1
  generalize hQ : MQ below (QcI X res [] A) args s 0 0 A = Q
  replace hl : lv_has ls 1 [(0, .int p0)] := hl
  unfold f_X10_rowStep at h
  refine va_gets hx hb (hcx.2.2.2.1.1.narrow hAB) hS hown (hts _ wq_3_26) (fun _ h9 => h9) dX10_rowStep_0 ?_
  refine lv_iload_n hx hb dX10_rowStep_3 rfl (lv_at hl 0 rfl) ?_
  refine lv_bipush (v := 7) hx hb dX10_rowStep_4 (by decide) ?_
  refine lv_iand hx hb dX10_rowStep_6 ?_
  obtain ⟨z_1, h⟩ := gd_s h
  refine va_ti hx hb (hcx.2.2.2.1.2.narrow hAB) hS (inb_vp z_1) rfl dX10_rowStep_7 ?_
  obtain rfl := Option.some.inj h
  rw [← hQ]
  exact retI hB hS hP dX10_rowStep_8


def f_X10_columnStep (p0 : Int32) : Option (Int32) :=
  (gd (inb (p0 &&& 7) 8) (some (colS (p0 &&& 7).toNatClampNeg)))
theorem hd_X10_columnStep : yX10_columnStep.cls ≠ "java/lang/invoke/MethodHandle" ∧ yX10_columnStep.cls ≠ "java/lang/invoke/VarHandle" ∧ (parseMethodDescriptor yX10_columnStep.desc).map (fun d => d.parameters.length) = some 1 := ⟨by decide +kernel, by decide +kernel, by decide +kernel⟩
set_option maxHeartbeats 4000000 in
set_option maxRecDepth 100000 in
theorem c_X10_columnStep (X : CXp) (l : Launch) (p0 : Int32) (res : Int32) (h : f_X10_columnStep p0 = some res) : CTg X l yX10_columnStep cX10_columnStep 1 (some .int) 0 0 [.int p0] [] (QcI X res []) := by
  refine CTg.mk (own := RX10) (by decide) rfl (Nat.le_of_ble_eq_true rfl) ?_
  intro p e s m args below meth c A hB hP hD hS ls hl
  obtain ⟨hx, hb, hr, hml, hown, hts, hlocks, hcx, hA, hAB⟩ := id hB
  have hK := hcx.1
  generalize hQ : MQ below (QcI X res [] A) args s 0 0 A = Q
  replace hl : lv_has ls 1 [(0, .int p0)] := hl
  unfold f_X10_columnStep at h
  refine va_gets hx hb (hcx.2.2.2.2.1.1.narrow hAB) hS hown (hts _ wq_3_31) (fun _ h9 => h9) dX10_columnStep_0 ?_
  refine lv_iload_n hx hb dX10_columnStep_3 rfl (lv_at hl 0 rfl) ?_
  refine lv_bipush (v := 7) hx hb dX10_columnStep_4 (by decide) ?_
  refine lv_iand hx hb dX10_columnStep_6 ?_
  obtain ⟨z_1, h⟩ := gd_s h
  refine va_ti hx hb (hcx.2.2.2.2.1.2.narrow hAB) hS (inb_vp z_1) rfl dX10_columnStep_7 ?_
  obtain rfl := Option.some.inj h
  rw [← hQ]
  exact retI hB hS hP dX10_columnStep_8


def f_X11_isRow (p0 : Int32) : Option (Int32) :=
  (jn ((some 0)) (fun (j13_1 : Option (Int32)) => (if p0 < 0 then j13_1 else (if 5 ≤ p0 then j13_1 else (some 1)))))
theorem hd_X11_isRow : yX11_isRow.cls ≠ "java/lang/invoke/MethodHandle" ∧ yX11_isRow.cls ≠ "java/lang/invoke/VarHandle" ∧ (parseMethodDescriptor yX11_isRow.desc).map (fun d => d.parameters.length) = some 1 := ⟨by decide +kernel, by decide +kernel, by decide +kernel⟩
set_option maxHeartbeats 4000000 in
set_option maxRecDepth 100000 in
theorem c_X11_isRow (X : CXp) (l : Launch) (p0 : Int32) (res : Int32) (h : f_X11_isRow p0 = some res) : CTg X l yX11_isRow cX11_isRow 1 (some .boolean) 0 0 [.int p0] [] (QcI X res []) := by
  refine CTg.mk (own := RX11) (by decide) rfl (Nat.le_of_ble_eq_true rfl) ?_
  intro p e s m args below meth c A hB hP hD hS ls hl
  obtain ⟨hx, hb, hr, hml, hown, hts, hlocks, hcx, hA, hAB⟩ := id hB
  have hK := hcx.1
  generalize hQ : MQ below (QcI X res [] A) args s 0 0 A = Q
  replace hl : lv_has ls 1 [(0, .int p0)] := hl
  unfold f_X11_isRow at h
  refine lv_iload_n hx hb dX11_isRow_0 rfl (lv_at hl 0 rfl) ?_
  obtain ⟨j13_1, ej13_1, h⟩ := jn_s h
  have J13_1 : j13_1 = some res → ∀ (H : Heap) (locs : List Loc) (ls : Array Slot), va_P (xD X) vwCl [] H → va_D A [] → va_S A s.heap H locs → lv_has ls 1 [] → W p l e (rmF 0 0) s m args below meth c H locs 0 0 Q (F0 m 13 ls []) := by
    clear h
    intro h H locs ls hP hD hS hl
    rw [ej13_1] at h
    refine lv_iconst (v := 0) hx hb dX11_isRow_13 (by decide) ?_
    obtain rfl := Option.some.inj h
    rw [← hQ]
    exact retZ (r := 0) hB rfl hS hP dX11_isRow_14
  clear ej13_1
  refine lv_if_lt (tgt := 13) hx hb dX11_isRow_1 (by decide) (fun c_2 => ?_) (fun c_2 => ?_)
  · replace h := it_p c_2 h
    exact J13_1 h _ _ _ hP hD hS (lv_sub hl [] rfl)
  · replace h := it_n c_2 h
    refine lv_iload_n hx hb dX11_isRow_4 rfl (lv_at hl 0 rfl) ?_
    refine lv_iconst (v := 5) hx hb dX11_isRow_5 (by decide) ?_
    refine lv_icmp_ge (tgt := 13) hx hb dX11_isRow_6 (by decide) (fun c_3 => ?_) (fun c_3 => ?_)
    · replace h := it_p c_3 h
      exact J13_1 h _ _ _ hP hD hS (lv_sub hl [] rfl)
    · replace h := it_n c_3 h
      refine lv_iconst (v := 1) hx hb dX11_isRow_9 (by decide) ?_
      refine lv_goto (tgt := 14) hx hb dX11_isRow_10 (by decide) ?_
      obtain rfl := Option.some.inj h
      rw [← hQ]
      exact retZ (r := 1) hB rfl hS hP dX11_isRow_14


def f_X11_isColumn (p0 : Int32) : Option (Int32) :=
  (jn ((some 0)) (fun (j14_1 : Option (Int32)) => (if p0 < 0 then j14_1 else (if 9 ≤ p0 then j14_1 else (some 1)))))
theorem hd_X11_isColumn : yX11_isColumn.cls ≠ "java/lang/invoke/MethodHandle" ∧ yX11_isColumn.cls ≠ "java/lang/invoke/VarHandle" ∧ (parseMethodDescriptor yX11_isColumn.desc).map (fun d => d.parameters.length) = some 1 := ⟨by decide +kernel, by decide +kernel, by decide +kernel⟩
set_option maxHeartbeats 4000000 in
set_option maxRecDepth 100000 in
theorem c_X11_isColumn (X : CXp) (l : Launch) (p0 : Int32) (res : Int32) (h : f_X11_isColumn p0 = some res) : CTg X l yX11_isColumn cX11_isColumn 1 (some .boolean) 0 0 [.int p0] [] (QcI X res []) := by
  refine CTg.mk (own := RX11) (by decide) rfl (Nat.le_of_ble_eq_true rfl) ?_
  intro p e s m args below meth c A hB hP hD hS ls hl
  obtain ⟨hx, hb, hr, hml, hown, hts, hlocks, hcx, hA, hAB⟩ := id hB
  have hK := hcx.1
  generalize hQ : MQ below (QcI X res [] A) args s 0 0 A = Q
  replace hl : lv_has ls 1 [(0, .int p0)] := hl
  unfold f_X11_isColumn at h
  refine lv_iload_n hx hb dX11_isColumn_0 rfl (lv_at hl 0 rfl) ?_
  obtain ⟨j14_1, ej14_1, h⟩ := jn_s h
  have J14_1 : j14_1 = some res → ∀ (H : Heap) (locs : List Loc) (ls : Array Slot), va_P (xD X) vwCl [] H → va_D A [] → va_S A s.heap H locs → lv_has ls 1 [] → W p l e (rmF 0 0) s m args below meth c H locs 0 0 Q (F0 m 14 ls []) := by
    clear h
    intro h H locs ls hP hD hS hl
    rw [ej14_1] at h
    refine lv_iconst (v := 0) hx hb dX11_isColumn_14 (by decide) ?_
    obtain rfl := Option.some.inj h
    rw [← hQ]
    exact retZ (r := 0) hB rfl hS hP dX11_isColumn_15
  clear ej14_1
  refine lv_if_lt (tgt := 14) hx hb dX11_isColumn_1 (by decide) (fun c_2 => ?_) (fun c_2 => ?_)
  · replace h := it_p c_2 h
    exact J14_1 h _ _ _ hP hD hS (lv_sub hl [] rfl)
  · replace h := it_n c_2 h
    refine lv_iload_n hx hb dX11_isColumn_4 rfl (lv_at hl 0 rfl) ?_
    refine lv_bipush (v := 9) hx hb dX11_isColumn_5 (by decide) ?_
    refine lv_icmp_ge (tgt := 14) hx hb dX11_isColumn_7 (by decide) (fun c_3 => ?_) (fun c_3 => ?_)
    · replace h := it_p c_3 h
      exact J14_1 h _ _ _ hP hD hS (lv_sub hl [] rfl)
    · replace h := it_n c_3 h
      refine lv_iconst (v := 1) hx hb dX11_isColumn_10 (by decide) ?_
      refine lv_goto (tgt := 15) hx hb dX11_isColumn_11 (by decide) ?_
      obtain rfl := Option.some.inj h
      rw [← hQ]
      exact retZ (r := 1) hB rfl hS hP dX11_isColumn_15


def b_X10_firstInSight_L31 (f_t_taken : Int64) (v_tc : Nat → Int32) (p1 : Int32) (n : Nat) (go_10 : Int32 → Int32 → Int32 → Option (Int32)) (x2_7 : Int32) (x3_8 : Int32) (x4_9 : Int32) : Option (Int32) :=
  (if 9 ≤ x4_9 then (some (-1)) else ((f_X11_isRow x2_7).bind (fun u_13 => (if u_13 = 0 then (some (-1)) else ((f_X11_isColumn x3_8).bind (fun u_15 => (if u_15 = 0 then (some (-1)) else ((f_X10_ballIn n f_t_taken v_tc ((9 * x2_7) + x3_8)).bind (fun u_17 => (if u_17 = (-1) then ((f_X10_rowStep p1).bind (fun u_19 => (bnd (x2_7 + u_19) (fun x2_20 => ((f_X10_columnStep p1).bind (fun u_21 => (bnd (x3_8 + u_21) (fun x3_22 => (bnd (x4_9 + 1) (fun x4_23 => (go_10 x2_20 x3_22 x4_23))))))))))) else (some u_17)))))))))))
def f_X10_firstInSight_L31 (f_t_taken : Int64) (v_tc : Nat → Int32) (p1 : Int32) (n : Nat) (k : Nat) (x2_7 : Int32) (x3_8 : Int32) (x4_9 : Int32) : Option (Int32) :=
  lpF (fun (self : (Int32 × Int32 × Int32) → Option (Int32)) (a : Int32 × Int32 × Int32) => b_X10_firstInSight_L31 f_t_taken v_tc p1 n (fun x2_7 x3_8 x4_9 => self (x2_7, x3_8, x4_9)) a.1 a.2.1 a.2.2) k (x2_7, x3_8, x4_9)
def f_X10_firstInSight (n : Nat) (f_t_taken : Int64) (v_tc : Nat → Int32) (p1 : Int32) : Option (Int32) :=
  ((f_X10_cellOf v_tc 0).bind (fun u_1 => ((f_X10_rowStep p1).bind (fun u_2 => (bnd ((u_1 / 9) + u_2) (fun x2_3 => ((f_X10_cellOf v_tc 0).bind (fun u_4 => ((f_X10_columnStep p1).bind (fun u_5 => (bnd ((u_4 - u_4 / 9 * 9) + u_5) (fun x3_6 => (f_X10_firstInSight_L31 f_t_taken v_tc p1 n n x2_3 x3_6 0)))))))))))))
theorem hd_X10_firstInSight : yX10_firstInSight.cls ≠ "java/lang/invoke/MethodHandle" ∧ yX10_firstInSight.cls ≠ "java/lang/invoke/VarHandle" ∧ (parseMethodDescriptor yX10_firstInSight.desc).map (fun d => d.parameters.length) = some 1 := ⟨by decide +kernel, by decide +kernel, by decide +kernel⟩
set_option maxHeartbeats 4000000 in
set_option maxRecDepth 100000 in
theorem c_X10_firstInSight (X : CXp) (l : Launch) (n : Nat) (a_t a_tc a_tk a_tw : Nat) (f_t_taken : Int64) (f_t_size : Int32) (f_t_spot : Int32) (v_tc : Nat → Int32) (p1 : Int32) (res : Int32) (h : f_X10_firstInSight n f_t_taken v_tc p1 = some res) : CTg X l yX10_firstInSight cX10_firstInSight 6 (some .int) 1 22 [.ref a_t, .int p1] [(a_t, .inr (10, [.ref a_tc, .ref a_tk, .ref a_tw, .long f_t_taken, .int f_t_size, .int f_t_spot])), (a_tc, .inl (xI X, 7, .inl v_tc))] (QcI X res [(a_t, .inr (10, [.ref a_tc, .ref a_tk, .ref a_tw, .long f_t_taken, .int f_t_size, .int f_t_spot])), (a_tc, .inl (xI X, 7, .inl v_tc))]) := by
  refine CTg.mk (own := RX10) (by decide) rfl (Nat.le_of_ble_eq_true rfl) ?_
  intro p e s m args below meth c A hB hP hD hS ls hl
  obtain ⟨hx, hb, hr, hml, hown, hts, hlocks, hcx, hA, hAB⟩ := id hB
  have hK := hcx.1
  generalize hQ : MQ below (QcI X res [(a_t, .inr (10, [.ref a_tc, .ref a_tk, .ref a_tw, .long f_t_taken, .int f_t_size, .int f_t_spot])), (a_tc, .inl (xI X, 7, .inl v_tc))] A) args s 0 0 A = Q
  replace hl : lv_has ls 6 [(0, .ref a_t), (1, .int p1)] := hl
  unfold f_X10_firstInSight at h
  refine lv_aload_n hx hb dX10_firstInSight_0 rfl (lv_at hl 0 rfl) ?_
  refine lv_iconst (v := 0) hx hb dX10_firstInSight_1 (by decide) ?_
  obtain ⟨u_1, hu_1, h⟩ := ob_s h
  refine cVi (C := RX10) (As := [.int 0]) (rest := []) [(a_t, .inr (10, [.ref a_tc, .ref a_tk, .ref a_tw, .long f_t_taken, .int f_t_size, .int f_t_spot])), (a_tc, .inl (xI X, 7, .inl v_tc))] hB (c_X10_cellOf X l a_t a_tc a_tk a_tw f_t_taken f_t_size f_t_spot v_tc 0 u_1 hu_1) wq_2_233 wq_1_9 wq_3_171 wq_2_231 wq_2_232 hd_X10_cellOf (by decide) hP hD hS hl.1 [0, 1] [] [] rfl (by decide +kernel) rfl rfl rfl (nn := 2) rfl (by decide +kernel) [a_t, a_tc] rfl rfl (q0 := 0) rfl rfl rfl rfl (Nat.le_of_ble_eq_true rfl) dX10_firstInSight_2 ⟨Nat.zero_le _, Nat.zero_le _⟩ (fun H locs hP hD hS => ?_)
  refine lv_bipush (v := 9) hx hb dX10_firstInSight_5 (by decide) ?_
  refine lv_idiv hx hb dX10_firstInSight_7 (by decide) ?_
  refine lv_iload_n hx hb dX10_firstInSight_8 rfl (lv_at hl 1 rfl) ?_
  obtain ⟨u_2, hu_2, h⟩ := ob_s h
  refine cSi (As := [.int p1]) (rest := [.int (u_1 / 9)]) [(a_t, .inr (10, [.ref a_tc, .ref a_tk, .ref a_tw, .long f_t_taken, .int f_t_size, .int f_t_spot])), (a_tc, .inl (xI X, 7, .inl v_tc))] hB (c_X10_rowStep X l p1 u_2 hu_2) wq_3_25 wq_1_9 wq_3_172 wq_3_24 hd_X10_rowStep (by decide) hP hD hS hl.1 [] [0, 1] [(a_t, .inr (10, [.ref a_tc, .ref a_tk, .ref a_tw, .long f_t_taken, .int f_t_size, .int f_t_spot])), (a_tc, .inl (xI X, 7, .inl v_tc))] rfl (by decide +kernel) rfl rfl rfl (nn := 2) rfl (by decide +kernel) [a_t, a_tc] rfl rfl rfl rfl (Nat.le_of_ble_eq_true rfl) dX10_firstInSight_9 ⟨Nat.zero_le _, Nat.zero_le _⟩ (fun H locs hP hD hS => ?_)
  refine lv_iadd hx hb dX10_firstInSight_12 ?_
  refine lv_topi (fun x2_3 ex2_3 => ?_)
  replace h := bn_s h ex2_3
  refine lv_istore_n (lv' := [(2, .int x2_3), (0, .ref a_t), (1, .int p1)]) hx hb dX10_firstInSight_13 rfl hl (by decide) rfl (fun ls hl => ?_)
  refine lv_aload_n hx hb dX10_firstInSight_14 rfl (lv_at hl 1 rfl) ?_
  refine lv_iconst (v := 0) hx hb dX10_firstInSight_15 (by decide) ?_
  obtain ⟨u_4, hu_4, h⟩ := ob_s h
  refine cVi (C := RX10) (As := [.int 0]) (rest := []) [(a_t, .inr (10, [.ref a_tc, .ref a_tk, .ref a_tw, .long f_t_taken, .int f_t_size, .int f_t_spot])), (a_tc, .inl (xI X, 7, .inl v_tc))] hB (c_X10_cellOf X l a_t a_tc a_tk a_tw f_t_taken f_t_size f_t_spot v_tc 0 u_4 hu_4) wq_2_233 wq_1_9 wq_3_171 wq_2_231 wq_2_232 hd_X10_cellOf (by decide) hP hD hS hl.1 [0, 1] [] [] rfl (by decide +kernel) rfl rfl rfl (nn := 2) rfl (by decide +kernel) [a_t, a_tc] rfl rfl (q0 := 0) rfl rfl rfl rfl (Nat.le_of_ble_eq_true rfl) dX10_firstInSight_16 ⟨Nat.zero_le _, Nat.zero_le _⟩ (fun H locs hP hD hS => ?_)
  refine lv_bipush (v := 9) hx hb dX10_firstInSight_19 (by decide) ?_
  refine lv_irem hx hb dX10_firstInSight_21 (by decide) ?_
  refine lv_iload_n hx hb dX10_firstInSight_22 rfl (lv_at hl 2 rfl) ?_
  obtain ⟨u_5, hu_5, h⟩ := ob_s h
  refine cSi (As := [.int p1]) (rest := [.int (u_4 - u_4 / 9 * 9)]) [(a_t, .inr (10, [.ref a_tc, .ref a_tk, .ref a_tw, .long f_t_taken, .int f_t_size, .int f_t_spot])), (a_tc, .inl (xI X, 7, .inl v_tc))] hB (c_X10_columnStep X l p1 u_5 hu_5) wq_3_30 wq_1_9 wq_3_173 wq_3_29 hd_X10_columnStep (by decide) hP hD hS hl.1 [] [0, 1] [(a_t, .inr (10, [.ref a_tc, .ref a_tk, .ref a_tw, .long f_t_taken, .int f_t_size, .int f_t_spot])), (a_tc, .inl (xI X, 7, .inl v_tc))] rfl (by decide +kernel) rfl rfl rfl (nn := 2) rfl (by decide +kernel) [a_t, a_tc] rfl rfl rfl rfl (Nat.le_of_ble_eq_true rfl) dX10_firstInSight_23 ⟨Nat.zero_le _, Nat.zero_le _⟩ (fun H locs hP hD hS => ?_)
  refine lv_iadd hx hb dX10_firstInSight_26 ?_
  refine lv_topi (fun x3_6 ex3_6 => ?_)
  replace h := bn_s h ex3_6
  refine lv_istore_n (lv' := [(3, .int x3_6), (2, .int x2_3), (0, .ref a_t), (1, .int p1)]) hx hb dX10_firstInSight_27 rfl hl (by decide) rfl (fun ls hl => ?_)
  refine lv_iconst (v := 0) hx hb dX10_firstInSight_28 (by decide) ?_
  refine lv_istore (lv' := [(4, .int 0), (3, .int x3_6), (2, .int x2_3), (0, .ref a_t), (1, .int p1)]) hx hb dX10_firstInSight_29 hl (by decide) rfl (fun ls hl => ?_)
  have L31_go_10 : ∀ (k : Nat), ∀ (x2_7 : Int32) (x3_8 : Int32) (x4_9 : Int32), f_X10_firstInSight_L31 f_t_taken v_tc p1 n k x2_7 x3_8 x4_9 = some res → ∀ (H : Heap) (locs : List Loc) (ls : Array Slot), va_P (xD X) vwCl [(a_t, .inr (10, [.ref a_tc, .ref a_tk, .ref a_tw, .long f_t_taken, .int f_t_size, .int f_t_spot])), (a_tc, .inl (xI X, 7, .inl v_tc))] H → va_D A [(a_t, .inr (10, [.ref a_tc, .ref a_tk, .ref a_tw, .long f_t_taken, .int f_t_size, .int f_t_spot])), (a_tc, .inl (xI X, 7, .inl v_tc))] → va_S A s.heap H locs → lv_has ls 6 [(0, .ref a_t), (1, .int p1), (2, .int x2_7), (3, .int x3_8), (4, .int x4_9)] → W p l e (rmF 1 22) s m args below meth c H locs 0 0 Q (F0 m 31 ls []) := by
    clear h
    intro k
    induction k with
    | zero => intro x2_7 x3_8 x4_9 h; cases h
    | succ k ih_11 =>
      intro x2_7 x3_8 x4_9 h H locs ls hP hD hS hl
      replace h : b_X10_firstInSight_L31 f_t_taken v_tc p1 n (fun x2_7 x3_8 x4_9 => f_X10_firstInSight_L31 f_t_taken v_tc p1 n k x2_7 x3_8 x4_9) x2_7 x3_8 x4_9 = some res := h
      unfold b_X10_firstInSight_L31 at h
      refine lv_iload hx hb dX10_firstInSight_31 (lv_at hl 4 rfl) ?_
      refine lv_bipush (v := 9) hx hb dX10_firstInSight_33 (by decide) ?_
      refine lv_icmp_ge (tgt := 93) hx hb dX10_firstInSight_35 (by decide) (fun c_12 => ?_) (fun c_12 => ?_)
      · replace h := it_p c_12 h
        refine lv_iconst (v := (-1)) hx hb dX10_firstInSight_93 (by decide) ?_
        obtain rfl := Option.some.inj h
        rw [← hQ]
        exact retI hB hS hP dX10_firstInSight_94
      · replace h := it_n c_12 h
        refine lv_iload_n hx hb dX10_firstInSight_38 rfl (lv_at hl 2 rfl) ?_
        obtain ⟨u_13, hu_13, h⟩ := ob_s h
        refine cNi (host := "WhiteWanted") (As := [.int x2_7]) (rest := []) [(a_t, .inr (10, [.ref a_tc, .ref a_tk, .ref a_tw, .long f_t_taken, .int f_t_size, .int f_t_spot])), (a_tc, .inl (xI X, 7, .inl v_tc))] hB (c_X11_isRow X l x2_7 u_13 hu_13) wq_2_72 wq_1_1 wq_3_174 wq_2_71 hd_X11_isRow (by decide) hP hD hS hl.1 [] [0, 1] [(a_t, .inr (10, [.ref a_tc, .ref a_tk, .ref a_tw, .long f_t_taken, .int f_t_size, .int f_t_spot])), (a_tc, .inl (xI X, 7, .inl v_tc))] rfl (by decide +kernel) rfl rfl rfl (nn := 2) rfl (by decide +kernel) [a_t, a_tc] rfl rfl rfl rfl (Nat.le_of_ble_eq_true rfl) dX10_firstInSight_39 ⟨Nat.zero_le _, Nat.zero_le _⟩ (fun H locs hP hD hS => ?_)
        refine lv_if_eq (tgt := 93) hx hb dX10_firstInSight_42 (by decide) (fun c_14 => ?_) (fun c_14 => ?_)
        · replace h := it_p c_14 h
          refine lv_iconst (v := (-1)) hx hb dX10_firstInSight_93 (by decide) ?_
          obtain rfl := Option.some.inj h
          rw [← hQ]
          exact retI hB hS hP dX10_firstInSight_94
        · replace h := it_n c_14 h
          refine lv_iload_n hx hb dX10_firstInSight_45 rfl (lv_at hl 3 rfl) ?_
          obtain ⟨u_15, hu_15, h⟩ := ob_s h
          refine cNi (host := "WhiteWanted") (As := [.int x3_8]) (rest := []) [(a_t, .inr (10, [.ref a_tc, .ref a_tk, .ref a_tw, .long f_t_taken, .int f_t_size, .int f_t_spot])), (a_tc, .inl (xI X, 7, .inl v_tc))] hB (c_X11_isColumn X l x3_8 u_15 hu_15) wq_2_75 wq_1_1 wq_3_175 wq_2_74 hd_X11_isColumn (by decide) hP hD hS hl.1 [] [0, 1] [(a_t, .inr (10, [.ref a_tc, .ref a_tk, .ref a_tw, .long f_t_taken, .int f_t_size, .int f_t_spot])), (a_tc, .inl (xI X, 7, .inl v_tc))] rfl (by decide +kernel) rfl rfl rfl (nn := 2) rfl (by decide +kernel) [a_t, a_tc] rfl rfl rfl rfl (Nat.le_of_ble_eq_true rfl) dX10_firstInSight_46 ⟨Nat.zero_le _, Nat.zero_le _⟩ (fun H locs hP hD hS => ?_)
          refine lv_if_eq (tgt := 93) hx hb dX10_firstInSight_49 (by decide) (fun c_16 => ?_) (fun c_16 => ?_)
          · replace h := it_p c_16 h
            refine lv_iconst (v := (-1)) hx hb dX10_firstInSight_93 (by decide) ?_
            obtain rfl := Option.some.inj h
            rw [← hQ]
            exact retI hB hS hP dX10_firstInSight_94
          · replace h := it_n c_16 h
            refine lv_aload_n hx hb dX10_firstInSight_52 rfl (lv_at hl 0 rfl) ?_
            refine lv_bipush (v := 9) hx hb dX10_firstInSight_53 (by decide) ?_
            refine lv_iload_n hx hb dX10_firstInSight_55 rfl (lv_at hl 2 rfl) ?_
            refine lv_imul hx hb dX10_firstInSight_56 ?_
            refine lv_iload_n hx hb dX10_firstInSight_57 rfl (lv_at hl 3 rfl) ?_
            refine lv_iadd hx hb dX10_firstInSight_58 ?_
            obtain ⟨u_17, hu_17, h⟩ := ob_s h
            refine cVi (C := RX10) (As := [.int ((9 * x2_7) + x3_8)]) (rest := []) [(a_t, .inr (10, [.ref a_tc, .ref a_tk, .ref a_tw, .long f_t_taken, .int f_t_size, .int f_t_spot])), (a_tc, .inl (xI X, 7, .inl v_tc))] hB (c_X10_ballIn X l n a_t a_tc a_tk a_tw f_t_taken f_t_size f_t_spot v_tc ((9 * x2_7) + x3_8) u_17 hu_17) wq_3_57 wq_1_9 wq_3_96 wq_3_55 wq_3_56 hd_X10_ballIn (by decide) hP hD hS hl.1 [0, 1] [] [] rfl (by decide +kernel) rfl rfl rfl (nn := 2) rfl (by decide +kernel) [a_t, a_tc] rfl rfl (q0 := 0) rfl rfl rfl rfl (Nat.le_of_ble_eq_true rfl) dX10_firstInSight_59 ⟨Nat.zero_le _, Nat.zero_le _⟩ (fun H locs hP hD hS => ?_)
            refine lv_istore (lv' := [(5, .int u_17), (0, .ref a_t), (1, .int p1), (2, .int x2_7), (3, .int x3_8), (4, .int x4_9)]) hx hb dX10_firstInSight_62 hl (by decide) rfl (fun ls hl => ?_)
            refine lv_iload hx hb dX10_firstInSight_64 (lv_at hl 0 rfl) ?_
            refine lv_iconst (v := (-1)) hx hb dX10_firstInSight_66 (by decide) ?_
            refine lv_icmp_eq (tgt := 73) hx hb dX10_firstInSight_67 (by decide) (fun c_18 => ?_) (fun c_18 => ?_)
            · replace h := it_p c_18 h
              refine lv_iload_n hx hb dX10_firstInSight_73 rfl (lv_at hl 3 rfl) ?_
              refine lv_iload_n hx hb dX10_firstInSight_74 rfl (lv_at hl 2 rfl) ?_
              obtain ⟨u_19, hu_19, h⟩ := ob_s h
              refine cSi (As := [.int p1]) (rest := [.int x2_7]) [(a_t, .inr (10, [.ref a_tc, .ref a_tk, .ref a_tw, .long f_t_taken, .int f_t_size, .int f_t_spot])), (a_tc, .inl (xI X, 7, .inl v_tc))] hB (c_X10_rowStep X l p1 u_19 hu_19) wq_3_25 wq_1_9 wq_3_172 wq_3_24 hd_X10_rowStep (by decide) hP hD hS hl.1 [] [0, 1] [(a_t, .inr (10, [.ref a_tc, .ref a_tk, .ref a_tw, .long f_t_taken, .int f_t_size, .int f_t_spot])), (a_tc, .inl (xI X, 7, .inl v_tc))] rfl (by decide +kernel) rfl rfl rfl (nn := 2) rfl (by decide +kernel) [a_t, a_tc] rfl rfl rfl rfl (Nat.le_of_ble_eq_true rfl) dX10_firstInSight_75 ⟨Nat.zero_le _, Nat.zero_le _⟩ (fun H locs hP hD hS => ?_)
              refine lv_iadd hx hb dX10_firstInSight_78 ?_
              refine lv_topi (fun x2_20 ex2_20 => ?_)
              replace h := bn_s h ex2_20
              refine lv_istore_n (lv' := [(2, .int x2_20), (5, .int u_17), (0, .ref a_t), (1, .int p1), (3, .int x3_8), (4, .int x4_9)]) hx hb dX10_firstInSight_79 rfl hl (by decide) rfl (fun ls hl => ?_)
              refine lv_iload_n hx hb dX10_firstInSight_80 rfl (lv_at hl 4 rfl) ?_
              refine lv_iload_n hx hb dX10_firstInSight_81 rfl (lv_at hl 3 rfl) ?_
              obtain ⟨u_21, hu_21, h⟩ := ob_s h
              refine cSi (As := [.int p1]) (rest := [.int x3_8]) [(a_t, .inr (10, [.ref a_tc, .ref a_tk, .ref a_tw, .long f_t_taken, .int f_t_size, .int f_t_spot])), (a_tc, .inl (xI X, 7, .inl v_tc))] hB (c_X10_columnStep X l p1 u_21 hu_21) wq_3_30 wq_1_9 wq_3_173 wq_3_29 hd_X10_columnStep (by decide) hP hD hS hl.1 [] [0, 1] [(a_t, .inr (10, [.ref a_tc, .ref a_tk, .ref a_tw, .long f_t_taken, .int f_t_size, .int f_t_spot])), (a_tc, .inl (xI X, 7, .inl v_tc))] rfl (by decide +kernel) rfl rfl rfl (nn := 2) rfl (by decide +kernel) [a_t, a_tc] rfl rfl rfl rfl (Nat.le_of_ble_eq_true rfl) dX10_firstInSight_82 ⟨Nat.zero_le _, Nat.zero_le _⟩ (fun H locs hP hD hS => ?_)
              refine lv_iadd hx hb dX10_firstInSight_85 ?_
              refine lv_topi (fun x3_22 ex3_22 => ?_)
              replace h := bn_s h ex3_22
              refine lv_istore_n (lv' := [(3, .int x3_22), (2, .int x2_20), (5, .int u_17), (0, .ref a_t), (1, .int p1), (4, .int x4_9)]) hx hb dX10_firstInSight_86 rfl hl (by decide) rfl (fun ls hl => ?_)
              obtain ⟨x4_23, ex4_23⟩ : ∃ y : Int32, y = x4_9 + 1 := ⟨_, rfl⟩
              replace h := bn_s h ex4_23
              refine lv_iinc (v := x4_23) (lv' := [(4, .int x4_23), (3, .int x3_22), (2, .int x2_20), (5, .int u_17), (0, .ref a_t), (1, .int p1)]) hx hb dX10_firstInSight_87 hl (k := 5) rfl (by rw [ex4_23]; rfl) (by decide) rfl (fun ls hl => ?_)
              refine lv_goto (tgt := 31) hx hb dX10_firstInSight_90 (by decide) ?_
              exact ih_11 x2_20 x3_22 x4_23 h _ _ _ hP hD hS (lv_sub hl [4, 5, 2, 1, 0] rfl)
            · replace h := it_n c_18 h
              refine lv_iload hx hb dX10_firstInSight_70 (lv_at hl 0 rfl) ?_
              obtain rfl := Option.some.inj h
              rw [← hQ]
              exact retI hB hS hP dX10_firstInSight_72
  exact L31_go_10 n x2_3 x3_6 0 h _ _ _ hP hD hS (lv_sub hl [3, 4, 2, 1, 0] rfl)


def f_X11_isPocket (p0 : Int32) : Option (Int32) :=
  (bnd (p0 / 9) (fun x1_1 => (jn ((some 0)) (fun (j27_2 : Option (Int32)) => (jn ((if ((p0 - p0 / 9 * 9) - (p0 - p0 / 9 * 9) / 4 * 4) = 0 then (some 1) else j27_2)) (fun (j14_3 : Option (Int32)) => (if x1_1 = 0 then j14_3 else (if x1_1 = 4 then j14_3 else j27_2))))))))
theorem hd_X11_isPocket : yX11_isPocket.cls ≠ "java/lang/invoke/MethodHandle" ∧ yX11_isPocket.cls ≠ "java/lang/invoke/VarHandle" ∧ (parseMethodDescriptor yX11_isPocket.desc).map (fun d => d.parameters.length) = some 1 := ⟨by decide +kernel, by decide +kernel, by decide +kernel⟩
set_option maxHeartbeats 4000000 in
set_option maxRecDepth 100000 in
theorem c_X11_isPocket (X : CXp) (l : Launch) (p0 : Int32) (res : Int32) (h : f_X11_isPocket p0 = some res) : CTg X l yX11_isPocket cX11_isPocket 2 (some .boolean) 0 0 [.int p0] [] (QcI X res []) := by
  refine CTg.mk (own := RX11) (by decide) rfl (Nat.le_of_ble_eq_true rfl) ?_
  intro p e s m args below meth c A hB hP hD hS ls hl
  obtain ⟨hx, hb, hr, hml, hown, hts, hlocks, hcx, hA, hAB⟩ := id hB
  have hK := hcx.1
  generalize hQ : MQ below (QcI X res [] A) args s 0 0 A = Q
  replace hl : lv_has ls 2 [(0, .int p0)] := hl
  unfold f_X11_isPocket at h
  refine lv_iload_n hx hb dX11_isPocket_0 rfl (lv_at hl 0 rfl) ?_
  refine lv_bipush (v := 9) hx hb dX11_isPocket_1 (by decide) ?_
  refine lv_idiv hx hb dX11_isPocket_3 (by decide) ?_
  refine lv_topi (fun x1_1 ex1_1 => ?_)
  replace h := bn_s h ex1_1
  refine lv_istore_n (lv' := [(1, .int x1_1), (0, .int p0)]) hx hb dX11_isPocket_4 rfl hl (by decide) rfl (fun ls hl => ?_)
  refine lv_iload_n hx hb dX11_isPocket_5 rfl (lv_at hl 0 rfl) ?_
  obtain ⟨j27_2, ej27_2, h⟩ := jn_s h
  have J27_2 : j27_2 = some res → ∀ (H : Heap) (locs : List Loc) (ls : Array Slot), va_P (xD X) vwCl [] H → va_D A [] → va_S A s.heap H locs → lv_has ls 2 [] → W p l e (rmF 0 0) s m args below meth c H locs 0 0 Q (F0 m 27 ls []) := by
    clear h
    intro h H locs ls hP hD hS hl
    rw [ej27_2] at h
    refine lv_iconst (v := 0) hx hb dX11_isPocket_27 (by decide) ?_
    obtain rfl := Option.some.inj h
    rw [← hQ]
    exact retZ (r := 0) hB rfl hS hP dX11_isPocket_28
  clear ej27_2
  obtain ⟨j14_3, ej14_3, h⟩ := jn_s h
  have J14_3 : j14_3 = some res → ∀ (H : Heap) (locs : List Loc) (ls : Array Slot), va_P (xD X) vwCl [] H → va_D A [] → va_S A s.heap H locs → lv_has ls 2 [(0, .int p0)] → W p l e (rmF 0 0) s m args below meth c H locs 0 0 Q (F0 m 14 ls []) := by
    clear h
    intro h H locs ls hP hD hS hl
    rw [ej14_3] at h
    refine lv_iload_n hx hb dX11_isPocket_14 rfl (lv_at hl 0 rfl) ?_
    refine lv_bipush (v := 9) hx hb dX11_isPocket_15 (by decide) ?_
    refine lv_irem hx hb dX11_isPocket_17 (by decide) ?_
    refine lv_iconst (v := 4) hx hb dX11_isPocket_18 (by decide) ?_
    refine lv_irem hx hb dX11_isPocket_19 (by decide) ?_
    refine lv_if_ne (tgt := 27) hx hb dX11_isPocket_20 (by decide) (fun c_4 => ?_) (fun c_4 => ?_)
    · replace h := it_n c_4 h
      exact J27_2 h _ _ _ hP hD hS (lv_sub hl [] rfl)
    · replace h := it_p c_4 h
      refine lv_iconst (v := 1) hx hb dX11_isPocket_23 (by decide) ?_
      refine lv_goto (tgt := 28) hx hb dX11_isPocket_24 (by decide) ?_
      obtain rfl := Option.some.inj h
      rw [← hQ]
      exact retZ (r := 1) hB rfl hS hP dX11_isPocket_28
  clear ej14_3
  refine lv_if_eq (tgt := 14) hx hb dX11_isPocket_6 (by decide) (fun c_5 => ?_) (fun c_5 => ?_)
  · replace h := it_p c_5 h
    exact J14_3 h _ _ _ hP hD hS (lv_sub hl [1] rfl)
  · replace h := it_n c_5 h
    refine lv_iload_n hx hb dX11_isPocket_9 rfl (lv_at hl 0 rfl) ?_
    refine lv_iconst (v := 4) hx hb dX11_isPocket_10 (by decide) ?_
    refine lv_icmp_ne (tgt := 27) hx hb dX11_isPocket_11 (by decide) (fun c_6 => ?_) (fun c_6 => ?_)
    · replace h := it_n c_6 h
      exact J27_2 h _ _ _ hP hD hS (lv_sub hl [] rfl)
    · replace h := it_p c_6 h
      exact J14_3 h _ _ _ hP hD hS (lv_sub hl [1] rfl)


def b_X10_returnWhite_L7 (f_t_taken : Int64) (v_tc : Nat → Int32) (n : Nat) (j37_2 : Int32 → Option (Int64 × (Nat → Int32))) (go_6 : Int32 → Int32 → Option (Int64 × (Nat → Int32))) (x1_4 : Int32) (x2_5 : Int32) : Option (Int64 × (Nat → Int32)) :=
  (if 45 ≤ x2_5 then (j37_2 x1_4) else ((f_X10_ballIn n f_t_taken v_tc x1_4).bind (fun u_9 => (if u_9 = (-1) then (j37_2 x1_4) else ((f_X11_isPocket x2_5).bind (fun u_11 => (jn (fun (x1_12 : Int32) => (bnd (x2_5 + 1) (fun x2_14 => (go_6 x1_12 x2_14)))) (fun (j31_13 : Int32 → Option (Int64 × (Nat → Int32))) => (if u_11 = 0 then (j31_13 x2_5) else (j31_13 x1_4))))))))))
def f_X10_returnWhite_L7 (f_t_taken : Int64) (v_tc : Nat → Int32) (n : Nat) (j37_2 : Int32 → Option (Int64 × (Nat → Int32))) (k : Nat) (x1_4 : Int32) (x2_5 : Int32) : Option (Int64 × (Nat → Int32)) :=
  lpF (fun (self : (Int32 × Int32) → Option (Int64 × (Nat → Int32))) (a : Int32 × Int32) => b_X10_returnWhite_L7 f_t_taken v_tc n j37_2 (fun x1_4 x2_5 => self (x1_4, x2_5)) a.1 a.2) k (x1_4, x2_5)
def f_X10_returnWhite (n : Nat) (f_t_taken : Int64) (f_t_spot : Int32) (v_tc : Nat → Int32) : Option (Int64 × (Nat → Int32)) :=
  (jn (fun (x1_1 : Int32) => ((f_X10_lay f_t_taken v_tc 0 x1_1).bind (fun u_3 => (some (u_3.1, u_3.2))))) (fun (j37_2 : Int32 → Option (Int64 × (Nat → Int32))) => (f_X10_returnWhite_L7 f_t_taken v_tc n j37_2 n f_t_spot 0)))
theorem hd_X10_returnWhite : yX10_returnWhite.cls ≠ "java/lang/invoke/MethodHandle" ∧ yX10_returnWhite.cls ≠ "java/lang/invoke/VarHandle" ∧ (parseMethodDescriptor yX10_returnWhite.desc).map (fun d => d.parameters.length) = some 0 := ⟨by decide +kernel, by decide +kernel, by decide +kernel⟩
set_option maxHeartbeats 4000000 in
set_option maxRecDepth 100000 in
theorem c_X10_returnWhite (X : CXp) (l : Launch) (n : Nat) (a_t a_tc a_tk a_tw : Nat) (f_t_taken : Int64) (f_t_size : Int32) (f_t_spot : Int32) (v_tc : Nat → Int32) (res : Int64 × (Nat → Int32)) (h : f_X10_returnWhite n f_t_taken f_t_spot v_tc = some res) : CTg X l yX10_returnWhite cX10_returnWhite 3 none 1 22 [.ref a_t] [(a_t, .inr (10, [.ref a_tc, .ref a_tk, .ref a_tw, .long f_t_taken, .int f_t_size, .int f_t_spot])), (a_tc, .inl (xI X, 7, .inl v_tc))] (QcV X [(a_t, .inr (10, [.ref a_tc, .ref a_tk, .ref a_tw, .long res.1, .int f_t_size, .int f_t_spot])), (a_tc, .inl (xI X, 7, .inl res.2))]) := by
  refine CTg.mk (own := RX10) (by decide) rfl (Nat.le_of_ble_eq_true rfl) ?_
  intro p e s m args below meth c A hB hP hD hS ls hl
  obtain ⟨hx, hb, hr, hml, hown, hts, hlocks, hcx, hA, hAB⟩ := id hB
  have hK := hcx.1
  generalize hQ : MQ below (QcV X [(a_t, .inr (10, [.ref a_tc, .ref a_tk, .ref a_tw, .long res.1, .int f_t_size, .int f_t_spot])), (a_tc, .inl (xI X, 7, .inl res.2))] A) args s 0 0 A = Q
  replace hl : lv_has ls 3 [(0, .ref a_t)] := hl
  unfold f_X10_returnWhite at h
  refine lv_aload_n hx hb dX10_returnWhite_0 rfl (lv_at hl 0 rfl) ?_
  refine va_get (D := xD X) (ci := 10) (v := .int f_t_spot) (C := RX10) (T := TX10) (N := 6) hx hb hts inX10 hown hK hP 0 rfl rfl 5 (by decide) (hts _ wq_1_104) (fun _ h9 => h9) rfl dX10_returnWhite_1 ?_
  refine lv_istore_n (lv' := [(1, .int f_t_spot), (0, .ref a_t)]) hx hb dX10_returnWhite_4 rfl hl (by decide) rfl (fun ls hl => ?_)
  refine lv_iconst (v := 0) hx hb dX10_returnWhite_5 (by decide) ?_
  refine lv_istore_n (lv' := [(2, .int 0), (1, .int f_t_spot), (0, .ref a_t)]) hx hb dX10_returnWhite_6 rfl hl (by decide) rfl (fun ls hl => ?_)
  obtain ⟨j37_2, ej37_2, h⟩ := jn_s h
  have J37_2 : ∀ (x1_1 : Int32), j37_2 x1_1 = some res → ∀ (H : Heap) (locs : List Loc) (ls : Array Slot), va_P (xD X) vwCl [(a_t, .inr (10, [.ref a_tc, .ref a_tk, .ref a_tw, .long f_t_taken, .int f_t_size, .int f_t_spot])), (a_tc, .inl (xI X, 7, .inl v_tc))] H → va_D A [(a_t, .inr (10, [.ref a_tc, .ref a_tk, .ref a_tw, .long f_t_taken, .int f_t_size, .int f_t_spot])), (a_tc, .inl (xI X, 7, .inl v_tc))] → va_S A s.heap H locs → lv_has ls 3 [(0, .ref a_t), (1, .int x1_1)] → W p l e (rmF 1 22) s m args below meth c H locs 0 0 Q (F0 m 37 ls []) := by
    clear h
    intro x1_1 h H locs ls hP hD hS hl
    rw [ej37_2] at h
    replace h := id h
    refine lv_aload_n hx hb dX10_returnWhite_37 rfl (lv_at hl 0 rfl) ?_
    refine lv_iconst (v := 0) hx hb dX10_returnWhite_38 (by decide) ?_
    refine lv_iload_n hx hb dX10_returnWhite_39 rfl (lv_at hl 1 rfl) ?_
    obtain ⟨u_3, hu_3, h⟩ := ob_s h
    refine cVv (C := RX10) (As := [.int 0, .int x1_1]) (rest := []) [(a_t, .inr (10, [.ref a_tc, .ref a_tk, .ref a_tw, .long u_3.1, .int f_t_size, .int f_t_spot])), (a_tc, .inl (xI X, 7, .inl u_3.2))] hB (c_X10_lay X l a_t a_tc a_tk a_tw f_t_taken f_t_size f_t_spot v_tc 0 x1_1 u_3 hu_3) wq_2_200 wq_1_9 wq_3_98 wq_2_198 wq_2_199 hd_X10_lay (by decide) hP hD hS hl.1 [0, 1] [] [] rfl (by decide +kernel) rfl rfl rfl (nn := 2) rfl (by decide +kernel) [a_t, a_tc] rfl rfl (q0 := 0) rfl rfl rfl rfl (Nat.le_of_ble_eq_true rfl) dX10_returnWhite_40 ⟨Nat.zero_le _, Nat.zero_le _⟩ (fun H locs hP hD hS => ?_)
    obtain rfl := Option.some.inj h
    rw [← hQ]
    exact retV hB hS hP dX10_returnWhite_43
  clear ej37_2
  have L7_go_6 : ∀ (k : Nat), ∀ (x1_4 : Int32) (x2_5 : Int32), f_X10_returnWhite_L7 f_t_taken v_tc n j37_2 k x1_4 x2_5 = some res → ∀ (H : Heap) (locs : List Loc) (ls : Array Slot), va_P (xD X) vwCl [(a_t, .inr (10, [.ref a_tc, .ref a_tk, .ref a_tw, .long f_t_taken, .int f_t_size, .int f_t_spot])), (a_tc, .inl (xI X, 7, .inl v_tc))] H → va_D A [(a_t, .inr (10, [.ref a_tc, .ref a_tk, .ref a_tw, .long f_t_taken, .int f_t_size, .int f_t_spot])), (a_tc, .inl (xI X, 7, .inl v_tc))] → va_S A s.heap H locs → lv_has ls 3 [(0, .ref a_t), (1, .int x1_4), (2, .int x2_5)] → W p l e (rmF 1 22) s m args below meth c H locs 0 0 Q (F0 m 7 ls []) := by
    clear h
    intro k
    induction k with
    | zero => intro x1_4 x2_5 h; cases h
    | succ k ih_7 =>
      intro x1_4 x2_5 h H locs ls hP hD hS hl
      replace h : b_X10_returnWhite_L7 f_t_taken v_tc n j37_2 (fun x1_4 x2_5 => f_X10_returnWhite_L7 f_t_taken v_tc n j37_2 k x1_4 x2_5) x1_4 x2_5 = some res := h
      unfold b_X10_returnWhite_L7 at h
      refine lv_iload_n hx hb dX10_returnWhite_7 rfl (lv_at hl 2 rfl) ?_
      refine lv_bipush (v := 45) hx hb dX10_returnWhite_8 (by decide) ?_
      refine lv_icmp_ge (tgt := 37) hx hb dX10_returnWhite_10 (by decide) (fun c_8 => ?_) (fun c_8 => ?_)
      · replace h := it_p c_8 h
        exact J37_2 x1_4 h _ _ _ hP hD hS (lv_sub hl [0, 1] rfl)
      · replace h := it_n c_8 h
        refine lv_aload_n hx hb dX10_returnWhite_13 rfl (lv_at hl 0 rfl) ?_
        refine lv_iload_n hx hb dX10_returnWhite_14 rfl (lv_at hl 1 rfl) ?_
        obtain ⟨u_9, hu_9, h⟩ := ob_s h
        refine cVi (C := RX10) (As := [.int x1_4]) (rest := []) [(a_t, .inr (10, [.ref a_tc, .ref a_tk, .ref a_tw, .long f_t_taken, .int f_t_size, .int f_t_spot])), (a_tc, .inl (xI X, 7, .inl v_tc))] hB (c_X10_ballIn X l n a_t a_tc a_tk a_tw f_t_taken f_t_size f_t_spot v_tc x1_4 u_9 hu_9) wq_3_57 wq_1_9 wq_3_96 wq_3_55 wq_3_56 hd_X10_ballIn (by decide) hP hD hS hl.1 [0, 1] [] [] rfl (by decide +kernel) rfl rfl rfl (nn := 2) rfl (by decide +kernel) [a_t, a_tc] rfl rfl (q0 := 0) rfl rfl rfl rfl (Nat.le_of_ble_eq_true rfl) dX10_returnWhite_15 ⟨Nat.zero_le _, Nat.zero_le _⟩ (fun H locs hP hD hS => ?_)
        refine lv_iconst (v := (-1)) hx hb dX10_returnWhite_18 (by decide) ?_
        refine lv_icmp_eq (tgt := 37) hx hb dX10_returnWhite_19 (by decide) (fun c_10 => ?_) (fun c_10 => ?_)
        · replace h := it_p c_10 h
          exact J37_2 x1_4 h _ _ _ hP hD hS (lv_sub hl [0, 1] rfl)
        · replace h := it_n c_10 h
          refine lv_iload_n hx hb dX10_returnWhite_22 rfl (lv_at hl 2 rfl) ?_
          obtain ⟨u_11, hu_11, h⟩ := ob_s h
          refine cNi (host := "WhiteWanted") (As := [.int x2_5]) (rest := []) [(a_t, .inr (10, [.ref a_tc, .ref a_tk, .ref a_tw, .long f_t_taken, .int f_t_size, .int f_t_spot])), (a_tc, .inl (xI X, 7, .inl v_tc))] hB (c_X11_isPocket X l x2_5 u_11 hu_11) wq_2_86 wq_1_1 wq_3_97 wq_2_85 hd_X11_isPocket (by decide) hP hD hS hl.1 [] [0, 1] [(a_t, .inr (10, [.ref a_tc, .ref a_tk, .ref a_tw, .long f_t_taken, .int f_t_size, .int f_t_spot])), (a_tc, .inl (xI X, 7, .inl v_tc))] rfl (by decide +kernel) rfl rfl rfl (nn := 2) rfl (by decide +kernel) [a_t, a_tc] rfl rfl rfl rfl (Nat.le_of_ble_eq_true rfl) dX10_returnWhite_23 ⟨Nat.zero_le _, Nat.zero_le _⟩ (fun H locs hP hD hS => ?_)
          obtain ⟨j31_13, ej31_13, h⟩ := jn_s h
          have J31_13 : ∀ (x1_12 : Int32), j31_13 x1_12 = some res → ∀ (H : Heap) (locs : List Loc) (ls : Array Slot), va_P (xD X) vwCl [(a_t, .inr (10, [.ref a_tc, .ref a_tk, .ref a_tw, .long f_t_taken, .int f_t_size, .int f_t_spot])), (a_tc, .inl (xI X, 7, .inl v_tc))] H → va_D A [(a_t, .inr (10, [.ref a_tc, .ref a_tk, .ref a_tw, .long f_t_taken, .int f_t_size, .int f_t_spot])), (a_tc, .inl (xI X, 7, .inl v_tc))] → va_S A s.heap H locs → lv_has ls 3 [(0, .ref a_t), (1, .int x1_12), (2, .int x2_5)] → W p l e (rmF 1 22) s m args below meth c H locs 0 0 Q (F0 m 31 ls []) := by
            clear h
            intro x1_12 h H locs ls hP hD hS hl
            rw [ej31_13] at h
            replace h := id h
            obtain ⟨x2_14, ex2_14⟩ : ∃ y : Int32, y = x2_5 + 1 := ⟨_, rfl⟩
            replace h := bn_s h ex2_14
            refine lv_iinc (v := x2_14) (lv' := [(2, .int x2_14), (0, .ref a_t), (1, .int x1_12)]) hx hb dX10_returnWhite_31 hl (k := 2) rfl (by rw [ex2_14]; rfl) (by decide) rfl (fun ls hl => ?_)
            refine lv_goto (tgt := 7) hx hb dX10_returnWhite_34 (by decide) ?_
            exact ih_7 x1_12 x2_14 h _ _ _ hP hD hS (lv_sub hl [1, 2, 0] rfl)
          clear ej31_13
          refine lv_if_ne (tgt := 31) hx hb dX10_returnWhite_26 (by decide) (fun c_15 => ?_) (fun c_15 => ?_)
          · replace h := it_n c_15 h
            exact J31_13 x1_4 h _ _ _ hP hD hS (lv_sub hl [0, 1, 2] rfl)
          · replace h := it_p c_15 h
            refine lv_iload_n hx hb dX10_returnWhite_29 rfl (lv_at hl 2 rfl) ?_
            refine lv_istore_n (lv' := [(1, .int x2_5), (0, .ref a_t), (2, .int x2_5)]) hx hb dX10_returnWhite_30 rfl hl (by decide) rfl (fun ls hl => ?_)
            exact J31_13 x2_5 h _ _ _ hP hD hS (lv_sub hl [1, 0, 2] rfl)
  exact L7_go_6 n f_t_spot 0 h _ _ _ hP hD hS (lv_sub hl [2, 1, 0] rfl)

