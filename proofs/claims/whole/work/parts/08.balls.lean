def f_X1_powerWhenHit (p1 : Int32) : Option (Int32) :=
  (some p1)
theorem hd_X1_powerWhenHit : yX1_powerWhenHit.cls ≠ "java/lang/invoke/MethodHandle" ∧ yX1_powerWhenHit.cls ≠ "java/lang/invoke/VarHandle" ∧ (parseMethodDescriptor yX1_powerWhenHit.desc).map (fun d => d.parameters.length) = some 1 := ⟨by decide +kernel, by decide +kernel, by decide +kernel⟩
set_option maxHeartbeats 4000000 in
set_option maxRecDepth 100000 in
theorem c_X1_powerWhenHit (X : CXp) (l : Launch) (a_z : Nat) (p1 : Int32) (res : Int32) (h : f_X1_powerWhenHit p1 = some res) : CTg X l yX1_powerWhenHit cX1_powerWhenHit 2 (some .int) 0 0 [.ref a_z, .int p1] [] (QcI X res []) := by
  refine CTg.mk (own := RX1) (by decide) rfl (Nat.le_of_ble_eq_true rfl) ?_
  intro p e s m args below meth c A hB hP hD hS ls hl
  obtain ⟨hx, hb, hr, hml, hown, hts, hlocks, hcx, hA, hAB⟩ := id hB
  have hK := hcx.1
  generalize hQ : MQ below (QcI X res [] A) args s 0 0 A = Q
  replace hl : lv_has ls 2 [(0, .ref a_z), (1, .int p1)] := hl
  unfold f_X1_powerWhenHit at h
  refine lv_iload_n hx hb dX1_powerWhenHit_0 rfl (lv_at hl 1 rfl) ?_
  obtain rfl := Option.some.inj h
  rw [← hQ]
  exact retI hB hS hP dX1_powerWhenHit_1


def f_X1_stopsAtCushion  : Option (Int32) :=
  (some 0)
theorem hd_X1_stopsAtCushion : yX1_stopsAtCushion.cls ≠ "java/lang/invoke/MethodHandle" ∧ yX1_stopsAtCushion.cls ≠ "java/lang/invoke/VarHandle" ∧ (parseMethodDescriptor yX1_stopsAtCushion.desc).map (fun d => d.parameters.length) = some 0 := ⟨by decide +kernel, by decide +kernel, by decide +kernel⟩
set_option maxHeartbeats 4000000 in
set_option maxRecDepth 100000 in
theorem c_X1_stopsAtCushion (X : CXp) (l : Launch) (a_z : Nat) (res : Int32) (h : f_X1_stopsAtCushion  = some res) : CTg X l yX1_stopsAtCushion cX1_stopsAtCushion 1 (some .boolean) 0 0 [.ref a_z] [] (QcI X res []) := by
  refine CTg.mk (own := RX1) (by decide) rfl (Nat.le_of_ble_eq_true rfl) ?_
  intro p e s m args below meth c A hB hP hD hS ls hl
  obtain ⟨hx, hb, hr, hml, hown, hts, hlocks, hcx, hA, hAB⟩ := id hB
  have hK := hcx.1
  generalize hQ : MQ below (QcI X res [] A) args s 0 0 A = Q
  replace hl : lv_has ls 1 [(0, .ref a_z)] := hl
  unfold f_X1_stopsAtCushion at h
  refine lv_iconst (v := 0) hx hb dX1_stopsAtCushion_0 (by decide) ?_
  obtain rfl := Option.some.inj h
  rw [← hQ]
  exact retZ (r := 0) hB rfl hS hP dX1_stopsAtCushion_1


def f_X5_powerWhenHit (p1 : Int32) : Option (Int32) :=
  (some (p1 / 2))
theorem hd_X5_powerWhenHit : yX5_powerWhenHit.cls ≠ "java/lang/invoke/MethodHandle" ∧ yX5_powerWhenHit.cls ≠ "java/lang/invoke/VarHandle" ∧ (parseMethodDescriptor yX5_powerWhenHit.desc).map (fun d => d.parameters.length) = some 1 := ⟨by decide +kernel, by decide +kernel, by decide +kernel⟩
set_option maxHeartbeats 4000000 in
set_option maxRecDepth 100000 in
theorem c_X5_powerWhenHit (X : CXp) (l : Launch) (a_z : Nat) (p1 : Int32) (res : Int32) (h : f_X5_powerWhenHit p1 = some res) : CTg X l yX5_powerWhenHit cX5_powerWhenHit 2 (some .int) 0 0 [.ref a_z, .int p1] [] (QcI X res []) := by
  refine CTg.mk (own := RX5) (by decide) rfl (Nat.le_of_ble_eq_true rfl) ?_
  intro p e s m args below meth c A hB hP hD hS ls hl
  obtain ⟨hx, hb, hr, hml, hown, hts, hlocks, hcx, hA, hAB⟩ := id hB
  have hK := hcx.1
  generalize hQ : MQ below (QcI X res [] A) args s 0 0 A = Q
  replace hl : lv_has ls 2 [(0, .ref a_z), (1, .int p1)] := hl
  unfold f_X5_powerWhenHit at h
  refine lv_iload_n hx hb dX5_powerWhenHit_0 rfl (lv_at hl 1 rfl) ?_
  refine lv_iconst (v := 2) hx hb dX5_powerWhenHit_1 (by decide) ?_
  refine lv_idiv hx hb dX5_powerWhenHit_2 (by decide) ?_
  obtain rfl := Option.some.inj h
  rw [← hQ]
  exact retI hB hS hP dX5_powerWhenHit_3


def f_X6_powerWhenHit (p1 : Int32) : Option (Int32) :=
  (some (p1 + 1))
theorem hd_X6_powerWhenHit : yX6_powerWhenHit.cls ≠ "java/lang/invoke/MethodHandle" ∧ yX6_powerWhenHit.cls ≠ "java/lang/invoke/VarHandle" ∧ (parseMethodDescriptor yX6_powerWhenHit.desc).map (fun d => d.parameters.length) = some 1 := ⟨by decide +kernel, by decide +kernel, by decide +kernel⟩
set_option maxHeartbeats 4000000 in
set_option maxRecDepth 100000 in
theorem c_X6_powerWhenHit (X : CXp) (l : Launch) (a_z : Nat) (p1 : Int32) (res : Int32) (h : f_X6_powerWhenHit p1 = some res) : CTg X l yX6_powerWhenHit cX6_powerWhenHit 2 (some .int) 0 0 [.ref a_z, .int p1] [] (QcI X res []) := by
  refine CTg.mk (own := RX6) (by decide) rfl (Nat.le_of_ble_eq_true rfl) ?_
  intro p e s m args below meth c A hB hP hD hS ls hl
  obtain ⟨hx, hb, hr, hml, hown, hts, hlocks, hcx, hA, hAB⟩ := id hB
  have hK := hcx.1
  generalize hQ : MQ below (QcI X res [] A) args s 0 0 A = Q
  replace hl : lv_has ls 2 [(0, .ref a_z), (1, .int p1)] := hl
  unfold f_X6_powerWhenHit at h
  refine lv_iload_n hx hb dX6_powerWhenHit_0 rfl (lv_at hl 1 rfl) ?_
  refine lv_iconst (v := 1) hx hb dX6_powerWhenHit_1 (by decide) ?_
  refine lv_iadd hx hb dX6_powerWhenHit_2 ?_
  obtain rfl := Option.some.inj h
  rw [← hQ]
  exact retI hB hS hP dX6_powerWhenHit_3


def f_X2_stopsAtCushion  : Option (Int32) :=
  (some 1)
theorem hd_X2_stopsAtCushion : yX2_stopsAtCushion.cls ≠ "java/lang/invoke/MethodHandle" ∧ yX2_stopsAtCushion.cls ≠ "java/lang/invoke/VarHandle" ∧ (parseMethodDescriptor yX2_stopsAtCushion.desc).map (fun d => d.parameters.length) = some 0 := ⟨by decide +kernel, by decide +kernel, by decide +kernel⟩
set_option maxHeartbeats 4000000 in
set_option maxRecDepth 100000 in
theorem c_X2_stopsAtCushion (X : CXp) (l : Launch) (a_z : Nat) (res : Int32) (h : f_X2_stopsAtCushion  = some res) : CTg X l yX2_stopsAtCushion cX2_stopsAtCushion 1 (some .boolean) 0 0 [.ref a_z] [] (QcI X res []) := by
  refine CTg.mk (own := RX2) (by decide) rfl (Nat.le_of_ble_eq_true rfl) ?_
  intro p e s m args below meth c A hB hP hD hS ls hl
  obtain ⟨hx, hb, hr, hml, hown, hts, hlocks, hcx, hA, hAB⟩ := id hB
  have hK := hcx.1
  generalize hQ : MQ below (QcI X res [] A) args s 0 0 A = Q
  replace hl : lv_has ls 1 [(0, .ref a_z)] := hl
  unfold f_X2_stopsAtCushion at h
  refine lv_iconst (v := 1) hx hb dX2_stopsAtCushion_0 (by decide) ?_
  obtain rfl := Option.some.inj h
  rw [← hQ]
  exact retZ (r := 1) hB rfl hS hP dX2_stopsAtCushion_1


def f_X8_powerWhenHit (p1 : Int32) : Option (Int32) :=
  (some ((p1 / 2) / 2))
theorem hd_X8_powerWhenHit : yX8_powerWhenHit.cls ≠ "java/lang/invoke/MethodHandle" ∧ yX8_powerWhenHit.cls ≠ "java/lang/invoke/VarHandle" ∧ (parseMethodDescriptor yX8_powerWhenHit.desc).map (fun d => d.parameters.length) = some 1 := ⟨by decide +kernel, by decide +kernel, by decide +kernel⟩
set_option maxHeartbeats 4000000 in
set_option maxRecDepth 100000 in
theorem c_X8_powerWhenHit (X : CXp) (l : Launch) (a_z : Nat) (p1 : Int32) (res : Int32) (h : f_X8_powerWhenHit p1 = some res) : CTg X l yX8_powerWhenHit cX8_powerWhenHit 2 (some .int) 0 0 [.ref a_z, .int p1] [] (QcI X res []) := by
  refine CTg.mk (own := RX8) (by decide) rfl (Nat.le_of_ble_eq_true rfl) ?_
  intro p e s m args below meth c A hB hP hD hS ls hl
  obtain ⟨hx, hb, hr, hml, hown, hts, hlocks, hcx, hA, hAB⟩ := id hB
  have hK := hcx.1
  generalize hQ : MQ below (QcI X res [] A) args s 0 0 A = Q
  replace hl : lv_has ls 2 [(0, .ref a_z), (1, .int p1)] := hl
  unfold f_X8_powerWhenHit at h
  refine lv_iload_n hx hb dX8_powerWhenHit_0 rfl (lv_at hl 1 rfl) ?_
  refine lv_iconst (v := 2) hx hb dX8_powerWhenHit_1 (by decide) ?_
  refine lv_idiv hx hb dX8_powerWhenHit_2 (by decide) ?_
  refine lv_iconst (v := 2) hx hb dX8_powerWhenHit_3 (by decide) ?_
  refine lv_idiv hx hb dX8_powerWhenHit_4 (by decide) ?_
  obtain rfl := Option.some.inj h
  rw [← hQ]
  exact retI hB hS hP dX8_powerWhenHit_5

def stopsF (k : Nat) : Int32 := if k = 3 then 1 else 0
def powerF (k : Nat) (q : Int32) : Int32 := if k = 1 then q / 2 else if k = 2 then q + 1 else if k = 4 then q / 2 / 2 else q
def instF (c k : Nat) : Int32 := if c = 1 then 1 else if c = 5 then (if k = 1 ∨ k = 4 then 1 else 0) else if c = 6 then (if k = 2 then 1 else 0) else if c = 2 then (if k = 3 then 1 else 0) else (if k = 4 then 1 else 0)
section Rows3
variable {X : CXp} {p : Program} {l : Launch} {e : Env} {R : Room} {s : State} {m : MethodId} {args : Array Value} {below : List Frame} {meth : Method} {c : Code} {H : Heap} {locs : List Loc} {cells slots : Nat} {Q : State → Prop} {A : Nat → Prop} {cc : ByteArray} {own : String} {nL : Nat} {ret : Option FieldType} {pc : Nat} {ls : Array Slot} {rest st0 : List Value}
variable {x y : MethodName} {bytes bx : ByteArray} {maxL index n fr lo mx : Nat} {ret' rx : Option FieldType} {ws wc : va_W} {As : List Value} {Qc : (Nat → Prop) → Array Value → State → Outcome → State → Prop} {C : String} {b : Nat}
theorem runO (B : Bd X p s m args meth c A cc own nL ret) (hM : CTg X l y bytes maxL ret' fr lo (.ref b :: As) wc Qc) (hcode : Cond.code y bytes maxL ret' ∈ WG) (hini : Cond.initialized y.cls ∈ WG) (hlink : Cond.methodLink own index x ∈ WG) (hsame : Cond.sameMethod x.cls x.cls x.name x.desc ∈ WG) (hxi : Cond.instanceMethod x ∈ WG) (hxc : Cond.code x bx mx rx ∈ WG) (hinst : Cond.instanceMethod y ∈ WG) (hsel : Cond.selects C x y ∈ WG)
    (hd : x.cls ≠ "java/lang/invoke/MethodHandle" ∧ x.cls ≠ "java/lang/invoke/VarHandle" ∧ (parseMethodDescriptor x.desc).map (fun d => d.parameters.length) = some n) (hR : fr + 1 ≤ R.frames ∧ 8 + (maxL + 11) + lo ≤ R.locals)
    (hP : va_P (xD X) vwCl ws H) (hD : va_D A ws) (hS : va_S A s.heap H locs) (hl : ls.size = nL) (is : List Nat) (hC : is.map (fun i => ws[i]?) = wc.map some) (hn : va_nd is = true) (hf : is.filterMap (fun i => ws[i]?) = wc)
    {q0 ci : Nat} {fs : List Value} {cT : u_T} {cN : Nat} (he : ws[q0]? = some (b, .inr (ci, fs))) (hc : vwCl[ci]? = some (C, cT, cN)) (hln : As.length = n) (hst : st0 = As.reverse ++ .ref b :: rest) (hw : (rest.map fun v => v.category).sum ≤ 8) (hdg : decode cc pc = .ok (.invokevirtual index, 3)) (hcs : cells ≤ R.cells ∧ slots ≤ R.slots) :
    va_Run p l e R s m args below meth c H locs cells slots 0 0 (F0 m pc ls st0) rest (Qc (va_A wc H.size) (Value.ref b :: As).toArray) (va_A wc H.size) := by
  have hts := B.2.2.2.2.2.1
  have hcx := B.2.2.2.2.2.2.2.1
  have hts' : ∀ w ∈ (Cond.code y bytes maxL ret' :: WG), w.before args s = true := fun w hw => hts w ((List.mem_cons.mp hw).elim (fun e => e ▸ hcode) id)
  refine va_runU (x := x) (owner := x.cls) (C := C) ⟨B.1, B.2.1, B.2.2.2.1, B.2.2.2.2.1, hts⟩ (hM H.size) ⟨⟨rfl, rfl, hR.1, hR.2, pay_in hts' (good_WG hcode), List.mem_cons_self⟩, hts _ hcode, hts _ hini, ⟨hd.1, hd.2.1⟩, fun sig h => ?_, hts _ hlink, hts _ hsame, va_Decl.of (hts _ hxi) (hts _ hxc), hts _ hsel, hts _ hinst⟩ ⟨PCx.blind, va_recv hcx.1 hP hc he, pre_of B hP hD hS is hC hn hf⟩ rfl hln hl hst (lv_room hw) hdg hcs
  have h2 := hd.2.2
  rw [h] at h2
  exact (Option.some.inj h2).symm
theorem poly_stopsAtCushion {a_b : Nat → Nat} {k : Nat} (B : Bd X p s m args meth c A cc own nL ret) (hP : va_P (xD X) vwCl ws H) (hD : va_D A ws) (hS : va_S A s.heap H locs) (hl : ls.size = nL) (hk : k < 5) (q0 : Nat) (h0 : ws[q0 + 0]? = some (a_b 0, .inr (1, []))) (h1 : ws[q0 + 1]? = some (a_b 1, .inr (5, []))) (h2 : ws[q0 + 2]? = some (a_b 2, .inr (6, []))) (h3 : ws[q0 + 3]? = some (a_b 3, .inr (2, []))) (h4 : ws[q0 + 4]? = some (a_b 4, .inr (8, []))) (wl : Cond.methodLink own index yX1_stopsAtCushion ∈ WG) (hR : 0 + 1 ≤ R.frames ∧ 8 + (2 + 11) + 0 ≤ R.locals) (hdg : decode cc pc = .ok (.invokevirtual index, 3)) (hw : (rest.map fun v => v.category).sum ≤ 8) (hcs : cells ≤ R.cells ∧ slots ≤ R.slots)
    (kk : ∀ (H1 : Heap) (locs1 : List Loc), va_P (xD X) vwCl ws H1 → va_D A ws → va_S A s.heap H1 locs1 → W p l e R s m args below meth c H1 locs1 cells slots Q (F0 m (pc + 3) ls (.int (stopsF k) :: rest))) : W p l e R s m args below meth c H locs cells slots Q (F0 m pc ls (.ref (a_b k) :: rest)) := by
  have hA := B.2.2.2.2.2.2.2.2.1
  have hR1 : 8 + (1 + 11) + 0 ≤ R.locals := Nat.le_trans (by decide) hR.2
  match k, hk with
  | 0, _ => exact back_i ws (runO (x := yX1_stopsAtCushion) (C := RX1) (As := []) (rest := rest) B (c_X1_stopsAtCushion X l (a_b 0) _ rfl) wq_3_50 wq_1_2 wl wq_3_43 wq_3_41 wq_3_50 wq_3_41 wq_3_42 hd_X1_stopsAtCushion ⟨hR.1, hR1⟩ hP hD hS hl [] rfl rfl rfl (q0 := q0 + 0) h0 rfl rfl rfl hw hdg hcs) hA hP hD hS [] rfl rfl rfl rfl kk
  | 1, _ => exact back_i ws (runO (x := yX1_stopsAtCushion) (C := RX5) (As := []) (rest := rest) B (c_X1_stopsAtCushion X l (a_b 1) _ rfl) wq_3_50 wq_1_2 wl wq_3_43 wq_3_41 wq_3_50 wq_3_41 wq_3_47 hd_X1_stopsAtCushion ⟨hR.1, hR1⟩ hP hD hS hl [] rfl rfl rfl (q0 := q0 + 1) h1 rfl rfl rfl hw hdg hcs) hA hP hD hS [] rfl rfl rfl rfl kk
  | 2, _ => exact back_i ws (runO (x := yX1_stopsAtCushion) (C := RX6) (As := []) (rest := rest) B (c_X1_stopsAtCushion X l (a_b 2) _ rfl) wq_3_50 wq_1_2 wl wq_3_43 wq_3_41 wq_3_50 wq_3_41 wq_3_48 hd_X1_stopsAtCushion ⟨hR.1, hR1⟩ hP hD hS hl [] rfl rfl rfl (q0 := q0 + 2) h2 rfl rfl rfl hw hdg hcs) hA hP hD hS [] rfl rfl rfl rfl kk
  | 3, _ => exact back_i ws (runO (x := yX1_stopsAtCushion) (C := RX2) (As := []) (rest := rest) B (c_X2_stopsAtCushion X l (a_b 3) _ rfl) wq_3_46 wq_1_5 wl wq_3_43 wq_3_41 wq_3_50 wq_3_45 wq_3_44 hd_X1_stopsAtCushion ⟨hR.1, hR1⟩ hP hD hS hl [] rfl rfl rfl (q0 := q0 + 3) h3 rfl rfl rfl hw hdg hcs) hA hP hD hS [] rfl rfl rfl rfl kk
  | 4, _ => exact back_i ws (runO (x := yX1_stopsAtCushion) (C := RX8) (As := []) (rest := rest) B (c_X1_stopsAtCushion X l (a_b 4) _ rfl) wq_3_50 wq_1_2 wl wq_3_43 wq_3_41 wq_3_50 wq_3_41 wq_3_49 hd_X1_stopsAtCushion ⟨hR.1, hR1⟩ hP hD hS hl [] rfl rfl rfl (q0 := q0 + 4) h4 rfl rfl rfl hw hdg hcs) hA hP hD hS [] rfl rfl rfl rfl kk
theorem poly_powerWhenHit {a_b : Nat → Nat} {k : Nat} {v : Int32} (B : Bd X p s m args meth c A cc own nL ret) (hP : va_P (xD X) vwCl ws H) (hD : va_D A ws) (hS : va_S A s.heap H locs) (hl : ls.size = nL) (hk : k < 5) (q0 : Nat) (h0 : ws[q0 + 0]? = some (a_b 0, .inr (1, []))) (h1 : ws[q0 + 1]? = some (a_b 1, .inr (5, []))) (h2 : ws[q0 + 2]? = some (a_b 2, .inr (6, []))) (h3 : ws[q0 + 3]? = some (a_b 3, .inr (2, []))) (h4 : ws[q0 + 4]? = some (a_b 4, .inr (8, []))) (wl : Cond.methodLink own index yX1_powerWhenHit ∈ WG) (hR : 0 + 1 ≤ R.frames ∧ 8 + (2 + 11) + 0 ≤ R.locals) (hdg : decode cc pc = .ok (.invokevirtual index, 3)) (hw : (rest.map fun v => v.category).sum ≤ 8) (hcs : cells ≤ R.cells ∧ slots ≤ R.slots)
    (kk : ∀ (H1 : Heap) (locs1 : List Loc), va_P (xD X) vwCl ws H1 → va_D A ws → va_S A s.heap H1 locs1 → W p l e R s m args below meth c H1 locs1 cells slots Q (F0 m (pc + 3) ls (.int (powerF k v) :: rest))) : W p l e R s m args below meth c H locs cells slots Q (F0 m pc ls (.int v :: .ref (a_b k) :: rest)) := by
  have hA := B.2.2.2.2.2.2.2.2.1
  have hR1 : 8 + (1 + 11) + 0 ≤ R.locals := Nat.le_trans (by decide) hR.2
  match k, hk with
  | 0, _ => exact back_i ws (runO (x := yX1_powerWhenHit) (C := RX1) (As := [.int v]) (rest := rest) B (c_X1_powerWhenHit X l (a_b 0) v _ rfl) wq_3_76 wq_1_2 wl wq_3_65 wq_3_63 wq_3_76 wq_3_63 wq_3_64 hd_X1_powerWhenHit ⟨hR.1, hR.2⟩ hP hD hS hl [] rfl rfl rfl (q0 := q0 + 0) h0 rfl rfl rfl hw hdg hcs) hA hP hD hS [] rfl rfl rfl rfl kk
  | 1, _ => exact back_i ws (runO (x := yX1_powerWhenHit) (C := RX5) (As := [.int v]) (rest := rest) B (c_X5_powerWhenHit X l (a_b 1) v _ rfl) wq_3_69 wq_1_3 wl wq_3_65 wq_3_63 wq_3_76 wq_3_68 wq_3_67 hd_X1_powerWhenHit ⟨hR.1, hR.2⟩ hP hD hS hl [] rfl rfl rfl (q0 := q0 + 1) h1 rfl rfl rfl hw hdg hcs) hA hP hD hS [] rfl rfl rfl rfl kk
  | 2, _ => exact back_i ws (runO (x := yX1_powerWhenHit) (C := RX6) (As := [.int v]) (rest := rest) B (c_X6_powerWhenHit X l (a_b 2) v _ rfl) wq_3_72 wq_1_4 wl wq_3_65 wq_3_63 wq_3_76 wq_3_71 wq_3_70 hd_X1_powerWhenHit ⟨hR.1, hR.2⟩ hP hD hS hl [] rfl rfl rfl (q0 := q0 + 2) h2 rfl rfl rfl hw hdg hcs) hA hP hD hS [] rfl rfl rfl rfl kk
  | 3, _ => exact back_i ws (runO (x := yX1_powerWhenHit) (C := RX2) (As := [.int v]) (rest := rest) B (c_X1_powerWhenHit X l (a_b 3) v _ rfl) wq_3_76 wq_1_2 wl wq_3_65 wq_3_63 wq_3_76 wq_3_63 wq_3_66 hd_X1_powerWhenHit ⟨hR.1, hR.2⟩ hP hD hS hl [] rfl rfl rfl (q0 := q0 + 3) h3 rfl rfl rfl hw hdg hcs) hA hP hD hS [] rfl rfl rfl rfl kk
  | 4, _ => exact back_i ws (runO (x := yX1_powerWhenHit) (C := RX8) (As := [.int v]) (rest := rest) B (c_X8_powerWhenHit X l (a_b 4) v _ rfl) wq_3_75 wq_1_6 wl wq_3_65 wq_3_63 wq_3_76 wq_3_74 wq_3_73 hd_X1_powerWhenHit ⟨hR.1, hR.2⟩ hP hD hS hl [] rfl rfl rfl (q0 := q0 + 4) h4 rfl rfl rfl hw hdg hcs) hA hP hD hS [] rfl rfl rfl rfl kk
theorem poly_inst1 {a_b : Nat → Nat} {k : Nat} (B : Bd X p s m args meth c A cc own nL ret) (hP : va_P (xD X) vwCl ws H) (hk : k < 5) (q0 : Nat) (h0 : ws[q0 + 0]? = some (a_b 0, .inr (1, []))) (h1 : ws[q0 + 1]? = some (a_b 1, .inr (5, []))) (h2 : ws[q0 + 2]? = some (a_b 2, .inr (6, []))) (h3 : ws[q0 + 3]? = some (a_b 3, .inr (2, []))) (h4 : ws[q0 + 4]? = some (a_b 4, .inr (8, []))) (wl : Cond.classLink own index RX1 ∈ WG) (hdg : decode cc pc = .ok (.instanceof index, 3))
    (kk : W p l e R s m args below meth c H locs cells slots Q (F0 m (pc + 3) ls (.int (instF 1 k) :: rest))) : W p l e R s m args below meth c H locs cells slots Q (F0 m pc ls (.ref (a_b k) :: rest)) := by
  have hcx := B.2.2.2.2.2.2.2.1
  have hts := B.2.2.2.2.2.1
  match k, hk with
  | 0, _ => exact va_instS B.1 B.2.1 B.2.2.2.2.1 (hts _ wl) (hcx.1.1 1 _ rfl).2 (va_recv hcx.1 hP rfl h0) hdg kk
  | 1, _ => exact va_instY B.1 B.2.1 (C := RX5) B.2.2.2.2.1 (hts _ wl) (hcx.2.1 _ wq_6_23) (va_recv hcx.1 hP rfl h1) hdg kk
  | 2, _ => exact va_instY B.1 B.2.1 (C := RX6) B.2.2.2.2.1 (hts _ wl) (hcx.2.1 _ wq_6_24) (va_recv hcx.1 hP rfl h2) hdg kk
  | 3, _ => exact va_instY B.1 B.2.1 (C := RX2) B.2.2.2.2.1 (hts _ wl) (hcx.2.1 _ wq_6_22) (va_recv hcx.1 hP rfl h3) hdg kk
  | 4, _ => exact va_instY B.1 B.2.1 (C := RX8) B.2.2.2.2.1 (hts _ wl) (hcx.2.1 _ wq_6_25) (va_recv hcx.1 hP rfl h4) hdg kk
theorem poly_inst5 {a_b : Nat → Nat} {k : Nat} (B : Bd X p s m args meth c A cc own nL ret) (hP : va_P (xD X) vwCl ws H) (hk : k < 5) (q0 : Nat) (h0 : ws[q0 + 0]? = some (a_b 0, .inr (1, []))) (h1 : ws[q0 + 1]? = some (a_b 1, .inr (5, []))) (h2 : ws[q0 + 2]? = some (a_b 2, .inr (6, []))) (h3 : ws[q0 + 3]? = some (a_b 3, .inr (2, []))) (h4 : ws[q0 + 4]? = some (a_b 4, .inr (8, []))) (wl : Cond.classLink own index RX5 ∈ WG) (hdg : decode cc pc = .ok (.instanceof index, 3))
    (kk : W p l e R s m args below meth c H locs cells slots Q (F0 m (pc + 3) ls (.int (instF 5 k) :: rest))) : W p l e R s m args below meth c H locs cells slots Q (F0 m pc ls (.ref (a_b k) :: rest)) := by
  have hcx := B.2.2.2.2.2.2.2.1
  have hts := B.2.2.2.2.2.1
  match k, hk with
  | 0, _ => exact va_instNo B.1 B.2.1 (C := RX1) B.2.2.2.2.1 (hts _ wl) (hcx.2.2.1 (RX1, RX5) (List.mem_of_getElem? (i := 0) rfl)) (va_recv hcx.1 hP rfl h0) hdg kk
  | 1, _ => exact va_instS B.1 B.2.1 B.2.2.2.2.1 (hts _ wl) (hcx.1.1 5 _ rfl).2 (va_recv hcx.1 hP rfl h1) hdg kk
  | 2, _ => exact va_instNo B.1 B.2.1 (C := RX6) B.2.2.2.2.1 (hts _ wl) (hcx.2.2.1 (RX6, RX5) (List.mem_of_getElem? (i := 7) rfl)) (va_recv hcx.1 hP rfl h2) hdg kk
  | 3, _ => exact va_instNo B.1 B.2.1 (C := RX2) B.2.2.2.2.1 (hts _ wl) (hcx.2.2.1 (RX2, RX5) (List.mem_of_getElem? (i := 10) rfl)) (va_recv hcx.1 hP rfl h3) hdg kk
  | 4, _ => exact va_instY B.1 B.2.1 (C := RX8) B.2.2.2.2.1 (hts _ wl) (hcx.2.1 _ wq_6_26) (va_recv hcx.1 hP rfl h4) hdg kk
theorem poly_inst6 {a_b : Nat → Nat} {k : Nat} (B : Bd X p s m args meth c A cc own nL ret) (hP : va_P (xD X) vwCl ws H) (hk : k < 5) (q0 : Nat) (h0 : ws[q0 + 0]? = some (a_b 0, .inr (1, []))) (h1 : ws[q0 + 1]? = some (a_b 1, .inr (5, []))) (h2 : ws[q0 + 2]? = some (a_b 2, .inr (6, []))) (h3 : ws[q0 + 3]? = some (a_b 3, .inr (2, []))) (h4 : ws[q0 + 4]? = some (a_b 4, .inr (8, []))) (wl : Cond.classLink own index RX6 ∈ WG) (hdg : decode cc pc = .ok (.instanceof index, 3))
    (kk : W p l e R s m args below meth c H locs cells slots Q (F0 m (pc + 3) ls (.int (instF 6 k) :: rest))) : W p l e R s m args below meth c H locs cells slots Q (F0 m pc ls (.ref (a_b k) :: rest)) := by
  have hcx := B.2.2.2.2.2.2.2.1
  have hts := B.2.2.2.2.2.1
  match k, hk with
  | 0, _ => exact va_instNo B.1 B.2.1 (C := RX1) B.2.2.2.2.1 (hts _ wl) (hcx.2.2.1 (RX1, RX6) (List.mem_of_getElem? (i := 1) rfl)) (va_recv hcx.1 hP rfl h0) hdg kk
  | 1, _ => exact va_instNo B.1 B.2.1 (C := RX5) B.2.2.2.2.1 (hts _ wl) (hcx.2.2.1 (RX5, RX6) (List.mem_of_getElem? (i := 4) rfl)) (va_recv hcx.1 hP rfl h1) hdg kk
  | 2, _ => exact va_instS B.1 B.2.1 B.2.2.2.2.1 (hts _ wl) (hcx.1.1 6 _ rfl).2 (va_recv hcx.1 hP rfl h2) hdg kk
  | 3, _ => exact va_instNo B.1 B.2.1 (C := RX2) B.2.2.2.2.1 (hts _ wl) (hcx.2.2.1 (RX2, RX6) (List.mem_of_getElem? (i := 11) rfl)) (va_recv hcx.1 hP rfl h3) hdg kk
  | 4, _ => exact va_instNo B.1 B.2.1 (C := RX8) B.2.2.2.2.1 (hts _ wl) (hcx.2.2.1 (RX8, RX6) (List.mem_of_getElem? (i := 13) rfl)) (va_recv hcx.1 hP rfl h4) hdg kk
theorem poly_inst2 {a_b : Nat → Nat} {k : Nat} (B : Bd X p s m args meth c A cc own nL ret) (hP : va_P (xD X) vwCl ws H) (hk : k < 5) (q0 : Nat) (h0 : ws[q0 + 0]? = some (a_b 0, .inr (1, []))) (h1 : ws[q0 + 1]? = some (a_b 1, .inr (5, []))) (h2 : ws[q0 + 2]? = some (a_b 2, .inr (6, []))) (h3 : ws[q0 + 3]? = some (a_b 3, .inr (2, []))) (h4 : ws[q0 + 4]? = some (a_b 4, .inr (8, []))) (wl : Cond.classLink own index RX2 ∈ WG) (hdg : decode cc pc = .ok (.instanceof index, 3))
    (kk : W p l e R s m args below meth c H locs cells slots Q (F0 m (pc + 3) ls (.int (instF 2 k) :: rest))) : W p l e R s m args below meth c H locs cells slots Q (F0 m pc ls (.ref (a_b k) :: rest)) := by
  have hcx := B.2.2.2.2.2.2.2.1
  have hts := B.2.2.2.2.2.1
  match k, hk with
  | 0, _ => exact va_instNo B.1 B.2.1 (C := RX1) B.2.2.2.2.1 (hts _ wl) (hcx.2.2.1 (RX1, RX2) (List.mem_of_getElem? (i := 2) rfl)) (va_recv hcx.1 hP rfl h0) hdg kk
  | 1, _ => exact va_instNo B.1 B.2.1 (C := RX5) B.2.2.2.2.1 (hts _ wl) (hcx.2.2.1 (RX5, RX2) (List.mem_of_getElem? (i := 5) rfl)) (va_recv hcx.1 hP rfl h1) hdg kk
  | 2, _ => exact va_instNo B.1 B.2.1 (C := RX6) B.2.2.2.2.1 (hts _ wl) (hcx.2.2.1 (RX6, RX2) (List.mem_of_getElem? (i := 8) rfl)) (va_recv hcx.1 hP rfl h2) hdg kk
  | 3, _ => exact va_instS B.1 B.2.1 B.2.2.2.2.1 (hts _ wl) (hcx.1.1 2 _ rfl).2 (va_recv hcx.1 hP rfl h3) hdg kk
  | 4, _ => exact va_instNo B.1 B.2.1 (C := RX8) B.2.2.2.2.1 (hts _ wl) (hcx.2.2.1 (RX8, RX2) (List.mem_of_getElem? (i := 14) rfl)) (va_recv hcx.1 hP rfl h4) hdg kk
theorem poly_inst8 {a_b : Nat → Nat} {k : Nat} (B : Bd X p s m args meth c A cc own nL ret) (hP : va_P (xD X) vwCl ws H) (hk : k < 5) (q0 : Nat) (h0 : ws[q0 + 0]? = some (a_b 0, .inr (1, []))) (h1 : ws[q0 + 1]? = some (a_b 1, .inr (5, []))) (h2 : ws[q0 + 2]? = some (a_b 2, .inr (6, []))) (h3 : ws[q0 + 3]? = some (a_b 3, .inr (2, []))) (h4 : ws[q0 + 4]? = some (a_b 4, .inr (8, []))) (wl : Cond.classLink own index RX8 ∈ WG) (hdg : decode cc pc = .ok (.instanceof index, 3))
    (kk : W p l e R s m args below meth c H locs cells slots Q (F0 m (pc + 3) ls (.int (instF 8 k) :: rest))) : W p l e R s m args below meth c H locs cells slots Q (F0 m pc ls (.ref (a_b k) :: rest)) := by
  have hcx := B.2.2.2.2.2.2.2.1
  have hts := B.2.2.2.2.2.1
  match k, hk with
  | 0, _ => exact va_instNo B.1 B.2.1 (C := RX1) B.2.2.2.2.1 (hts _ wl) (hcx.2.2.1 (RX1, RX8) (List.mem_of_getElem? (i := 3) rfl)) (va_recv hcx.1 hP rfl h0) hdg kk
  | 1, _ => exact va_instNo B.1 B.2.1 (C := RX5) B.2.2.2.2.1 (hts _ wl) (hcx.2.2.1 (RX5, RX8) (List.mem_of_getElem? (i := 6) rfl)) (va_recv hcx.1 hP rfl h1) hdg kk
  | 2, _ => exact va_instNo B.1 B.2.1 (C := RX6) B.2.2.2.2.1 (hts _ wl) (hcx.2.2.1 (RX6, RX8) (List.mem_of_getElem? (i := 9) rfl)) (va_recv hcx.1 hP rfl h2) hdg kk
  | 3, _ => exact va_instNo B.1 B.2.1 (C := RX2) B.2.2.2.2.1 (hts _ wl) (hcx.2.2.1 (RX2, RX8) (List.mem_of_getElem? (i := 12) rfl)) (va_recv hcx.1 hP rfl h3) hdg kk
  | 4, _ => exact va_instS B.1 B.2.1 B.2.2.2.2.1 (hts _ wl) (hcx.1.1 8 _ rfl).2 (va_recv hcx.1 hP rfl h4) hdg kk
end Rows3
