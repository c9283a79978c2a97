section Rows2
variable {X : CXp} {p : Program} {l : Launch} {e : Env} {R : Room} {s : State} {m : MethodId} {args : Array Value} {below : List Frame} {meth : Method} {c : Code} {H : Heap} {locs : List Loc} {cells slots : Nat} {Q : State → Prop} {A : Nat → Prop} {cc : ByteArray} {own : String} {nL : Nat} {ret : Option FieldType} {pc : Nat} {ls : Array Slot} {rest st0 : List Value}
theorem retR {r : Nat} {w' : va_W} {cn : String} (B : Bd X p s m args meth c A cc own nL (some (.object cn))) (hS : va_S A s.heap H locs) (hP : va_P (xD X) vwCl w' H) (hdg : decode cc pc = .ok (.areturn, 1)) : W p l e R s m args below meth c H locs cells slots (MQ below (QcR X r w' A) args s cells slots A) (F0 m pc ls [.ref r]) :=
  W.aret B.1 B.2.1 B.2.2.1 (Or.inl ⟨cn, rfl⟩) (Or.inr ⟨r, rfl⟩) (fun t ht hW => ⟨⟨(), r, rfl, trivial, rfl, by subst ht; exact hP⟩, hS.F ht⟩) hS.2.2 hdg B.2.2.2.2.2.2.1
theorem cell_congr {cA : ClassId} {n : Nat} {f g : Nat → Int32} (h : ∀ j, j < n → f j = g j) : vp_cell cA (n, .inl f) = vp_cell cA (n, .inl g) := by
  show arrV cA n (fun j => .int (f j)) = arrV cA n (fun j => .int (g j))
  have e : (fun j => Value.int (f j.val) : Fin n → Value) = fun j => .int (g j.val) := funext fun j => by rw [h j.val j.isLt]
  unfold arrV
  rw [e]
theorem cp_full {ws : va_W} (B : Bd X p s m args meth c A cc own nL ret) (hls : ls.size = nL) {index : Nat} (wl : Cond.methodLink own index arraycopyName ∈ WG) (hfr : 1 ≤ R.frames ∧ (rest.map fun v => v.category).sum + (nativeFrameWords "java/lang/System" "arraycopy" 5 + 11) ≤ R.locals)
    (hP : va_P (xD X) vwCl ws H) (hD : va_D A ws) (hS : va_S A s.heap H locs) (q0 q1 : Nat) {a0 a n : Nat} {f g : Nat → Int32} (ha0 : ws[q0]? = some (a0, .inl (xI X, n, .inl f))) (ha1 : ws[q1]? = some (a, .inl (xI X, n, .inl g))) {z : Int32} (hz : z.toNatClampNeg = n) (hz0 : ¬ z < 0) (hdg : decode cc pc = .ok (.invokestatic index, 3))
    (kk : ∀ (H1 : Heap) (locs1 : List Loc), va_P (xD X) vwCl (ws.set q1 (a, .inl (xI X, n, .inl f))) H1 → va_D A (ws.set q1 (a, .inl (xI X, n, .inl f))) → va_S A s.heap H1 locs1 → W p l e R s m args below meth c H1 locs1 cells slots Q (F0 m (pc + 3) ls rest)) : W p l e R s m args below meth c H locs cells slots Q (F0 m pc ls (.int z :: .int 0 :: .ref a :: .int 0 :: .ref a0 :: rest)) := by
  have hts := B.2.2.2.2.2.1
  have hcx := B.2.2.2.2.2.2.2.1
  refine va_copyi B.1 B.2.1 (B.2.2.2.1.trans hls.symm) B.2.2.2.2.1 (hts _ wl) (hts _ wq_3_12) (hts _ wq_3_11) (hts _ wq_1_21) hcx.1 hP hD hS q0 q1 0 0 ha0 ha1 rfl rfl rfl (by decide) (by decide) hz0 (by rw [hz]; exact Nat.le_of_eq (Nat.zero_add n)) (by rw [hz]; exact Nat.le_of_eq (Nat.zero_add n)) (fun _ _ => rfl) hfr.1 hfr.2 hdg (fun H1 locs1 hP1 hD1 hS1 => ?_)
  refine kk H1 locs1 ?_ (hD1.adr (by simp only [List.map_set])) hS1
  intro k q hk
  by_cases hkq : q1 = k
  · subst hkq
    have hlt : q1 < ws.length := (List.getElem?_eq_some_iff.mp ha1).1
    rw [List.getElem?_set_self hlt] at hk
    cases hk
    have h1 := hP1 q1 _ (List.getElem?_set_self hlt)
    show H1[a]? = some (vp_cell (xI X) (n, .inl f))
    have h2 : H1[a]? = some (vp_cell (xI X) (n, .inl (va_cpy f g (0 : Int32).toNatClampNeg (0 : Int32).toNatClampNeg z.toNatClampNeg))) := h1
    rw [h2]
    refine congrArg some (cell_congr fun j hj => ?_)
    show (if 0 ≤ j ∧ j < 0 + z.toNatClampNeg then f (0 + (j - 0)) else g j) = f j
    rw [if_pos ⟨Nat.zero_le j, by rw [hz]; omega⟩]
    congr 1
    omega
  · rw [List.getElem?_set_ne hkq] at hk
    refine hP1 k q ?_
    rw [List.getElem?_set_ne hkq]
    exact hk
theorem mx_row (B : Bd X p s m args meth c A cc own nL ret) (hls : ls.size = nL) {index : Nat} (wl : Cond.methodLink own index Lib.Math.max.name ∈ WG) (hfr : 1 ≤ R.frames ∧ (rest.map fun v => v.category).sum + 13 ≤ R.locals) (hcs : cells ≤ R.cells ∧ slots ≤ R.slots) {x y : Int32} (hdg : decode cc pc = .ok (.invokestatic index, 3))
    (kk : W p l e R s m args below meth c H locs cells slots Q (F0 m (pc + 3) ls (.int (if x < y then y else x) :: rest))) : W p l e R s m args below meth c H locs cells slots Q (F0 m pc ls (.int y :: .int x :: rest)) := by
  have hts := B.2.2.2.2.2.1
  exact va_mmax B.1 B.2.1 (B.2.2.2.1.trans hls.symm) B.2.2.2.2.1 (hts _ wl) (hts _ wq_2_117) (hts _ wq_1_17) (hts _ wq_2_118) hfr.1 hfr.2 hcs.1 hcs.2 hdg kk
theorem mn_row (B : Bd X p s m args meth c A cc own nL ret) (hls : ls.size = nL) {index : Nat} (wl : Cond.methodLink own index Lib.Math.min.name ∈ WG) (hfr : 1 ≤ R.frames ∧ (rest.map fun v => v.category).sum + 13 ≤ R.locals) (hcs : cells ≤ R.cells ∧ slots ≤ R.slots) {x y : Int32} (hdg : decode cc pc = .ok (.invokestatic index, 3))
    (kk : W p l e R s m args below meth c H locs cells slots Q (F0 m (pc + 3) ls (.int (if y < x then y else x) :: rest))) : W p l e R s m args below meth c H locs cells slots Q (F0 m pc ls (.int y :: .int x :: rest)) := by
  have hts := B.2.2.2.2.2.1
  exact va_mmin B.1 B.2.1 (B.2.2.2.1.trans hls.symm) B.2.2.2.2.1 (hts _ wl) (hts _ wq_2_120) (hts _ wq_1_17) (hts _ wq_2_121) hfr.1 hfr.2 hcs.1 hcs.2 hdg kk
theorem cTi {r : Int32} {y : MethodName} {bytes : ByteArray} {maxL index n fr lo b : Nat} {ret' : Option FieldType} {ws : va_W} {As : List Value} {C : String} (B : Bd X p s m args meth c A cc own nL ret) (hM : CTg X l y bytes maxL ret' fr lo (.ref b :: As) [] (QcI X r [])) (hcode : Cond.code y bytes maxL ret' ∈ WG) (hini : Cond.initialized y.cls ∈ WG) (hlink : Cond.methodLink own index y ∈ WG) (hinst : Cond.instanceMethod y ∈ WG) (hsel : Cond.selects C y y ∈ WG)
    (hd : y.cls ≠ "java/lang/invoke/MethodHandle" ∧ y.cls ≠ "java/lang/invoke/VarHandle" ∧ (parseMethodDescriptor y.desc).map (fun d => d.parameters.length) = some n) (hR : fr + 1 ≤ R.frames ∧ 8 + (maxL + 11) + lo ≤ R.locals)
    (hP : va_P (xD X) vwCl ws H) (hD : va_D A ws) (hS : va_S A s.heap H locs) (hl : ls.size = nL) (hrecv : ∃ cell : Cell, H[b]? = some cell ∧ cell.vm.isStatics = false ∧ s.vm.findClass C = some cell.cls) (hln : As.length = n) (hst : st0 = As.reverse ++ .ref b :: rest) (hw : (rest.map fun v => v.category).sum ≤ 8) (hdg : decode cc pc = .ok (.invokevirtual index, 3)) (hcs : cells ≤ R.cells ∧ slots ≤ R.slots)
    (kk : ∀ (H1 : Heap) (locs1 : List Loc), va_P (xD X) vwCl ws H1 → va_D A ws → va_S A s.heap H1 locs1 → W p l e R s m args below meth c H1 locs1 cells slots Q (F0 m (pc + 3) ls (.int r :: rest))) : W p l e R s m args below meth c H locs cells slots Q (F0 m pc ls st0) := by
  have hts := B.2.2.2.2.2.1
  have hr : va_Run p l e R s m args below meth c H locs cells slots 0 0 (F0 m pc ls st0) rest (QcI X r [] (va_A [] H.size) (Value.ref b :: As).toArray) (va_A [] H.size) := va_runV (C := C) ⟨B.1, B.2.1, B.2.2.2.1, B.2.2.2.2.1, hts⟩ (hM H.size) ⟨cwB B hcode hini hlink hd hR, hts _ hinst, hts _ hsel⟩ ⟨PCx.blind, hrecv, pre_of B hP hD hS [] rfl rfl rfl⟩ rfl hln hl hst (lv_room hw) hdg hcs
  exact back_i ws hr B.2.2.2.2.2.2.2.2.1 hP hD hS [] rfl rfl rfl rfl kk
def ltr (j : Nat) : Int32 := ([98, 104, 108, 100, 115] : List Int32).getD j 0
end Rows2
theorem isb_nb {v : Int32} (h : isb v = true) : narrow .byte (.int v) = .int v := by
  simp only [isb, Bool.or_eq_true, decide_eq_true_eq] at h
  rcases h with rfl | rfl <;> rfl
theorem fm_of {ws wc : va_W} : ∀ (is : List Nat) , is.map (fun i => ws[i]?) = wc.map some → is.filterMap (fun i => ws[i]?) = wc := by
  intro is
  induction is generalizing wc with
  | nil => intro h; cases wc with
    | nil => rfl
    | cons a l => cases h
  | cons i is ih =>
    intro h
    cases wc with
    | nil => cases h
    | cons a l =>
      have h1 : ws[i]? = some a := (List.cons.inj h).1
      have h2 := ih (List.cons.inj h).2
      rw [List.filterMap_cons, h1]
      exact congrArg (a :: ·) h2
def cov (n : Nat) (is js : List Nat) : Bool := (List.range n).all (fun j => is.contains j || js.contains j) && js.all (fun j => !is.contains j)
theorem map_at {is : List Nat} {ws wc : va_W} (hC : is.map (fun i => ws[i]?) = wc.map some) {k i : Nat} (hk : is[k]? = some i) : ∃ q, wc[k]? = some q ∧ ws[i]? = some q := by
  have h1 : (is.map (fun i => ws[i]?))[k]? = some (ws[i]?) := by rw [List.getElem?_map, hk]; rfl
  rw [hC, List.getElem?_map] at h1
  cases hq : wc[k]? with
  | none => rw [hq] at h1; cases h1
  | some q => rw [hq] at h1; exact ⟨q, rfl, (Option.some.inj h1).symm⟩
theorem cov_P {A : Nat → Prop} {D : va_G} {cl : List vw_C} {ws wc w1 ws' : va_W} {H H1 : Heap} (hP : va_P D cl ws H) (hD : va_D A ws) (is js : List Nat) (hC : is.map (fun i => ws[i]?) = wc.map some) (hB : is.map (fun i => ws'[i]?) = w1.map some) {wr : va_W} (hJ' : js.map (fun i => ws'[i]?) = wr.map some) (hJ0 : js.map (fun i => ws[i]?) = wr.map some) {nn : Nat} (hlen : ws'.length = nn) (hcov : cov nn is js = true)
    (hk : ∀ q : Nat, q < H.size → ¬ va_A wc H.size q → H1[q]? = H[q]?) (hP1 : va_P D cl w1 H1) : va_P D cl ws' H1 := by
  intro j q hj
  have hlt : j < nn := hlen ▸ (List.getElem?_eq_some_iff.mp hj).1
  have hJ := hJ'.trans hJ0.symm
  unfold cov at hcov
  rw [Bool.and_eq_true, List.all_eq_true, List.all_eq_true] at hcov
  have h1 := hcov.1 j (List.mem_range.mpr hlt)
  rw [Bool.or_eq_true, List.contains_iff_mem, List.contains_iff_mem] at h1
  by_cases hin : j ∈ is
  · obtain ⟨k, hk1⟩ := List.getElem?_of_mem hin
    obtain ⟨q', hq1, hq2⟩ := map_at hB hk1
    rw [hj] at hq2
    cases hq2
    exact hP1 k q hq1
  · have hjs : j ∈ js := h1.resolve_left hin
    have hsame : ws'[j]? = ws[j]? := by
      obtain ⟨k, hk1⟩ := List.getElem?_of_mem hjs
      have e1 : (js.map (fun i => ws'[i]?))[k]? = some (ws'[j]?) := by rw [List.getElem?_map, hk1]; rfl
      rw [hJ, List.getElem?_map, hk1] at e1
      exact (Option.some.inj e1).symm
    rw [hsame] at hj
    have hat := hP j q hj
    refine hat.kept (hk q.1 hat.lt fun hA => ?_)
    rcases hA with ⟨k, e, hke⟩ | hge
    · have h3 : (is.map (fun i => ws[i]?))[k]? = some (some (q.1, e)) := by rw [hC, List.getElem?_map, hke]; rfl
      rw [List.getElem?_map] at h3
      cases hi : is[k]? with
      | none => rw [hi] at h3; cases h3
      | some i0 =>
        rw [hi] at h3
        have h4 : ws[i0]? = some (q.1, e) := Option.some.inj h3
        have h5 := hD.1 j i0 q (q.1, e) hj h4 rfl
        exact hin (h5 ▸ List.mem_of_getElem? hi)
    · exact absurd hat.lt (Nat.not_lt.mpr hge)
section Rows4
variable {X : CXp} {p : Program} {l : Launch} {e : Env} {R : Room} {s : State} {m : MethodId} {args : Array Value} {below : List Frame} {meth : Method} {c : Code} {H : Heap} {locs : List Loc} {cells slots : Nat} {Q : State → Prop} {A : Nat → Prop} {cc : ByteArray} {own : String} {nL : Nat} {ret : Option FieldType} {pc : Nat} {ls : Array Slot} {rest st0 : List Value}
variable {y : MethodName} {bytes : ByteArray} {maxL index n fr lo : Nat} {ret' : Option FieldType} {ws wc w1 : va_W} {As : List Value} {C host : String} {b : Nat}
theorem cVi {r : Int32} (ws' : va_W) (B : Bd X p s m args meth c A cc own nL ret) (hM : CTg X l y bytes maxL ret' fr lo (.ref b :: As) wc (QcI X r w1)) (hcode : Cond.code y bytes maxL ret' ∈ WG) (hini : Cond.initialized y.cls ∈ WG) (hlink : Cond.methodLink own index y ∈ WG) (hinst : Cond.instanceMethod y ∈ WG) (hsel : Cond.selects C y y ∈ WG) (hd : y.cls ≠ "java/lang/invoke/MethodHandle" ∧ y.cls ≠ "java/lang/invoke/VarHandle" ∧ (parseMethodDescriptor y.desc).map (fun d => d.parameters.length) = some n) (hR : fr + 1 ≤ R.frames ∧ 8 + (maxL + 11) + lo ≤ R.locals)
    (hP : va_P (xD X) vwCl ws H) (hD : va_D A ws) (hS : va_S A s.heap H locs) (hl : ls.size = nL) (is js : List Nat) (wr : va_W) (hC : is.map (fun i => ws[i]?) = wc.map some) (hn : va_nd is = true) (hB : is.map (fun i => ws'[i]?) = w1.map some) (hJ : js.map (fun i => ws'[i]?) = wr.map some) (hJ0 : js.map (fun i => ws[i]?) = wr.map some) {nn : Nat} (hlen : ws'.length = nn) (hcov : cov nn is js = true) (ad : List Nat) (had : ws'.map Prod.fst = ad) (had0 : ws.map Prod.fst = ad)
    {q0 ci : Nat} {fs : List Value} {cT : u_T} {cN : Nat} (he : ws[q0]? = some (b, .inr (ci, fs))) (hc : vwCl[ci]? = some (C, cT, cN)) (hln : As.length = n) (hst : st0 = As.reverse ++ .ref b :: rest) (hw : (rest.map fun v => v.category).sum ≤ 8) (hdg : decode cc pc = .ok (.invokevirtual index, 3)) (hcs : cells ≤ R.cells ∧ slots ≤ R.slots)
    (kk : ∀ (H1 : Heap) (locs1 : List Loc), va_P (xD X) vwCl ws' H1 → va_D A ws' → va_S A s.heap H1 locs1 → W p l e R s m args below meth c H1 locs1 cells slots Q (F0 m (pc + 3) ls (.int r :: rest))) : W p l e R s m args below meth c H locs cells slots Q (F0 m pc ls st0) := by
  have hr : va_Run p l e R s m args below meth c H locs cells slots 0 0 (F0 m pc ls st0) rest (QcI X r w1 (va_A wc H.size) (Value.ref b :: As).toArray) (va_A wc H.size) := runV B hM hcode hini hlink hinst hsel hd hR hP hD hS hl is hC hn (fm_of is hC) he hc hln hst hw hdg hcs
  have hF := va_free (wc := wc) hD hS B.2.2.2.2.2.2.2.2.1 is hC
  refine va_calli hr hS (fun q _ h => hF q h) hF (fun r' u t H1 locs1 ht hvm hw hB1 hz1 hk1 hS1 => ?_)
  subst hw; subst ht
  exact kk _ _ (cov_P hP hD is js hC hB hJ hJ0 hlen hcov hk1 hB1) (hD.adr (had.trans had0.symm)) hS1
theorem cVl {r : Int64} (ws' : va_W) (B : Bd X p s m args meth c A cc own nL ret) (hM : CTg X l y bytes maxL ret' fr lo (.ref b :: As) wc (QcL X r w1)) (hcode : Cond.code y bytes maxL ret' ∈ WG) (hini : Cond.initialized y.cls ∈ WG) (hlink : Cond.methodLink own index y ∈ WG) (hinst : Cond.instanceMethod y ∈ WG) (hsel : Cond.selects C y y ∈ WG) (hd : y.cls ≠ "java/lang/invoke/MethodHandle" ∧ y.cls ≠ "java/lang/invoke/VarHandle" ∧ (parseMethodDescriptor y.desc).map (fun d => d.parameters.length) = some n) (hR : fr + 1 ≤ R.frames ∧ 8 + (maxL + 11) + lo ≤ R.locals)
    (hP : va_P (xD X) vwCl ws H) (hD : va_D A ws) (hS : va_S A s.heap H locs) (hl : ls.size = nL) (is js : List Nat) (wr : va_W) (hC : is.map (fun i => ws[i]?) = wc.map some) (hn : va_nd is = true) (hB : is.map (fun i => ws'[i]?) = w1.map some) (hJ : js.map (fun i => ws'[i]?) = wr.map some) (hJ0 : js.map (fun i => ws[i]?) = wr.map some) {nn : Nat} (hlen : ws'.length = nn) (hcov : cov nn is js = true) (ad : List Nat) (had : ws'.map Prod.fst = ad) (had0 : ws.map Prod.fst = ad)
    {q0 ci : Nat} {fs : List Value} {cT : u_T} {cN : Nat} (he : ws[q0]? = some (b, .inr (ci, fs))) (hc : vwCl[ci]? = some (C, cT, cN)) (hln : As.length = n) (hst : st0 = As.reverse ++ .ref b :: rest) (hw : (rest.map fun v => v.category).sum ≤ 8) (hdg : decode cc pc = .ok (.invokevirtual index, 3)) (hcs : cells ≤ R.cells ∧ slots ≤ R.slots)
    (kk : ∀ (H1 : Heap) (locs1 : List Loc), va_P (xD X) vwCl ws' H1 → va_D A ws' → va_S A s.heap H1 locs1 → W p l e R s m args below meth c H1 locs1 cells slots Q (F0 m (pc + 3) ls (.long r :: rest))) : W p l e R s m args below meth c H locs cells slots Q (F0 m pc ls st0) := by
  have hr : va_Run p l e R s m args below meth c H locs cells slots 0 0 (F0 m pc ls st0) rest (QcL X r w1 (va_A wc H.size) (Value.ref b :: As).toArray) (va_A wc H.size) := runV B hM hcode hini hlink hinst hsel hd hR hP hD hS hl is hC hn (fm_of is hC) he hc hln hst hw hdg hcs
  have hF := va_free (wc := wc) hD hS B.2.2.2.2.2.2.2.2.1 is hC
  refine va_calll hr hS (fun q _ h => hF q h) hF (fun r' u t H1 locs1 ht hvm hw hB1 hz1 hk1 hS1 => ?_)
  subst hw; subst ht
  exact kk _ _ (cov_P hP hD is js hC hB hJ hJ0 hlen hcov hk1 hB1) (hD.adr (had.trans had0.symm)) hS1
theorem cVv (ws' : va_W) (B : Bd X p s m args meth c A cc own nL ret) (hM : CTg X l y bytes maxL ret' fr lo (.ref b :: As) wc (QcV X w1)) (hcode : Cond.code y bytes maxL ret' ∈ WG) (hini : Cond.initialized y.cls ∈ WG) (hlink : Cond.methodLink own index y ∈ WG) (hinst : Cond.instanceMethod y ∈ WG) (hsel : Cond.selects C y y ∈ WG) (hd : y.cls ≠ "java/lang/invoke/MethodHandle" ∧ y.cls ≠ "java/lang/invoke/VarHandle" ∧ (parseMethodDescriptor y.desc).map (fun d => d.parameters.length) = some n) (hR : fr + 1 ≤ R.frames ∧ 8 + (maxL + 11) + lo ≤ R.locals)
    (hP : va_P (xD X) vwCl ws H) (hD : va_D A ws) (hS : va_S A s.heap H locs) (hl : ls.size = nL) (is js : List Nat) (wr : va_W) (hC : is.map (fun i => ws[i]?) = wc.map some) (hn : va_nd is = true) (hB : is.map (fun i => ws'[i]?) = w1.map some) (hJ : js.map (fun i => ws'[i]?) = wr.map some) (hJ0 : js.map (fun i => ws[i]?) = wr.map some) {nn : Nat} (hlen : ws'.length = nn) (hcov : cov nn is js = true) (ad : List Nat) (had : ws'.map Prod.fst = ad) (had0 : ws.map Prod.fst = ad)
    {q0 ci : Nat} {fs : List Value} {cT : u_T} {cN : Nat} (he : ws[q0]? = some (b, .inr (ci, fs))) (hc : vwCl[ci]? = some (C, cT, cN)) (hln : As.length = n) (hst : st0 = As.reverse ++ .ref b :: rest) (hw : (rest.map fun v => v.category).sum ≤ 8) (hdg : decode cc pc = .ok (.invokevirtual index, 3)) (hcs : cells ≤ R.cells ∧ slots ≤ R.slots)
    (kk : ∀ (H1 : Heap) (locs1 : List Loc), va_P (xD X) vwCl ws' H1 → va_D A ws' → va_S A s.heap H1 locs1 → W p l e R s m args below meth c H1 locs1 cells slots Q (F0 m (pc + 3) ls (rest))) : W p l e R s m args below meth c H locs cells slots Q (F0 m pc ls st0) := by
  have hr : va_Run p l e R s m args below meth c H locs cells slots 0 0 (F0 m pc ls st0) rest (QcV X w1 (va_A wc H.size) (Value.ref b :: As).toArray) (va_A wc H.size) := runV B hM hcode hini hlink hinst hsel hd hR hP hD hS hl is hC hn (fm_of is hC) he hc hln hst hw hdg hcs
  have hF := va_free (wc := wc) hD hS B.2.2.2.2.2.2.2.2.1 is hC
  refine va_callv hr hS (fun q _ h => hF q h) hF (fun u t H1 locs1 ht hvm hw hB1 hz1 hk1 hS1 => ?_)
  subst ht
  exact kk _ _ (cov_P hP hD is js hC hB hJ hJ0 hlen hcov hk1 hB1) (hD.adr (had.trans had0.symm)) hS1
theorem cVr {r : Nat} (ws' : va_W) (B : Bd X p s m args meth c A cc own nL ret) (hM : CTg X l y bytes maxL ret' fr lo (.ref b :: As) wc (QcR X r w1)) (hcode : Cond.code y bytes maxL ret' ∈ WG) (hini : Cond.initialized y.cls ∈ WG) (hlink : Cond.methodLink own index y ∈ WG) (hinst : Cond.instanceMethod y ∈ WG) (hsel : Cond.selects C y y ∈ WG) (hd : y.cls ≠ "java/lang/invoke/MethodHandle" ∧ y.cls ≠ "java/lang/invoke/VarHandle" ∧ (parseMethodDescriptor y.desc).map (fun d => d.parameters.length) = some n) (hR : fr + 1 ≤ R.frames ∧ 8 + (maxL + 11) + lo ≤ R.locals)
    (hP : va_P (xD X) vwCl ws H) (hD : va_D A ws) (hS : va_S A s.heap H locs) (hl : ls.size = nL) (is js : List Nat) (wr : va_W) (hC : is.map (fun i => ws[i]?) = wc.map some) (hn : va_nd is = true) (hB : is.map (fun i => ws'[i]?) = w1.map some) (hJ : js.map (fun i => ws'[i]?) = wr.map some) (hJ0 : js.map (fun i => ws[i]?) = wr.map some) {nn : Nat} (hlen : ws'.length = nn) (hcov : cov nn is js = true) (ad : List Nat) (had : ws'.map Prod.fst = ad) (had0 : ws.map Prod.fst = ad)
    {q0 ci : Nat} {fs : List Value} {cT : u_T} {cN : Nat} (he : ws[q0]? = some (b, .inr (ci, fs))) (hc : vwCl[ci]? = some (C, cT, cN)) (hln : As.length = n) (hst : st0 = As.reverse ++ .ref b :: rest) (hw : (rest.map fun v => v.category).sum ≤ 8) (hdg : decode cc pc = .ok (.invokevirtual index, 3)) (hcs : cells ≤ R.cells ∧ slots ≤ R.slots)
    (kk : ∀ (H1 : Heap) (locs1 : List Loc), va_P (xD X) vwCl ws' H1 → va_D A ws' → va_S A s.heap H1 locs1 → W p l e R s m args below meth c H1 locs1 cells slots Q (F0 m (pc + 3) ls (.ref r :: rest))) : W p l e R s m args below meth c H locs cells slots Q (F0 m pc ls st0) := by
  have hr : va_Run p l e R s m args below meth c H locs cells slots 0 0 (F0 m pc ls st0) rest (QcR X r w1 (va_A wc H.size) (Value.ref b :: As).toArray) (va_A wc H.size) := runV B hM hcode hini hlink hinst hsel hd hR hP hD hS hl is hC hn (fm_of is hC) he hc hln hst hw hdg hcs
  have hF := va_free (wc := wc) hD hS B.2.2.2.2.2.2.2.2.1 is hC
  refine va_callr hr hS (fun q _ h => hF q h) hF (fun u ra t H1 locs1 ht hvm hw hB1 hz1 hk1 hS1 => ?_)
  obtain ⟨rfl, hB1⟩ := hB1
  subst ht
  exact kk _ _ (cov_P hP hD is js hC hB hJ hJ0 hlen hcov hk1 hB1) (hD.adr (had.trans had0.symm)) hS1
theorem cSi {r : Int32} (ws' : va_W) (B : Bd X p s m args meth c A cc own nL ret) (hM : CTg X l y bytes maxL ret' fr lo As wc (QcI X r w1)) (hcode : Cond.code y bytes maxL ret' ∈ WG) (hini : Cond.initialized y.cls ∈ WG) (hlink : Cond.methodLink own index y ∈ WG) (hstat : Cond.static y ∈ WG) (hd : y.cls ≠ "java/lang/invoke/MethodHandle" ∧ y.cls ≠ "java/lang/invoke/VarHandle" ∧ (parseMethodDescriptor y.desc).map (fun d => d.parameters.length) = some n) (hR : fr + 1 ≤ R.frames ∧ 8 + (maxL + 11) + lo ≤ R.locals)
    (hP : va_P (xD X) vwCl ws H) (hD : va_D A ws) (hS : va_S A s.heap H locs) (hl : ls.size = nL) (is js : List Nat) (wr : va_W) (hC : is.map (fun i => ws[i]?) = wc.map some) (hn : va_nd is = true) (hB : is.map (fun i => ws'[i]?) = w1.map some) (hJ : js.map (fun i => ws'[i]?) = wr.map some) (hJ0 : js.map (fun i => ws[i]?) = wr.map some) {nn : Nat} (hlen : ws'.length = nn) (hcov : cov nn is js = true) (ad : List Nat) (had : ws'.map Prod.fst = ad) (had0 : ws.map Prod.fst = ad)
    (hln : As.length = n) (hst : st0 = As.reverse ++ rest) (hw : (rest.map fun v => v.category).sum ≤ 8) (hdg : decode cc pc = .ok (.invokestatic index, 3)) (hcs : cells ≤ R.cells ∧ slots ≤ R.slots)
    (kk : ∀ (H1 : Heap) (locs1 : List Loc), va_P (xD X) vwCl ws' H1 → va_D A ws' → va_S A s.heap H1 locs1 → W p l e R s m args below meth c H1 locs1 cells slots Q (F0 m (pc + 3) ls (.int r :: rest))) : W p l e R s m args below meth c H locs cells slots Q (F0 m pc ls st0) := by
  have hr : va_Run p l e R s m args below meth c H locs cells slots 0 0 (F0 m pc ls st0) rest (QcI X r w1 (va_A wc H.size) As.toArray) (va_A wc H.size) := runS B hM hcode hini hlink hstat hd hR hP hD hS hl is hC hn (fm_of is hC) hln hst hw hdg hcs
  have hF := va_free (wc := wc) hD hS B.2.2.2.2.2.2.2.2.1 is hC
  refine va_calli hr hS (fun q _ h => hF q h) hF (fun r' u t H1 locs1 ht hvm hw hB1 hz1 hk1 hS1 => ?_)
  subst hw; subst ht
  exact kk _ _ (cov_P hP hD is js hC hB hJ hJ0 hlen hcov hk1 hB1) (hD.adr (had.trans had0.symm)) hS1
theorem cSl {r : Int64} (ws' : va_W) (B : Bd X p s m args meth c A cc own nL ret) (hM : CTg X l y bytes maxL ret' fr lo As wc (QcL X r w1)) (hcode : Cond.code y bytes maxL ret' ∈ WG) (hini : Cond.initialized y.cls ∈ WG) (hlink : Cond.methodLink own index y ∈ WG) (hstat : Cond.static y ∈ WG) (hd : y.cls ≠ "java/lang/invoke/MethodHandle" ∧ y.cls ≠ "java/lang/invoke/VarHandle" ∧ (parseMethodDescriptor y.desc).map (fun d => d.parameters.length) = some n) (hR : fr + 1 ≤ R.frames ∧ 8 + (maxL + 11) + lo ≤ R.locals)
    (hP : va_P (xD X) vwCl ws H) (hD : va_D A ws) (hS : va_S A s.heap H locs) (hl : ls.size = nL) (is js : List Nat) (wr : va_W) (hC : is.map (fun i => ws[i]?) = wc.map some) (hn : va_nd is = true) (hB : is.map (fun i => ws'[i]?) = w1.map some) (hJ : js.map (fun i => ws'[i]?) = wr.map some) (hJ0 : js.map (fun i => ws[i]?) = wr.map some) {nn : Nat} (hlen : ws'.length = nn) (hcov : cov nn is js = true) (ad : List Nat) (had : ws'.map Prod.fst = ad) (had0 : ws.map Prod.fst = ad)
    (hln : As.length = n) (hst : st0 = As.reverse ++ rest) (hw : (rest.map fun v => v.category).sum ≤ 8) (hdg : decode cc pc = .ok (.invokestatic index, 3)) (hcs : cells ≤ R.cells ∧ slots ≤ R.slots)
    (kk : ∀ (H1 : Heap) (locs1 : List Loc), va_P (xD X) vwCl ws' H1 → va_D A ws' → va_S A s.heap H1 locs1 → W p l e R s m args below meth c H1 locs1 cells slots Q (F0 m (pc + 3) ls (.long r :: rest))) : W p l e R s m args below meth c H locs cells slots Q (F0 m pc ls st0) := by
  have hr : va_Run p l e R s m args below meth c H locs cells slots 0 0 (F0 m pc ls st0) rest (QcL X r w1 (va_A wc H.size) As.toArray) (va_A wc H.size) := runS B hM hcode hini hlink hstat hd hR hP hD hS hl is hC hn (fm_of is hC) hln hst hw hdg hcs
  have hF := va_free (wc := wc) hD hS B.2.2.2.2.2.2.2.2.1 is hC
  refine va_calll hr hS (fun q _ h => hF q h) hF (fun r' u t H1 locs1 ht hvm hw hB1 hz1 hk1 hS1 => ?_)
  subst hw; subst ht
  exact kk _ _ (cov_P hP hD is js hC hB hJ hJ0 hlen hcov hk1 hB1) (hD.adr (had.trans had0.symm)) hS1
theorem cSv (ws' : va_W) (B : Bd X p s m args meth c A cc own nL ret) (hM : CTg X l y bytes maxL ret' fr lo As wc (QcV X w1)) (hcode : Cond.code y bytes maxL ret' ∈ WG) (hini : Cond.initialized y.cls ∈ WG) (hlink : Cond.methodLink own index y ∈ WG) (hstat : Cond.static y ∈ WG) (hd : y.cls ≠ "java/lang/invoke/MethodHandle" ∧ y.cls ≠ "java/lang/invoke/VarHandle" ∧ (parseMethodDescriptor y.desc).map (fun d => d.parameters.length) = some n) (hR : fr + 1 ≤ R.frames ∧ 8 + (maxL + 11) + lo ≤ R.locals)
    (hP : va_P (xD X) vwCl ws H) (hD : va_D A ws) (hS : va_S A s.heap H locs) (hl : ls.size = nL) (is js : List Nat) (wr : va_W) (hC : is.map (fun i => ws[i]?) = wc.map some) (hn : va_nd is = true) (hB : is.map (fun i => ws'[i]?) = w1.map some) (hJ : js.map (fun i => ws'[i]?) = wr.map some) (hJ0 : js.map (fun i => ws[i]?) = wr.map some) {nn : Nat} (hlen : ws'.length = nn) (hcov : cov nn is js = true) (ad : List Nat) (had : ws'.map Prod.fst = ad) (had0 : ws.map Prod.fst = ad)
    (hln : As.length = n) (hst : st0 = As.reverse ++ rest) (hw : (rest.map fun v => v.category).sum ≤ 8) (hdg : decode cc pc = .ok (.invokestatic index, 3)) (hcs : cells ≤ R.cells ∧ slots ≤ R.slots)
    (kk : ∀ (H1 : Heap) (locs1 : List Loc), va_P (xD X) vwCl ws' H1 → va_D A ws' → va_S A s.heap H1 locs1 → W p l e R s m args below meth c H1 locs1 cells slots Q (F0 m (pc + 3) ls (rest))) : W p l e R s m args below meth c H locs cells slots Q (F0 m pc ls st0) := by
  have hr : va_Run p l e R s m args below meth c H locs cells slots 0 0 (F0 m pc ls st0) rest (QcV X w1 (va_A wc H.size) As.toArray) (va_A wc H.size) := runS B hM hcode hini hlink hstat hd hR hP hD hS hl is hC hn (fm_of is hC) hln hst hw hdg hcs
  have hF := va_free (wc := wc) hD hS B.2.2.2.2.2.2.2.2.1 is hC
  refine va_callv hr hS (fun q _ h => hF q h) hF (fun u t H1 locs1 ht hvm hw hB1 hz1 hk1 hS1 => ?_)
  subst ht
  exact kk _ _ (cov_P hP hD is js hC hB hJ hJ0 hlen hcov hk1 hB1) (hD.adr (had.trans had0.symm)) hS1
theorem cSr {r : Nat} (ws' : va_W) (B : Bd X p s m args meth c A cc own nL ret) (hM : CTg X l y bytes maxL ret' fr lo As wc (QcR X r w1)) (hcode : Cond.code y bytes maxL ret' ∈ WG) (hini : Cond.initialized y.cls ∈ WG) (hlink : Cond.methodLink own index y ∈ WG) (hstat : Cond.static y ∈ WG) (hd : y.cls ≠ "java/lang/invoke/MethodHandle" ∧ y.cls ≠ "java/lang/invoke/VarHandle" ∧ (parseMethodDescriptor y.desc).map (fun d => d.parameters.length) = some n) (hR : fr + 1 ≤ R.frames ∧ 8 + (maxL + 11) + lo ≤ R.locals)
    (hP : va_P (xD X) vwCl ws H) (hD : va_D A ws) (hS : va_S A s.heap H locs) (hl : ls.size = nL) (is js : List Nat) (wr : va_W) (hC : is.map (fun i => ws[i]?) = wc.map some) (hn : va_nd is = true) (hB : is.map (fun i => ws'[i]?) = w1.map some) (hJ : js.map (fun i => ws'[i]?) = wr.map some) (hJ0 : js.map (fun i => ws[i]?) = wr.map some) {nn : Nat} (hlen : ws'.length = nn) (hcov : cov nn is js = true) (ad : List Nat) (had : ws'.map Prod.fst = ad) (had0 : ws.map Prod.fst = ad)
    (hln : As.length = n) (hst : st0 = As.reverse ++ rest) (hw : (rest.map fun v => v.category).sum ≤ 8) (hdg : decode cc pc = .ok (.invokestatic index, 3)) (hcs : cells ≤ R.cells ∧ slots ≤ R.slots)
    (kk : ∀ (H1 : Heap) (locs1 : List Loc), va_P (xD X) vwCl ws' H1 → va_D A ws' → va_S A s.heap H1 locs1 → W p l e R s m args below meth c H1 locs1 cells slots Q (F0 m (pc + 3) ls (.ref r :: rest))) : W p l e R s m args below meth c H locs cells slots Q (F0 m pc ls st0) := by
  have hr : va_Run p l e R s m args below meth c H locs cells slots 0 0 (F0 m pc ls st0) rest (QcR X r w1 (va_A wc H.size) As.toArray) (va_A wc H.size) := runS B hM hcode hini hlink hstat hd hR hP hD hS hl is hC hn (fm_of is hC) hln hst hw hdg hcs
  have hF := va_free (wc := wc) hD hS B.2.2.2.2.2.2.2.2.1 is hC
  refine va_callr hr hS (fun q _ h => hF q h) hF (fun u ra t H1 locs1 ht hvm hw hB1 hz1 hk1 hS1 => ?_)
  obtain ⟨rfl, hB1⟩ := hB1
  subst ht
  exact kk _ _ (cov_P hP hD is js hC hB hJ hJ0 hlen hcov hk1 hB1) (hD.adr (had.trans had0.symm)) hS1
theorem cNi {r : Int32} (ws' : va_W) (B : Bd X p s m args meth c A cc own nL ret) (hM : CTg X l y bytes maxL ret' fr lo As wc (QcI X r w1)) (hcode : Cond.code y bytes maxL ret' ∈ WG) (hini : Cond.initialized y.cls ∈ WG) (hlink : Cond.methodLinkNest own index y host ∈ NW) (hstat : Cond.static y ∈ WG) (hd : y.cls ≠ "java/lang/invoke/MethodHandle" ∧ y.cls ≠ "java/lang/invoke/VarHandle" ∧ (parseMethodDescriptor y.desc).map (fun d => d.parameters.length) = some n) (hR : fr + 1 ≤ R.frames ∧ 8 + (maxL + 11) + lo ≤ R.locals)
    (hP : va_P (xD X) vwCl ws H) (hD : va_D A ws) (hS : va_S A s.heap H locs) (hl : ls.size = nL) (is js : List Nat) (wr : va_W) (hC : is.map (fun i => ws[i]?) = wc.map some) (hn : va_nd is = true) (hB : is.map (fun i => ws'[i]?) = w1.map some) (hJ : js.map (fun i => ws'[i]?) = wr.map some) (hJ0 : js.map (fun i => ws[i]?) = wr.map some) {nn : Nat} (hlen : ws'.length = nn) (hcov : cov nn is js = true) (ad : List Nat) (had : ws'.map Prod.fst = ad) (had0 : ws.map Prod.fst = ad)
    (hln : As.length = n) (hst : st0 = As.reverse ++ rest) (hw : (rest.map fun v => v.category).sum ≤ 8) (hdg : decode cc pc = .ok (.invokestatic index, 3)) (hcs : cells ≤ R.cells ∧ slots ≤ R.slots)
    (kk : ∀ (H1 : Heap) (locs1 : List Loc), va_P (xD X) vwCl ws' H1 → va_D A ws' → va_S A s.heap H1 locs1 → W p l e R s m args below meth c H1 locs1 cells slots Q (F0 m (pc + 3) ls (.int r :: rest))) : W p l e R s m args below meth c H locs cells slots Q (F0 m pc ls st0) := by
  have hr : va_Run p l e R s m args below meth c H locs cells slots 0 0 (F0 m pc ls st0) rest (QcI X r w1 (va_A wc H.size) As.toArray) (va_A wc H.size) := runSN B hM hcode hini hlink hstat hd hR hP hD hS hl is hC hn (fm_of is hC) hln hst hw hdg hcs
  have hF := va_free (wc := wc) hD hS B.2.2.2.2.2.2.2.2.1 is hC
  refine va_calli hr hS (fun q _ h => hF q h) hF (fun r' u t H1 locs1 ht hvm hw hB1 hz1 hk1 hS1 => ?_)
  subst hw; subst ht
  exact kk _ _ (cov_P hP hD is js hC hB hJ hJ0 hlen hcov hk1 hB1) (hD.adr (had.trans had0.symm)) hS1
theorem cNl {r : Int64} (ws' : va_W) (B : Bd X p s m args meth c A cc own nL ret) (hM : CTg X l y bytes maxL ret' fr lo As wc (QcL X r w1)) (hcode : Cond.code y bytes maxL ret' ∈ WG) (hini : Cond.initialized y.cls ∈ WG) (hlink : Cond.methodLinkNest own index y host ∈ NW) (hstat : Cond.static y ∈ WG) (hd : y.cls ≠ "java/lang/invoke/MethodHandle" ∧ y.cls ≠ "java/lang/invoke/VarHandle" ∧ (parseMethodDescriptor y.desc).map (fun d => d.parameters.length) = some n) (hR : fr + 1 ≤ R.frames ∧ 8 + (maxL + 11) + lo ≤ R.locals)
    (hP : va_P (xD X) vwCl ws H) (hD : va_D A ws) (hS : va_S A s.heap H locs) (hl : ls.size = nL) (is js : List Nat) (wr : va_W) (hC : is.map (fun i => ws[i]?) = wc.map some) (hn : va_nd is = true) (hB : is.map (fun i => ws'[i]?) = w1.map some) (hJ : js.map (fun i => ws'[i]?) = wr.map some) (hJ0 : js.map (fun i => ws[i]?) = wr.map some) {nn : Nat} (hlen : ws'.length = nn) (hcov : cov nn is js = true) (ad : List Nat) (had : ws'.map Prod.fst = ad) (had0 : ws.map Prod.fst = ad)
    (hln : As.length = n) (hst : st0 = As.reverse ++ rest) (hw : (rest.map fun v => v.category).sum ≤ 8) (hdg : decode cc pc = .ok (.invokestatic index, 3)) (hcs : cells ≤ R.cells ∧ slots ≤ R.slots)
    (kk : ∀ (H1 : Heap) (locs1 : List Loc), va_P (xD X) vwCl ws' H1 → va_D A ws' → va_S A s.heap H1 locs1 → W p l e R s m args below meth c H1 locs1 cells slots Q (F0 m (pc + 3) ls (.long r :: rest))) : W p l e R s m args below meth c H locs cells slots Q (F0 m pc ls st0) := by
  have hr : va_Run p l e R s m args below meth c H locs cells slots 0 0 (F0 m pc ls st0) rest (QcL X r w1 (va_A wc H.size) As.toArray) (va_A wc H.size) := runSN B hM hcode hini hlink hstat hd hR hP hD hS hl is hC hn (fm_of is hC) hln hst hw hdg hcs
  have hF := va_free (wc := wc) hD hS B.2.2.2.2.2.2.2.2.1 is hC
  refine va_calll hr hS (fun q _ h => hF q h) hF (fun r' u t H1 locs1 ht hvm hw hB1 hz1 hk1 hS1 => ?_)
  subst hw; subst ht
  exact kk _ _ (cov_P hP hD is js hC hB hJ hJ0 hlen hcov hk1 hB1) (hD.adr (had.trans had0.symm)) hS1
theorem cNv (ws' : va_W) (B : Bd X p s m args meth c A cc own nL ret) (hM : CTg X l y bytes maxL ret' fr lo As wc (QcV X w1)) (hcode : Cond.code y bytes maxL ret' ∈ WG) (hini : Cond.initialized y.cls ∈ WG) (hlink : Cond.methodLinkNest own index y host ∈ NW) (hstat : Cond.static y ∈ WG) (hd : y.cls ≠ "java/lang/invoke/MethodHandle" ∧ y.cls ≠ "java/lang/invoke/VarHandle" ∧ (parseMethodDescriptor y.desc).map (fun d => d.parameters.length) = some n) (hR : fr + 1 ≤ R.frames ∧ 8 + (maxL + 11) + lo ≤ R.locals)
    (hP : va_P (xD X) vwCl ws H) (hD : va_D A ws) (hS : va_S A s.heap H locs) (hl : ls.size = nL) (is js : List Nat) (wr : va_W) (hC : is.map (fun i => ws[i]?) = wc.map some) (hn : va_nd is = true) (hB : is.map (fun i => ws'[i]?) = w1.map some) (hJ : js.map (fun i => ws'[i]?) = wr.map some) (hJ0 : js.map (fun i => ws[i]?) = wr.map some) {nn : Nat} (hlen : ws'.length = nn) (hcov : cov nn is js = true) (ad : List Nat) (had : ws'.map Prod.fst = ad) (had0 : ws.map Prod.fst = ad)
    (hln : As.length = n) (hst : st0 = As.reverse ++ rest) (hw : (rest.map fun v => v.category).sum ≤ 8) (hdg : decode cc pc = .ok (.invokestatic index, 3)) (hcs : cells ≤ R.cells ∧ slots ≤ R.slots)
    (kk : ∀ (H1 : Heap) (locs1 : List Loc), va_P (xD X) vwCl ws' H1 → va_D A ws' → va_S A s.heap H1 locs1 → W p l e R s m args below meth c H1 locs1 cells slots Q (F0 m (pc + 3) ls (rest))) : W p l e R s m args below meth c H locs cells slots Q (F0 m pc ls st0) := by
  have hr : va_Run p l e R s m args below meth c H locs cells slots 0 0 (F0 m pc ls st0) rest (QcV X w1 (va_A wc H.size) As.toArray) (va_A wc H.size) := runSN B hM hcode hini hlink hstat hd hR hP hD hS hl is hC hn (fm_of is hC) hln hst hw hdg hcs
  have hF := va_free (wc := wc) hD hS B.2.2.2.2.2.2.2.2.1 is hC
  refine va_callv hr hS (fun q _ h => hF q h) hF (fun u t H1 locs1 ht hvm hw hB1 hz1 hk1 hS1 => ?_)
  subst ht
  exact kk _ _ (cov_P hP hD is js hC hB hJ hJ0 hlen hcov hk1 hB1) (hD.adr (had.trans had0.symm)) hS1
theorem cNr {r : Nat} (ws' : va_W) (B : Bd X p s m args meth c A cc own nL ret) (hM : CTg X l y bytes maxL ret' fr lo As wc (QcR X r w1)) (hcode : Cond.code y bytes maxL ret' ∈ WG) (hini : Cond.initialized y.cls ∈ WG) (hlink : Cond.methodLinkNest own index y host ∈ NW) (hstat : Cond.static y ∈ WG) (hd : y.cls ≠ "java/lang/invoke/MethodHandle" ∧ y.cls ≠ "java/lang/invoke/VarHandle" ∧ (parseMethodDescriptor y.desc).map (fun d => d.parameters.length) = some n) (hR : fr + 1 ≤ R.frames ∧ 8 + (maxL + 11) + lo ≤ R.locals)
    (hP : va_P (xD X) vwCl ws H) (hD : va_D A ws) (hS : va_S A s.heap H locs) (hl : ls.size = nL) (is js : List Nat) (wr : va_W) (hC : is.map (fun i => ws[i]?) = wc.map some) (hn : va_nd is = true) (hB : is.map (fun i => ws'[i]?) = w1.map some) (hJ : js.map (fun i => ws'[i]?) = wr.map some) (hJ0 : js.map (fun i => ws[i]?) = wr.map some) {nn : Nat} (hlen : ws'.length = nn) (hcov : cov nn is js = true) (ad : List Nat) (had : ws'.map Prod.fst = ad) (had0 : ws.map Prod.fst = ad)
    (hln : As.length = n) (hst : st0 = As.reverse ++ rest) (hw : (rest.map fun v => v.category).sum ≤ 8) (hdg : decode cc pc = .ok (.invokestatic index, 3)) (hcs : cells ≤ R.cells ∧ slots ≤ R.slots)
    (kk : ∀ (H1 : Heap) (locs1 : List Loc), va_P (xD X) vwCl ws' H1 → va_D A ws' → va_S A s.heap H1 locs1 → W p l e R s m args below meth c H1 locs1 cells slots Q (F0 m (pc + 3) ls (.ref r :: rest))) : W p l e R s m args below meth c H locs cells slots Q (F0 m pc ls st0) := by
  have hr : va_Run p l e R s m args below meth c H locs cells slots 0 0 (F0 m pc ls st0) rest (QcR X r w1 (va_A wc H.size) As.toArray) (va_A wc H.size) := runSN B hM hcode hini hlink hstat hd hR hP hD hS hl is hC hn (fm_of is hC) hln hst hw hdg hcs
  have hF := va_free (wc := wc) hD hS B.2.2.2.2.2.2.2.2.1 is hC
  refine va_callr hr hS (fun q _ h => hF q h) hF (fun u ra t H1 locs1 ht hvm hw hB1 hz1 hk1 hS1 => ?_)
  obtain ⟨rfl, hB1⟩ := hB1
  subst ht
  exact kk _ _ (cov_P hP hD is js hC hB hJ hJ0 hlen hcov hk1 hB1) (hD.adr (had.trans had0.symm)) hS1
end Rows4
