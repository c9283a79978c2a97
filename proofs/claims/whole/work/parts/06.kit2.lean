section Rows2
variable {X : CXp} {p : Program} {l : Launch} {e : Env} {R : Room} {s : State} {m : MethodId} {args : Array Value} {below : List Frame} {meth : Method} {c : Code} {H : Heap} {locs : List Loc} {cells slots : Nat} {Q : State → Prop} {A : Nat → Prop} {cc : ByteArray} {own : String} {nL : Nat} {ret : Option FieldType} {pc : Nat} {ls : Array Slot} {rest st0 : List Value}
theorem retR {r : Nat} {w' : va_W} {cn : String} (B : Bd X p s m args meth c A cc own nL (some (.object cn))) (hS : va_S A s.heap H locs) (hP : va_P (xD X) vwCl w' H) (hdg : decode cc pc = .ok (.areturn, 1)) : W p l e R s m args below meth c H locs cells slots (MQ below (QcR X r w' A) args s cells slots A) (F0 m pc ls [.ref r]) :=
  W.aret B.1 B.2.1 B.2.2.1 (Or.inl ⟨cn, rfl⟩) (Or.inr ⟨r, rfl⟩) (fun t ht hW => ⟨⟨(), r, rfl, trivial, rfl, by subst ht; exact hP⟩, hS.F ht⟩) hS.2.2 hdg B.2.2.2.2.2.2.1
theorem cell_congr {cA : ClassId} {n : Nat} {f g : Nat → Int32} (h : ∀ j, j < n → f j = g j) : vp_cell cA (n, .inl f) = vp_cell cA (n, .inl g) := by
  show arrV cA n (fun j => .int (f j)) = arrV cA n (fun j => .int (g j))
  have e : (fun j => Value.int (f j.val) : Fin n → Value) = fun j => .int (g j.val) := funext fun j => by rw [h j.val j.isLt]
  unfold arrV
  rw [e]
theorem cp_full {ws : va_W} (B : Bd X p s m args meth c A cc own nL ret) (hls : ls.size = nL) {index : Nat} (wl : Cond.methodLink own index arraycopyName ∈ WG) (hfr : 1 ≤ R.frames ∧ (rest.map fun v => v.category).sum + (nativeFrameWords "java/lang/System" "arraycopy" 5 + 11) ≤ R.locals)
    (hP : va_P (xD X) vwCl ws H) (hD : va_D A ws) (hS : va_S A s.heap H locs) (q0 q1 : Nat) {a0 a n : Nat} {f g : Nat → Int32} (ha0 : ws[q0]? = some (a0, .inl (xI X, n, .inl f))) (ha1 : ws[q1]? = some (a, .inl (xI X, n, .inl g))) {z : Int32} (hz : z.toNatClampNeg = n) (hz0 : ¬ z < 0) (hdg : decode cc pc = .ok (.invokestatic index, 3))
    (kk : ∀ (H1 : Heap) (locs1 : List Loc), va_P (xD X) vwCl (ws.set q1 (a, .inl (xI X, n, .inl f))) H1 → va_D A (ws.set q1 (a, .inl (xI X, n, .inl f))) → va_S A s.heap H1 locs1 → W p l e R s m args below meth c H1 locs1 cells slots Q (F0 m (pc + 3) ls rest)) : W p l e R s m args below meth c H locs cells slots Q (F0 m pc ls (.int z :: .int 0 :: .ref a :: .int 0 :: .ref a0 :: rest)) := by
  have hts := B.2.2.2.2.2.1
  have hcx := B.2.2.2.2.2.2.2.1
  refine va_copyi B.1 B.2.1 (B.2.2.2.1.trans hls.symm) B.2.2.2.2.1 (hts _ wl) (hts _ wq_3_12) (hts _ wq_3_11) (hts _ wq_1_21) hcx.1 hP hD hS q0 q1 0 0 ha0 ha1 rfl rfl rfl (by decide) (by decide) hz0 (by rw [hz]; exact Nat.le_of_eq (Nat.zero_add n)) (by rw [hz]; exact Nat.le_of_eq (Nat.zero_add n)) (fun _ _ => rfl) hfr.1 hfr.2 hdg (fun H1 locs1 hP1 hD1 hS1 => ?_)
  refine kk H1 locs1 ?_ (hD1.adr (by simp only [List.map_set])) hS1
  intro k q hk
  by_cases hkq : q1 = k
  · subst hkq
    have hlt : q1 < ws.length := (List.getElem?_eq_some_iff.mp ha1).1
    rw [List.getElem?_set_self hlt] at hk
    cases hk
    have h1 := hP1 q1 _ (List.getElem?_set_self hlt)
    show H1[a]? = some (vp_cell (xI X) (n, .inl f))
    have h2 : H1[a]? = some (vp_cell (xI X) (n, .inl (va_cpy f g (0 : Int32).toNatClampNeg (0 : Int32).toNatClampNeg z.toNatClampNeg))) := h1
    rw [h2]
    refine congrArg some (cell_congr fun j hj => ?_)
    show (if 0 ≤ j ∧ j < 0 + z.toNatClampNeg then f (0 + (j - 0)) else g j) = f j
    rw [if_pos ⟨Nat.zero_le j, by rw [hz]; omega⟩]
    congr 1
    omega
  · rw [List.getElem?_set_ne hkq] at hk
    refine hP1 k q ?_
    rw [List.getElem?_set_ne hkq]
    exact hk
theorem mx_row (B : Bd X p s m args meth c A cc own nL ret) (hls : ls.size = nL) {index : Nat} (wl : Cond.methodLink own index Lib.Math.max.name ∈ WG) (hfr : 1 ≤ R.frames ∧ (rest.map fun v => v.category).sum + 13 ≤ R.locals) (hcs : cells ≤ R.cells ∧ slots ≤ R.slots) {x y : Int32} (hdg : decode cc pc = .ok (.invokestatic index, 3))
    (kk : W p l e R s m args below meth c H locs cells slots Q (F0 m (pc + 3) ls (.int (if x < y then y else x) :: rest))) : W p l e R s m args below meth c H locs cells slots Q (F0 m pc ls (.int y :: .int x :: rest)) := by
  have hts := B.2.2.2.2.2.1
  exact va_mmax B.1 B.2.1 (B.2.2.2.1.trans hls.symm) B.2.2.2.2.1 (hts _ wl) (hts _ wq_2_117) (hts _ wq_1_17) (hts _ wq_2_118) hfr.1 hfr.2 hcs.1 hcs.2 hdg kk
end Rows2
