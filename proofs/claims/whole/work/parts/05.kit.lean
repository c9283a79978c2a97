/-! my frame: contexts, contracts, calls -/
abbrev CXp : Type := va_G × ClassId × ClassId × Nat × Nat × Nat × Nat × Nat
abbrev xD (X : CXp) : va_G := X.1
abbrev xI (X : CXp) : ClassId := X.2.1
abbrev xB (X : CXp) : ClassId := X.2.2.1
abbrev xb (X : CXp) : Nat := X.2.2.2.1
abbrev xr (X : CXp) : Nat := X.2.2.2.2.1
abbrev xc (X : CXp) : Nat := X.2.2.2.2.2.1
abbrev xs (X : CXp) : Nat := X.2.2.2.2.2.2.1
abbrev xv (X : CXp) : Nat := X.2.2.2.2.2.2.2
def rowS (j : Nat) : Int32 := ([-1, -1, 0, 1, 1, 1, 0, -1] : List Int32).getD j 0
def colS (j : Nat) : Int32 := ([0, 1, 1, 1, 0, -1, -1, -1] : List Int32).getD j 0
abbrev tysX (X : CXp) : List (ClassId × FieldType) := [(xI X, .int), (xB X, .object "WhiteWanted$Ball")]
abbrev Ab (X : CXp) : Nat → Prop := fun q => xb X ≤ q
def NC : List (String × String) := [(RX1, RX5), (RX1, RX6), (RX1, RX2), (RX1, RX8), (RX5, RX6), (RX5, RX2), (RX5, RX8), (RX6, RX5), (RX6, RX2), (RX6, RX8), (RX2, RX5), (RX2, RX6), (RX2, RX8), (RX8, RX6), (RX8, RX2)]
def Sx (X : CXp) (U : State) : Prop :=
  (va_Z RX10 "ROW_STEPS" "[I" (.ref (xr X)) (Ab X) U U.heap ∧ va_T .int (xr X) 8 (fun j => .int (rowS j)) (Ab X) U U.heap) ∧
  (va_Z RX10 "COLUMN_STEPS" "[I" (.ref (xc X)) (Ab X) U U.heap ∧ va_T .int (xc X) 8 (fun j => .int (colS j)) (Ab X) U U.heap) ∧
  (vk_R RX7 45 "bhlds" (xs X) U ∧ vk_S 1 [5] [[98, 104, 108, 100, 115]] (fun _ => xs X) (fun _ => xv X) (Ab X) U U.heap ∧ va_Z "java/lang/String" "COMPACT_STRINGS" "Z" (.int 1) (Ab X) U U.heap ∧ va_AO "WhiteWanted$Ball" U)
def Cx (X : CXp) (U : State) : Prop := va_K (xD X) vwCl (tysX X) U ∧ (∀ w ∈ NW, va_Nw w U) ∧ (∀ q ∈ NC, va_Nc q.1 q.2 U) ∧ Sx X U
theorem nw_tab {w : Cond} (h : w ∈ NW) : w.onTables = true := by
  have h2 := (List.mem_filter.mp h).2
  cases w <;> first | rfl | (simp [isNest] at h2; done)
theorem nw_warm {w : Cond} (h : w ∈ NW) {s U : State} (hW : s.WarmedH U.vm) (hZ : va_Nw w s) : va_Nw w U := by
  have h2 := (List.mem_filter.mp h).2
  cases w <;> first | exact va_Nw.warmF hW hZ | exact va_Nw.warmM hW hZ | exact va_Nw.warmC hW hZ | (simp [isNest] at h2; done)
theorem Cx.pass {X : CXp} {A : Nat → Prop} {s U : State} {H : Heap} {locs : List Loc} (h : Cx X s) (hS : va_S A s.heap H locs) (hA : ∀ q, A q → xb X ≤ q) (hU : U.heap = H) (hW : s.WarmedH U.vm) : Cx X U := by
  have hvm := hW.alike
  have hk : ∀ a : Nat, a < s.heap.size → ¬ Ab X a → U.heap[a]? = s.heap[a]? := fun a h1 h2 => by rw [hU]; exact hS.2.1 a h1 (fun z => h2 (hA a z))
  obtain ⟨h1, h2, h3, ⟨z1, t1⟩, ⟨z2, t2⟩, r3, s3, z3, o3⟩ := h
  exact ⟨h1.moved hvm, fun w hw => nw_warm hw hW (h2 w hw), fun q hq => va_Nc.moved hvm (h3 q hq), ⟨(z1.moved hvm).kept hk, (t1.moved hvm).kept hk⟩, ⟨(z2.moved hvm).kept hk, (t2.moved hvm).kept hk⟩, r3.warm hW, (s3.moved hvm).kept hk, (z3.moved hvm).kept hk, o3.moved hvm⟩
theorem Cx.calling {X : CXp} {U : State} {g : JFrame} {mk : MethodId} {a : Array Value} (h : Cx X U) : Cx X (U.calling g mk a) := by
  have hvm : U.vm.Alike (U.calling g mk a).vm := Vm.Alike.refl U.vm
  obtain ⟨h1, h2, h3, ⟨z1, t1⟩, ⟨z2, t2⟩, r3, s3, z3, o3⟩ := h
  exact ⟨va_K.moved (u := U) hvm h1, fun w hw => va_Nw.same (u := U) (nw_tab hw) rfl (h2 w hw), fun q hq => va_Nc.moved (u := U) hvm (h3 q hq), ⟨va_Z.moved (u := U) hvm z1, va_T.moved (u := U) hvm t1⟩, ⟨va_Z.moved (u := U) hvm z2, va_T.moved (u := U) hvm t2⟩, vk_R.same (u := U) rfl r3, vk_S.moved (u := U) hvm s3, va_Z.moved (u := U) hvm z3, va_AO.moved (u := U) hvm o3⟩
abbrev rmF (fr lo : Nat) : Room := { frames := fr, cells := 0, slots := 0, locals := lo }
def PCx (X : CXp) (av : List Value) (ws : va_W) (sz : Nat) : Array Value → State → Prop := va_Pc av (fun U => U.heap.size = sz ∧ va_P (xD X) vwCl ws U.heap ∧ Cx X U ∧ va_D (Ab X) ws ∧ xb X ≤ sz)
theorem PCx.blind {X : CXp} {av : List Value} {ws : va_W} {sz : Nat} : FrameBlind (PCx X av ws sz) := fun _ _ _ _ h => ⟨h.1, h.2.1, h.2.2.1, h.2.2.2.1.calling, h.2.2.2.2⟩
abbrev QcI (X : CXp) (r : Int32) (w' : va_W) (A : Nat → Prop) : Array Value → State → Outcome → State → Prop := va_Qi (S := Unit) (fun r' _ => r' = r) (fun _ t => va_P (xD X) vwCl w' t.heap) A
abbrev QcL (X : CXp) (r : Int64) (w' : va_W) (A : Nat → Prop) : Array Value → State → Outcome → State → Prop := va_Ql (S := Unit) (fun r' _ => r' = r) (fun _ t => va_P (xD X) vwCl w' t.heap) A
abbrev QcV (X : CXp) (w' : va_W) (A : Nat → Prop) : Array Value → State → Outcome → State → Prop := va_Qv (S := Unit) (fun _ => True) (fun _ t => va_P (xD X) vwCl w' t.heap) A
abbrev QcR (X : CXp) (r : Nat) (w' : va_W) (A : Nat → Prop) : Array Value → State → Outcome → State → Prop := va_Qr (S := Unit) (fun _ => True) (fun _ a t => a = r ∧ va_P (xD X) vwCl w' t.heap) A
/-- a method's contract: from a heap that holds ws it returns, the heap holds w' -/
def CTg (X : CXp) (l : Launch) (y : MethodName) (cc : ByteArray) (nL : Nat) (ret : Option FieldType) (fr lo : Nat) (av : List Value) (ws : va_W) (Qc : (Nat → Prop) → Array Value → State → Outcome → State → Prop) : Prop :=
  ∀ sz, Met l y (Cond.code y cc nL ret :: WG) (rmF fr lo) (PCx X av ws sz) (Qc (va_A ws sz)) 0 0 (va_A ws sz)
theorem good_WG {c0 w0 : Cond} (h : w0 ∈ WG) : GoodIn (c0 :: WG) (w0 :: WG) := fun w hw => by
  have hin : w ∈ WG := (List.mem_cons.mp hw).elim (fun e => e ▸ h) id
  exact ⟨List.mem_cons_of_mem _ hin, good_of_word (List.mem_filter.mp hin).2⟩
/-- the cells of a list put at their places in another -/
def pAt : va_W → List Nat → va_W → va_W
  | ws, i :: is, q :: qs => pAt (ws.set i q) is qs
  | ws, _, _ => ws
theorem pAt_get : ∀ (is : List Nat) (qs ws : va_W), is.length = qs.length → ∀ (j : Nat) (q : Nat × va_E), (pAt ws is qs)[j]? = some q → (∃ i : Nat, is[i]? = some j ∧ qs[i]? = some q) ∨ ((∀ i : Nat, is[i]? ≠ some j) ∧ ws[j]? = some q) := by
  intro is
  induction is with
  | nil => intro qs ws _ j q h; exact Or.inr ⟨fun i => by simp, by simpa [pAt] using h⟩
  | cons i is ih =>
    intro qs ws hl j q h
    cases qs with
    | nil => simp at hl
    | cons q0 qs =>
      rcases ih qs (ws.set i q0) (by simpa using hl) j q (by simpa [pAt] using h) with ⟨i', h1, h2⟩ | ⟨h1, h2⟩
      · exact Or.inl ⟨i' + 1, by simpa using h1, by simpa using h2⟩
      · by_cases hij : i = j
        · subst hij
          rw [List.getElem?_set] at h2
          simp only [if_true] at h2
          split at h2
          · exact Or.inl ⟨0, by simp, by simpa using h2⟩
          · cases h2
        · rw [List.getElem?_set, if_neg hij] at h2
          refine Or.inr ⟨fun i' => ?_, h2⟩
          cases i' with
          | zero => simpa using hij
          | succ k => simpa using h1 k
theorem pAt_P {A : Nat → Prop} {D : va_G} {cl : List vw_C} {ws wc w1 ws' : va_W} {H H1 : Heap} (hP : va_P D cl ws H) (hD : va_D A ws) (is : List Nat) (hC : is.map (fun i => ws[i]?) = wc.map some) (hl : is.length = w1.length) (hput : pAt ws is w1 = ws')
    (hk : ∀ q : Nat, q < H.size → ¬ va_A wc H.size q → H1[q]? = H[q]?) (hP1 : va_P D cl w1 H1) : va_P D cl ws' H1 := by
  intro j q hj
  rw [← hput] at hj
  rcases pAt_get is w1 ws hl j q hj with ⟨i, -, h2⟩ | ⟨h1, h2⟩
  · exact hP1 i q h2
  · have hat := hP j q h2
    refine hat.kept (hk q.1 hat.lt fun hA => ?_)
    rcases hA with ⟨k, e, hke⟩ | hge
    · have h3 : (is.map (fun i => ws[i]?))[k]? = some (some (q.1, e)) := by rw [hC, List.getElem?_map, hke]; rfl
      rw [List.getElem?_map] at h3
      cases hi : is[k]? with
      | none => rw [hi] at h3; cases h3
      | some i0 =>
        rw [hi] at h3
        have h4 : ws[i0]? = some (q.1, e) := Option.some.inj h3
        have h5 := hD.1 j i0 q (q.1, e) h2 h4 rfl
        exact h1 k (by rw [hi, h5])
    · exact absurd hat.lt (Nat.not_lt.mpr hge)
theorem va_D.adr {A : Nat → Prop} {ws ws' : va_W} (h : va_D A ws) (he : ws'.map Prod.fst = ws.map Prod.fst) : va_D A ws' := by
  have key : ∀ (k : Nat) (q : Nat × va_E), ws'[k]? = some q → ∃ q', ws[k]? = some q' ∧ q'.1 = q.1 := by
    intro k q hk
    have h1 : (ws'.map Prod.fst)[k]? = some q.1 := by rw [List.getElem?_map, hk]; rfl
    rw [he, List.getElem?_map] at h1
    cases hq : ws[k]? with
    | none => rw [hq] at h1; cases h1
    | some q' => rw [hq] at h1; exact ⟨q', rfl, Option.some.inj h1⟩
  refine ⟨fun i j p q hi hj e => ?_, fun k q hk => ?_⟩
  · obtain ⟨p', hp', ep⟩ := key i p hi
    obtain ⟨q', hq', eq⟩ := key j q hj
    exact h.1 i j p' q' hp' hq' (by rw [ep, eq, e])
  · obtain ⟨q', hq', eq⟩ := key k q hk
    exact eq ▸ h.2 k q' hq'
/-- what stays through a method's body -/
def Bd (X : CXp) (p : Program) (s : State) (m : MethodId) (args : Array Value) (meth : Method) (c : Code) (A : Nat → Prop) (cc : ByteArray) (own : String) (nL : Nat) (ret : Option FieldType) : Prop :=
  p.tables.exec = Jvm.exec ∧ c.code = cc ∧ meth.sig.returnType = ret ∧ c.maxLocals = nL ∧ s.vm.findClass own = some m.cls ∧ (∀ w ∈ WG, w.before args s = true) ∧ meth.locks = false ∧ Cx X s ∧ (∀ q, s.heap.size ≤ q → A q) ∧ (∀ q, A q → xb X ≤ q)
section Rows
variable {X : CXp} {p : Program} {l : Launch} {e : Env} {R : Room} {s : State} {m : MethodId} {args : Array Value} {below : List Frame} {meth : Method} {c : Code} {H : Heap} {locs : List Loc} {cells slots : Nat} {Q : State → Prop} {A : Nat → Prop} {cc : ByteArray} {own : String} {nL : Nat} {ret : Option FieldType} {pc : Nat} {ls : Array Slot} {rest st0 : List Value}
/-- a method's entry: what is to be walked -/
theorem CTg.mk {y : MethodName} {av : List Value} {ws : va_W} {fr lo : Nat} {Qc : (Nat → Prop) → Array Value → State → Outcome → State → Prop} (hy : plainName y.cls = true) (hn : y.cls = own) (hsl : (lg_sl av).length ≤ nL)
    (body : ∀ p e s m args below meth c A, Bd X p s m args meth c A cc own nL ret → va_P (xD X) vwCl ws s.heap → va_D A ws → va_S A s.heap s.heap [] → ∀ ls, lv_has ls nL (lv_args 0 av) → W p l e (rmF fr lo) s m args below meth c s.heap [] 0 0 (MQ below (Qc A) args s 0 0 A) (F0 m 0 ls [])) : CTg X l y cc nL ret fr lo av ws Qc := by
  intro sz
  refine Met.ofW (cc := cc) (maxL := nL) (ret := ret) hy rfl ?_
  intro p e s m args below meth c s₁ B hml hv
  obtain ⟨rfl, hsz, hP, hcx, hD0, hbs⟩ := hv
  subst hsz
  have hD := hD0.self (sz := s.heap.size)
  have hts := atoms_spec (ws := Cond.code y cc nL ret :: WG) B.pre
  have hown : s.vm.findClass y.cls = some m.cls := findClass_of_methodNamed B.named
  rw [lg_entry_eq]
  refine body p e s m _ below meth c (va_A ws s.heap.size) ⟨B.exec, B.bytes, B.returns, hml, by rw [← hn]; exact hown, fun w hw => hts w (List.mem_cons_of_mem _ hw), B.notSynchronized, hcx, fun q h => Or.inr h, fun q h => ?_⟩ hP hD va_S.rf _ (lv_entry av hsl)
  rcases h with ⟨k, e1, hk⟩ | h
  · exact hD0.2 k _ hk
  · exact Nat.le_trans hbs h
theorem retI {r : Int32} {w' : va_W} (B : Bd X p s m args meth c A cc own nL (some .int)) (hS : va_S A s.heap H locs) (hP : va_P (xD X) vwCl w' H) (hdg : decode cc pc = .ok (.ireturn, 1)) : W p l e R s m args below meth c H locs cells slots (MQ below (QcI X r w' A) args s cells slots A) (F0 m pc ls [.int r]) :=
  W.iret B.1 B.2.1 B.2.2.1 (fun t ht hW => ⟨⟨r, (), rfl, rfl, by subst ht; exact hP⟩, hS.F ht⟩) hS.2.2 hdg B.2.2.2.2.2.2.1
theorem retZ {r : Int32} {w' : va_W} {ty : FieldType} (B : Bd X p s m args meth c A cc own nL (some ty)) (hn : narrow ty (.int r) = .int r) (hS : va_S A s.heap H locs) (hP : va_P (xD X) vwCl w' H) (hdg : decode cc pc = .ok (.ireturn, 1)) : W p l e R s m args below meth c H locs cells slots (MQ below (QcI X r w' A) args s cells slots A) (F0 m pc ls [.int r]) :=
  W.zret B.1 B.2.1 B.2.2.1 hn (fun t ht hW => ⟨⟨r, (), rfl, rfl, by subst ht; exact hP⟩, hS.F ht⟩) hS.2.2 hdg B.2.2.2.2.2.2.1
theorem retL {r : Int64} {w' : va_W} (B : Bd X p s m args meth c A cc own nL (some .long)) (hS : va_S A s.heap H locs) (hP : va_P (xD X) vwCl w' H) (hdg : decode cc pc = .ok (.lreturn, 1)) : W p l e R s m args below meth c H locs cells slots (MQ below (QcL X r w' A) args s cells slots A) (F0 m pc ls [.long r]) :=
  W.lret B.1 B.2.1 B.2.2.1 (fun t ht hW => ⟨⟨r, (), rfl, rfl, by subst ht; exact hP⟩, hS.F ht⟩) hS.2.2 hdg B.2.2.2.2.2.2.1
theorem retV {w' : va_W} (B : Bd X p s m args meth c A cc own nL none) (hS : va_S A s.heap H locs) (hP : va_P (xD X) vwCl w' H) (hdg : decode cc pc = .ok (.return_, 1)) : W p l e R s m args below meth c H locs cells slots (MQ below (QcV X w' A) args s cells slots A) (F0 m pc ls []) :=
  W.vret B.1 B.2.1 B.2.2.1 (fun t ht hW => ⟨⟨(), rfl, trivial, by subst ht; exact hP⟩, hS.F ht⟩) hS.2.2 hdg B.2.2.2.2.2.2.1
/-- behind a call: the callee's cells in their places -/
theorem back_i {r : Int32} {ws wc w1 : va_W} (ws' : va_W) {a : Array Value} (hr : va_Run p l e R s m args below meth c H locs cells slots 0 0 (F0 m pc ls st0) rest (QcI X r w1 (va_A wc H.size) a) (va_A wc H.size)) (hA : ∀ q, s.heap.size ≤ q → A q) (hP : va_P (xD X) vwCl ws H) (hD : va_D A ws) (hS : va_S A s.heap H locs) (is : List Nat) (hC : is.map (fun i => ws[i]?) = wc.map some) (hl : is.length = w1.length) (hput : pAt ws is w1 = ws') (had : ws'.map Prod.fst = ws.map Prod.fst)
    (kk : ∀ (H1 : Heap) (locs1 : List Loc), va_P (xD X) vwCl ws' H1 → va_D A ws' → va_S A s.heap H1 locs1 → W p l e R s m args below meth c H1 locs1 cells slots Q (F0 m (pc + 3) ls (.int r :: rest))) : W p l e R s m args below meth c H locs cells slots Q (F0 m pc ls st0) := by
  have hF := va_free (wc := wc) hD hS hA is hC
  refine va_calli hr hS (fun q _ h => hF q h) hF (fun r' u t H1 locs1 ht hvm hw hB hz1 hk1 hS1 => ?_)
  subst hw; subst ht
  exact kk _ _ (pAt_P hP hD is hC hl hput hk1 hB) (hD.adr had) hS1
theorem back_l {r : Int64} {ws wc w1 : va_W} (ws' : va_W) {a : Array Value} (hr : va_Run p l e R s m args below meth c H locs cells slots 0 0 (F0 m pc ls st0) rest (QcL X r w1 (va_A wc H.size) a) (va_A wc H.size)) (hA : ∀ q, s.heap.size ≤ q → A q) (hP : va_P (xD X) vwCl ws H) (hD : va_D A ws) (hS : va_S A s.heap H locs) (is : List Nat) (hC : is.map (fun i => ws[i]?) = wc.map some) (hl : is.length = w1.length) (hput : pAt ws is w1 = ws') (had : ws'.map Prod.fst = ws.map Prod.fst)
    (kk : ∀ (H1 : Heap) (locs1 : List Loc), va_P (xD X) vwCl ws' H1 → va_D A ws' → va_S A s.heap H1 locs1 → W p l e R s m args below meth c H1 locs1 cells slots Q (F0 m (pc + 3) ls (.long r :: rest))) : W p l e R s m args below meth c H locs cells slots Q (F0 m pc ls st0) := by
  have hF := va_free (wc := wc) hD hS hA is hC
  refine va_calll hr hS (fun q _ h => hF q h) hF (fun r' u t H1 locs1 ht hvm hw hB hz1 hk1 hS1 => ?_)
  subst hw; subst ht
  exact kk _ _ (pAt_P hP hD is hC hl hput hk1 hB) (hD.adr had) hS1
theorem back_v {ws wc w1 : va_W} (ws' : va_W) {a : Array Value} (hr : va_Run p l e R s m args below meth c H locs cells slots 0 0 (F0 m pc ls st0) rest (QcV X w1 (va_A wc H.size) a) (va_A wc H.size)) (hA : ∀ q, s.heap.size ≤ q → A q) (hP : va_P (xD X) vwCl ws H) (hD : va_D A ws) (hS : va_S A s.heap H locs) (is : List Nat) (hC : is.map (fun i => ws[i]?) = wc.map some) (hl : is.length = w1.length) (hput : pAt ws is w1 = ws') (had : ws'.map Prod.fst = ws.map Prod.fst)
    (kk : ∀ (H1 : Heap) (locs1 : List Loc), va_P (xD X) vwCl ws' H1 → va_D A ws' → va_S A s.heap H1 locs1 → W p l e R s m args below meth c H1 locs1 cells slots Q (F0 m (pc + 3) ls rest)) : W p l e R s m args below meth c H locs cells slots Q (F0 m pc ls st0) := by
  have hF := va_free (wc := wc) hD hS hA is hC
  refine va_callv hr hS (fun q _ h => hF q h) hF (fun u t H1 locs1 ht hvm hw hB hz1 hk1 hS1 => ?_)
  subst ht
  exact kk _ _ (pAt_P hP hD is hC hl hput hk1 hB) (hD.adr had) hS1
theorem back_r {r : Nat} {ws wc w1 : va_W} (ws' : va_W) {a : Array Value} (hr : va_Run p l e R s m args below meth c H locs cells slots 0 0 (F0 m pc ls st0) rest (QcR X r w1 (va_A wc H.size) a) (va_A wc H.size)) (hA : ∀ q, s.heap.size ≤ q → A q) (hP : va_P (xD X) vwCl ws H) (hD : va_D A ws) (hS : va_S A s.heap H locs) (is : List Nat) (hC : is.map (fun i => ws[i]?) = wc.map some) (hl : is.length = w1.length) (hput : pAt ws is w1 = ws') (had : ws'.map Prod.fst = ws.map Prod.fst)
    (kk : ∀ (H1 : Heap) (locs1 : List Loc), va_P (xD X) vwCl ws' H1 → va_D A ws' → va_S A s.heap H1 locs1 → W p l e R s m args below meth c H1 locs1 cells slots Q (F0 m (pc + 3) ls (.ref r :: rest))) : W p l e R s m args below meth c H locs cells slots Q (F0 m pc ls st0) := by
  have hF := va_free (wc := wc) hD hS hA is hC
  refine va_callr hr hS (fun q _ h => hF q h) hF (fun u ra t H1 locs1 ht hvm hw hB hz1 hk1 hS1 => ?_)
  obtain ⟨rfl, hB⟩ := hB
  subst ht
  exact kk _ _ (pAt_P hP hD is hC hl hput hk1 hB) (hD.adr had) hS1
/-- a call's precondition -/
theorem pre_of {ws wc : va_W} (B : Bd X p s m args meth c A cc own nL ret) (hP : va_P (xD X) vwCl ws H) (hD : va_D A ws) (hS : va_S A s.heap H locs) {av : List Value} (is : List Nat) (hC : is.map (fun i => ws[i]?) = wc.map some) (hn : va_nd is = true) (hf : is.filterMap (fun i => ws[i]?) = wc) : ∀ U : State, U.heap = H → s.WarmedH U.vm → PCx X av wc H.size av.toArray U := by
  intro U hU hW
  refine ⟨rfl, by rw [hU], by rw [hU]; exact hP.sub is hf, B.2.2.2.2.2.2.2.1.pass hS B.2.2.2.2.2.2.2.2.2 hU hW, (hD.sub is hn hC).weaken (fun _ _ _ h => B.2.2.2.2.2.2.2.2.2 _ h), ?_⟩
  exact B.2.2.2.2.2.2.2.2.2 _ (B.2.2.2.2.2.2.2.2.1 _ hS.1)
/-- the words of a call -/
theorem cwB {y : MethodName} {bytes : ByteArray} {maxL index n fr lo : Nat} {ret' : Option FieldType} (B : Bd X p s m args meth c A cc own nL ret) (hcode : Cond.code y bytes maxL ret' ∈ WG) (hini : Cond.initialized y.cls ∈ WG) (hlink : Cond.methodLink own index y ∈ WG)
    (hd : y.cls ≠ "java/lang/invoke/MethodHandle" ∧ y.cls ≠ "java/lang/invoke/VarHandle" ∧ (parseMethodDescriptor y.desc).map (fun d => d.parameters.length) = some n) (hR : fr + 1 ≤ R.frames ∧ 8 + (maxL + 11) + lo ≤ R.locals) : CallB R s args own index y bytes maxL ret' (Cond.code y bytes maxL ret' :: WG) (rmF fr lo) 0 0 n := by
  have hts := B.2.2.2.2.2.1
  refine callB_of (Ts := Cond.code y bytes maxL ret' :: WG) n (fun w hw => ?_) (good_WG hcode) rfl rfl rfl (hts _ hini) (hts _ hlink) hd hR
  exact hts w ((List.mem_cons.mp hw).elim (fun e => e ▸ hcode) id)
theorem cwN {y : MethodName} {host : String} {bytes : ByteArray} {maxL index n fr lo : Nat} {ret' : Option FieldType} (B : Bd X p s m args meth c A cc own nL ret) (hcode : Cond.code y bytes maxL ret' ∈ WG) (hini : Cond.initialized y.cls ∈ WG) (hlink : Cond.methodLinkNest own index y host ∈ NW)
    (hd : y.cls ≠ "java/lang/invoke/MethodHandle" ∧ y.cls ≠ "java/lang/invoke/VarHandle" ∧ (parseMethodDescriptor y.desc).map (fun d => d.parameters.length) = some n) (hR : fr + 1 ≤ R.frames ∧ 8 + (maxL + 11) + lo ≤ R.locals) : va_CN R s args own index y host bytes maxL ret' (Cond.code y bytes maxL ret' :: WG) (rmF fr lo) 0 0 n := by
  have hts := B.2.2.2.2.2.1
  refine va_cnB (Ts := Cond.code y bytes maxL ret' :: WG) n (fun w hw => ?_) (good_WG hcode) rfl rfl rfl (B.2.2.2.2.2.2.2.1.2.1 _ hlink) (hts _ hini) hd hR
  exact hts w ((List.mem_cons.mp hw).elim (fun e => e ▸ hcode) id)
variable {y : MethodName} {bytes : ByteArray} {maxL index n fr lo : Nat} {ret' : Option FieldType} {ws wc : va_W} {As : List Value} {Qc : (Nat → Prop) → Array Value → State → Outcome → State → Prop} {C host : String} {b : Nat}
theorem runV (B : Bd X p s m args meth c A cc own nL ret) (hM : CTg X l y bytes maxL ret' fr lo (.ref b :: As) wc Qc) (hcode : Cond.code y bytes maxL ret' ∈ WG) (hini : Cond.initialized y.cls ∈ WG) (hlink : Cond.methodLink own index y ∈ WG) (hinst : Cond.instanceMethod y ∈ WG) (hsel : Cond.selects C y y ∈ WG)
    (hd : y.cls ≠ "java/lang/invoke/MethodHandle" ∧ y.cls ≠ "java/lang/invoke/VarHandle" ∧ (parseMethodDescriptor y.desc).map (fun d => d.parameters.length) = some n) (hR : fr + 1 ≤ R.frames ∧ 8 + (maxL + 11) + lo ≤ R.locals)
    (hP : va_P (xD X) vwCl ws H) (hD : va_D A ws) (hS : va_S A s.heap H locs) (hl : ls.size = nL) (is : List Nat) (hC : is.map (fun i => ws[i]?) = wc.map some) (hn : va_nd is = true) (hf : is.filterMap (fun i => ws[i]?) = wc)
    {q0 ci : Nat} {fs : List Value} {cT : u_T} {cN : Nat} (he : ws[q0]? = some (b, .inr (ci, fs))) (hc : vwCl[ci]? = some (C, cT, cN)) (hln : As.length = n) (hst : st0 = As.reverse ++ .ref b :: rest) (hw : (rest.map fun v => v.category).sum ≤ 8) (hdg : decode cc pc = .ok (.invokevirtual index, 3)) (hcs : cells ≤ R.cells ∧ slots ≤ R.slots) :
    va_Run p l e R s m args below meth c H locs cells slots 0 0 (F0 m pc ls st0) rest (Qc (va_A wc H.size) (Value.ref b :: As).toArray) (va_A wc H.size) := by
  have hts := B.2.2.2.2.2.1
  have hcx := B.2.2.2.2.2.2.2.1
  exact va_runV (C := C) ⟨B.1, B.2.1, B.2.2.2.1, B.2.2.2.2.1, hts⟩ (hM H.size) ⟨cwB B hcode hini hlink hd hR, hts _ hinst, hts _ hsel⟩ ⟨PCx.blind, va_recv hcx.1 hP hc he, pre_of B hP hD hS is hC hn hf⟩ rfl hln hl hst (lv_room hw) hdg hcs
theorem runS (B : Bd X p s m args meth c A cc own nL ret) (hM : CTg X l y bytes maxL ret' fr lo As wc Qc) (hcode : Cond.code y bytes maxL ret' ∈ WG) (hini : Cond.initialized y.cls ∈ WG) (hlink : Cond.methodLink own index y ∈ WG) (hstat : Cond.static y ∈ WG)
    (hd : y.cls ≠ "java/lang/invoke/MethodHandle" ∧ y.cls ≠ "java/lang/invoke/VarHandle" ∧ (parseMethodDescriptor y.desc).map (fun d => d.parameters.length) = some n) (hR : fr + 1 ≤ R.frames ∧ 8 + (maxL + 11) + lo ≤ R.locals)
    (hP : va_P (xD X) vwCl ws H) (hD : va_D A ws) (hS : va_S A s.heap H locs) (hl : ls.size = nL) (is : List Nat) (hC : is.map (fun i => ws[i]?) = wc.map some) (hn : va_nd is = true) (hf : is.filterMap (fun i => ws[i]?) = wc)
    (hln : As.length = n) (hst : st0 = As.reverse ++ rest) (hw : (rest.map fun v => v.category).sum ≤ 8) (hdg : decode cc pc = .ok (.invokestatic index, 3)) (hcs : cells ≤ R.cells ∧ slots ≤ R.slots) :
    va_Run p l e R s m args below meth c H locs cells slots 0 0 (F0 m pc ls st0) rest (Qc (va_A wc H.size) As.toArray) (va_A wc H.size) := by
  have hts := B.2.2.2.2.2.1
  exact va_runS ⟨B.1, B.2.1, B.2.2.2.1, B.2.2.2.2.1, hts⟩ (hM H.size) ⟨cwB B hcode hini hlink hd hR, hts _ hstat⟩ ⟨PCx.blind, pre_of B hP hD hS is hC hn hf⟩ rfl hln hl hst (lv_room hw) hdg hcs
theorem runSN (B : Bd X p s m args meth c A cc own nL ret) (hM : CTg X l y bytes maxL ret' fr lo As wc Qc) (hcode : Cond.code y bytes maxL ret' ∈ WG) (hini : Cond.initialized y.cls ∈ WG) (hlink : Cond.methodLinkNest own index y host ∈ NW) (hstat : Cond.static y ∈ WG)
    (hd : y.cls ≠ "java/lang/invoke/MethodHandle" ∧ y.cls ≠ "java/lang/invoke/VarHandle" ∧ (parseMethodDescriptor y.desc).map (fun d => d.parameters.length) = some n) (hR : fr + 1 ≤ R.frames ∧ 8 + (maxL + 11) + lo ≤ R.locals)
    (hP : va_P (xD X) vwCl ws H) (hD : va_D A ws) (hS : va_S A s.heap H locs) (hl : ls.size = nL) (is : List Nat) (hC : is.map (fun i => ws[i]?) = wc.map some) (hn : va_nd is = true) (hf : is.filterMap (fun i => ws[i]?) = wc)
    (hln : As.length = n) (hst : st0 = As.reverse ++ rest) (hw : (rest.map fun v => v.category).sum ≤ 8) (hdg : decode cc pc = .ok (.invokestatic index, 3)) (hcs : cells ≤ R.cells ∧ slots ≤ R.slots) :
    va_Run p l e R s m args below meth c H locs cells slots 0 0 (F0 m pc ls st0) rest (Qc (va_A wc H.size) As.toArray) (va_A wc H.size) := by
  have hts := B.2.2.2.2.2.1
  exact va_runSN ⟨B.1, B.2.1, B.2.2.2.1, B.2.2.2.2.1, hts⟩ (hM H.size) ⟨cwN B hcode hini hlink hd hR, hts _ hstat, trivial⟩ ⟨PCx.blind, pre_of B hP hD hS is hC hn hf⟩ rfl hln hl hst (lv_room hw) hdg hcs
end Rows
/-! the pure side: partial functions -/
def inb (i : Int32) (n : Nat) : Bool := decide (0 ≤ i.toInt) && decide (i.toInt < n)
def isb (v : Int32) : Bool := decide (v = 0) || decide (v = 1)
def gd {α : Type} (b : Bool) (t : Option α) : Option α := if b = true then t else none
def bnd {α β : Type} (a : α) (f : α → β) : β := f a
def jn {α β : Type} (b : α) (f : α → β) : β := f b
theorem inb_vp {i : Int32} {n : Nat} (h : inb i n = true) : vp_in i n := by
  simp only [inb, Bool.and_eq_true, decide_eq_true_eq] at h
  exact vp_in_iff.mpr h
theorem isb_n {v : Int32} (h : isb v = true) : narrow .boolean (.int v) = .int v := by
  simp only [isb, Bool.or_eq_true, decide_eq_true_eq] at h
  rcases h with rfl | rfl <;> rfl
theorem isb_f {v : Int32} (h : isb v = true) : fits .boolean (.int v) = true := by
  simp only [isb, Bool.or_eq_true, decide_eq_true_eq] at h
  rcases h with rfl | rfl <;> rfl
theorem gd_s {α : Type} {b : Bool} {t : Option α} {r : α} (h : gd b t = some r) : b = true ∧ t = some r := by
  unfold gd at h
  split at h
  · exact ⟨by assumption, h⟩
  · cases h
theorem ob_s {α β : Type} {o : Option α} {f : α → Option β} {r : β} (h : o.bind f = some r) : ∃ a, o = some a ∧ f a = some r := by
  cases o with
  | none => cases h
  | some a => exact ⟨a, rfl, h⟩
theorem bn_s {α β : Type} {a : α} {f : α → Option β} {r : β} (h : bnd a f = some r) {y : α} (hy : y = a) : f y = some r := by subst hy; exact h
theorem jn_s {α β : Type} {b : α} {f : α → Option β} {r : β} (h : jn b f = some r) : ∃ j, j = b ∧ f j = some r := ⟨b, rfl, h⟩
theorem it_p {α : Type} {q : Prop} [Decidable q] {a b : Option α} {r : α} (hq : q) (h : (if q then a else b) = some r) : a = some r := by rwa [if_pos hq] at h
theorem it_n {α : Type} {q : Prop} [Decidable q] {a b : Option α} {r : α} (hq : ¬ q) (h : (if q then a else b) = some r) : b = some r := by rwa [if_neg hq] at h
def lpF {α β : Type} (step : (α → Option β) → α → Option β) : Nat → α → Option β
  | 0, _ => none
  | k + 1, a => step (lpF step k) a
