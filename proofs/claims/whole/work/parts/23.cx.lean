theorem i_1 {s : State} {b : Nat} (hts : ∀ w ∈ lw_tbl, w.before #[Value.ref b] s = true) (w : Cond) (h : w ∈ WG) : w.before #[Value.ref b] s = true := hts w (List.mem_filter.mp h).1
theorem nw_1 {s : State} {b : Nat} (hts : ∀ w ∈ lw_tbl, w.before #[Value.ref b] s = true) (w : Cond) (h : w ∈ NW) : va_Nw w s := va_Nw.of (nw_tab h) (hts w (List.mem_append_right _ (List.mem_filter.mp h).1))
set_option maxHeartbeats 4000000 in
set_option maxRecDepth 100000 in
theorem cx_start {s : State} {b : Nat} (hts : ∀ w ∈ lw_tbl, w.before #[Value.ref b] s = true) (hgv : (Jvm.Cond.and given_1 narrow_1).before #[Value.ref b] s = true) : ∃ X : CXp, Cx X s ∧ xb X = s.heap.size := by
  have hW := i_1 hts
  have hs := flat_of_before _ hgv
  have hA : ∀ a : Nat, a < s.heap.size → ¬ (fun q : Nat => s.heap.size ≤ q) a := fun a h => Nat.not_le.mpr h
  obtain ⟨c0, iS0, hKn0⟩ := u_known (C := RX0) (T := TX0) (N := 4) (n := 4) hW inX0 (hW _ wq_1_205)
  obtain ⟨c1, iS1, hKn1⟩ := u_known (C := RX1) (T := TX1) (N := 0) (n := 0) hW inX1 (hW _ wq_1_33)
  obtain ⟨c2, iS2, hKn2⟩ := u_known (C := RX2) (T := TX2) (N := 0) (n := 0) hW inX2 (hW _ wq_1_54)
  obtain ⟨c3, iS3, hKn3⟩ := u_known (C := RX3) (T := TX3) (N := 9) (n := 9) hW inX3 (hW _ wq_1_83)
  obtain ⟨c4, iS4, hKn4⟩ := u_known (C := RX4) (T := TX4) (N := 2) (n := 2) hW inX4 (hW _ wq_1_224)
  obtain ⟨c5, iS5, hKn5⟩ := u_known (C := RX5) (T := TX5) (N := 0) (n := 0) hW inX5 (hW _ wq_1_40)
  obtain ⟨c6, iS6, hKn6⟩ := u_known (C := RX6) (T := TX6) (N := 0) (n := 0) hW inX6 (hW _ wq_1_47)
  obtain ⟨c7, iS7, hKn7⟩ := u_known (C := RX7) (T := TX7) (N := 2) (n := 2) hW inX7 (hW _ wq_1_68)
  obtain ⟨c8, iS8, hKn8⟩ := u_known (C := RX8) (T := TX8) (N := 0) (n := 0) hW inX8 (hW _ wq_1_61)
  obtain ⟨c9, iS9, hKn9⟩ := u_known (C := RX9) (T := TX9) (N := 9) (n := 9) hW inX9 (hW _ wq_1_160)
  obtain ⟨c10, iS10, hKn10⟩ := u_known (C := RX10) (T := TX10) (N := 6) (n := 6) hW inX10 (hW _ wq_1_89)
  obtain ⟨c11, iS11, hKn11⟩ := u_known (C := RX11) (T := TX11) (N := 11) (n := 11) hW inX11 (hW _ wq_1_24)
  obtain ⟨c12, iS12, hKn12⟩ := u_known (C := RX12) (T := TX12) (N := 38) (n := 38) hW inX12 (hW _ wq_4_102)
  obtain ⟨dC, dI, hKc⟩ : ∃ (dC : Nat → ClassId) (dI : Nat → Nat → Nat), ∀ (k : Nat) (q : vw_C), vwCl[k]? = some q → u_Kn s q.1 q.2.1 q.2.2 (dC k) (dI k) := by
    refine ⟨fun k => [c0, c1, c2, c3, c4, c5, c6, c7, c8, c9, c10, c11, c12].getD k c0, fun k => [iS0, iS1, iS2, iS3, iS4, iS5, iS6, iS7, iS8, iS9, iS10, iS11, iS12].getD k iS0, ?_⟩
    intro k q hq
    match k, hq with
    | 0, hq => cases hq; exact hKn0
    | 1, hq => cases hq; exact hKn1
    | 2, hq => cases hq; exact hKn2
    | 3, hq => cases hq; exact hKn3
    | 4, hq => cases hq; exact hKn4
    | 5, hq => cases hq; exact hKn5
    | 6, hq => cases hq; exact hKn6
    | 7, hq => cases hq; exact hKn7
    | 8, hq => cases hq; exact hKn8
    | 9, hq => cases hq; exact hKn9
    | 10, hq => cases hq; exact hKn10
    | 11, hq => cases hq; exact hKn11
    | 12, hq => cases hq; exact hKn12
    | k + 13, hq => simp [vwCl] at hq
  obtain ⟨cI, kI, compI, i1, i2, i3⟩ := Cond.arrayClass_spec (hW _ wq_1_81)
  have hao : va_AO "WhiteWanted$Ball" s := va_AO.of (hts (Cond.arrayOver (.object "WhiteWanted$Ball")) (List.mem_append_right _ (wt1 (List.mem_of_getElem? (i := 32) rfl))))
  obtain ⟨compB, cB, kB, b1, b2, b3, b4, b5⟩ := Cond.arrayOver_spec hao
  obtain ⟨tr, hr1, hr2⟩ := va_Tof (tm := (Term.static "WhiteWanted$Table" "ROW_STEPS" "[I")) (ty := .int) (N := 8) (f := fun j => .int (rowS j)) (A := fun q => s.heap.size ≤ q) (by decide) (hs (Cond.arrayOf (Term.static "WhiteWanted$Table" "ROW_STEPS" "[I") .int) (by decide +kernel)) (va_eqt (hs (Cond.eq (.length (Term.static "WhiteWanted$Table" "ROW_STEPS" "[I")) (.int 8)) (by decide +kernel))) (fun j hj => match j, hj with
    | 0, _ => va_eqt (hs (Cond.eq (.elem (Term.static "WhiteWanted$Table" "ROW_STEPS" "[I") (.int 0)) (.int (-1))) (by decide +kernel))
    | 1, _ => va_eqt (hs (Cond.eq (.elem (Term.static "WhiteWanted$Table" "ROW_STEPS" "[I") (.int 1)) (.int (-1))) (by decide +kernel))
    | 2, _ => va_eqt (hs (Cond.eq (.elem (Term.static "WhiteWanted$Table" "ROW_STEPS" "[I") (.int 2)) (.int (0))) (by decide +kernel))
    | 3, _ => va_eqt (hs (Cond.eq (.elem (Term.static "WhiteWanted$Table" "ROW_STEPS" "[I") (.int 3)) (.int (1))) (by decide +kernel))
    | 4, _ => va_eqt (hs (Cond.eq (.elem (Term.static "WhiteWanted$Table" "ROW_STEPS" "[I") (.int 4)) (.int (1))) (by decide +kernel))
    | 5, _ => va_eqt (hs (Cond.eq (.elem (Term.static "WhiteWanted$Table" "ROW_STEPS" "[I") (.int 5)) (.int (1))) (by decide +kernel))
    | 6, _ => va_eqt (hs (Cond.eq (.elem (Term.static "WhiteWanted$Table" "ROW_STEPS" "[I") (.int 6)) (.int (0))) (by decide +kernel))
    | 7, _ => va_eqt (hs (Cond.eq (.elem (Term.static "WhiteWanted$Table" "ROW_STEPS" "[I") (.int 7)) (.int (-1))) (by decide +kernel))
    | _ + 8, h => absurd h (by omega)) hA
  have zr := va_Zof (C := RX10) (n := "ROW_STEPS") (d := "[I") (v := .ref tr) (A := fun q => s.heap.size ≤ q) (hts (Cond.laysStatic RX10 "ROW_STEPS" "[I") (List.mem_append_right _ (wt3 (List.mem_of_getElem? (i := 27) rfl)))) (hW _ wq_1_9) hr1 hA
  obtain ⟨tc, hc1, hc2⟩ := va_Tof (tm := (Term.static "WhiteWanted$Table" "COLUMN_STEPS" "[I")) (ty := .int) (N := 8) (f := fun j => .int (colS j)) (A := fun q => s.heap.size ≤ q) (by decide) (hs (Cond.arrayOf (Term.static "WhiteWanted$Table" "COLUMN_STEPS" "[I") .int) (by decide +kernel)) (va_eqt (hs (Cond.eq (.length (Term.static "WhiteWanted$Table" "COLUMN_STEPS" "[I")) (.int 8)) (by decide +kernel))) (fun j hj => match j, hj with
    | 0, _ => va_eqt (hs (Cond.eq (.elem (Term.static "WhiteWanted$Table" "COLUMN_STEPS" "[I") (.int 0)) (.int (0))) (by decide +kernel))
    | 1, _ => va_eqt (hs (Cond.eq (.elem (Term.static "WhiteWanted$Table" "COLUMN_STEPS" "[I") (.int 1)) (.int (1))) (by decide +kernel))
    | 2, _ => va_eqt (hs (Cond.eq (.elem (Term.static "WhiteWanted$Table" "COLUMN_STEPS" "[I") (.int 2)) (.int (1))) (by decide +kernel))
    | 3, _ => va_eqt (hs (Cond.eq (.elem (Term.static "WhiteWanted$Table" "COLUMN_STEPS" "[I") (.int 3)) (.int (1))) (by decide +kernel))
    | 4, _ => va_eqt (hs (Cond.eq (.elem (Term.static "WhiteWanted$Table" "COLUMN_STEPS" "[I") (.int 4)) (.int (0))) (by decide +kernel))
    | 5, _ => va_eqt (hs (Cond.eq (.elem (Term.static "WhiteWanted$Table" "COLUMN_STEPS" "[I") (.int 5)) (.int (-1))) (by decide +kernel))
    | 6, _ => va_eqt (hs (Cond.eq (.elem (Term.static "WhiteWanted$Table" "COLUMN_STEPS" "[I") (.int 6)) (.int (-1))) (by decide +kernel))
    | 7, _ => va_eqt (hs (Cond.eq (.elem (Term.static "WhiteWanted$Table" "COLUMN_STEPS" "[I") (.int 7)) (.int (-1))) (by decide +kernel))
    | _ + 8, h => absurd h (by omega)) hA
  have zc := va_Zof (C := RX10) (n := "COLUMN_STEPS") (d := "[I") (v := .ref tc) (A := fun q => s.heap.size ≤ q) (hts (Cond.laysStatic RX10 "COLUMN_STEPS" "[I") (List.mem_append_right _ (wt3 (List.mem_of_getElem? (i := 32) rfl)))) (hW _ wq_1_9) hc1 hA
  have zs := va_Zof (C := "java/lang/String") (n := "COMPACT_STRINGS") (d := "Z") (v := .int 1) (A := fun q => s.heap.size ≤ q) (hts (Cond.laysStatic RJ0 "COMPACT_STRINGS" "Z") (List.mem_append_right _ (wt2 (List.mem_of_getElem? (i := 101) rfl)))) (hW _ wq_1_15) (va_eqt (hs (Cond.eq (.static "java/lang/String" "COMPACT_STRINGS" "Z") (.int 1)) (by decide +kernel))) hA
  obtain ⟨adK, adV, k2, k1⟩ := vk_Sof (N := 1) (tm := fun _ => (Term.string "WhiteWanted$Page" 45)) (len := [5]) (byt := [[98, 104, 108, 100, 115]]) (A := fun q => s.heap.size ≤ q) (fun i hi => match i, hi with | 0, _ => (by decide) | _ + 1, h => absurd h (by omega)) (fun i _ => hs (Cond.exactly (Term.string "WhiteWanted$Page" 45) "java/lang/String") (by decide +kernel)) (fun i _ => hs (Cond.eq (.field (Term.string "WhiteWanted$Page" 45) "java/lang/String" "coder" "B") (.int 0)) (by decide +kernel)) (fun i _ => hs (Cond.arrayOf (Term.field (Term.string "WhiteWanted$Page" 45) "java/lang/String" "value" "[B") .byte) (by decide +kernel)) (fun i hi => match i, hi with | 0, _ => hs (Cond.eq (.length (Term.field (Term.string "WhiteWanted$Page" 45) "java/lang/String" "value" "[B")) (.int 5)) (by decide +kernel) | _ + 1, h => absurd h (by omega)) (fun i hi j hj => match i, hi, j, hj with
    | 0, _, 0, _ => hs (Cond.eq (.elem (Term.field (Term.string "WhiteWanted$Page" 45) "java/lang/String" "value" "[B") (.int 0)) (.int 98)) (by decide +kernel)
    | 0, _, 1, _ => hs (Cond.eq (.elem (Term.field (Term.string "WhiteWanted$Page" 45) "java/lang/String" "value" "[B") (.int 1)) (.int 104)) (by decide +kernel)
    | 0, _, 2, _ => hs (Cond.eq (.elem (Term.field (Term.string "WhiteWanted$Page" 45) "java/lang/String" "value" "[B") (.int 2)) (.int 108)) (by decide +kernel)
    | 0, _, 3, _ => hs (Cond.eq (.elem (Term.field (Term.string "WhiteWanted$Page" 45) "java/lang/String" "value" "[B") (.int 3)) (.int 100)) (by decide +kernel)
    | 0, _, 4, _ => hs (Cond.eq (.elem (Term.field (Term.string "WhiteWanted$Page" 45) "java/lang/String" "value" "[B") (.int 4)) (.int 115)) (by decide +kernel)
    | 0, _, _ + 5, h => absurd h (by simp)
    | _ + 1, h, _, _ => absurd h (by omega)) (fun i j hi hj hij => absurd (show i = j by omega) hij) hA
  have hR : vk_R RX7 45 "bhlds" (adK 0) s := vk_R.of (A := #[Value.ref b]) (hts (Cond.stringRef RX7 45 "bhlds") (List.mem_append_right _ (wt2 (List.mem_of_getElem? (i := 87) rfl)))) (k1 0 (by decide))
  have hVS : vk_S 1 [5] [[98, 104, 108, 100, 115]] (fun _ => adK 0) (fun _ => adV 0) (fun q => s.heap.size ≤ q) s s.heap := by
    refine ⟨fun i hi => ?_, fun i j hi hj _ => (by omega)⟩
    have e : i = 0 := by omega
    subst e
    exact k2.1 0 hi
  refine ⟨((dC, dI), cI, cB, s.heap.size, tr, tc, adK 0, adV 0), ⟨⟨hKc, fun k q hk => ?_⟩, nw_1 hts, fun q hq => ?_, ⟨zr, hr2⟩, ⟨zc, hc2⟩, hR, hVS, zs, hao⟩, rfl⟩
  · match k, hk with
    | 0, hk => cases hk; exact ⟨fun n z => ⟨fun k h => (by cases h), kI, i2, compI, i3⟩, i1⟩
    | 1, hk => cases hk; exact ⟨fun n z => ⟨fun k h => (by cases h), kB, b3, compB, b4⟩, kB, compB, b3, b4, b1, b5⟩
    | k + 2, hk => simp at hk
  · simp only [NC, List.mem_cons, List.mem_nil_iff, or_false] at hq
    rcases hq with rfl | rfl | rfl | rfl | rfl | rfl | rfl | rfl | rfl | rfl | rfl | rfl | rfl | rfl | rfl
    · exact va_Nc.of (hs (Cond.not (.castable "WhiteWanted$Ball" "WhiteWanted$Heavy")) (by decide +kernel))
    · exact va_Nc.of (hs (Cond.not (.castable "WhiteWanted$Ball" "WhiteWanted$Light")) (by decide +kernel))
    · exact va_Nc.of (hs (Cond.not (.castable "WhiteWanted$Ball" "WhiteWanted$Dead")) (by decide +kernel))
    · exact va_Nc.of (hs (Cond.not (.castable "WhiteWanted$Ball" "WhiteWanted$Stone")) (by decide +kernel))
    · exact va_Nc.of (hs (Cond.not (.castable "WhiteWanted$Heavy" "WhiteWanted$Light")) (by decide +kernel))
    · exact va_Nc.of (hs (Cond.not (.castable "WhiteWanted$Heavy" "WhiteWanted$Dead")) (by decide +kernel))
    · exact va_Nc.of (hs (Cond.not (.castable "WhiteWanted$Heavy" "WhiteWanted$Stone")) (by decide +kernel))
    · exact va_Nc.of (hs (Cond.not (.castable "WhiteWanted$Light" "WhiteWanted$Heavy")) (by decide +kernel))
    · exact va_Nc.of (hs (Cond.not (.castable "WhiteWanted$Light" "WhiteWanted$Dead")) (by decide +kernel))
    · exact va_Nc.of (hs (Cond.not (.castable "WhiteWanted$Light" "WhiteWanted$Stone")) (by decide +kernel))
    · exact va_Nc.of (hs (Cond.not (.castable "WhiteWanted$Dead" "WhiteWanted$Heavy")) (by decide +kernel))
    · exact va_Nc.of (hs (Cond.not (.castable "WhiteWanted$Dead" "WhiteWanted$Light")) (by decide +kernel))
    · exact va_Nc.of (hs (Cond.not (.castable "WhiteWanted$Dead" "WhiteWanted$Stone")) (by decide +kernel))
    · exact va_Nc.of (hs (Cond.not (.castable "WhiteWanted$Stone" "WhiteWanted$Light")) (by decide +kernel))
    · exact va_Nc.of (hs (Cond.not (.castable "WhiteWanted$Stone" "WhiteWanted$Dead")) (by decide +kernel))

