theorem ret_loop {tk : Int64} {c : Nat → Int32} {bl n : Nat} (hT : TabC tk c) (h6 : bl ≤ 6) (hn : 8 ≤ n) (hoff : ∀ d, bl < d → d < 7 → c d = -1) (J : Int32 → Option (Int64 × (Nat → Int32))) :
    ∀ (m k i home : Nat), m + i = 45 → m < k → home < 45 →
    (whoF c (nI home) (bl + 1) = -1 → f_X10_returnWhite_L7 tk c n J k (nI home) (nI i) = J (nI home)) ∧
    (¬ whoF c (nI home) (bl + 1) = -1 → (∃ q0, i ≤ q0 ∧ q0 < 45 ∧ gdc bl c q0 = true) → f_X10_returnWhite_L7 tk c n J k (nI home) (nI i) = J (nI (lgF bl c m i))) := by
  intro m
  induction m with
  | zero =>
    intro k i home hi hk hh
    obtain ⟨k, rfl⟩ : ∃ k', k = k' + 1 := ⟨k - 1, by omega⟩
    have hi : i = 45 := by omega
    subst hi
    refine ⟨fun _ => ?_, fun _ ⟨q0, a, b, _⟩ => by omega⟩
    show b_X10_returnWhite_L7 tk c n J (fun y z => f_X10_returnWhite_L7 tk c n J k y z) (nI home) (nI 45) = _
    unfold b_X10_returnWhite_L7
    rw [if_pos (show (45 : Int32) ≤ nI 45 by decide)]
  | succ m ih =>
    intro k i home hi hk hh
    obtain ⟨k, rfl⟩ : ∃ k', k = k' + 1 := ⟨k - 1, by omega⟩
    have hi45 : i < 45 := by omega
    have hge : ¬ (45 : Int32) ≤ nI i := nI_ge (a := i) (b := 45) hi45 (by decide)
    have hbi := ballIn_ok hT hh hn
    rw [who_short h6 (nI_ne_m1 hh) hoff] at hbi
    refine ⟨fun hf => ?_, fun hf ⟨q0, hq1, hq2, hq3⟩ => ?_⟩
    · show b_X10_returnWhite_L7 tk c n J (fun y z => f_X10_returnWhite_L7 tk c n J k y z) (nI home) (nI i) = _
      unfold b_X10_returnWhite_L7
      rw [if_neg hge, hbi]
      simp only [Option.bind_some, hf, if_true]
    · show b_X10_returnWhite_L7 tk c n J (fun y z => f_X10_returnWhite_L7 tk c n J k y z) (nI home) (nI i) = _
      unfold b_X10_returnWhite_L7
      rw [if_neg hge, hbi]
      simp only [Option.bind_some, hf, if_false, (t_pocket i hi45).1, jn, bnd, nI_1]
      cases hpk : pkt i
      · rw [if_pos b2_f]
        by_cases hfi : whoF c (nI i) (bl + 1) = -1
        · have hg : gdc bl c i = true := by simp [gdc, hpk, hfi]
          rw [(ih k (i + 1) i (by omega) (by omega) hi45).1 hfi, lgF, if_pos hg]
        · have hg : ¬ gdc bl c i = true := by simp [gdc, hpk, hfi]
          have hq : i + 1 ≤ q0 := by
            rcases Nat.lt_or_ge i q0 with h | h
            · exact h
            · exact absurd ((show i = q0 by omega) ▸ hq3) hg
          rw [(ih k (i + 1) i (by omega) (by omega) hi45).2 hfi ⟨q0, hq, hq2, hq3⟩, lgF, if_neg hg]
      · rw [if_neg (fun z => by simp [b2] at z)]
        have hg : ¬ gdc bl c i = true := by simp [gdc, hpk]
        have hq : i + 1 ≤ q0 := by
          rcases Nat.lt_or_ge i q0 with h | h
          · exact h
          · exact absurd ((show i = q0 by omega) ▸ hq3) hg
        rw [(ih k (i + 1) home (by omega) (by omega) hh).2 hf ⟨q0, hq, hq2, hq3⟩, lgF, if_neg hg]
theorem ret_ok {tk : Int64} {c : Nat → Int32} {bl n sp : Nat} (hT : TabC tk c) (h6 : bl ≤ 6) (hn : 46 ≤ n) (hoff : ∀ d, bl < d → d < 7 → c d = -1) (h0 : c 0 = -1) (hsp : sp < 45) (hspk : pkt sp = false) :
    ∃ tk', f_X10_returnWhite n tk (nI sp) c = some (tk', upd c 0 (nI (spotP bl c sp))) ∧ TabC tk' (upd c 0 (nI (spotP bl c sp))) ∧ spotP bl c sp < 45 ∧ pkt (spotP bl c sp) = false := by
  have key : f_X10_returnWhite n tk (nI sp) c = ((f_X10_lay tk c 0 (nI (spotP bl c sp))).bind (fun u => some (u.1, u.2))) ∧ spotP bl c sp < 45 ∧ pkt (spotP bl c sp) = false ∧ whoF c (nI (spotP bl c sp)) (bl + 1) = -1 := by
    unfold f_X10_returnWhite spotP
    simp only [jn]
    by_cases hf : whoF c (nI sp) (bl + 1) = -1
    · rw [if_pos hf]
      refine ⟨?_, hsp, hspk, hf⟩
      have h := (ret_loop (n := n) hT h6 (by omega) hoff (fun x1 => (f_X10_lay tk c 0 x1).bind (fun u => some (u.1, u.2))) 45 n 0 sp rfl (by omega) hsp).1 hf
      exact h
    · rw [if_neg hf]
      obtain ⟨q0, hq0, hg0⟩ := good_ex h6 h0
      have hlg := lg_good (bl := bl) (c := c) 45 0 q0 (Nat.zero_le _) (by omega) hg0
      have hg := hlg.1
      unfold gdc at hg
      rw [Bool.and_eq_true, decide_eq_true_eq] at hg
      refine ⟨?_, by omega, by simpa using hg.1, hg.2⟩
      exact (ret_loop (n := n) hT h6 (by omega) hoff (fun x1 => (f_X10_lay tk c 0 x1).bind (fun u => some (u.1, u.2))) 45 n 0 sp rfl (by omega) hsp).2 hf ⟨q0, Nat.zero_le _, hq0, hg0⟩
  obtain ⟨e, hs45, hspk2, hfree⟩ := key
  obtain ⟨tk', hl, hT'⟩ := lay_ok hT (b := 0) (by decide) (Or.inr ⟨_, hs45, hspk2, rfl⟩) (fun d hd _ _ hc => by
    rcases who_cases c (nI (spotP bl c sp)) (bl + 1) with ⟨-, hno⟩ | ⟨j, hj, hx, -⟩
    · by_cases hdb : d < bl + 1
      · exact hno d hdb hc
      · rw [hoff d (by omega) hd] at hc; exact nI_ne_m1 hs45 hc.symm
    · rw [hx] at hfree; exact nI_ne_m1 (by omega) hfree)
  refine ⟨tk', ?_, hT', hs45, hspk2⟩
  rw [e, show (0 : Int32) = nI 0 from rfl, hl]
  rfl
