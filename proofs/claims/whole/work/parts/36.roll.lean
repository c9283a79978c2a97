/-! what rolls: one description for both -/
def rollP (kd : Nat → Nat) (bl : Nat) : Nat → (Nat → Int32) → Nat → Nat → Nat → Int32 → Int32 → Int32 → Int32 → Nat → ((Nat → Int32) × Int32 × Int32 × Int32 × Int32 × Nat)
  | 0, c, _, _, _, mv, bo, po, hd, hp => (c, mv, bo, po, hd, hp)
  | F + 1, c, b, w, pw, mv, bo, po, hd, hp =>
    if pw = 0 then (c, mv, bo, po, hd, hp)
    else if (oR (c b).toNatClampNeg w || oC (c b).toNatClampNeg w) = true then
      (if kd b = 3 then rollP kd bl F c b (tw w (oR (c b).toNatClampNeg w) (oC (c b).toNatClampNeg w)) 0 mv bo po hd hp
       else rollP kd bl F c b (tw w (oR (c b).toNatClampNeg w) (oC (c b).toNatClampNeg w)) (pw - 1) mv (bo + 1) po hd hp)
    else if whoF c (nI (nx (c b).toNatClampNeg w)) (bl + 1) = -1 then
      (if pkt (nx (c b).toNatClampNeg w) = true then rollP kd bl F (upd c b (-1)) b w 0 (mv + 1) bo (po ||| (1 <<< (nI b &&& 31))) hd hp
       else rollP kd bl F (upd c b (nI (nx (c b).toNatClampNeg w))) b w (pw - 1) (mv + 1) bo po hd hp)
    else rollP kd bl F c (whoF c (nI (nx (c b).toNatClampNeg w)) (bl + 1)).toNatClampNeg w (pwN (kd (whoF c (nI (nx (c b).toNatClampNeg w)) (bl + 1)).toNatClampNeg) (pw - 1)) mv bo po (if b = 0 ∧ hd = -1 then nI w else hd) (if b = 0 ∧ hd = -1 then pw - 1 else hp)
theorem roll_0 (kd : Nat → Nat) (bl F : Nat) (c : Nat → Int32) (b w : Nat) (mv bo po hd : Int32) (hp : Nat) : rollP kd bl F c b w 0 mv bo po hd hp = (c, mv, bo, po, hd, hp) := by
  cases F <;> simp [rollP]
theorem who_short {c : Nat → Int32} {x : Int32} {bl : Nat} (h6 : bl ≤ 6) (hx : ¬ x = -1) (hc : ∀ d, bl < d → d < 7 → c d = -1) : whoF c x 7 = whoF c x (bl + 1) := by
  have key : ∀ j, bl + 1 + j ≤ 7 → whoF c x (bl + 1 + j) = whoF c x (bl + 1) := by
    intro j
    induction j with
    | zero => intro _; rfl
    | succ j ih =>
      intro hj
      show whoF c x (bl + 1 + j + 1) = _
      rw [whoF, if_neg (by rw [hc (bl + 1 + j) (by omega) (by omega)]; exact fun z => hx z.symm)]
      exact ih (by omega)
  have h := key (7 - (bl + 1)) (by omega)
  rw [show bl + 1 + (7 - (bl + 1)) = 7 by omega] at h
  exact h
theorem nI_le0 {p : Nat} (h : p < 11) : (nI p ≤ 0) ↔ p = 0 := by
  have : ∀ p, p < 11 → ((nI p ≤ 0) ↔ p = 0) := by decide +kernel
  exact this p h
theorem nI_m1 {p : Nat} (h : p < 11) (h0 : p ≠ 0) : nI p - 1 = nI (p - 1) ∧ nI p + (-1) = nI (p - 1) := by
  have : ∀ p, p < 11 → p ≠ 0 → (nI p - 1 = nI (p - 1) ∧ nI p + (-1) = nI (p - 1)) := by decide +kernel
  exact this p h h0
theorem b2_0 (x : Bool) : (b2 x = 0) ↔ x = false := by cases x <;> decide
theorem nI_is0 {b : Nat} (h : b < 7) : (nI b = 0) ↔ b = 0 := by
  have : ∀ b, b < 7 → ((nI b = 0) ↔ b = 0) := by decide +kernel
  exact this b h
