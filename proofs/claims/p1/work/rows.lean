section
def rowS (j : Nat) : Int32 := ([-1, -1, 0, 1, 1, 1, 0, -1] : List Int32).getD j 0
def colS (j : Nat) : Int32 := ([0, 1, 1, 1, 0, -1, -1, -1] : List Int32).getD j 0
def inb (i : Int32) (n : Nat) : Bool := decide (0 ≤ i.toInt) && decide (i.toInt < n)
def isb (v : Int32) : Bool := decide (v = 0) || decide (v = 1)
def gd {α : Type} (b : Bool) (t : Option α) : Option α := if b = true then t else none
def bnd {α β : Type} (a : α) (f : α → β) : β := f a
def jn {α β : Type} (b : α) (f : α → β) : β := f b
def lpF {α β : Type} (step : (α → Option β) → α → Option β) : Nat → α → Option β
  | 0, _ => none
  | k + 1, a => step (lpF step k) a
def ltr (j : Nat) : Int32 := ([98, 104, 108, 100, 115] : List Int32).getD j 0
def b_J7_fill_53178_L5 (p1 : Int32) (N : Nat) (x3_1 : Int32) (go_4 : Int32 → (Nat → Int32) → Option ((Nat → Int32))) (x2_2 : Int32) (v_q0_3 : Nat → Int32) : Option ((Nat → Int32)) :=
  (if x3_1 ≤ x2_2 then (some v_q0_3) else (gd (inb x2_2 N) (bnd (x2_2 + 1) (fun x2_8 => (go_4 x2_8 (upd v_q0_3 x2_2.toNatClampNeg p1))))))
def f_J7_fill_53178_L5 (p1 : Int32) (N : Nat) (x3_1 : Int32) (k : Nat) (x2_2 : Int32) (v_q0_3 : Nat → Int32) : Option ((Nat → Int32)) :=
  lpF (fun (self : (Int32 × (Nat → Int32)) → Option ((Nat → Int32))) (a : Int32 × (Nat → Int32)) => b_J7_fill_53178_L5 p1 N x3_1 (fun x2_2 v_q0_3 => self (x2_2, v_q0_3)) a.1 a.2) k (x2_2, v_q0_3)
def f_J7_fill_53178 (n : Nat) (N : Nat) (v_q0 : Nat → Int32) (p1 : Int32) : Option ((Nat → Int32)) :=
  (bnd (Int32.ofNat N) (fun x3_1 => (f_J7_fill_53178_L5 p1 N x3_1 n 0 v_q0)))
def f_X10_clear (n : Nat) (f_t_taken : Int64) (v_tc : Nat → Int32) : Option (Int64 × (Nat → Int32)) :=
  ((f_J7_fill_53178 n 7 v_tc (-1)).bind (fun u_1 => (some (0, u_1))))
def f_X10_copy (f_t_taken : Int64) (f_t_size : Int32) (f_t_spot : Int32) (v_tc : Nat → Int32) (v_tk : Nat → Int32) (v_tw : Nat → Int32) (f_o_taken : Int64) (f_o_size : Int32) (f_o_spot : Int32) (v_oc : Nat → Int32) (v_ok : Nat → Int32) (v_ow : Nat → Int32) : Option (Int64 × Int32 × Int32 × (Nat → Int32) × (Nat → Int32) × (Nat → Int32)) :=
  (some (f_o_taken, f_o_size, f_o_spot, v_oc, v_ok, v_ow))
def f_X10_cellOf (v_tc : Nat → Int32) (p1 : Int32) : Option (Int32) :=
  (jn ((some (-1))) (fun (j22_1 : Option (Int32)) => (if p1 < 0 then j22_1 else (if 7 ≤ p1 then j22_1 else (gd (inb p1 7) (some (v_tc p1.toNatClampNeg)))))))
def f_X10_kindOf (v_tk : Nat → Int32) (p1 : Int32) : Option (Int32) :=
  (jn ((some 0)) (fun (j22_1 : Option (Int32)) => (if p1 < 0 then j22_1 else (if 7 ≤ p1 then j22_1 else (gd (inb p1 7) (some (v_tk p1.toNatClampNeg)))))))
def f_X10_worthOf (v_tw : Nat → Int32) (p1 : Int32) : Option (Int32) :=
  (jn ((some 0)) (fun (j22_1 : Option (Int32)) => (if p1 < 0 then j22_1 else (if 7 ≤ p1 then j22_1 else (gd (inb p1 7) (some (v_tw p1.toNatClampNeg)))))))
def f_X10_setKind (v_tk : Nat → Int32) (p1 : Int32) (p2 : Int32) : Option ((Nat → Int32)) :=
  (if p1 < 0 then (some v_tk) else (if 7 ≤ p1 then (some v_tk) else (gd (inb p1 7) (some (upd v_tk p1.toNatClampNeg p2)))))
def f_X10_setWorth (v_tw : Nat → Int32) (p1 : Int32) (p2 : Int32) : Option ((Nat → Int32)) :=
  (if p1 < 0 then (some v_tw) else (if 7 ≤ p1 then (some v_tw) else (gd (inb p1 7) (some (upd v_tw p1.toNatClampNeg p2)))))
def f_X10_lay (f_t_taken : Int64) (v_tc : Nat → Int32) (p1 : Int32) (p2 : Int32) : Option (Int64 × (Nat → Int32)) :=
  (if p1 < 0 then (some (f_t_taken, v_tc)) else (if p1 < 7 then (gd (inb p1 7) (jn (fun (f_t_taken_4 : Int64) => (jn (fun (f_t_taken_6 : Int64) => (gd (inb p1 7) (some (f_t_taken_6, (upd v_tc p1.toNatClampNeg p2))))) (fun (j62_7 : Int64 → Option (Int64 × (Nat → Int32))) => (if p2 = (-1) then (j62_7 f_t_taken_4) else (j62_7 (f_t_taken_4 ||| (1 <<< (p2.toInt64 &&& 63)))))))) (fun (j45_5 : Int64 → Option (Int64 × (Nat → Int32))) => (if (v_tc p1.toNatClampNeg) = (-1) then (j45_5 f_t_taken) else (gd (inb p1 7) (j45_5 (f_t_taken &&& ((1 <<< ((v_tc p1.toNatClampNeg).toInt64 &&& 63)) ^^^ (-1))))))))) else (some (f_t_taken, v_tc))))
def b_X10_ballIn_L17 (v_tc : Nat → Int32) (p1 : Int32) (go_3 : Int32 → Option (Int32)) (x2_2 : Int32) : Option (Int32) :=
  (if 7 ≤ x2_2 then (some (-1)) else (gd (inb x2_2 7) (if (v_tc x2_2.toNatClampNeg) = p1 then (some x2_2) else (bnd (x2_2 + 1) (fun x2_8 => (go_3 x2_8))))))
def f_X10_ballIn_L17 (v_tc : Nat → Int32) (p1 : Int32) (k : Nat) (x2_2 : Int32) : Option (Int32) :=
  lpF (fun (self : Int32 → Option (Int32)) (a : Int32) => b_X10_ballIn_L17 v_tc p1 (fun x2_2 => self x2_2) a) k x2_2
def f_X10_ballIn (n : Nat) (f_t_taken : Int64) (v_tc : Nat → Int32) (p1 : Int32) : Option (Int32) :=
  (if (lg_cmp (((f_t_taken.toUInt64 >>> (p1.toInt64.toUInt64 &&& Int64.toUInt64 63)).toInt64) &&& 1) 0) = 0 then (some (-1)) else (f_X10_ballIn_L17 v_tc p1 n 0))
def b_X10_lying_L4 (v_tc : Nat → Int32) (go_3 : Int32 → Int32 → Option (Int32)) (x1_1 : Int32) (x2_2 : Int32) : Option (Int32) :=
  (if 7 ≤ x2_2 then (some x1_1) else (gd (inb x2_2 7) (jn (fun (x1_7 : Int32) => (bnd (x2_2 + 1) (fun x2_9 => (go_3 x1_7 x2_9)))) (fun (j26_8 : Int32 → Option (Int32)) => (if (v_tc x2_2.toNatClampNeg) = (-1) then (j26_8 x1_1) else (bnd (x1_1 + 1) (fun x1_11 => (j26_8 x1_11))))))))
def f_X10_lying_L4 (v_tc : Nat → Int32) (k : Nat) (x1_1 : Int32) (x2_2 : Int32) : Option (Int32) :=
  lpF (fun (self : (Int32 × Int32) → Option (Int32)) (a : Int32 × Int32) => b_X10_lying_L4 v_tc (fun x1_1 x2_2 => self (x1_1, x2_2)) a.1 a.2) k (x1_1, x2_2)
def f_X10_lying (n : Nat) (v_tc : Nat → Int32) : Option (Int32) :=
  (f_X10_lying_L4 v_tc n 0 1)
def b_X10_worthLying_L4 (v_tc : Nat → Int32) (v_tw : Nat → Int32) (go_3 : Int32 → Int32 → Option (Int32)) (x1_1 : Int32) (x2_2 : Int32) : Option (Int32) :=
  (if 7 ≤ x2_2 then (some x1_1) else (gd (inb x2_2 7) (jn (fun (x1_7 : Int32) => (bnd (x2_2 + 1) (fun x2_9 => (go_3 x1_7 x2_9)))) (fun (j31_8 : Int32 → Option (Int32)) => (if (v_tc x2_2.toNatClampNeg) = (-1) then (j31_8 x1_1) else ((f_X10_worthOf v_tw x2_2).bind (fun u_11 => (bnd (x1_1 + u_11) (fun x1_12 => (j31_8 x1_12))))))))))
def f_X10_worthLying_L4 (v_tc : Nat → Int32) (v_tw : Nat → Int32) (k : Nat) (x1_1 : Int32) (x2_2 : Int32) : Option (Int32) :=
  lpF (fun (self : (Int32 × Int32) → Option (Int32)) (a : Int32 × Int32) => b_X10_worthLying_L4 v_tc v_tw (fun x1_1 x2_2 => self (x1_1, x2_2)) a.1 a.2) k (x1_1, x2_2)
def f_X10_worthLying (n : Nat) (v_tc : Nat → Int32) (v_tw : Nat → Int32) : Option (Int32) :=
  (f_X10_worthLying_L4 v_tc v_tw n 0 1)
def f_X10_rowStep (p0 : Int32) : Option (Int32) :=
  (gd (inb (p0 &&& 7) 8) (some (rowS (p0 &&& 7).toNatClampNeg)))
def f_X10_columnStep (p0 : Int32) : Option (Int32) :=
  (gd (inb (p0 &&& 7) 8) (some (colS (p0 &&& 7).toNatClampNeg)))
def f_X11_isRow (p0 : Int32) : Option (Int32) :=
  (jn ((some 0)) (fun (j13_1 : Option (Int32)) => (if p0 < 0 then j13_1 else (if 5 ≤ p0 then j13_1 else (some 1)))))
def f_X11_isColumn (p0 : Int32) : Option (Int32) :=
  (jn ((some 0)) (fun (j14_1 : Option (Int32)) => (if p0 < 0 then j14_1 else (if 9 ≤ p0 then j14_1 else (some 1)))))
def b_X10_firstInSight_L31 (f_t_taken : Int64) (v_tc : Nat → Int32) (p1 : Int32) (n : Nat) (go_10 : Int32 → Int32 → Int32 → Option (Int32)) (x2_7 : Int32) (x3_8 : Int32) (x4_9 : Int32) : Option (Int32) :=
  (if 9 ≤ x4_9 then (some (-1)) else ((f_X11_isRow x2_7).bind (fun u_13 => (if u_13 = 0 then (some (-1)) else ((f_X11_isColumn x3_8).bind (fun u_15 => (if u_15 = 0 then (some (-1)) else ((f_X10_ballIn n f_t_taken v_tc ((9 * x2_7) + x3_8)).bind (fun u_17 => (if u_17 = (-1) then ((f_X10_rowStep p1).bind (fun u_19 => (bnd (x2_7 + u_19) (fun x2_20 => ((f_X10_columnStep p1).bind (fun u_21 => (bnd (x3_8 + u_21) (fun x3_22 => (bnd (x4_9 + 1) (fun x4_23 => (go_10 x2_20 x3_22 x4_23))))))))))) else (some u_17)))))))))))
def f_X10_firstInSight_L31 (f_t_taken : Int64) (v_tc : Nat → Int32) (p1 : Int32) (n : Nat) (k : Nat) (x2_7 : Int32) (x3_8 : Int32) (x4_9 : Int32) : Option (Int32) :=
  lpF (fun (self : (Int32 × Int32 × Int32) → Option (Int32)) (a : Int32 × Int32 × Int32) => b_X10_firstInSight_L31 f_t_taken v_tc p1 n (fun x2_7 x3_8 x4_9 => self (x2_7, x3_8, x4_9)) a.1 a.2.1 a.2.2) k (x2_7, x3_8, x4_9)
def f_X10_firstInSight (n : Nat) (f_t_taken : Int64) (v_tc : Nat → Int32) (p1 : Int32) : Option (Int32) :=
  ((f_X10_cellOf v_tc 0).bind (fun u_1 => ((f_X10_rowStep p1).bind (fun u_2 => (bnd ((u_1 / 9) + u_2) (fun x2_3 => ((f_X10_cellOf v_tc 0).bind (fun u_4 => ((f_X10_columnStep p1).bind (fun u_5 => (bnd ((u_4 - u_4 / 9 * 9) + u_5) (fun x3_6 => (f_X10_firstInSight_L31 f_t_taken v_tc p1 n n x2_3 x3_6 0)))))))))))))
def f_X11_isPocket (p0 : Int32) : Option (Int32) :=
  (bnd (p0 / 9) (fun x1_1 => (jn ((some 0)) (fun (j27_2 : Option (Int32)) => (jn ((if ((p0 - p0 / 9 * 9) - (p0 - p0 / 9 * 9) / 4 * 4) = 0 then (some 1) else j27_2)) (fun (j14_3 : Option (Int32)) => (if x1_1 = 0 then j14_3 else (if x1_1 = 4 then j14_3 else j27_2))))))))
def b_X10_returnWhite_L7 (f_t_taken : Int64) (v_tc : Nat → Int32) (n : Nat) (j37_2 : Int32 → Option (Int64 × (Nat → Int32))) (go_6 : Int32 → Int32 → Option (Int64 × (Nat → Int32))) (x1_4 : Int32) (x2_5 : Int32) : Option (Int64 × (Nat → Int32)) :=
  (if 45 ≤ x2_5 then (j37_2 x1_4) else ((f_X10_ballIn n f_t_taken v_tc x1_4).bind (fun u_9 => (if u_9 = (-1) then (j37_2 x1_4) else ((f_X11_isPocket x2_5).bind (fun u_11 => (jn (fun (x1_12 : Int32) => (bnd (x2_5 + 1) (fun x2_14 => (go_6 x1_12 x2_14)))) (fun (j31_13 : Int32 → Option (Int64 × (Nat → Int32))) => (if u_11 = 0 then (j31_13 x2_5) else (j31_13 x1_4))))))))))
def f_X10_returnWhite_L7 (f_t_taken : Int64) (v_tc : Nat → Int32) (n : Nat) (j37_2 : Int32 → Option (Int64 × (Nat → Int32))) (k : Nat) (x1_4 : Int32) (x2_5 : Int32) : Option (Int64 × (Nat → Int32)) :=
  lpF (fun (self : (Int32 × Int32) → Option (Int64 × (Nat → Int32))) (a : Int32 × Int32) => b_X10_returnWhite_L7 f_t_taken v_tc n j37_2 (fun x1_4 x2_5 => self (x1_4, x2_5)) a.1 a.2) k (x1_4, x2_5)
def f_X10_returnWhite (n : Nat) (f_t_taken : Int64) (f_t_spot : Int32) (v_tc : Nat → Int32) : Option (Int64 × (Nat → Int32)) :=
  (jn (fun (x1_1 : Int32) => ((f_X10_lay f_t_taken v_tc 0 x1_1).bind (fun u_3 => (some (u_3.1, u_3.2))))) (fun (j37_2 : Int32 → Option (Int64 × (Nat → Int32))) => (f_X10_returnWhite_L7 f_t_taken v_tc n j37_2 n f_t_spot 0)))
def f_X1_powerWhenHit (p1 : Int32) : Option (Int32) :=
  (some p1)
def f_X1_stopsAtCushion  : Option (Int32) :=
  (some 0)
def f_X5_powerWhenHit (p1 : Int32) : Option (Int32) :=
  (some (p1 / 2))
def f_X6_powerWhenHit (p1 : Int32) : Option (Int32) :=
  (some (p1 + 1))
def f_X2_stopsAtCushion  : Option (Int32) :=
  (some 1)
def f_X8_powerWhenHit (p1 : Int32) : Option (Int32) :=
  (some ((p1 / 2) / 2))
def stopsF (k : Nat) : Int32 := if k = 3 then 1 else 0
def powerF (k : Nat) (q : Int32) : Int32 := if k = 1 then q / 2 else if k = 2 then q + 1 else if k = 4 then q / 2 / 2 else q
def instF (c k : Nat) : Int32 := if c = 1 then 1 else if c = 5 then (if k = 1 ∨ k = 4 then 1 else 0) else if c = 6 then (if k = 2 then 1 else 0) else if c = 2 then (if k = 3 then 1 else 0) else (if k = 4 then 1 else 0)
def f_X9_begin (f_sT_taken : Int64) (f_sT_size : Int32) (f_sT_spot : Int32) (v_sTc : Nat → Int32) (v_sTk : Nat → Int32) (v_sTw : Nat → Int32) (f_o_taken : Int64) (f_o_size : Int32) (f_o_spot : Int32) (v_oc : Nat → Int32) (v_ok : Nat → Int32) (v_ow : Nat → Int32) : Option (Int64 × Int32 × Int32 × (Nat → Int32) × (Nat → Int32) × (Nat → Int32)) :=
  ((f_X10_copy f_sT_taken f_sT_size f_sT_spot v_sTc v_sTk v_sTw f_o_taken f_o_size f_o_spot v_oc v_ok v_ow).bind (fun u_1 => (some (u_1.1, u_1.2.1, u_1.2.2.1, u_1.2.2.2.1, u_1.2.2.2.2.1, u_1.2.2.2.2.2))))
def f_X9_kind (p1 : Int32) : Option (Nat) :=
  (jn (fun (k_1 : Int32) => (gd (inb k_1 5) (some k_1.toNatClampNeg))) (fun (j22_2 : Int32 → Option (Nat)) => (jn ((j22_2 0)) (fun (j21_4 : Option (Nat)) => (if p1 < 0 then j21_4 else (if 5 ≤ p1 then j21_4 else (j22_2 p1)))))))
def f_X9_turned (p0 : Int32) (p1 : Int32) (p2 : Int32) : Option (Int32) :=
  (jn (fun (x3_1 : Int32) => (if p2 = 0 then (some x3_1) else (bnd ((-x3_1) &&& 7) (fun x3_4 => (some x3_4))))) (fun (j13_2 : Int32 → Option (Int32)) => (if p1 = 0 then (j13_2 p0) else (bnd ((4 - p0) &&& 7) (fun x3_6 => (j13_2 x3_6))))))
def f_X9_noteWhiteHit (f_s_firstHitDirection : Int32) (f_s_firstHitPower : Int32) (p1 : Int32) (p2 : Int32) : Option (Int32 × Int32) :=
  (if f_s_firstHitDirection = (-1) then (some (p1, p2)) else (some (f_s_firstHitDirection, f_s_firstHitPower)))
def f_X9_notePotted (f_s_potted : Int32) (p1 : Int32) : Option (Int32) :=
  (some (f_s_potted ||| (1 <<< (p1 &&& 31))))
def b_X9_roll_L12 (v_sTk : Nat → Int32) (n : Nat) (go_12 : Int32 → Int32 → Int32 → Int32 → Int32 → Int32 → Int32 → Int32 → Int32 → Int64 → (Nat → Int32) → Option (Int32 × Int32 × Int32 × Int32 × Int32 × Int64 × (Nat → Int32))) (x4_1 : Int32) (x5_2 : Int32) (x6_3 : Int32) (x7_4 : Int32) (f_s_moves_5 : Int32) (f_s_bounces_6 : Int32) (f_s_potted_7 : Int32) (f_s_firstHitDirection_8 : Int32) (f_s_firstHitPower_9 : Int32) (f_sT_taken_10 : Int64) (v_sTc_11 : Nat → Int32) : Option (Int32 × Int32 × Int32 × Int32 × Int32 × Int64 × (Nat → Int32)) :=
  (if 1000 ≤ x7_4 then (some (f_s_moves_5, f_s_bounces_6, f_s_potted_7, f_s_firstHitDirection_8, f_s_firstHitPower_9, f_sT_taken_10, v_sTc_11)) else (if x6_3 ≤ 0 then (some (f_s_moves_5, f_s_bounces_6, f_s_potted_7, f_s_firstHitDirection_8, f_s_firstHitPower_9, f_sT_taken_10, v_sTc_11)) else ((f_X10_cellOf v_sTc_11 x4_1).bind (fun u_16 => ((f_X10_rowStep x5_2).bind (fun u_17 => (bnd ((u_16 / 9) + u_17) (fun x8_18 => ((f_X10_cellOf v_sTc_11 x4_1).bind (fun u_19 => ((f_X10_columnStep x5_2).bind (fun u_20 => (bnd ((u_19 - u_19 / 9 * 9) + u_20) (fun x9_21 => (bnd ((9 * x8_18) + x9_21) (fun x10_22 => ((f_X11_isRow x8_18).bind (fun u_23 => (jn (fun (x4_24 : Int32) (x5_25 : Int32) (x6_26 : Int32) (f_s_moves_27 : Int32) (f_s_bounces_28 : Int32) (f_s_potted_29 : Int32) (f_s_firstHitDirection_30 : Int32) (f_s_firstHitPower_31 : Int32) (f_sT_taken_32 : Int64) (v_sTc_33 : Nat → Int32) => (bnd (x7_4 + 1) (fun x7_35 => (go_12 x4_24 x5_25 x6_26 x7_35 f_s_moves_27 f_s_bounces_28 f_s_potted_29 f_s_firstHitDirection_30 f_s_firstHitPower_31 f_sT_taken_32 v_sTc_33)))) (fun (j301_34 : Int32 → Int32 → Int32 → Int32 → Int32 → Int32 → Int32 → Int32 → Int64 → (Nat → Int32) → Option (Int32 × Int32 × Int32 × Int32 × Int32 × Int64 × (Nat → Int32))) => (jn (((f_X10_kindOf v_sTk x4_1).bind (fun u_37 => ((f_X9_kind u_37).bind (fun u_38 => (gd (decide (u_38 < 5)) (bnd (stopsF u_38) (fun x11_40 => (jn (fun (f_s_bounces_41 : Int32) => ((f_X11_isRow x8_18).bind (fun u_43 => (jn (fun (k_44 : Int32) (k_45 : Int32) => ((f_X11_isColumn x9_21).bind (fun u_47 => (jn (fun (k_48 : Int32) (k_49 : Int32) (k_50 : Int32) => ((f_X9_turned k_48 k_49 k_50).bind (fun u_52 => (jn (fun (k_53 : Int32) => (j301_34 x4_1 u_52 k_53 f_s_moves_5 f_s_bounces_41 f_s_potted_7 f_s_firstHitDirection_8 f_s_firstHitPower_9 f_sT_taken_10 v_sTc_11)) (fun (j170_54 : Int32 → Option (Int32 × Int32 × Int32 × Int32 × Int32 × Int64 × (Nat → Int32))) => (if x11_40 = 0 then (j170_54 (x6_3 - 1)) else (j170_54 0))))))) (fun (j152_51 : Int32 → Int32 → Int32 → Option (Int32 × Int32 × Int32 × Int32 × Int32 × Int64 × (Nat → Int32))) => (if u_47 = 0 then (j152_51 k_44 k_45 1) else (j152_51 k_44 k_45 0))))))) (fun (j139_46 : Int32 → Int32 → Option (Int32 × Int32 × Int32 × Int32 × Int32 × Int64 × (Nat → Int32))) => (if u_43 = 0 then (j139_46 x5_2 1) else (j139_46 x5_2 0))))))) (fun (j124_42 : Int32 → Option (Int32 × Int32 × Int32 × Int32 × Int32 × Int64 × (Nat → Int32))) => (if x11_40 = 0 then (j124_42 (f_s_bounces_6 + 1)) else (j124_42 f_s_bounces_6)))))))))))) (fun (j91_36 : Option (Int32 × Int32 × Int32 × Int32 × Int32 × Int64 × (Nat → Int32))) => (if u_23 = 0 then j91_36 else ((f_X11_isColumn x9_21).bind (fun u_60 => (if u_60 = 0 then j91_36 else ((f_X10_ballIn n f_sT_taken_10 v_sTc_11 x10_22).bind (fun u_62 => (if u_62 = (-1) then ((f_X11_isPocket x10_22).bind (fun u_64 => (jn (fun (k_65 : Int32) => (jn (fun (k_67 : Int32) (k_68 : Int32) => ((f_X10_lay f_sT_taken_10 v_sTc_11 k_67 k_68).bind (fun u_70 => (if u_64 = 0 then (j301_34 x4_1 x5_2 k_65 (f_s_moves_5 + 1) f_s_bounces_6 f_s_potted_7 f_s_firstHitDirection_8 f_s_firstHitPower_9 u_70.1 u_70.2) else ((f_X9_notePotted f_s_potted_7 x4_1).bind (fun u_72 => (j301_34 x4_1 x5_2 k_65 (f_s_moves_5 + 1) f_s_bounces_6 u_72 f_s_firstHitDirection_8 f_s_firstHitPower_9 u_70.1 u_70.2))))))) (fun (j287_69 : Int32 → Int32 → Option (Int32 × Int32 × Int32 × Int32 × Int32 × Int64 × (Nat → Int32))) => (if u_64 = 0 then (j287_69 x4_1 x10_22) else (j287_69 x4_1 (-1)))))) (fun (j268_66 : Int32 → Option (Int32 × Int32 × Int32 × Int32 × Int32 × Int64 × (Nat → Int32))) => (if u_64 = 0 then (j268_66 (x6_3 - 1)) else (j268_66 0)))))) else (bnd (x6_3 + (-1)) (fun x6_75 => (jn (fun (f_s_firstHitDirection_76 : Int32) (f_s_firstHitPower_77 : Int32) => ((f_X10_ballIn n f_sT_taken_10 v_sTc_11 x10_22).bind (fun u_79 => ((f_X10_kindOf v_sTk u_79).bind (fun u_80 => ((f_X9_kind u_80).bind (fun u_81 => (gd (decide (u_81 < 5)) (bnd (powerF u_81 x6_75) (fun x6_83 => (j301_34 u_79 x5_2 x6_83 f_s_moves_5 f_s_bounces_6 f_s_potted_7 f_s_firstHitDirection_76 f_s_firstHitPower_77 f_sT_taken_10 v_sTc_11))))))))))) (fun (j204_78 : Int32 → Int32 → Option (Int32 × Int32 × Int32 × Int32 × Int32 × Int64 × (Nat → Int32))) => (if x4_1 = 0 then ((f_X9_noteWhiteHit f_s_firstHitDirection_8 f_s_firstHitPower_9 x5_2 x6_75).bind (fun u_85 => (j204_78 u_85.1 u_85.2))) else (j204_78 f_s_firstHitDirection_8 f_s_firstHitPower_9)))))))))))))))))))))))))))))))))))
def f_X9_roll_L12 (v_sTk : Nat → Int32) (n : Nat) (k : Nat) (x4_1 : Int32) (x5_2 : Int32) (x6_3 : Int32) (x7_4 : Int32) (f_s_moves_5 : Int32) (f_s_bounces_6 : Int32) (f_s_potted_7 : Int32) (f_s_firstHitDirection_8 : Int32) (f_s_firstHitPower_9 : Int32) (f_sT_taken_10 : Int64) (v_sTc_11 : Nat → Int32) : Option (Int32 × Int32 × Int32 × Int32 × Int32 × Int64 × (Nat → Int32)) :=
  lpF (fun (self : (Int32 × Int32 × Int32 × Int32 × Int32 × Int32 × Int32 × Int32 × Int32 × Int64 × (Nat → Int32)) → Option (Int32 × Int32 × Int32 × Int32 × Int32 × Int64 × (Nat → Int32))) (a : Int32 × Int32 × Int32 × Int32 × Int32 × Int32 × Int32 × Int32 × Int32 × Int64 × (Nat → Int32)) => b_X9_roll_L12 v_sTk n (fun x4_1 x5_2 x6_3 x7_4 f_s_moves_5 f_s_bounces_6 f_s_potted_7 f_s_firstHitDirection_8 f_s_firstHitPower_9 f_sT_taken_10 v_sTc_11 => self (x4_1, x5_2, x6_3, x7_4, f_s_moves_5, f_s_bounces_6, f_s_potted_7, f_s_firstHitDirection_8, f_s_firstHitPower_9, f_sT_taken_10, v_sTc_11)) a.1 a.2.1 a.2.2.1 a.2.2.2.1 a.2.2.2.2.1 a.2.2.2.2.2.1 a.2.2.2.2.2.2.1 a.2.2.2.2.2.2.2.1 a.2.2.2.2.2.2.2.2.1 a.2.2.2.2.2.2.2.2.2.1 a.2.2.2.2.2.2.2.2.2.2) k (x4_1, x5_2, x6_3, x7_4, f_s_moves_5, f_s_bounces_6, f_s_potted_7, f_s_firstHitDirection_8, f_s_firstHitPower_9, f_sT_taken_10, v_sTc_11)
def f_X9_roll (n : Nat) (f_s_moves : Int32) (f_s_bounces : Int32) (f_s_potted : Int32) (f_s_firstHitDirection : Int32) (f_s_firstHitPower : Int32) (f_sT_taken : Int64) (v_sTc : Nat → Int32) (v_sTk : Nat → Int32) (p1 : Int32) (p2 : Int32) (p3 : Int32) : Option (Int32 × Int32 × Int32 × Int32 × Int32 × Int64 × (Nat → Int32)) :=
  (f_X9_roll_L12 v_sTk n n p1 p2 p3 0 f_s_moves f_s_bounces f_s_potted f_s_firstHitDirection f_s_firstHitPower f_sT_taken v_sTc)
def f_X9_isWhitePotted (f_s_potted : Int32) : Option (Int32) :=
  (if (f_s_potted &&& 1) = 0 then (some 0) else (some 1))
def b_X9_worthPotted_L4 (f_s_potted : Int32) (v_sTw : Nat → Int32) (go_3 : Int32 → Int32 → Option (Int32)) (x1_1 : Int32) (x2_2 : Int32) : Option (Int32) :=
  (if 6 < x2_2 then (some x1_1) else (if (f_s_potted >>> (x2_2 &&& 31)) = 0 then (some x1_1) else (jn (fun (x1_7 : Int32) => (bnd (x2_2 + 1) (fun x2_9 => (go_3 x1_7 x2_9)))) (fun (j41_8 : Int32 → Option (Int32)) => (if ((f_s_potted >>> (x2_2 &&& 31)) &&& 1) = 0 then (j41_8 x1_1) else ((f_X10_worthOf v_sTw x2_2).bind (fun u_11 => (bnd (x1_1 + u_11) (fun x1_12 => (j41_8 x1_12))))))))))
def f_X9_worthPotted_L4 (f_s_potted : Int32) (v_sTw : Nat → Int32) (k : Nat) (x1_1 : Int32) (x2_2 : Int32) : Option (Int32) :=
  lpF (fun (self : (Int32 × Int32) → Option (Int32)) (a : Int32 × Int32) => b_X9_worthPotted_L4 f_s_potted v_sTw (fun x1_1 x2_2 => self (x1_1, x2_2)) a.1 a.2) k (x1_1, x2_2)
def f_X9_worthPotted (n : Nat) (f_s_potted : Int32) (v_sTw : Nat → Int32) : Option (Int32) :=
  (f_X9_worthPotted_L4 f_s_potted v_sTw n 0 1)
def f_X9_shoot (n : Nat) (f_s_moves : Int32) (f_s_bounces : Int32) (f_s_potted : Int32) (f_s_brings : Int32) (f_s_firstHitDirection : Int32) (f_s_firstHitPower : Int32) (f_s_foul : Int32) (f_sT_taken : Int64) (f_sT_spot : Int32) (v_sTc : Nat → Int32) (v_sTk : Nat → Int32) (v_sTw : Nat → Int32) (p1 : Int32) (p2 : Int32) (p3 : Int32) : Option (Int32 × Int32 × Int32 × Int32 × Int32 × Int32 × Int32 × Int64 × (Nat → Int32)) :=
  ((f_X9_roll n 0 0 0 (-1) 0 f_sT_taken v_sTc v_sTk 0 p1 p2).bind (fun u_1 => (jn (fun (k_2 : Int32) => (jn (fun (f_s_moves_4 : Int32) (f_s_bounces_5 : Int32) (f_s_potted_6 : Int32) (f_s_firstHitDirection_7 : Int32) (f_s_firstHitPower_8 : Int32) (f_sT_taken_9 : Int64) (v_sTc_10 : Nat → Int32) => (jn (fun (k_12 : Int32) => (gd (isb k_12) ((f_X9_worthPotted n f_s_potted_6 v_sTw).bind (fun u_15 => (jn (fun (k_16 : Int32) (k_17 : Int32) => ((f_X9_isWhitePotted f_s_potted_6).bind (fun u_19 => (if u_19 = 0 then (some (f_s_moves_4, f_s_bounces_5, f_s_potted_6, (k_16 - k_17), f_s_firstHitDirection_7, f_s_firstHitPower_8, k_12, f_sT_taken_9, v_sTc_10)) else ((f_X10_returnWhite n f_sT_taken_9 f_sT_spot v_sTc_10).bind (fun u_21 => (some (f_s_moves_4, f_s_bounces_5, f_s_potted_6, (k_16 - k_17), f_s_firstHitDirection_7, f_s_firstHitPower_8, k_12, u_21.1, u_21.2)))))))) (fun (j133_18 : Int32 → Int32 → Option (Int32 × Int32 × Int32 × Int32 × Int32 × Int32 × Int32 × Int64 × (Nat → Int32))) => (if k_12 = 0 then (j133_18 u_15 0) else (j133_18 u_15 4)))))))) (fun (j113_13 : Int32 → Option (Int32 × Int32 × Int32 × Int32 × Int32 × Int32 × Int32 × Int64 × (Nat → Int32))) => (jn ((j113_13 1)) (fun (j108_23 : Option (Int32 × Int32 × Int32 × Int32 × Int32 × Int32 × Int32 × Int64 × (Nat → Int32))) => (if k_2 = 0 then ((f_X9_isWhitePotted f_s_potted_6).bind (fun u_25 => (if u_25 = 0 then (j113_13 0) else j108_23))) else j108_23)))))) (fun (j95_11 : Int32 → Int32 → Int32 → Int32 → Int32 → Int64 → (Nat → Int32) → Option (Int32 × Int32 × Int32 × Int32 × Int32 × Int32 × Int32 × Int64 × (Nat → Int32))) => (if p3 = 0 then (j95_11 u_1.1 u_1.2.1 u_1.2.2.1 u_1.2.2.2.1 u_1.2.2.2.2.1 u_1.2.2.2.2.2.1 u_1.2.2.2.2.2.2) else (if k_2 = 0 then ((f_X9_isWhitePotted u_1.2.2.1).bind (fun u_29 => (if u_29 = 0 then (jn (fun (k_31 : Int32) (k_32 : Int32) => ((f_X9_roll n u_1.1 u_1.2.1 u_1.2.2.1 u_1.2.2.2.1 u_1.2.2.2.2.1 u_1.2.2.2.2.2.1 u_1.2.2.2.2.2.2 v_sTk k_31 k_32 (u_1.2.2.2.2.1 / 2)).bind (fun u_34 => (j95_11 u_34.1 u_34.2.1 u_34.2.2.1 u_34.2.2.2.1 u_34.2.2.2.2.1 u_34.2.2.2.2.2.1 u_34.2.2.2.2.2.2)))) (fun (j86_33 : Int32 → Int32 → Option (Int32 × Int32 × Int32 × Int32 × Int32 × Int32 × Int32 × Int64 × (Nat → Int32))) => (if p3 = 1 then (j86_33 0 u_1.2.2.2.1) else (j86_33 0 ((u_1.2.2.2.1 + 4) &&& 7))))) else (j95_11 u_1.1 u_1.2.1 u_1.2.2.1 u_1.2.2.2.1 u_1.2.2.2.2.1 u_1.2.2.2.2.2.1 u_1.2.2.2.2.2.2)))) else (j95_11 u_1.1 u_1.2.1 u_1.2.2.1 u_1.2.2.2.1 u_1.2.2.2.2.1 u_1.2.2.2.2.2.1 u_1.2.2.2.2.2.2)))))) (fun (j45_3 : Int32 → Option (Int32 × Int32 × Int32 × Int32 × Int32 × Int32 × Int32 × Int64 × (Nat → Int32))) => (if u_1.2.2.2.1 = (-1) then (j45_3 1) else (j45_3 0))))))
def f_X9_tell (f_s_moves : Int32) (f_s_bounces : Int32) (f_s_potted : Int32) (f_s_brings : Int32) (f_s_foul : Int32) (v_sTc : Nat → Int32) (p1 : Int32) : Option (Int32) :=
  (if p1 = 0 then (some (f_s_brings + 100)) else (if p1 = 1 then ((f_X10_cellOf v_sTc 0).bind (fun u_3 => (some u_3))) else (if p1 = 2 then (some f_s_potted) else (if p1 = 3 then (if f_s_foul = 0 then (some 0) else (some 1)) else (if p1 = 4 then (some f_s_moves) else (if p1 = 5 then (some f_s_bounces) else ((f_X10_cellOf v_sTc (p1 - 9)).bind (fun u_9 => (some u_9)))))))))
def f_X9_hasPotted (f_s_potted : Int32) (p1 : Int32) : Option (Int32) :=
  (if ((f_s_potted >>> (p1 &&& 31)) &&& 1) = 0 then (some 0) else (some 1))
def f_X3_clear (n : Nat) (f_y_seen : Int32) (f_y_score : Int32) (f_y_strokes : Int32) (f_y_fouls : Int32) (f_yT_taken : Int64) (v_yTc : Nat → Int32) : Option (Int32 × Int32 × Int32 × Int32 × Int64 × (Nat → Int32)) :=
  ((f_X10_clear n f_yT_taken v_yTc).bind (fun u_1 => (some (0, 0, 0, 0, u_1.1, u_1.2))))
def f_X3_copy (f_y_seen : Int32) (f_y_score : Int32) (f_y_strokes : Int32) (f_y_fouls : Int32) (f_yT_taken : Int64) (f_yT_size : Int32) (f_yT_spot : Int32) (v_yTc : Nat → Int32) (v_yTk : Nat → Int32) (v_yTw : Nat → Int32) (v_yb : Nat → Int32) (v_yd : Nat → Int32) (v_ye : Nat → Int32) (v_yf : Nat → Int32) (f_o_seen : Int32) (f_o_score : Int32) (f_o_strokes : Int32) (f_o_fouls : Int32) (f_oT_taken : Int64) (f_oT_size : Int32) (f_oT_spot : Int32) (v_oTc : Nat → Int32) (v_oTk : Nat → Int32) (v_oTw : Nat → Int32) (v_ob : Nat → Int32) (v_od : Nat → Int32) (v_oe : Nat → Int32) (v_of : Nat → Int32) : Option (Int32 × Int32 × Int32 × Int32 × Int64 × Int32 × Int32 × (Nat → Int32) × (Nat → Int32) × (Nat → Int32) × (Nat → Int32) × (Nat → Int32) × (Nat → Int32) × (Nat → Int32)) :=
  ((f_X10_copy f_yT_taken f_yT_size f_yT_spot v_yTc v_yTk v_yTw f_oT_taken f_oT_size f_oT_spot v_oTc v_oTk v_oTw).bind (fun u_1 => (some (f_o_seen, f_o_score, f_o_strokes, f_o_fouls, u_1.1, u_1.2.1, u_1.2.2.1, u_1.2.2.2.1, u_1.2.2.2.2.1, u_1.2.2.2.2.2, v_ob, v_od, v_oe, v_of))))
def f_X3_take (f_y_score : Int32) (f_y_strokes : Int32) (f_y_fouls : Int32) (f_yT_taken : Int64) (f_yT_size : Int32) (f_yT_spot : Int32) (v_yTc : Nat → Int32) (v_yTk : Nat → Int32) (v_yTw : Nat → Int32) (f_o_brings : Int32) (f_o_foul : Int32) (f_oT_taken : Int64) (f_oT_size : Int32) (f_oT_spot : Int32) (v_oTc : Nat → Int32) (v_oTk : Nat → Int32) (v_oTw : Nat → Int32) : Option (Int32 × Int32 × Int32 × Int64 × Int32 × Int32 × (Nat → Int32) × (Nat → Int32) × (Nat → Int32)) :=
  ((f_X10_copy f_yT_taken f_yT_size f_yT_spot v_yTc v_yTk v_yTw f_oT_taken f_oT_size f_oT_spot v_oTc v_oTk v_oTw).bind (fun u_1 => (if f_o_foul = 0 then (some ((f_y_score + f_o_brings), (f_y_strokes + 1), f_y_fouls, u_1.1, u_1.2.1, u_1.2.2.1, u_1.2.2.2.1, u_1.2.2.2.2.1, u_1.2.2.2.2.2)) else (some ((f_y_score + f_o_brings), (f_y_strokes + 1), (f_y_fouls + 1), u_1.1, u_1.2.1, u_1.2.2.1, u_1.2.2.2.1, u_1.2.2.2.2.1, u_1.2.2.2.2.2)))))
def f_X3_note (f_y_seen : Int32) (v_yb : Nat → Int32) (v_yd : Nat → Int32) (v_ye : Nat → Int32) (v_yf : Nat → Int32) (p1 : Int32) (p2 : Int32) (p3 : Int32) (p4 : Int32) : Option (Int32 × (Nat → Int32) × (Nat → Int32) × (Nat → Int32) × (Nat → Int32)) :=
  (if f_y_seen < 0 then (some (f_y_seen, v_yb, v_yd, v_ye, v_yf)) else (if f_y_seen < 6 then (gd (inb f_y_seen 6) (gd (inb f_y_seen 6) (gd (inb f_y_seen 6) (gd (inb f_y_seen 6) (some ((f_y_seen + 1), (upd v_yb f_y_seen.toNatClampNeg p1), (upd v_yd f_y_seen.toNatClampNeg p2), (upd v_ye f_y_seen.toNatClampNeg p3), (upd v_yf f_y_seen.toNatClampNeg p4))))))) else (some (f_y_seen, v_yb, v_yd, v_ye, v_yf))))
def f_X0_directionOf (p0 : Int32) : Option (Int32) :=
  (some (p0 / 27))
def f_X0_strengthOf (p0 : Int32) : Option (Int32) :=
  (some (((p0 / 3) - (p0 / 3) / 9 * 9) + 1))
def f_X0_spinOf (p0 : Int32) : Option (Int32) :=
  (some (p0 - p0 / 3 * 3))
def f_X0_tryStroke (n : Nat) (f_aF_moves : Int32) (f_aF_bounces : Int32) (f_aF_potted : Int32) (f_aF_brings : Int32) (f_aF_firstHitDirection : Int32) (f_aF_firstHitPower : Int32) (f_aF_foul : Int32) (f_aFT_taken : Int64) (f_aFT_size : Int32) (f_aFT_spot : Int32) (v_aFTc : Nat → Int32) (v_aFTk : Nat → Int32) (v_aFTw : Nat → Int32) (f_o_taken : Int64) (f_o_size : Int32) (f_o_spot : Int32) (v_oc : Nat → Int32) (v_ok : Nat → Int32) (v_ow : Nat → Int32) (p2 : Int32) : Option (Int32 × Int32 × Int32 × Int32 × Int32 × Int32 × Int32 × Int64 × Int32 × Int32 × (Nat → Int32) × (Nat → Int32) × (Nat → Int32)) :=
  ((f_X9_begin f_aFT_taken f_aFT_size f_aFT_spot v_aFTc v_aFTk v_aFTw f_o_taken f_o_size f_o_spot v_oc v_ok v_ow).bind (fun u_1 => ((f_X0_directionOf p2).bind (fun u_2 => ((f_X0_strengthOf p2).bind (fun u_3 => ((f_X0_spinOf p2).bind (fun u_4 => ((f_X9_shoot n f_aF_moves f_aF_bounces f_aF_potted f_aF_brings f_aF_firstHitDirection f_aF_firstHitPower f_aF_foul u_1.1 u_1.2.2.1 u_1.2.2.2.1 u_1.2.2.2.2.1 u_1.2.2.2.2.2 u_2 u_3 u_4).bind (fun u_5 => (some (u_5.1, u_5.2.1, u_5.2.2.1, u_5.2.2.2.1, u_5.2.2.2.2.1, u_5.2.2.2.2.2.1, u_5.2.2.2.2.2.2.1, u_5.2.2.2.2.2.2.2.1, u_1.2.1, u_1.2.2.1, u_5.2.2.2.2.2.2.2.2, u_1.2.2.2.2.1, u_1.2.2.2.2.2))))))))))))
def f_X0_choose (f_a_chosen : Int32) (f_a_value : Int32) (p1 : Int32) (p2 : Int32) : Option (Int32 × Int32) :=
  (some (p1, p2))
def b_X0_chooseBest_L7 (f_o_taken : Int64) (f_o_size : Int32) (f_o_spot : Int32) (v_oc : Nat → Int32) (v_ok : Nat → Int32) (v_ow : Nat → Int32) (n : Nat) (go_17 : Int32 → Int32 → Int32 → Int32 → Int32 → Int32 → Int32 → Int32 → Int32 → Int32 → Int64 → Int32 → Int32 → (Nat → Int32) → (Nat → Int32) → (Nat → Int32) → Option (Int32 × Int32 × Int32 × Int32 × Int32 × Int32 × Int32 × Int32 × Int32 × Int64 × Int32 × Int32 × (Nat → Int32) × (Nat → Int32) × (Nat → Int32))) (x2_1 : Int32) (f_a_chosen_2 : Int32) (f_a_value_3 : Int32) (f_aF_moves_4 : Int32) (f_aF_bounces_5 : Int32) (f_aF_potted_6 : Int32) (f_aF_brings_7 : Int32) (f_aF_firstHitDirection_8 : Int32) (f_aF_firstHitPower_9 : Int32) (f_aF_foul_10 : Int32) (f_aFT_taken_11 : Int64) (f_aFT_size_12 : Int32) (f_aFT_spot_13 : Int32) (v_aFTc_14 : Nat → Int32) (v_aFTk_15 : Nat → Int32) (v_aFTw_16 : Nat → Int32) : Option (Int32 × Int32 × Int32 × Int32 × Int32 × Int32 × Int32 × Int32 × Int32 × Int64 × Int32 × Int32 × (Nat → Int32) × (Nat → Int32) × (Nat → Int32)) :=
  (if 216 ≤ x2_1 then (some (f_a_chosen_2, f_a_value_3, f_aF_moves_4, f_aF_bounces_5, f_aF_potted_6, f_aF_brings_7, f_aF_firstHitDirection_8, f_aF_firstHitPower_9, f_aF_foul_10, f_aFT_taken_11, f_aFT_size_12, f_aFT_spot_13, v_aFTc_14, v_aFTk_15, v_aFTw_16)) else ((f_X0_tryStroke n f_aF_moves_4 f_aF_bounces_5 f_aF_potted_6 f_aF_brings_7 f_aF_firstHitDirection_8 f_aF_firstHitPower_9 f_aF_foul_10 f_aFT_taken_11 f_aFT_size_12 f_aFT_spot_13 v_aFTc_14 v_aFTk_15 v_aFTw_16 f_o_taken f_o_size f_o_spot v_oc v_ok v_ow x2_1).bind (fun u_20 => (jn (fun (f_a_chosen_21 : Int32) (f_a_value_22 : Int32) => (bnd (x2_1 + 1) (fun x2_24 => (go_17 x2_24 f_a_chosen_21 f_a_value_22 u_20.1 u_20.2.1 u_20.2.2.1 u_20.2.2.2.1 u_20.2.2.2.2.1 u_20.2.2.2.2.2.1 u_20.2.2.2.2.2.2.1 u_20.2.2.2.2.2.2.2.1 u_20.2.2.2.2.2.2.2.2.1 u_20.2.2.2.2.2.2.2.2.2.1 u_20.2.2.2.2.2.2.2.2.2.2.1 u_20.2.2.2.2.2.2.2.2.2.2.2.1 u_20.2.2.2.2.2.2.2.2.2.2.2.2)))) (fun (j54_23 : Int32 → Int32 → Option (Int32 × Int32 × Int32 × Int32 × Int32 × Int32 × Int32 × Int32 × Int32 × Int64 × Int32 × Int32 × (Nat → Int32) × (Nat → Int32) × (Nat → Int32))) => (jn (((f_X0_choose f_a_chosen_2 f_a_value_3 x2_1 u_20.2.2.2.1).bind (fun u_26 => (j54_23 u_26.1 u_26.2)))) (fun (j42_25 : Option (Int32 × Int32 × Int32 × Int32 × Int32 × Int32 × Int32 × Int32 × Int32 × Int64 × Int32 × Int32 × (Nat → Int32) × (Nat → Int32) × (Nat → Int32))) => (if f_a_chosen_2 = (-1) then j42_25 else (if u_20.2.2.2.1 ≤ f_a_value_3 then (j54_23 f_a_chosen_2 f_a_value_3) else j42_25)))))))))
def f_X0_chooseBest_L7 (f_o_taken : Int64) (f_o_size : Int32) (f_o_spot : Int32) (v_oc : Nat → Int32) (v_ok : Nat → Int32) (v_ow : Nat → Int32) (n : Nat) (k : Nat) (x2_1 : Int32) (f_a_chosen_2 : Int32) (f_a_value_3 : Int32) (f_aF_moves_4 : Int32) (f_aF_bounces_5 : Int32) (f_aF_potted_6 : Int32) (f_aF_brings_7 : Int32) (f_aF_firstHitDirection_8 : Int32) (f_aF_firstHitPower_9 : Int32) (f_aF_foul_10 : Int32) (f_aFT_taken_11 : Int64) (f_aFT_size_12 : Int32) (f_aFT_spot_13 : Int32) (v_aFTc_14 : Nat → Int32) (v_aFTk_15 : Nat → Int32) (v_aFTw_16 : Nat → Int32) : Option (Int32 × Int32 × Int32 × Int32 × Int32 × Int32 × Int32 × Int32 × Int32 × Int64 × Int32 × Int32 × (Nat → Int32) × (Nat → Int32) × (Nat → Int32)) :=
  lpF (fun (self : (Int32 × Int32 × Int32 × Int32 × Int32 × Int32 × Int32 × Int32 × Int32 × Int32 × Int64 × Int32 × Int32 × (Nat → Int32) × (Nat → Int32) × (Nat → Int32)) → Option (Int32 × Int32 × Int32 × Int32 × Int32 × Int32 × Int32 × Int32 × Int32 × Int64 × Int32 × Int32 × (Nat → Int32) × (Nat → Int32) × (Nat → Int32))) (a : Int32 × Int32 × Int32 × Int32 × Int32 × Int32 × Int32 × Int32 × Int32 × Int32 × Int64 × Int32 × Int32 × (Nat → Int32) × (Nat → Int32) × (Nat → Int32)) => b_X0_chooseBest_L7 f_o_taken f_o_size f_o_spot v_oc v_ok v_ow n (fun x2_1 f_a_chosen_2 f_a_value_3 f_aF_moves_4 f_aF_bounces_5 f_aF_potted_6 f_aF_brings_7 f_aF_firstHitDirection_8 f_aF_firstHitPower_9 f_aF_foul_10 f_aFT_taken_11 f_aFT_size_12 f_aFT_spot_13 v_aFTc_14 v_aFTk_15 v_aFTw_16 => self (x2_1, f_a_chosen_2, f_a_value_3, f_aF_moves_4, f_aF_bounces_5, f_aF_potted_6, f_aF_brings_7, f_aF_firstHitDirection_8, f_aF_firstHitPower_9, f_aF_foul_10, f_aFT_taken_11, f_aFT_size_12, f_aFT_spot_13, v_aFTc_14, v_aFTk_15, v_aFTw_16)) a.1 a.2.1 a.2.2.1 a.2.2.2.1 a.2.2.2.2.1 a.2.2.2.2.2.1 a.2.2.2.2.2.2.1 a.2.2.2.2.2.2.2.1 a.2.2.2.2.2.2.2.2.1 a.2.2.2.2.2.2.2.2.2.1 a.2.2.2.2.2.2.2.2.2.2.1 a.2.2.2.2.2.2.2.2.2.2.2.1 a.2.2.2.2.2.2.2.2.2.2.2.2.1 a.2.2.2.2.2.2.2.2.2.2.2.2.2.1 a.2.2.2.2.2.2.2.2.2.2.2.2.2.2.1 a.2.2.2.2.2.2.2.2.2.2.2.2.2.2.2) k (x2_1, f_a_chosen_2, f_a_value_3, f_aF_moves_4, f_aF_bounces_5, f_aF_potted_6, f_aF_brings_7, f_aF_firstHitDirection_8, f_aF_firstHitPower_9, f_aF_foul_10, f_aFT_taken_11, f_aFT_size_12, f_aFT_spot_13, v_aFTc_14, v_aFTk_15, v_aFTw_16)
def f_X0_chooseBest (n : Nat) (f_a_chosen : Int32) (f_a_value : Int32) (f_aF_moves : Int32) (f_aF_bounces : Int32) (f_aF_potted : Int32) (f_aF_brings : Int32) (f_aF_firstHitDirection : Int32) (f_aF_firstHitPower : Int32) (f_aF_foul : Int32) (f_aFT_taken : Int64) (f_aFT_size : Int32) (f_aFT_spot : Int32) (v_aFTc : Nat → Int32) (v_aFTk : Nat → Int32) (v_aFTw : Nat → Int32) (f_o_taken : Int64) (f_o_size : Int32) (f_o_spot : Int32) (v_oc : Nat → Int32) (v_ok : Nat → Int32) (v_ow : Nat → Int32) : Option (Int32 × Int32 × Int32 × Int32 × Int32 × Int32 × Int32 × Int32 × Int32 × Int64 × Int32 × Int32 × (Nat → Int32) × (Nat → Int32) × (Nat → Int32)) :=
  (f_X0_chooseBest_L7 f_o_taken f_o_size f_o_spot v_oc v_ok v_ow n n 0 (-1) f_a_value f_aF_moves f_aF_bounces f_aF_potted f_aF_brings f_aF_firstHitDirection f_aF_firstHitPower f_aF_foul f_aFT_taken f_aFT_size f_aFT_spot v_aFTc v_aFTk v_aFTw)
def b_X0_bestReply_L13 (f_aFT_taken : Int64) (f_aFT_size : Int32) (f_aFT_spot : Int32) (v_aFTc : Nat → Int32) (v_aFTk : Nat → Int32) (v_aFTw : Nat → Int32) (n : Nat) (x2_2 : Int32) (j68_33 : Int32 → Int32 → Int32 → Int32 → Int32 → Int32 → Int32 → Int32 → Int64 → Int32 → Int32 → (Nat → Int32) → (Nat → Int32) → (Nat → Int32) → Option (Int32 × Int32 × Int32 × Int32 × Int32 × Int32 × Int32 × Int32 × Int64 × Int32 × Int32 × (Nat → Int32) × (Nat → Int32) × (Nat → Int32))) (go_50 : Int32 → Int32 → Int32 → Int32 → Int32 → Int32 → Int32 → Int32 → Int32 → Int64 → Int32 → Int32 → (Nat → Int32) → (Nat → Int32) → (Nat → Int32) → Option (Int32 × Int32 × Int32 × Int32 × Int32 × Int32 × Int32 × Int32 × Int64 × Int32 × Int32 × (Nat → Int32) × (Nat → Int32) × (Nat → Int32))) (x1_35 : Int32) (x3_36 : Int32) (f_aS_moves_37 : Int32) (f_aS_bounces_38 : Int32) (f_aS_potted_39 : Int32) (f_aS_brings_40 : Int32) (f_aS_firstHitDirection_41 : Int32) (f_aS_firstHitPower_42 : Int32) (f_aS_foul_43 : Int32) (f_aST_taken_44 : Int64) (f_aST_size_45 : Int32) (f_aST_spot_46 : Int32) (v_aSTc_47 : Nat → Int32) (v_aSTk_48 : Nat → Int32) (v_aSTw_49 : Nat → Int32) : Option (Int32 × Int32 × Int32 × Int32 × Int32 × Int32 × Int32 × Int32 × Int64 × Int32 × Int32 × (Nat → Int32) × (Nat → Int32) × (Nat → Int32)) :=
  (if 9 < x3_36 then (j68_33 x1_35 f_aS_moves_37 f_aS_bounces_38 f_aS_potted_39 f_aS_brings_40 f_aS_firstHitDirection_41 f_aS_firstHitPower_42 f_aS_foul_43 f_aST_taken_44 f_aST_size_45 f_aST_spot_46 v_aSTc_47 v_aSTk_48 v_aSTw_49) else ((f_X9_begin f_aST_taken_44 f_aST_size_45 f_aST_spot_46 v_aSTc_47 v_aSTk_48 v_aSTw_49 f_aFT_taken f_aFT_size f_aFT_spot v_aFTc v_aFTk v_aFTw).bind (fun u_53 => ((f_X9_shoot n f_aS_moves_37 f_aS_bounces_38 f_aS_potted_39 f_aS_brings_40 f_aS_firstHitDirection_41 f_aS_firstHitPower_42 f_aS_foul_43 u_53.1 u_53.2.2.1 u_53.2.2.2.1 u_53.2.2.2.2.1 u_53.2.2.2.2.2 x2_2 x3_36 0).bind (fun u_54 => (jn (fun (x1_55 : Int32) => (bnd (x3_36 + 3) (fun x3_57 => (go_50 x1_55 x3_57 u_54.1 u_54.2.1 u_54.2.2.1 u_54.2.2.2.1 u_54.2.2.2.2.1 u_54.2.2.2.2.2.1 u_54.2.2.2.2.2.2.1 u_54.2.2.2.2.2.2.2.1 u_53.2.1 u_53.2.2.1 u_54.2.2.2.2.2.2.2.2 u_53.2.2.2.2.1 u_53.2.2.2.2.2)))) (fun (j62_56 : Int32 → Option (Int32 × Int32 × Int32 × Int32 × Int32 × Int32 × Int32 × Int32 × Int64 × Int32 × Int32 × (Nat → Int32) × (Nat → Int32) × (Nat → Int32))) => (if u_54.2.2.2.1 ≤ x1_35 then (j62_56 x1_35) else (j62_56 u_54.2.2.2.1)))))))))
def f_X0_bestReply_L13 (f_aFT_taken : Int64) (f_aFT_size : Int32) (f_aFT_spot : Int32) (v_aFTc : Nat → Int32) (v_aFTk : Nat → Int32) (v_aFTw : Nat → Int32) (n : Nat) (x2_2 : Int32) (j68_33 : Int32 → Int32 → Int32 → Int32 → Int32 → Int32 → Int32 → Int32 → Int64 → Int32 → Int32 → (Nat → Int32) → (Nat → Int32) → (Nat → Int32) → Option (Int32 × Int32 × Int32 × Int32 × Int32 × Int32 × Int32 × Int32 × Int64 × Int32 × Int32 × (Nat → Int32) × (Nat → Int32) × (Nat → Int32))) (k : Nat) (x1_35 : Int32) (x3_36 : Int32) (f_aS_moves_37 : Int32) (f_aS_bounces_38 : Int32) (f_aS_potted_39 : Int32) (f_aS_brings_40 : Int32) (f_aS_firstHitDirection_41 : Int32) (f_aS_firstHitPower_42 : Int32) (f_aS_foul_43 : Int32) (f_aST_taken_44 : Int64) (f_aST_size_45 : Int32) (f_aST_spot_46 : Int32) (v_aSTc_47 : Nat → Int32) (v_aSTk_48 : Nat → Int32) (v_aSTw_49 : Nat → Int32) : Option (Int32 × Int32 × Int32 × Int32 × Int32 × Int32 × Int32 × Int32 × Int64 × Int32 × Int32 × (Nat → Int32) × (Nat → Int32) × (Nat → Int32)) :=
  lpF (fun (self : (Int32 × Int32 × Int32 × Int32 × Int32 × Int32 × Int32 × Int32 × Int32 × Int64 × Int32 × Int32 × (Nat → Int32) × (Nat → Int32) × (Nat → Int32)) → Option (Int32 × Int32 × Int32 × Int32 × Int32 × Int32 × Int32 × Int32 × Int64 × Int32 × Int32 × (Nat → Int32) × (Nat → Int32) × (Nat → Int32))) (a : Int32 × Int32 × Int32 × Int32 × Int32 × Int32 × Int32 × Int32 × Int32 × Int64 × Int32 × Int32 × (Nat → Int32) × (Nat → Int32) × (Nat → Int32)) => b_X0_bestReply_L13 f_aFT_taken f_aFT_size f_aFT_spot v_aFTc v_aFTk v_aFTw n x2_2 j68_33 (fun x1_35 x3_36 f_aS_moves_37 f_aS_bounces_38 f_aS_potted_39 f_aS_brings_40 f_aS_firstHitDirection_41 f_aS_firstHitPower_42 f_aS_foul_43 f_aST_taken_44 f_aST_size_45 f_aST_spot_46 v_aSTc_47 v_aSTk_48 v_aSTw_49 => self (x1_35, x3_36, f_aS_moves_37, f_aS_bounces_38, f_aS_potted_39, f_aS_brings_40, f_aS_firstHitDirection_41, f_aS_firstHitPower_42, f_aS_foul_43, f_aST_taken_44, f_aST_size_45, f_aST_spot_46, v_aSTc_47, v_aSTk_48, v_aSTw_49)) a.1 a.2.1 a.2.2.1 a.2.2.2.1 a.2.2.2.2.1 a.2.2.2.2.2.1 a.2.2.2.2.2.2.1 a.2.2.2.2.2.2.2.1 a.2.2.2.2.2.2.2.2.1 a.2.2.2.2.2.2.2.2.2.1 a.2.2.2.2.2.2.2.2.2.2.1 a.2.2.2.2.2.2.2.2.2.2.2.1 a.2.2.2.2.2.2.2.2.2.2.2.2.1 a.2.2.2.2.2.2.2.2.2.2.2.2.2.1 a.2.2.2.2.2.2.2.2.2.2.2.2.2.2) k (x1_35, x3_36, f_aS_moves_37, f_aS_bounces_38, f_aS_potted_39, f_aS_brings_40, f_aS_firstHitDirection_41, f_aS_firstHitPower_42, f_aS_foul_43, f_aST_taken_44, f_aST_size_45, f_aST_spot_46, v_aSTc_47, v_aSTk_48, v_aSTw_49)
def b_X0_bestReply_L5 (f_aFT_taken : Int64) (f_aFT_size : Int32) (f_aFT_spot : Int32) (v_aFTc : Nat → Int32) (v_aFTk : Nat → Int32) (v_aFTw : Nat → Int32) (n : Nat) (go_16 : Int32 → Int32 → Int32 → Int32 → Int32 → Int32 → Int32 → Int32 → Int32 → Int64 → Int32 → Int32 → (Nat → Int32) → (Nat → Int32) → (Nat → Int32) → Option (Int32 × Int32 × Int32 × Int32 × Int32 × Int32 × Int32 × Int32 × Int64 × Int32 × Int32 × (Nat → Int32) × (Nat → Int32) × (Nat → Int32))) (x1_1 : Int32) (x2_2 : Int32) (f_aS_moves_3 : Int32) (f_aS_bounces_4 : Int32) (f_aS_potted_5 : Int32) (f_aS_brings_6 : Int32) (f_aS_firstHitDirection_7 : Int32) (f_aS_firstHitPower_8 : Int32) (f_aS_foul_9 : Int32) (f_aST_taken_10 : Int64) (f_aST_size_11 : Int32) (f_aST_spot_12 : Int32) (v_aSTc_13 : Nat → Int32) (v_aSTk_14 : Nat → Int32) (v_aSTw_15 : Nat → Int32) : Option (Int32 × Int32 × Int32 × Int32 × Int32 × Int32 × Int32 × Int32 × Int64 × Int32 × Int32 × (Nat → Int32) × (Nat → Int32) × (Nat → Int32)) :=
  (if 8 ≤ x2_2 then (some (x1_1, f_aS_moves_3, f_aS_bounces_4, f_aS_potted_5, f_aS_brings_6, f_aS_firstHitDirection_7, f_aS_firstHitPower_8, f_aS_foul_9, f_aST_taken_10, f_aST_size_11, f_aST_spot_12, v_aSTc_13, v_aSTk_14, v_aSTw_15)) else (jn (fun (x1_19 : Int32) (f_aS_moves_20 : Int32) (f_aS_bounces_21 : Int32) (f_aS_potted_22 : Int32) (f_aS_brings_23 : Int32) (f_aS_firstHitDirection_24 : Int32) (f_aS_firstHitPower_25 : Int32) (f_aS_foul_26 : Int32) (f_aST_taken_27 : Int64) (f_aST_size_28 : Int32) (f_aST_spot_29 : Int32) (v_aSTc_30 : Nat → Int32) (v_aSTk_31 : Nat → Int32) (v_aSTw_32 : Nat → Int32) => (bnd (x2_2 + 1) (fun x2_34 => (go_16 x1_19 x2_34 f_aS_moves_20 f_aS_bounces_21 f_aS_potted_22 f_aS_brings_23 f_aS_firstHitDirection_24 f_aS_firstHitPower_25 f_aS_foul_26 f_aST_taken_27 f_aST_size_28 f_aST_spot_29 v_aSTc_30 v_aSTk_31 v_aSTw_32)))) (fun (j68_33 : Int32 → Int32 → Int32 → Int32 → Int32 → Int32 → Int32 → Int32 → Int64 → Int32 → Int32 → (Nat → Int32) → (Nat → Int32) → (Nat → Int32) → Option (Int32 × Int32 × Int32 × Int32 × Int32 × Int32 × Int32 × Int32 × Int64 × Int32 × Int32 × (Nat → Int32) × (Nat → Int32) × (Nat → Int32))) => (f_X0_bestReply_L13 f_aFT_taken f_aFT_size f_aFT_spot v_aFTc v_aFTk v_aFTw n x2_2 j68_33 n x1_1 3 f_aS_moves_3 f_aS_bounces_4 f_aS_potted_5 f_aS_brings_6 f_aS_firstHitDirection_7 f_aS_firstHitPower_8 f_aS_foul_9 f_aST_taken_10 f_aST_size_11 f_aST_spot_12 v_aSTc_13 v_aSTk_14 v_aSTw_15))))
def f_X0_bestReply_L5 (f_aFT_taken : Int64) (f_aFT_size : Int32) (f_aFT_spot : Int32) (v_aFTc : Nat → Int32) (v_aFTk : Nat → Int32) (v_aFTw : Nat → Int32) (n : Nat) (k : Nat) (x1_1 : Int32) (x2_2 : Int32) (f_aS_moves_3 : Int32) (f_aS_bounces_4 : Int32) (f_aS_potted_5 : Int32) (f_aS_brings_6 : Int32) (f_aS_firstHitDirection_7 : Int32) (f_aS_firstHitPower_8 : Int32) (f_aS_foul_9 : Int32) (f_aST_taken_10 : Int64) (f_aST_size_11 : Int32) (f_aST_spot_12 : Int32) (v_aSTc_13 : Nat → Int32) (v_aSTk_14 : Nat → Int32) (v_aSTw_15 : Nat → Int32) : Option (Int32 × Int32 × Int32 × Int32 × Int32 × Int32 × Int32 × Int32 × Int64 × Int32 × Int32 × (Nat → Int32) × (Nat → Int32) × (Nat → Int32)) :=
  lpF (fun (self : (Int32 × Int32 × Int32 × Int32 × Int32 × Int32 × Int32 × Int32 × Int32 × Int64 × Int32 × Int32 × (Nat → Int32) × (Nat → Int32) × (Nat → Int32)) → Option (Int32 × Int32 × Int32 × Int32 × Int32 × Int32 × Int32 × Int32 × Int64 × Int32 × Int32 × (Nat → Int32) × (Nat → Int32) × (Nat → Int32))) (a : Int32 × Int32 × Int32 × Int32 × Int32 × Int32 × Int32 × Int32 × Int32 × Int64 × Int32 × Int32 × (Nat → Int32) × (Nat → Int32) × (Nat → Int32)) => b_X0_bestReply_L5 f_aFT_taken f_aFT_size f_aFT_spot v_aFTc v_aFTk v_aFTw n (fun x1_1 x2_2 f_aS_moves_3 f_aS_bounces_4 f_aS_potted_5 f_aS_brings_6 f_aS_firstHitDirection_7 f_aS_firstHitPower_8 f_aS_foul_9 f_aST_taken_10 f_aST_size_11 f_aST_spot_12 v_aSTc_13 v_aSTk_14 v_aSTw_15 => self (x1_1, x2_2, f_aS_moves_3, f_aS_bounces_4, f_aS_potted_5, f_aS_brings_6, f_aS_firstHitDirection_7, f_aS_firstHitPower_8, f_aS_foul_9, f_aST_taken_10, f_aST_size_11, f_aST_spot_12, v_aSTc_13, v_aSTk_14, v_aSTw_15)) a.1 a.2.1 a.2.2.1 a.2.2.2.1 a.2.2.2.2.1 a.2.2.2.2.2.1 a.2.2.2.2.2.2.1 a.2.2.2.2.2.2.2.1 a.2.2.2.2.2.2.2.2.1 a.2.2.2.2.2.2.2.2.2.1 a.2.2.2.2.2.2.2.2.2.2.1 a.2.2.2.2.2.2.2.2.2.2.2.1 a.2.2.2.2.2.2.2.2.2.2.2.2.1 a.2.2.2.2.2.2.2.2.2.2.2.2.2.1 a.2.2.2.2.2.2.2.2.2.2.2.2.2.2) k (x1_1, x2_2, f_aS_moves_3, f_aS_bounces_4, f_aS_potted_5, f_aS_brings_6, f_aS_firstHitDirection_7, f_aS_firstHitPower_8, f_aS_foul_9, f_aST_taken_10, f_aST_size_11, f_aST_spot_12, v_aSTc_13, v_aSTk_14, v_aSTw_15)
def f_X0_bestReply (n : Nat) (f_aFT_taken : Int64) (f_aFT_size : Int32) (f_aFT_spot : Int32) (v_aFTc : Nat → Int32) (v_aFTk : Nat → Int32) (v_aFTw : Nat → Int32) (f_aS_moves : Int32) (f_aS_bounces : Int32) (f_aS_potted : Int32) (f_aS_brings : Int32) (f_aS_firstHitDirection : Int32) (f_aS_firstHitPower : Int32) (f_aS_foul : Int32) (f_aST_taken : Int64) (f_aST_size : Int32) (f_aST_spot : Int32) (v_aSTc : Nat → Int32) (v_aSTk : Nat → Int32) (v_aSTw : Nat → Int32) : Option (Int32 × Int32 × Int32 × Int32 × Int32 × Int32 × Int32 × Int32 × Int64 × Int32 × Int32 × (Nat → Int32) × (Nat → Int32) × (Nat → Int32)) :=
  (f_X0_bestReply_L5 f_aFT_taken f_aFT_size f_aFT_spot v_aFTc v_aFTk v_aFTw n n (-4) 0 f_aS_moves f_aS_bounces f_aS_potted f_aS_brings f_aS_firstHitDirection f_aS_firstHitPower f_aS_foul f_aST_taken f_aST_size f_aST_spot v_aSTc v_aSTk v_aSTw)
def b_X0_choosePlan_L7 (f_o_taken : Int64) (f_o_size : Int32) (f_o_spot : Int32) (v_oc : Nat → Int32) (v_ok : Nat → Int32) (v_ow : Nat → Int32) (n : Nat) (go_30 : Int32 → Int32 → Int32 → Int32 → Int32 → Int32 → Int32 → Int32 → Int32 → Int32 → Int64 → Int32 → Int32 → (Nat → Int32) → (Nat → Int32) → (Nat → Int32) → Int32 → Int32 → Int32 → Int32 → Int32 → Int32 → Int32 → Int64 → Int32 → Int32 → (Nat → Int32) → (Nat → Int32) → (Nat → Int32) → Option (Int32 × Int32 × Int32 × Int32 × Int32 × Int32 × Int32 × Int32 × Int32 × Int64 × Int32 × Int32 × (Nat → Int32) × (Nat → Int32) × (Nat → Int32) × Int32 × Int32 × Int32 × Int32 × Int32 × Int32 × Int32 × Int64 × Int32 × Int32 × (Nat → Int32) × (Nat → Int32) × (Nat → Int32))) (x2_1 : Int32) (f_a_chosen_2 : Int32) (f_a_value_3 : Int32) (f_aF_moves_4 : Int32) (f_aF_bounces_5 : Int32) (f_aF_potted_6 : Int32) (f_aF_brings_7 : Int32) (f_aF_firstHitDirection_8 : Int32) (f_aF_firstHitPower_9 : Int32) (f_aF_foul_10 : Int32) (f_aFT_taken_11 : Int64) (f_aFT_size_12 : Int32) (f_aFT_spot_13 : Int32) (v_aFTc_14 : Nat → Int32) (v_aFTk_15 : Nat → Int32) (v_aFTw_16 : Nat → Int32) (f_aS_moves_17 : Int32) (f_aS_bounces_18 : Int32) (f_aS_potted_19 : Int32) (f_aS_brings_20 : Int32) (f_aS_firstHitDirection_21 : Int32) (f_aS_firstHitPower_22 : Int32) (f_aS_foul_23 : Int32) (f_aST_taken_24 : Int64) (f_aST_size_25 : Int32) (f_aST_spot_26 : Int32) (v_aSTc_27 : Nat → Int32) (v_aSTk_28 : Nat → Int32) (v_aSTw_29 : Nat → Int32) : Option (Int32 × Int32 × Int32 × Int32 × Int32 × Int32 × Int32 × Int32 × Int32 × Int64 × Int32 × Int32 × (Nat → Int32) × (Nat → Int32) × (Nat → Int32) × Int32 × Int32 × Int32 × Int32 × Int32 × Int32 × Int32 × Int64 × Int32 × Int32 × (Nat → Int32) × (Nat → Int32) × (Nat → Int32)) :=
  (if 216 ≤ x2_1 then (some (f_a_chosen_2, f_a_value_3, f_aF_moves_4, f_aF_bounces_5, f_aF_potted_6, f_aF_brings_7, f_aF_firstHitDirection_8, f_aF_firstHitPower_9, f_aF_foul_10, f_aFT_taken_11, f_aFT_size_12, f_aFT_spot_13, v_aFTc_14, v_aFTk_15, v_aFTw_16, f_aS_moves_17, f_aS_bounces_18, f_aS_potted_19, f_aS_brings_20, f_aS_firstHitDirection_21, f_aS_firstHitPower_22, f_aS_foul_23, f_aST_taken_24, f_aST_size_25, f_aST_spot_26, v_aSTc_27, v_aSTk_28, v_aSTw_29)) else ((f_X0_tryStroke n f_aF_moves_4 f_aF_bounces_5 f_aF_potted_6 f_aF_brings_7 f_aF_firstHitDirection_8 f_aF_firstHitPower_9 f_aF_foul_10 f_aFT_taken_11 f_aFT_size_12 f_aFT_spot_13 v_aFTc_14 v_aFTk_15 v_aFTw_16 f_o_taken f_o_size f_o_spot v_oc v_ok v_ow x2_1).bind (fun u_33 => ((f_X0_bestReply n u_33.2.2.2.2.2.2.2.1 u_33.2.2.2.2.2.2.2.2.1 u_33.2.2.2.2.2.2.2.2.2.1 u_33.2.2.2.2.2.2.2.2.2.2.1 u_33.2.2.2.2.2.2.2.2.2.2.2.1 u_33.2.2.2.2.2.2.2.2.2.2.2.2 f_aS_moves_17 f_aS_bounces_18 f_aS_potted_19 f_aS_brings_20 f_aS_firstHitDirection_21 f_aS_firstHitPower_22 f_aS_foul_23 f_aST_taken_24 f_aST_size_25 f_aST_spot_26 v_aSTc_27 v_aSTk_28 v_aSTw_29).bind (fun u_34 => (bnd (u_33.2.2.2.1 + u_34.1) (fun x3_35 => (jn (fun (f_a_chosen_36 : Int32) (f_a_value_37 : Int32) => (bnd (x2_1 + 1) (fun x2_39 => (go_30 x2_39 f_a_chosen_36 f_a_value_37 u_33.1 u_33.2.1 u_33.2.2.1 u_33.2.2.2.1 u_33.2.2.2.2.1 u_33.2.2.2.2.2.1 u_33.2.2.2.2.2.2.1 u_33.2.2.2.2.2.2.2.1 u_33.2.2.2.2.2.2.2.2.1 u_33.2.2.2.2.2.2.2.2.2.1 u_33.2.2.2.2.2.2.2.2.2.2.1 u_33.2.2.2.2.2.2.2.2.2.2.2.1 u_33.2.2.2.2.2.2.2.2.2.2.2.2 u_34.2.1 u_34.2.2.1 u_34.2.2.2.1 u_34.2.2.2.2.1 u_34.2.2.2.2.2.1 u_34.2.2.2.2.2.2.1 u_34.2.2.2.2.2.2.2.1 u_34.2.2.2.2.2.2.2.2.1 u_34.2.2.2.2.2.2.2.2.2.1 u_34.2.2.2.2.2.2.2.2.2.2.1 u_34.2.2.2.2.2.2.2.2.2.2.2.1 u_34.2.2.2.2.2.2.2.2.2.2.2.2.1 u_34.2.2.2.2.2.2.2.2.2.2.2.2.2)))) (fun (j55_38 : Int32 → Int32 → Option (Int32 × Int32 × Int32 × Int32 × Int32 × Int32 × Int32 × Int32 × Int32 × Int64 × Int32 × Int32 × (Nat → Int32) × (Nat → Int32) × (Nat → Int32) × Int32 × Int32 × Int32 × Int32 × Int32 × Int32 × Int32 × Int64 × Int32 × Int32 × (Nat → Int32) × (Nat → Int32) × (Nat → Int32))) => (jn (((f_X0_choose f_a_chosen_2 f_a_value_3 x2_1 x3_35).bind (fun u_41 => (j55_38 u_41.1 u_41.2)))) (fun (j49_40 : Option (Int32 × Int32 × Int32 × Int32 × Int32 × Int32 × Int32 × Int32 × Int32 × Int64 × Int32 × Int32 × (Nat → Int32) × (Nat → Int32) × (Nat → Int32) × Int32 × Int32 × Int32 × Int32 × Int32 × Int32 × Int32 × Int64 × Int32 × Int32 × (Nat → Int32) × (Nat → Int32) × (Nat → Int32))) => (if f_a_chosen_2 = (-1) then j49_40 else (if x3_35 ≤ f_a_value_3 then (j55_38 f_a_chosen_2 f_a_value_3) else j49_40)))))))))))))
def f_X0_choosePlan_L7 (f_o_taken : Int64) (f_o_size : Int32) (f_o_spot : Int32) (v_oc : Nat → Int32) (v_ok : Nat → Int32) (v_ow : Nat → Int32) (n : Nat) (k : Nat) (x2_1 : Int32) (f_a_chosen_2 : Int32) (f_a_value_3 : Int32) (f_aF_moves_4 : Int32) (f_aF_bounces_5 : Int32) (f_aF_potted_6 : Int32) (f_aF_brings_7 : Int32) (f_aF_firstHitDirection_8 : Int32) (f_aF_firstHitPower_9 : Int32) (f_aF_foul_10 : Int32) (f_aFT_taken_11 : Int64) (f_aFT_size_12 : Int32) (f_aFT_spot_13 : Int32) (v_aFTc_14 : Nat → Int32) (v_aFTk_15 : Nat → Int32) (v_aFTw_16 : Nat → Int32) (f_aS_moves_17 : Int32) (f_aS_bounces_18 : Int32) (f_aS_potted_19 : Int32) (f_aS_brings_20 : Int32) (f_aS_firstHitDirection_21 : Int32) (f_aS_firstHitPower_22 : Int32) (f_aS_foul_23 : Int32) (f_aST_taken_24 : Int64) (f_aST_size_25 : Int32) (f_aST_spot_26 : Int32) (v_aSTc_27 : Nat → Int32) (v_aSTk_28 : Nat → Int32) (v_aSTw_29 : Nat → Int32) : Option (Int32 × Int32 × Int32 × Int32 × Int32 × Int32 × Int32 × Int32 × Int32 × Int64 × Int32 × Int32 × (Nat → Int32) × (Nat → Int32) × (Nat → Int32) × Int32 × Int32 × Int32 × Int32 × Int32 × Int32 × Int32 × Int64 × Int32 × Int32 × (Nat → Int32) × (Nat → Int32) × (Nat → Int32)) :=
  lpF (fun (self : (Int32 × Int32 × Int32 × Int32 × Int32 × Int32 × Int32 × Int32 × Int32 × Int32 × Int64 × Int32 × Int32 × (Nat → Int32) × (Nat → Int32) × (Nat → Int32) × Int32 × Int32 × Int32 × Int32 × Int32 × Int32 × Int32 × Int64 × Int32 × Int32 × (Nat → Int32) × (Nat → Int32) × (Nat → Int32)) → Option (Int32 × Int32 × Int32 × Int32 × Int32 × Int32 × Int32 × Int32 × Int32 × Int64 × Int32 × Int32 × (Nat → Int32) × (Nat → Int32) × (Nat → Int32) × Int32 × Int32 × Int32 × Int32 × Int32 × Int32 × Int32 × Int64 × Int32 × Int32 × (Nat → Int32) × (Nat → Int32) × (Nat → Int32))) (a : Int32 × Int32 × Int32 × Int32 × Int32 × Int32 × Int32 × Int32 × Int32 × Int32 × Int64 × Int32 × Int32 × (Nat → Int32) × (Nat → Int32) × (Nat → Int32) × Int32 × Int32 × Int32 × Int32 × Int32 × Int32 × Int32 × Int64 × Int32 × Int32 × (Nat → Int32) × (Nat → Int32) × (Nat → Int32)) => b_X0_choosePlan_L7 f_o_taken f_o_size f_o_spot v_oc v_ok v_ow n (fun x2_1 f_a_chosen_2 f_a_value_3 f_aF_moves_4 f_aF_bounces_5 f_aF_potted_6 f_aF_brings_7 f_aF_firstHitDirection_8 f_aF_firstHitPower_9 f_aF_foul_10 f_aFT_taken_11 f_aFT_size_12 f_aFT_spot_13 v_aFTc_14 v_aFTk_15 v_aFTw_16 f_aS_moves_17 f_aS_bounces_18 f_aS_potted_19 f_aS_brings_20 f_aS_firstHitDirection_21 f_aS_firstHitPower_22 f_aS_foul_23 f_aST_taken_24 f_aST_size_25 f_aST_spot_26 v_aSTc_27 v_aSTk_28 v_aSTw_29 => self (x2_1, f_a_chosen_2, f_a_value_3, f_aF_moves_4, f_aF_bounces_5, f_aF_potted_6, f_aF_brings_7, f_aF_firstHitDirection_8, f_aF_firstHitPower_9, f_aF_foul_10, f_aFT_taken_11, f_aFT_size_12, f_aFT_spot_13, v_aFTc_14, v_aFTk_15, v_aFTw_16, f_aS_moves_17, f_aS_bounces_18, f_aS_potted_19, f_aS_brings_20, f_aS_firstHitDirection_21, f_aS_firstHitPower_22, f_aS_foul_23, f_aST_taken_24, f_aST_size_25, f_aST_spot_26, v_aSTc_27, v_aSTk_28, v_aSTw_29)) a.1 a.2.1 a.2.2.1 a.2.2.2.1 a.2.2.2.2.1 a.2.2.2.2.2.1 a.2.2.2.2.2.2.1 a.2.2.2.2.2.2.2.1 a.2.2.2.2.2.2.2.2.1 a.2.2.2.2.2.2.2.2.2.1 a.2.2.2.2.2.2.2.2.2.2.1 a.2.2.2.2.2.2.2.2.2.2.2.1 a.2.2.2.2.2.2.2.2.2.2.2.2.1 a.2.2.2.2.2.2.2.2.2.2.2.2.2.1 a.2.2.2.2.2.2.2.2.2.2.2.2.2.2.1 a.2.2.2.2.2.2.2.2.2.2.2.2.2.2.2.1 a.2.2.2.2.2.2.2.2.2.2.2.2.2.2.2.2.1 a.2.2.2.2.2.2.2.2.2.2.2.2.2.2.2.2.2.1 a.2.2.2.2.2.2.2.2.2.2.2.2.2.2.2.2.2.2.1 a.2.2.2.2.2.2.2.2.2.2.2.2.2.2.2.2.2.2.2.1 a.2.2.2.2.2.2.2.2.2.2.2.2.2.2.2.2.2.2.2.2.1 a.2.2.2.2.2.2.2.2.2.2.2.2.2.2.2.2.2.2.2.2.2.1 a.2.2.2.2.2.2.2.2.2.2.2.2.2.2.2.2.2.2.2.2.2.2.1 a.2.2.2.2.2.2.2.2.2.2.2.2.2.2.2.2.2.2.2.2.2.2.2.1 a.2.2.2.2.2.2.2.2.2.2.2.2.2.2.2.2.2.2.2.2.2.2.2.2.1 a.2.2.2.2.2.2.2.2.2.2.2.2.2.2.2.2.2.2.2.2.2.2.2.2.2.1 a.2.2.2.2.2.2.2.2.2.2.2.2.2.2.2.2.2.2.2.2.2.2.2.2.2.2.1 a.2.2.2.2.2.2.2.2.2.2.2.2.2.2.2.2.2.2.2.2.2.2.2.2.2.2.2.1 a.2.2.2.2.2.2.2.2.2.2.2.2.2.2.2.2.2.2.2.2.2.2.2.2.2.2.2.2) k (x2_1, f_a_chosen_2, f_a_value_3, f_aF_moves_4, f_aF_bounces_5, f_aF_potted_6, f_aF_brings_7, f_aF_firstHitDirection_8, f_aF_firstHitPower_9, f_aF_foul_10, f_aFT_taken_11, f_aFT_size_12, f_aFT_spot_13, v_aFTc_14, v_aFTk_15, v_aFTw_16, f_aS_moves_17, f_aS_bounces_18, f_aS_potted_19, f_aS_brings_20, f_aS_firstHitDirection_21, f_aS_firstHitPower_22, f_aS_foul_23, f_aST_taken_24, f_aST_size_25, f_aST_spot_26, v_aSTc_27, v_aSTk_28, v_aSTw_29)
def f_X0_choosePlan (n : Nat) (f_a_chosen : Int32) (f_a_value : Int32) (f_aF_moves : Int32) (f_aF_bounces : Int32) (f_aF_potted : Int32) (f_aF_brings : Int32) (f_aF_firstHitDirection : Int32) (f_aF_firstHitPower : Int32) (f_aF_foul : Int32) (f_aFT_taken : Int64) (f_aFT_size : Int32) (f_aFT_spot : Int32) (v_aFTc : Nat → Int32) (v_aFTk : Nat → Int32) (v_aFTw : Nat → Int32) (f_aS_moves : Int32) (f_aS_bounces : Int32) (f_aS_potted : Int32) (f_aS_brings : Int32) (f_aS_firstHitDirection : Int32) (f_aS_firstHitPower : Int32) (f_aS_foul : Int32) (f_aST_taken : Int64) (f_aST_size : Int32) (f_aST_spot : Int32) (v_aSTc : Nat → Int32) (v_aSTk : Nat → Int32) (v_aSTw : Nat → Int32) (f_o_taken : Int64) (f_o_size : Int32) (f_o_spot : Int32) (v_oc : Nat → Int32) (v_ok : Nat → Int32) (v_ow : Nat → Int32) : Option (Int32 × Int32 × Int32 × Int32 × Int32 × Int32 × Int32 × Int32 × Int32 × Int64 × Int32 × Int32 × (Nat → Int32) × (Nat → Int32) × (Nat → Int32) × Int32 × Int32 × Int32 × Int32 × Int32 × Int32 × Int32 × Int64 × Int32 × Int32 × (Nat → Int32) × (Nat → Int32) × (Nat → Int32)) :=
  (f_X0_choosePlan_L7 f_o_taken f_o_size f_o_spot v_oc v_ok v_ow n n 0 (-1) f_a_value f_aF_moves f_aF_bounces f_aF_potted f_aF_brings f_aF_firstHitDirection f_aF_firstHitPower f_aF_foul f_aFT_taken f_aFT_size f_aFT_spot v_aFTc v_aFTk v_aFTw f_aS_moves f_aS_bounces f_aS_potted f_aS_brings f_aS_firstHitDirection f_aS_firstHitPower f_aS_foul f_aST_taken f_aST_size f_aST_spot v_aSTc v_aSTk v_aSTw)
def b_X0_chooseSafe_L7 (f_o_taken : Int64) (f_o_size : Int32) (f_o_spot : Int32) (v_oc : Nat → Int32) (v_ok : Nat → Int32) (v_ow : Nat → Int32) (n : Nat) (go_30 : Int32 → Int32 → Int32 → Int32 → Int32 → Int32 → Int32 → Int32 → Int32 → Int32 → Int64 → Int32 → Int32 → (Nat → Int32) → (Nat → Int32) → (Nat → Int32) → Int32 → Int32 → Int32 → Int32 → Int32 → Int32 → Int32 → Int64 → Int32 → Int32 → (Nat → Int32) → (Nat → Int32) → (Nat → Int32) → Option (Int32 × Int32 × Int32 × Int32 × Int32 × Int32 × Int32 × Int32 × Int32 × Int64 × Int32 × Int32 × (Nat → Int32) × (Nat → Int32) × (Nat → Int32) × Int32 × Int32 × Int32 × Int32 × Int32 × Int32 × Int32 × Int64 × Int32 × Int32 × (Nat → Int32) × (Nat → Int32) × (Nat → Int32))) (x2_1 : Int32) (f_a_chosen_2 : Int32) (f_a_value_3 : Int32) (f_aF_moves_4 : Int32) (f_aF_bounces_5 : Int32) (f_aF_potted_6 : Int32) (f_aF_brings_7 : Int32) (f_aF_firstHitDirection_8 : Int32) (f_aF_firstHitPower_9 : Int32) (f_aF_foul_10 : Int32) (f_aFT_taken_11 : Int64) (f_aFT_size_12 : Int32) (f_aFT_spot_13 : Int32) (v_aFTc_14 : Nat → Int32) (v_aFTk_15 : Nat → Int32) (v_aFTw_16 : Nat → Int32) (f_aS_moves_17 : Int32) (f_aS_bounces_18 : Int32) (f_aS_potted_19 : Int32) (f_aS_brings_20 : Int32) (f_aS_firstHitDirection_21 : Int32) (f_aS_firstHitPower_22 : Int32) (f_aS_foul_23 : Int32) (f_aST_taken_24 : Int64) (f_aST_size_25 : Int32) (f_aST_spot_26 : Int32) (v_aSTc_27 : Nat → Int32) (v_aSTk_28 : Nat → Int32) (v_aSTw_29 : Nat → Int32) : Option (Int32 × Int32 × Int32 × Int32 × Int32 × Int32 × Int32 × Int32 × Int32 × Int64 × Int32 × Int32 × (Nat → Int32) × (Nat → Int32) × (Nat → Int32) × Int32 × Int32 × Int32 × Int32 × Int32 × Int32 × Int32 × Int64 × Int32 × Int32 × (Nat → Int32) × (Nat → Int32) × (Nat → Int32)) :=
  (if 216 ≤ x2_1 then (some (f_a_chosen_2, f_a_value_3, f_aF_moves_4, f_aF_bounces_5, f_aF_potted_6, f_aF_brings_7, f_aF_firstHitDirection_8, f_aF_firstHitPower_9, f_aF_foul_10, f_aFT_taken_11, f_aFT_size_12, f_aFT_spot_13, v_aFTc_14, v_aFTk_15, v_aFTw_16, f_aS_moves_17, f_aS_bounces_18, f_aS_potted_19, f_aS_brings_20, f_aS_firstHitDirection_21, f_aS_firstHitPower_22, f_aS_foul_23, f_aST_taken_24, f_aST_size_25, f_aST_spot_26, v_aSTc_27, v_aSTk_28, v_aSTw_29)) else ((f_X0_tryStroke n f_aF_moves_4 f_aF_bounces_5 f_aF_potted_6 f_aF_brings_7 f_aF_firstHitDirection_8 f_aF_firstHitPower_9 f_aF_foul_10 f_aFT_taken_11 f_aFT_size_12 f_aFT_spot_13 v_aFTc_14 v_aFTk_15 v_aFTw_16 f_o_taken f_o_size f_o_spot v_oc v_ok v_ow x2_1).bind (fun u_33 => (jn (fun (f_a_chosen_34 : Int32) (f_a_value_35 : Int32) (f_aS_moves_36 : Int32) (f_aS_bounces_37 : Int32) (f_aS_potted_38 : Int32) (f_aS_brings_39 : Int32) (f_aS_firstHitDirection_40 : Int32) (f_aS_firstHitPower_41 : Int32) (f_aS_foul_42 : Int32) (f_aST_taken_43 : Int64) (f_aST_size_44 : Int32) (f_aST_spot_45 : Int32) (v_aSTc_46 : Nat → Int32) (v_aSTk_47 : Nat → Int32) (v_aSTw_48 : Nat → Int32) => (bnd (x2_1 + 1) (fun x2_50 => (go_30 x2_50 f_a_chosen_34 f_a_value_35 u_33.1 u_33.2.1 u_33.2.2.1 u_33.2.2.2.1 u_33.2.2.2.2.1 u_33.2.2.2.2.2.1 u_33.2.2.2.2.2.2.1 u_33.2.2.2.2.2.2.2.1 u_33.2.2.2.2.2.2.2.2.1 u_33.2.2.2.2.2.2.2.2.2.1 u_33.2.2.2.2.2.2.2.2.2.2.1 u_33.2.2.2.2.2.2.2.2.2.2.2.1 u_33.2.2.2.2.2.2.2.2.2.2.2.2 f_aS_moves_36 f_aS_bounces_37 f_aS_potted_38 f_aS_brings_39 f_aS_firstHitDirection_40 f_aS_firstHitPower_41 f_aS_foul_42 f_aST_taken_43 f_aST_size_44 f_aST_spot_45 v_aSTc_46 v_aSTk_47 v_aSTw_48)))) (fun (j60_49 : Int32 → Int32 → Int32 → Int32 → Int32 → Int32 → Int32 → Int32 → Int32 → Int64 → Int32 → Int32 → (Nat → Int32) → (Nat → Int32) → (Nat → Int32) → Option (Int32 × Int32 × Int32 × Int32 × Int32 × Int32 × Int32 × Int32 × Int32 × Int64 × Int32 × Int32 × (Nat → Int32) × (Nat → Int32) × (Nat → Int32) × Int32 × Int32 × Int32 × Int32 × Int32 × Int32 × Int32 × Int64 × Int32 × Int32 × (Nat → Int32) × (Nat → Int32) × (Nat → Int32))) => (if u_33.2.2.2.2.2.2.1 = 0 then ((f_X0_bestReply n u_33.2.2.2.2.2.2.2.1 u_33.2.2.2.2.2.2.2.2.1 u_33.2.2.2.2.2.2.2.2.2.1 u_33.2.2.2.2.2.2.2.2.2.2.1 u_33.2.2.2.2.2.2.2.2.2.2.2.1 u_33.2.2.2.2.2.2.2.2.2.2.2.2 f_aS_moves_17 f_aS_bounces_18 f_aS_potted_19 f_aS_brings_20 f_aS_firstHitDirection_21 f_aS_firstHitPower_22 f_aS_foul_23 f_aST_taken_24 f_aST_size_25 f_aST_spot_26 v_aSTc_27 v_aSTk_28 v_aSTw_29).bind (fun u_52 => (jn (((f_X0_choose f_a_chosen_2 f_a_value_3 x2_1 u_52.1).bind (fun u_54 => (j60_49 u_54.1 u_54.2 u_52.2.1 u_52.2.2.1 u_52.2.2.2.1 u_52.2.2.2.2.1 u_52.2.2.2.2.2.1 u_52.2.2.2.2.2.2.1 u_52.2.2.2.2.2.2.2.1 u_52.2.2.2.2.2.2.2.2.1 u_52.2.2.2.2.2.2.2.2.2.1 u_52.2.2.2.2.2.2.2.2.2.2.1 u_52.2.2.2.2.2.2.2.2.2.2.2.1 u_52.2.2.2.2.2.2.2.2.2.2.2.2.1 u_52.2.2.2.2.2.2.2.2.2.2.2.2.2)))) (fun (j54_53 : Option (Int32 × Int32 × Int32 × Int32 × Int32 × Int32 × Int32 × Int32 × Int32 × Int64 × Int32 × Int32 × (Nat → Int32) × (Nat → Int32) × (Nat → Int32) × Int32 × Int32 × Int32 × Int32 × Int32 × Int32 × Int32 × Int64 × Int32 × Int32 × (Nat → Int32) × (Nat → Int32) × (Nat → Int32))) => (if f_a_chosen_2 = (-1) then j54_53 else (if f_a_value_3 ≤ u_52.1 then (j60_49 f_a_chosen_2 f_a_value_3 u_52.2.1 u_52.2.2.1 u_52.2.2.2.1 u_52.2.2.2.2.1 u_52.2.2.2.2.2.1 u_52.2.2.2.2.2.2.1 u_52.2.2.2.2.2.2.2.1 u_52.2.2.2.2.2.2.2.2.1 u_52.2.2.2.2.2.2.2.2.2.1 u_52.2.2.2.2.2.2.2.2.2.2.1 u_52.2.2.2.2.2.2.2.2.2.2.2.1 u_52.2.2.2.2.2.2.2.2.2.2.2.2.1 u_52.2.2.2.2.2.2.2.2.2.2.2.2.2) else j54_53)))))) else (j60_49 f_a_chosen_2 f_a_value_3 f_aS_moves_17 f_aS_bounces_18 f_aS_potted_19 f_aS_brings_20 f_aS_firstHitDirection_21 f_aS_firstHitPower_22 f_aS_foul_23 f_aST_taken_24 f_aST_size_25 f_aST_spot_26 v_aSTc_27 v_aSTk_28 v_aSTw_29)))))))
def f_X0_chooseSafe_L7 (f_o_taken : Int64) (f_o_size : Int32) (f_o_spot : Int32) (v_oc : Nat → Int32) (v_ok : Nat → Int32) (v_ow : Nat → Int32) (n : Nat) (k : Nat) (x2_1 : Int32) (f_a_chosen_2 : Int32) (f_a_value_3 : Int32) (f_aF_moves_4 : Int32) (f_aF_bounces_5 : Int32) (f_aF_potted_6 : Int32) (f_aF_brings_7 : Int32) (f_aF_firstHitDirection_8 : Int32) (f_aF_firstHitPower_9 : Int32) (f_aF_foul_10 : Int32) (f_aFT_taken_11 : Int64) (f_aFT_size_12 : Int32) (f_aFT_spot_13 : Int32) (v_aFTc_14 : Nat → Int32) (v_aFTk_15 : Nat → Int32) (v_aFTw_16 : Nat → Int32) (f_aS_moves_17 : Int32) (f_aS_bounces_18 : Int32) (f_aS_potted_19 : Int32) (f_aS_brings_20 : Int32) (f_aS_firstHitDirection_21 : Int32) (f_aS_firstHitPower_22 : Int32) (f_aS_foul_23 : Int32) (f_aST_taken_24 : Int64) (f_aST_size_25 : Int32) (f_aST_spot_26 : Int32) (v_aSTc_27 : Nat → Int32) (v_aSTk_28 : Nat → Int32) (v_aSTw_29 : Nat → Int32) : Option (Int32 × Int32 × Int32 × Int32 × Int32 × Int32 × Int32 × Int32 × Int32 × Int64 × Int32 × Int32 × (Nat → Int32) × (Nat → Int32) × (Nat → Int32) × Int32 × Int32 × Int32 × Int32 × Int32 × Int32 × Int32 × Int64 × Int32 × Int32 × (Nat → Int32) × (Nat → Int32) × (Nat → Int32)) :=
  lpF (fun (self : (Int32 × Int32 × Int32 × Int32 × Int32 × Int32 × Int32 × Int32 × Int32 × Int32 × Int64 × Int32 × Int32 × (Nat → Int32) × (Nat → Int32) × (Nat → Int32) × Int32 × Int32 × Int32 × Int32 × Int32 × Int32 × Int32 × Int64 × Int32 × Int32 × (Nat → Int32) × (Nat → Int32) × (Nat → Int32)) → Option (Int32 × Int32 × Int32 × Int32 × Int32 × Int32 × Int32 × Int32 × Int32 × Int64 × Int32 × Int32 × (Nat → Int32) × (Nat → Int32) × (Nat → Int32) × Int32 × Int32 × Int32 × Int32 × Int32 × Int32 × Int32 × Int64 × Int32 × Int32 × (Nat → Int32) × (Nat → Int32) × (Nat → Int32))) (a : Int32 × Int32 × Int32 × Int32 × Int32 × Int32 × Int32 × Int32 × Int32 × Int32 × Int64 × Int32 × Int32 × (Nat → Int32) × (Nat → Int32) × (Nat → Int32) × Int32 × Int32 × Int32 × Int32 × Int32 × Int32 × Int32 × Int64 × Int32 × Int32 × (Nat → Int32) × (Nat → Int32) × (Nat → Int32)) => b_X0_chooseSafe_L7 f_o_taken f_o_size f_o_spot v_oc v_ok v_ow n (fun x2_1 f_a_chosen_2 f_a_value_3 f_aF_moves_4 f_aF_bounces_5 f_aF_potted_6 f_aF_brings_7 f_aF_firstHitDirection_8 f_aF_firstHitPower_9 f_aF_foul_10 f_aFT_taken_11 f_aFT_size_12 f_aFT_spot_13 v_aFTc_14 v_aFTk_15 v_aFTw_16 f_aS_moves_17 f_aS_bounces_18 f_aS_potted_19 f_aS_brings_20 f_aS_firstHitDirection_21 f_aS_firstHitPower_22 f_aS_foul_23 f_aST_taken_24 f_aST_size_25 f_aST_spot_26 v_aSTc_27 v_aSTk_28 v_aSTw_29 => self (x2_1, f_a_chosen_2, f_a_value_3, f_aF_moves_4, f_aF_bounces_5, f_aF_potted_6, f_aF_brings_7, f_aF_firstHitDirection_8, f_aF_firstHitPower_9, f_aF_foul_10, f_aFT_taken_11, f_aFT_size_12, f_aFT_spot_13, v_aFTc_14, v_aFTk_15, v_aFTw_16, f_aS_moves_17, f_aS_bounces_18, f_aS_potted_19, f_aS_brings_20, f_aS_firstHitDirection_21, f_aS_firstHitPower_22, f_aS_foul_23, f_aST_taken_24, f_aST_size_25, f_aST_spot_26, v_aSTc_27, v_aSTk_28, v_aSTw_29)) a.1 a.2.1 a.2.2.1 a.2.2.2.1 a.2.2.2.2.1 a.2.2.2.2.2.1 a.2.2.2.2.2.2.1 a.2.2.2.2.2.2.2.1 a.2.2.2.2.2.2.2.2.1 a.2.2.2.2.2.2.2.2.2.1 a.2.2.2.2.2.2.2.2.2.2.1 a.2.2.2.2.2.2.2.2.2.2.2.1 a.2.2.2.2.2.2.2.2.2.2.2.2.1 a.2.2.2.2.2.2.2.2.2.2.2.2.2.1 a.2.2.2.2.2.2.2.2.2.2.2.2.2.2.1 a.2.2.2.2.2.2.2.2.2.2.2.2.2.2.2.1 a.2.2.2.2.2.2.2.2.2.2.2.2.2.2.2.2.1 a.2.2.2.2.2.2.2.2.2.2.2.2.2.2.2.2.2.1 a.2.2.2.2.2.2.2.2.2.2.2.2.2.2.2.2.2.2.1 a.2.2.2.2.2.2.2.2.2.2.2.2.2.2.2.2.2.2.2.1 a.2.2.2.2.2.2.2.2.2.2.2.2.2.2.2.2.2.2.2.2.1 a.2.2.2.2.2.2.2.2.2.2.2.2.2.2.2.2.2.2.2.2.2.1 a.2.2.2.2.2.2.2.2.2.2.2.2.2.2.2.2.2.2.2.2.2.2.1 a.2.2.2.2.2.2.2.2.2.2.2.2.2.2.2.2.2.2.2.2.2.2.2.1 a.2.2.2.2.2.2.2.2.2.2.2.2.2.2.2.2.2.2.2.2.2.2.2.2.1 a.2.2.2.2.2.2.2.2.2.2.2.2.2.2.2.2.2.2.2.2.2.2.2.2.2.1 a.2.2.2.2.2.2.2.2.2.2.2.2.2.2.2.2.2.2.2.2.2.2.2.2.2.2.1 a.2.2.2.2.2.2.2.2.2.2.2.2.2.2.2.2.2.2.2.2.2.2.2.2.2.2.2.1 a.2.2.2.2.2.2.2.2.2.2.2.2.2.2.2.2.2.2.2.2.2.2.2.2.2.2.2.2) k (x2_1, f_a_chosen_2, f_a_value_3, f_aF_moves_4, f_aF_bounces_5, f_aF_potted_6, f_aF_brings_7, f_aF_firstHitDirection_8, f_aF_firstHitPower_9, f_aF_foul_10, f_aFT_taken_11, f_aFT_size_12, f_aFT_spot_13, v_aFTc_14, v_aFTk_15, v_aFTw_16, f_aS_moves_17, f_aS_bounces_18, f_aS_potted_19, f_aS_brings_20, f_aS_firstHitDirection_21, f_aS_firstHitPower_22, f_aS_foul_23, f_aST_taken_24, f_aST_size_25, f_aST_spot_26, v_aSTc_27, v_aSTk_28, v_aSTw_29)
def f_X0_chooseSafe (n : Nat) (f_a_chosen : Int32) (f_a_value : Int32) (f_aF_moves : Int32) (f_aF_bounces : Int32) (f_aF_potted : Int32) (f_aF_brings : Int32) (f_aF_firstHitDirection : Int32) (f_aF_firstHitPower : Int32) (f_aF_foul : Int32) (f_aFT_taken : Int64) (f_aFT_size : Int32) (f_aFT_spot : Int32) (v_aFTc : Nat → Int32) (v_aFTk : Nat → Int32) (v_aFTw : Nat → Int32) (f_aS_moves : Int32) (f_aS_bounces : Int32) (f_aS_potted : Int32) (f_aS_brings : Int32) (f_aS_firstHitDirection : Int32) (f_aS_firstHitPower : Int32) (f_aS_foul : Int32) (f_aST_taken : Int64) (f_aST_size : Int32) (f_aST_spot : Int32) (v_aSTc : Nat → Int32) (v_aSTk : Nat → Int32) (v_aSTw : Nat → Int32) (f_o_taken : Int64) (f_o_size : Int32) (f_o_spot : Int32) (v_oc : Nat → Int32) (v_ok : Nat → Int32) (v_ow : Nat → Int32) : Option (Int32 × Int32 × Int32 × Int32 × Int32 × Int32 × Int32 × Int32 × Int32 × Int64 × Int32 × Int32 × (Nat → Int32) × (Nat → Int32) × (Nat → Int32) × Int32 × Int32 × Int32 × Int32 × Int32 × Int32 × Int32 × Int64 × Int32 × Int32 × (Nat → Int32) × (Nat → Int32) × (Nat → Int32)) :=
  (f_X0_chooseSafe_L7 f_o_taken f_o_size f_o_spot v_oc v_ok v_ow n n 0 (-1) f_a_value f_aF_moves f_aF_bounces f_aF_potted f_aF_brings f_aF_firstHitDirection f_aF_firstHitPower f_aF_foul f_aFT_taken f_aFT_size f_aFT_spot v_aFTc v_aFTk v_aFTw f_aS_moves f_aS_bounces f_aS_potted f_aS_brings f_aS_firstHitDirection f_aS_firstHitPower f_aS_foul f_aST_taken f_aST_size f_aST_spot v_aSTc v_aSTk v_aSTw)
def f_X0_tell (f_a_chosen : Int32) (f_a_value : Int32) (p1 : Int32) : Option (Int32) :=
  (if f_a_chosen = (-1) then (some (-1)) else (if p1 = 0 then (some (f_a_value + 100)) else (if p1 = 1 then ((f_X0_directionOf f_a_chosen).bind (fun u_4 => (some u_4))) else (if p1 = 2 then ((f_X0_strengthOf f_a_chosen).bind (fun u_6 => (some u_6))) else ((f_X0_spinOf f_a_chosen).bind (fun u_7 => (some u_7)))))))
def b_X0_canPotFrom_L3 (f_o_taken : Int64) (f_o_size : Int32) (f_o_spot : Int32) (v_oc : Nat → Int32) (v_ok : Nat → Int32) (v_ow : Nat → Int32) (p2 : Int32) (p3 : Int32) (n : Nat) (go_15 : Int32 → Int32 → Int32 → Int32 → Int32 → Int32 → Int32 → Int32 → Int64 → Int32 → Int32 → (Nat → Int32) → (Nat → Int32) → (Nat → Int32) → Option (Int32 × Int32 × Int32 × Int32 × Int32 × Int32 × Int32 × Int32 × Int64 × Int32 × Int32 × (Nat → Int32) × (Nat → Int32) × (Nat → Int32))) (x4_1 : Int32) (f_aF_moves_2 : Int32) (f_aF_bounces_3 : Int32) (f_aF_potted_4 : Int32) (f_aF_brings_5 : Int32) (f_aF_firstHitDirection_6 : Int32) (f_aF_firstHitPower_7 : Int32) (f_aF_foul_8 : Int32) (f_aFT_taken_9 : Int64) (f_aFT_size_10 : Int32) (f_aFT_spot_11 : Int32) (v_aFTc_12 : Nat → Int32) (v_aFTk_13 : Nat → Int32) (v_aFTw_14 : Nat → Int32) : Option (Int32 × Int32 × Int32 × Int32 × Int32 × Int32 × Int32 × Int32 × Int64 × Int32 × Int32 × (Nat → Int32) × (Nat → Int32) × (Nat → Int32)) :=
  (if 216 ≤ x4_1 then (some (0, f_aF_moves_2, f_aF_bounces_3, f_aF_potted_4, f_aF_brings_5, f_aF_firstHitDirection_6, f_aF_firstHitPower_7, f_aF_foul_8, f_aFT_taken_9, f_aFT_size_10, f_aFT_spot_11, v_aFTc_12, v_aFTk_13, v_aFTw_14)) else ((f_X9_begin f_aFT_taken_9 f_aFT_size_10 f_aFT_spot_11 v_aFTc_12 v_aFTk_13 v_aFTw_14 f_o_taken f_o_size f_o_spot v_oc v_ok v_ow).bind (fun u_18 => ((f_X10_lay u_18.1 u_18.2.2.2.1 0 p3).bind (fun u_19 => ((f_X0_directionOf x4_1).bind (fun u_20 => ((f_X0_strengthOf x4_1).bind (fun u_21 => ((f_X9_shoot n f_aF_moves_2 f_aF_bounces_3 f_aF_potted_4 f_aF_brings_5 f_aF_firstHitDirection_6 f_aF_firstHitPower_7 f_aF_foul_8 u_19.1 u_18.2.2.1 u_19.2 u_18.2.2.2.2.1 u_18.2.2.2.2.2 u_20 u_21 0).bind (fun u_22 => ((f_X9_hasPotted u_22.2.2.1 p2).bind (fun u_23 => (jn ((bnd (x4_1 + 3) (fun x4_25 => (go_15 x4_25 u_22.1 u_22.2.1 u_22.2.2.1 u_22.2.2.2.1 u_22.2.2.2.2.1 u_22.2.2.2.2.2.1 u_22.2.2.2.2.2.2.1 u_22.2.2.2.2.2.2.2.1 u_18.2.1 u_18.2.2.1 u_22.2.2.2.2.2.2.2.2 u_18.2.2.2.2.1 u_18.2.2.2.2.2)))) (fun (j72_24 : Option (Int32 × Int32 × Int32 × Int32 × Int32 × Int32 × Int32 × Int32 × Int64 × Int32 × Int32 × (Nat → Int32) × (Nat → Int32) × (Nat → Int32))) => (if u_23 = 0 then j72_24 else (if u_22.2.2.2.2.2.2.1 = 0 then (some (1, u_22.1, u_22.2.1, u_22.2.2.1, u_22.2.2.2.1, u_22.2.2.2.2.1, u_22.2.2.2.2.2.1, u_22.2.2.2.2.2.2.1, u_22.2.2.2.2.2.2.2.1, u_18.2.1, u_18.2.2.1, u_22.2.2.2.2.2.2.2.2, u_18.2.2.2.2.1, u_18.2.2.2.2.2)) else j72_24)))))))))))))))))
def f_X0_canPotFrom_L3 (f_o_taken : Int64) (f_o_size : Int32) (f_o_spot : Int32) (v_oc : Nat → Int32) (v_ok : Nat → Int32) (v_ow : Nat → Int32) (p2 : Int32) (p3 : Int32) (n : Nat) (k : Nat) (x4_1 : Int32) (f_aF_moves_2 : Int32) (f_aF_bounces_3 : Int32) (f_aF_potted_4 : Int32) (f_aF_brings_5 : Int32) (f_aF_firstHitDirection_6 : Int32) (f_aF_firstHitPower_7 : Int32) (f_aF_foul_8 : Int32) (f_aFT_taken_9 : Int64) (f_aFT_size_10 : Int32) (f_aFT_spot_11 : Int32) (v_aFTc_12 : Nat → Int32) (v_aFTk_13 : Nat → Int32) (v_aFTw_14 : Nat → Int32) : Option (Int32 × Int32 × Int32 × Int32 × Int32 × Int32 × Int32 × Int32 × Int64 × Int32 × Int32 × (Nat → Int32) × (Nat → Int32) × (Nat → Int32)) :=
  lpF (fun (self : (Int32 × Int32 × Int32 × Int32 × Int32 × Int32 × Int32 × Int32 × Int64 × Int32 × Int32 × (Nat → Int32) × (Nat → Int32) × (Nat → Int32)) → Option (Int32 × Int32 × Int32 × Int32 × Int32 × Int32 × Int32 × Int32 × Int64 × Int32 × Int32 × (Nat → Int32) × (Nat → Int32) × (Nat → Int32))) (a : Int32 × Int32 × Int32 × Int32 × Int32 × Int32 × Int32 × Int32 × Int64 × Int32 × Int32 × (Nat → Int32) × (Nat → Int32) × (Nat → Int32)) => b_X0_canPotFrom_L3 f_o_taken f_o_size f_o_spot v_oc v_ok v_ow p2 p3 n (fun x4_1 f_aF_moves_2 f_aF_bounces_3 f_aF_potted_4 f_aF_brings_5 f_aF_firstHitDirection_6 f_aF_firstHitPower_7 f_aF_foul_8 f_aFT_taken_9 f_aFT_size_10 f_aFT_spot_11 v_aFTc_12 v_aFTk_13 v_aFTw_14 => self (x4_1, f_aF_moves_2, f_aF_bounces_3, f_aF_potted_4, f_aF_brings_5, f_aF_firstHitDirection_6, f_aF_firstHitPower_7, f_aF_foul_8, f_aFT_taken_9, f_aFT_size_10, f_aFT_spot_11, v_aFTc_12, v_aFTk_13, v_aFTw_14)) a.1 a.2.1 a.2.2.1 a.2.2.2.1 a.2.2.2.2.1 a.2.2.2.2.2.1 a.2.2.2.2.2.2.1 a.2.2.2.2.2.2.2.1 a.2.2.2.2.2.2.2.2.1 a.2.2.2.2.2.2.2.2.2.1 a.2.2.2.2.2.2.2.2.2.2.1 a.2.2.2.2.2.2.2.2.2.2.2.1 a.2.2.2.2.2.2.2.2.2.2.2.2.1 a.2.2.2.2.2.2.2.2.2.2.2.2.2) k (x4_1, f_aF_moves_2, f_aF_bounces_3, f_aF_potted_4, f_aF_brings_5, f_aF_firstHitDirection_6, f_aF_firstHitPower_7, f_aF_foul_8, f_aFT_taken_9, f_aFT_size_10, f_aFT_spot_11, v_aFTc_12, v_aFTk_13, v_aFTw_14)
def f_X0_canPotFrom (n : Nat) (f_aF_moves : Int32) (f_aF_bounces : Int32) (f_aF_potted : Int32) (f_aF_brings : Int32) (f_aF_firstHitDirection : Int32) (f_aF_firstHitPower : Int32) (f_aF_foul : Int32) (f_aFT_taken : Int64) (f_aFT_size : Int32) (f_aFT_spot : Int32) (v_aFTc : Nat → Int32) (v_aFTk : Nat → Int32) (v_aFTw : Nat → Int32) (f_o_taken : Int64) (f_o_size : Int32) (f_o_spot : Int32) (v_oc : Nat → Int32) (v_ok : Nat → Int32) (v_ow : Nat → Int32) (p2 : Int32) (p3 : Int32) : Option (Int32 × Int32 × Int32 × Int32 × Int32 × Int32 × Int32 × Int32 × Int64 × Int32 × Int32 × (Nat → Int32) × (Nat → Int32) × (Nat → Int32)) :=
  (f_X0_canPotFrom_L3 f_o_taken f_o_size f_o_spot v_oc v_ok v_ow p2 p3 n n 0 f_aF_moves f_aF_bounces f_aF_potted f_aF_brings f_aF_firstHitDirection f_aF_firstHitPower f_aF_foul f_aFT_taken f_aFT_size f_aFT_spot v_aFTc v_aFTk v_aFTw)
def b_X0_cellsToPotFrom_L5 (f_o_taken : Int64) (f_o_size : Int32) (f_o_spot : Int32) (v_oc : Nat → Int32) (v_ok : Nat → Int32) (v_ow : Nat → Int32) (p2 : Int32) (n : Nat) (go_16 : Int64 → Int32 → Int32 → Int32 → Int32 → Int32 → Int32 → Int32 → Int32 → Int64 → Int32 → Int32 → (Nat → Int32) → (Nat → Int32) → (Nat → Int32) → Option (Int64 × Int32 × Int32 × Int32 × Int32 × Int32 × Int32 × Int32 × Int64 × Int32 × Int32 × (Nat → Int32) × (Nat → Int32) × (Nat → Int32))) (x3_1 : Int64) (x5_2 : Int32) (f_aF_moves_3 : Int32) (f_aF_bounces_4 : Int32) (f_aF_potted_5 : Int32) (f_aF_brings_6 : Int32) (f_aF_firstHitDirection_7 : Int32) (f_aF_firstHitPower_8 : Int32) (f_aF_foul_9 : Int32) (f_aFT_taken_10 : Int64) (f_aFT_size_11 : Int32) (f_aFT_spot_12 : Int32) (v_aFTc_13 : Nat → Int32) (v_aFTk_14 : Nat → Int32) (v_aFTw_15 : Nat → Int32) : Option (Int64 × Int32 × Int32 × Int32 × Int32 × Int32 × Int32 × Int32 × Int64 × Int32 × Int32 × (Nat → Int32) × (Nat → Int32) × (Nat → Int32)) :=
  (if 45 ≤ x5_2 then (some (x3_1, f_aF_moves_3, f_aF_bounces_4, f_aF_potted_5, f_aF_brings_6, f_aF_firstHitDirection_7, f_aF_firstHitPower_8, f_aF_foul_9, f_aFT_taken_10, f_aFT_size_11, f_aFT_spot_12, v_aFTc_13, v_aFTk_14, v_aFTw_15)) else ((f_X10_ballIn n f_o_taken v_oc x5_2).bind (fun u_19 => ((f_X11_isPocket x5_2).bind (fun u_20 => (jn (fun (k_21 : Int32) => (jn (fun (x3_23 : Int64) (f_aF_moves_24 : Int32) (f_aF_bounces_25 : Int32) (f_aF_potted_26 : Int32) (f_aF_brings_27 : Int32) (f_aF_firstHitDirection_28 : Int32) (f_aF_firstHitPower_29 : Int32) (f_aF_foul_30 : Int32) (f_aFT_taken_31 : Int64) (f_aFT_size_32 : Int32) (f_aFT_spot_33 : Int32) (v_aFTc_34 : Nat → Int32) (v_aFTk_35 : Nat → Int32) (v_aFTw_36 : Nat → Int32) => (bnd (x5_2 + 1) (fun x5_38 => (go_16 x3_23 x5_38 f_aF_moves_24 f_aF_bounces_25 f_aF_potted_26 f_aF_brings_27 f_aF_firstHitDirection_28 f_aF_firstHitPower_29 f_aF_foul_30 f_aFT_taken_31 f_aFT_size_32 f_aFT_spot_33 v_aFTc_34 v_aFTk_35 v_aFTw_36)))) (fun (j69_37 : Int64 → Int32 → Int32 → Int32 → Int32 → Int32 → Int32 → Int32 → Int64 → Int32 → Int32 → (Nat → Int32) → (Nat → Int32) → (Nat → Int32) → Option (Int64 × Int32 × Int32 × Int32 × Int32 × Int32 × Int32 × Int32 × Int64 × Int32 × Int32 × (Nat → Int32) × (Nat → Int32) × (Nat → Int32))) => (if k_21 = 0 then (j69_37 x3_1 f_aF_moves_3 f_aF_bounces_4 f_aF_potted_5 f_aF_brings_6 f_aF_firstHitDirection_7 f_aF_firstHitPower_8 f_aF_foul_9 f_aFT_taken_10 f_aFT_size_11 f_aFT_spot_12 v_aFTc_13 v_aFTk_14 v_aFTw_15) else ((f_X0_canPotFrom n f_aF_moves_3 f_aF_bounces_4 f_aF_potted_5 f_aF_brings_6 f_aF_firstHitDirection_7 f_aF_firstHitPower_8 f_aF_foul_9 f_aFT_taken_10 f_aFT_size_11 f_aFT_spot_12 v_aFTc_13 v_aFTk_14 v_aFTw_15 f_o_taken f_o_size f_o_spot v_oc v_ok v_ow p2 x5_2).bind (fun u_40 => (if u_40.1 = 0 then (j69_37 x3_1 u_40.2.1 u_40.2.2.1 u_40.2.2.2.1 u_40.2.2.2.2.1 u_40.2.2.2.2.2.1 u_40.2.2.2.2.2.2.1 u_40.2.2.2.2.2.2.2.1 u_40.2.2.2.2.2.2.2.2.1 u_40.2.2.2.2.2.2.2.2.2.1 u_40.2.2.2.2.2.2.2.2.2.2.1 u_40.2.2.2.2.2.2.2.2.2.2.2.1 u_40.2.2.2.2.2.2.2.2.2.2.2.2.1 u_40.2.2.2.2.2.2.2.2.2.2.2.2.2) else (bnd (x3_1 ||| (1 <<< (x5_2.toInt64 &&& 63))) (fun x3_42 => (j69_37 x3_42 u_40.2.1 u_40.2.2.1 u_40.2.2.2.1 u_40.2.2.2.2.1 u_40.2.2.2.2.2.1 u_40.2.2.2.2.2.2.1 u_40.2.2.2.2.2.2.2.1 u_40.2.2.2.2.2.2.2.2.1 u_40.2.2.2.2.2.2.2.2.2.1 u_40.2.2.2.2.2.2.2.2.2.2.1 u_40.2.2.2.2.2.2.2.2.2.2.2.1 u_40.2.2.2.2.2.2.2.2.2.2.2.2.1 u_40.2.2.2.2.2.2.2.2.2.2.2.2.2)))))))))) (fun (j44_22 : Int32 → Option (Int64 × Int32 × Int32 × Int32 × Int32 × Int32 × Int32 × Int32 × Int64 × Int32 × Int32 × (Nat → Int32) × (Nat → Int32) × (Nat → Int32))) => (jn ((j44_22 0)) (fun (j43_43 : Option (Int64 × Int32 × Int32 × Int32 × Int32 × Int32 × Int32 × Int32 × Int64 × Int32 × Int32 × (Nat → Int32) × (Nat → Int32) × (Nat → Int32))) => (if u_20 = 0 then (jn ((j44_22 1)) (fun (j39_45 : Option (Int64 × Int32 × Int32 × Int32 × Int32 × Int32 × Int32 × Int32 × Int64 × Int32 × Int32 × (Nat → Int32) × (Nat → Int32) × (Nat → Int32))) => (if u_19 = (-1) then j39_45 else (if u_19 = 0 then j39_45 else j43_43)))) else j43_43))))))))))
def f_X0_cellsToPotFrom_L5 (f_o_taken : Int64) (f_o_size : Int32) (f_o_spot : Int32) (v_oc : Nat → Int32) (v_ok : Nat → Int32) (v_ow : Nat → Int32) (p2 : Int32) (n : Nat) (k : Nat) (x3_1 : Int64) (x5_2 : Int32) (f_aF_moves_3 : Int32) (f_aF_bounces_4 : Int32) (f_aF_potted_5 : Int32) (f_aF_brings_6 : Int32) (f_aF_firstHitDirection_7 : Int32) (f_aF_firstHitPower_8 : Int32) (f_aF_foul_9 : Int32) (f_aFT_taken_10 : Int64) (f_aFT_size_11 : Int32) (f_aFT_spot_12 : Int32) (v_aFTc_13 : Nat → Int32) (v_aFTk_14 : Nat → Int32) (v_aFTw_15 : Nat → Int32) : Option (Int64 × Int32 × Int32 × Int32 × Int32 × Int32 × Int32 × Int32 × Int64 × Int32 × Int32 × (Nat → Int32) × (Nat → Int32) × (Nat → Int32)) :=
  lpF (fun (self : (Int64 × Int32 × Int32 × Int32 × Int32 × Int32 × Int32 × Int32 × Int32 × Int64 × Int32 × Int32 × (Nat → Int32) × (Nat → Int32) × (Nat → Int32)) → Option (Int64 × Int32 × Int32 × Int32 × Int32 × Int32 × Int32 × Int32 × Int64 × Int32 × Int32 × (Nat → Int32) × (Nat → Int32) × (Nat → Int32))) (a : Int64 × Int32 × Int32 × Int32 × Int32 × Int32 × Int32 × Int32 × Int32 × Int64 × Int32 × Int32 × (Nat → Int32) × (Nat → Int32) × (Nat → Int32)) => b_X0_cellsToPotFrom_L5 f_o_taken f_o_size f_o_spot v_oc v_ok v_ow p2 n (fun x3_1 x5_2 f_aF_moves_3 f_aF_bounces_4 f_aF_potted_5 f_aF_brings_6 f_aF_firstHitDirection_7 f_aF_firstHitPower_8 f_aF_foul_9 f_aFT_taken_10 f_aFT_size_11 f_aFT_spot_12 v_aFTc_13 v_aFTk_14 v_aFTw_15 => self (x3_1, x5_2, f_aF_moves_3, f_aF_bounces_4, f_aF_potted_5, f_aF_brings_6, f_aF_firstHitDirection_7, f_aF_firstHitPower_8, f_aF_foul_9, f_aFT_taken_10, f_aFT_size_11, f_aFT_spot_12, v_aFTc_13, v_aFTk_14, v_aFTw_15)) a.1 a.2.1 a.2.2.1 a.2.2.2.1 a.2.2.2.2.1 a.2.2.2.2.2.1 a.2.2.2.2.2.2.1 a.2.2.2.2.2.2.2.1 a.2.2.2.2.2.2.2.2.1 a.2.2.2.2.2.2.2.2.2.1 a.2.2.2.2.2.2.2.2.2.2.1 a.2.2.2.2.2.2.2.2.2.2.2.1 a.2.2.2.2.2.2.2.2.2.2.2.2.1 a.2.2.2.2.2.2.2.2.2.2.2.2.2.1 a.2.2.2.2.2.2.2.2.2.2.2.2.2.2) k (x3_1, x5_2, f_aF_moves_3, f_aF_bounces_4, f_aF_potted_5, f_aF_brings_6, f_aF_firstHitDirection_7, f_aF_firstHitPower_8, f_aF_foul_9, f_aFT_taken_10, f_aFT_size_11, f_aFT_spot_12, v_aFTc_13, v_aFTk_14, v_aFTw_15)
def f_X0_cellsToPotFrom (n : Nat) (f_aF_moves : Int32) (f_aF_bounces : Int32) (f_aF_potted : Int32) (f_aF_brings : Int32) (f_aF_firstHitDirection : Int32) (f_aF_firstHitPower : Int32) (f_aF_foul : Int32) (f_aFT_taken : Int64) (f_aFT_size : Int32) (f_aFT_spot : Int32) (v_aFTc : Nat → Int32) (v_aFTk : Nat → Int32) (v_aFTw : Nat → Int32) (f_o_taken : Int64) (f_o_size : Int32) (f_o_spot : Int32) (v_oc : Nat → Int32) (v_ok : Nat → Int32) (v_ow : Nat → Int32) (p2 : Int32) : Option (Int64 × Int32 × Int32 × Int32 × Int32 × Int32 × Int32 × Int32 × Int64 × Int32 × Int32 × (Nat → Int32) × (Nat → Int32) × (Nat → Int32)) :=
  (f_X0_cellsToPotFrom_L5 f_o_taken f_o_size f_o_spot v_oc v_ok v_ow p2 n n 0 0 f_aF_moves f_aF_bounces f_aF_potted f_aF_brings f_aF_firstHitDirection f_aF_firstHitPower f_aF_foul f_aFT_taken f_aFT_size f_aFT_spot v_aFTc v_aFTk v_aFTw)
def f_X4_endAs (n : Nat) (f_uF_moves : Int32) (f_uF_bounces : Int32) (f_uF_potted : Int32) (f_uF_brings : Int32) (f_uF_firstHitDirection : Int32) (f_uF_firstHitPower : Int32) (f_uF_foul : Int32) (f_uFT_taken : Int64) (f_uFT_size : Int32) (f_uFT_spot : Int32) (v_uFTc : Nat → Int32) (v_uFTk : Nat → Int32) (v_uFTw : Nat → Int32) (f_o_taken : Int64) (f_o_size : Int32) (f_o_spot : Int32) (v_oc : Nat → Int32) (v_ok : Nat → Int32) (v_ow : Nat → Int32) (p2 : Int32) (p3 : Int32) (p4 : Int32) (p5 : Int32) : Option (Int32 × Int32 × Int32 × Int32 × Int32 × Int32 × Int32 × Int32 × Int64 × Int32 × Int32 × (Nat → Int32) × (Nat → Int32) × (Nat → Int32)) :=
  ((f_X9_begin f_uFT_taken f_uFT_size f_uFT_spot v_uFTc v_uFTk v_uFTw f_o_taken f_o_size f_o_spot v_oc v_ok v_ow).bind (fun u_1 => ((f_X10_setKind u_1.2.2.2.2.1 p2 p3).bind (fun u_2 => ((f_X9_shoot n f_uF_moves f_uF_bounces f_uF_potted f_uF_brings f_uF_firstHitDirection f_uF_firstHitPower f_uF_foul u_1.1 u_1.2.2.1 u_1.2.2.2.1 u_2 u_1.2.2.2.2.2 p4 p5 0).bind (fun u_3 => ((f_X10_cellOf u_3.2.2.2.2.2.2.2.2 p2).bind (fun u_4 => (some (u_4, u_3.1, u_3.2.1, u_3.2.2.1, u_3.2.2.2.1, u_3.2.2.2.2.1, u_3.2.2.2.2.2.1, u_3.2.2.2.2.2.2.1, u_3.2.2.2.2.2.2.2.1, u_1.2.1, u_1.2.2.1, u_3.2.2.2.2.2.2.2.2, u_2, u_1.2.2.2.2.2))))))))))
def b_X4_possibleKinds_L39 (f_oT_taken : Int64) (f_oT_size : Int32) (f_oT_spot : Int32) (v_oTc : Nat → Int32) (v_oTk : Nat → Int32) (v_oTw : Nat → Int32) (v_od : Nat → Int32) (v_oe : Nat → Int32) (v_of : Nat → Int32) (p2 : Int32) (n : Nat) (x4_2 : Int32) (j99_35 : Int32 → Int32 → Int32 → Int32 → Int32 → Int32 → Int32 → Int32 → Int64 → Int32 → Int32 → (Nat → Int32) → (Nat → Int32) → (Nat → Int32) → Option (Int32 × Int32 × Int32 × Int32 × Int32 × Int32 × Int32 × Int32 × Int64 × Int32 × Int32 × (Nat → Int32) × (Nat → Int32) × (Nat → Int32))) (go_53 : Int32 → Int32 → Int32 → Int32 → Int32 → Int32 → Int32 → Int32 → Int32 → Int64 → Int32 → Int32 → (Nat → Int32) → (Nat → Int32) → (Nat → Int32) → Option (Int32 × Int32 × Int32 × Int32 × Int32 × Int32 × Int32 × Int32 × Int64 × Int32 × Int32 × (Nat → Int32) × (Nat → Int32) × (Nat → Int32))) (x3_38 : Int32) (x5_39 : Int32) (f_uF_moves_40 : Int32) (f_uF_bounces_41 : Int32) (f_uF_potted_42 : Int32) (f_uF_brings_43 : Int32) (f_uF_firstHitDirection_44 : Int32) (f_uF_firstHitPower_45 : Int32) (f_uF_foul_46 : Int32) (f_uFT_taken_47 : Int64) (f_uFT_size_48 : Int32) (f_uFT_spot_49 : Int32) (v_uFTc_50 : Nat → Int32) (v_uFTk_51 : Nat → Int32) (v_uFTw_52 : Nat → Int32) : Option (Int32 × Int32 × Int32 × Int32 × Int32 × Int32 × Int32 × Int32 × Int64 × Int32 × Int32 × (Nat → Int32) × (Nat → Int32) × (Nat → Int32)) :=
  (if 5 ≤ x5_39 then (j99_35 x3_38 f_uF_moves_40 f_uF_bounces_41 f_uF_potted_42 f_uF_brings_43 f_uF_firstHitDirection_44 f_uF_firstHitPower_45 f_uF_foul_46 f_uFT_taken_47 f_uFT_size_48 f_uFT_spot_49 v_uFTc_50 v_uFTk_51 v_uFTw_52) else (gd (inb x4_2 6) (gd (inb x4_2 6) ((f_X4_endAs n f_uF_moves_40 f_uF_bounces_41 f_uF_potted_42 f_uF_brings_43 f_uF_firstHitDirection_44 f_uF_firstHitPower_45 f_uF_foul_46 f_uFT_taken_47 f_uFT_size_48 f_uFT_spot_49 v_uFTc_50 v_uFTk_51 v_uFTw_52 f_oT_taken f_oT_size f_oT_spot v_oTc v_oTk v_oTw p2 x5_39 (v_od x4_2.toNatClampNeg) (v_oe x4_2.toNatClampNeg)).bind (fun u_58 => (gd (inb x4_2 6) (jn (fun (x3_60 : Int32) => (bnd (x5_39 + 1) (fun x5_62 => (go_53 x3_60 x5_62 u_58.2.1 u_58.2.2.1 u_58.2.2.2.1 u_58.2.2.2.2.1 u_58.2.2.2.2.2.1 u_58.2.2.2.2.2.2.1 u_58.2.2.2.2.2.2.2.1 u_58.2.2.2.2.2.2.2.2.1 u_58.2.2.2.2.2.2.2.2.2.1 u_58.2.2.2.2.2.2.2.2.2.2.1 u_58.2.2.2.2.2.2.2.2.2.2.2.1 u_58.2.2.2.2.2.2.2.2.2.2.2.2.1 u_58.2.2.2.2.2.2.2.2.2.2.2.2.2)))) (fun (j93_61 : Int32 → Option (Int32 × Int32 × Int32 × Int32 × Int32 × Int32 × Int32 × Int32 × Int64 × Int32 × Int32 × (Nat → Int32) × (Nat → Int32) × (Nat → Int32))) => (if u_58.1 = (v_of x4_2.toNatClampNeg) then (j93_61 x3_38) else (bnd (x3_38 &&& ((1 <<< (x5_39 &&& 31)) ^^^ (-1))) (fun x3_64 => (j93_61 x3_64))))))))))))
def f_X4_possibleKinds_L39 (f_oT_taken : Int64) (f_oT_size : Int32) (f_oT_spot : Int32) (v_oTc : Nat → Int32) (v_oTk : Nat → Int32) (v_oTw : Nat → Int32) (v_od : Nat → Int32) (v_oe : Nat → Int32) (v_of : Nat → Int32) (p2 : Int32) (n : Nat) (x4_2 : Int32) (j99_35 : Int32 → Int32 → Int32 → Int32 → Int32 → Int32 → Int32 → Int32 → Int64 → Int32 → Int32 → (Nat → Int32) → (Nat → Int32) → (Nat → Int32) → Option (Int32 × Int32 × Int32 × Int32 × Int32 × Int32 × Int32 × Int32 × Int64 × Int32 × Int32 × (Nat → Int32) × (Nat → Int32) × (Nat → Int32))) (k : Nat) (x3_38 : Int32) (x5_39 : Int32) (f_uF_moves_40 : Int32) (f_uF_bounces_41 : Int32) (f_uF_potted_42 : Int32) (f_uF_brings_43 : Int32) (f_uF_firstHitDirection_44 : Int32) (f_uF_firstHitPower_45 : Int32) (f_uF_foul_46 : Int32) (f_uFT_taken_47 : Int64) (f_uFT_size_48 : Int32) (f_uFT_spot_49 : Int32) (v_uFTc_50 : Nat → Int32) (v_uFTk_51 : Nat → Int32) (v_uFTw_52 : Nat → Int32) : Option (Int32 × Int32 × Int32 × Int32 × Int32 × Int32 × Int32 × Int32 × Int64 × Int32 × Int32 × (Nat → Int32) × (Nat → Int32) × (Nat → Int32)) :=
  lpF (fun (self : (Int32 × Int32 × Int32 × Int32 × Int32 × Int32 × Int32 × Int32 × Int32 × Int64 × Int32 × Int32 × (Nat → Int32) × (Nat → Int32) × (Nat → Int32)) → Option (Int32 × Int32 × Int32 × Int32 × Int32 × Int32 × Int32 × Int32 × Int64 × Int32 × Int32 × (Nat → Int32) × (Nat → Int32) × (Nat → Int32))) (a : Int32 × Int32 × Int32 × Int32 × Int32 × Int32 × Int32 × Int32 × Int32 × Int64 × Int32 × Int32 × (Nat → Int32) × (Nat → Int32) × (Nat → Int32)) => b_X4_possibleKinds_L39 f_oT_taken f_oT_size f_oT_spot v_oTc v_oTk v_oTw v_od v_oe v_of p2 n x4_2 j99_35 (fun x3_38 x5_39 f_uF_moves_40 f_uF_bounces_41 f_uF_potted_42 f_uF_brings_43 f_uF_firstHitDirection_44 f_uF_firstHitPower_45 f_uF_foul_46 f_uFT_taken_47 f_uFT_size_48 f_uFT_spot_49 v_uFTc_50 v_uFTk_51 v_uFTw_52 => self (x3_38, x5_39, f_uF_moves_40, f_uF_bounces_41, f_uF_potted_42, f_uF_brings_43, f_uF_firstHitDirection_44, f_uF_firstHitPower_45, f_uF_foul_46, f_uFT_taken_47, f_uFT_size_48, f_uFT_spot_49, v_uFTc_50, v_uFTk_51, v_uFTw_52)) a.1 a.2.1 a.2.2.1 a.2.2.2.1 a.2.2.2.2.1 a.2.2.2.2.2.1 a.2.2.2.2.2.2.1 a.2.2.2.2.2.2.2.1 a.2.2.2.2.2.2.2.2.1 a.2.2.2.2.2.2.2.2.2.1 a.2.2.2.2.2.2.2.2.2.2.1 a.2.2.2.2.2.2.2.2.2.2.2.1 a.2.2.2.2.2.2.2.2.2.2.2.2.1 a.2.2.2.2.2.2.2.2.2.2.2.2.2.1 a.2.2.2.2.2.2.2.2.2.2.2.2.2.2) k (x3_38, x5_39, f_uF_moves_40, f_uF_bounces_41, f_uF_potted_42, f_uF_brings_43, f_uF_firstHitDirection_44, f_uF_firstHitPower_45, f_uF_foul_46, f_uFT_taken_47, f_uFT_size_48, f_uFT_spot_49, v_uFTc_50, v_uFTk_51, v_uFTw_52)
def b_X4_possibleKinds_L6 (f_o_seen : Int32) (f_oT_taken : Int64) (f_oT_size : Int32) (f_oT_spot : Int32) (v_oTc : Nat → Int32) (v_oTk : Nat → Int32) (v_oTw : Nat → Int32) (v_ob : Nat → Int32) (v_od : Nat → Int32) (v_oe : Nat → Int32) (v_of : Nat → Int32) (p2 : Int32) (n : Nat) (go_16 : Int32 → Int32 → Int32 → Int32 → Int32 → Int32 → Int32 → Int32 → Int32 → Int64 → Int32 → Int32 → (Nat → Int32) → (Nat → Int32) → (Nat → Int32) → Option (Int32 × Int32 × Int32 × Int32 × Int32 × Int32 × Int32 × Int32 × Int64 × Int32 × Int32 × (Nat → Int32) × (Nat → Int32) × (Nat → Int32))) (x3_1 : Int32) (x4_2 : Int32) (f_uF_moves_3 : Int32) (f_uF_bounces_4 : Int32) (f_uF_potted_5 : Int32) (f_uF_brings_6 : Int32) (f_uF_firstHitDirection_7 : Int32) (f_uF_firstHitPower_8 : Int32) (f_uF_foul_9 : Int32) (f_uFT_taken_10 : Int64) (f_uFT_size_11 : Int32) (f_uFT_spot_12 : Int32) (v_uFTc_13 : Nat → Int32) (v_uFTk_14 : Nat → Int32) (v_uFTw_15 : Nat → Int32) : Option (Int32 × Int32 × Int32 × Int32 × Int32 × Int32 × Int32 × Int32 × Int64 × Int32 × Int32 × (Nat → Int32) × (Nat → Int32) × (Nat → Int32)) :=
  (if f_o_seen ≤ x4_2 then (some (x3_1, f_uF_moves_3, f_uF_bounces_4, f_uF_potted_5, f_uF_brings_6, f_uF_firstHitDirection_7, f_uF_firstHitPower_8, f_uF_foul_9, f_uFT_taken_10, f_uFT_size_11, f_uFT_spot_12, v_uFTc_13, v_uFTk_14, v_uFTw_15)) else (if 6 ≤ x4_2 then (some (x3_1, f_uF_moves_3, f_uF_bounces_4, f_uF_potted_5, f_uF_brings_6, f_uF_firstHitDirection_7, f_uF_firstHitPower_8, f_uF_foul_9, f_uFT_taken_10, f_uFT_size_11, f_uFT_spot_12, v_uFTc_13, v_uFTk_14, v_uFTw_15)) else (gd (inb x4_2 6) (jn (fun (x3_21 : Int32) (f_uF_moves_22 : Int32) (f_uF_bounces_23 : Int32) (f_uF_potted_24 : Int32) (f_uF_brings_25 : Int32) (f_uF_firstHitDirection_26 : Int32) (f_uF_firstHitPower_27 : Int32) (f_uF_foul_28 : Int32) (f_uFT_taken_29 : Int64) (f_uFT_size_30 : Int32) (f_uFT_spot_31 : Int32) (v_uFTc_32 : Nat → Int32) (v_uFTk_33 : Nat → Int32) (v_uFTw_34 : Nat → Int32) => (bnd (x4_2 + 1) (fun x4_36 => (go_16 x3_21 x4_36 f_uF_moves_22 f_uF_bounces_23 f_uF_potted_24 f_uF_brings_25 f_uF_firstHitDirection_26 f_uF_firstHitPower_27 f_uF_foul_28 f_uFT_taken_29 f_uFT_size_30 f_uFT_spot_31 v_uFTc_32 v_uFTk_33 v_uFTw_34)))) (fun (j99_35 : Int32 → Int32 → Int32 → Int32 → Int32 → Int32 → Int32 → Int32 → Int64 → Int32 → Int32 → (Nat → Int32) → (Nat → Int32) → (Nat → Int32) → Option (Int32 × Int32 × Int32 × Int32 × Int32 × Int32 × Int32 × Int32 × Int64 × Int32 × Int32 × (Nat → Int32) × (Nat → Int32) × (Nat → Int32))) => (if (v_ob x4_2.toNatClampNeg) = p2 then (f_X4_possibleKinds_L39 f_oT_taken f_oT_size f_oT_spot v_oTc v_oTk v_oTw v_od v_oe v_of p2 n x4_2 j99_35 n x3_1 0 f_uF_moves_3 f_uF_bounces_4 f_uF_potted_5 f_uF_brings_6 f_uF_firstHitDirection_7 f_uF_firstHitPower_8 f_uF_foul_9 f_uFT_taken_10 f_uFT_size_11 f_uFT_spot_12 v_uFTc_13 v_uFTk_14 v_uFTw_15) else (j99_35 x3_1 f_uF_moves_3 f_uF_bounces_4 f_uF_potted_5 f_uF_brings_6 f_uF_firstHitDirection_7 f_uF_firstHitPower_8 f_uF_foul_9 f_uFT_taken_10 f_uFT_size_11 f_uFT_spot_12 v_uFTc_13 v_uFTk_14 v_uFTw_15)))))))
def f_X4_possibleKinds_L6 (f_o_seen : Int32) (f_oT_taken : Int64) (f_oT_size : Int32) (f_oT_spot : Int32) (v_oTc : Nat → Int32) (v_oTk : Nat → Int32) (v_oTw : Nat → Int32) (v_ob : Nat → Int32) (v_od : Nat → Int32) (v_oe : Nat → Int32) (v_of : Nat → Int32) (p2 : Int32) (n : Nat) (k : Nat) (x3_1 : Int32) (x4_2 : Int32) (f_uF_moves_3 : Int32) (f_uF_bounces_4 : Int32) (f_uF_potted_5 : Int32) (f_uF_brings_6 : Int32) (f_uF_firstHitDirection_7 : Int32) (f_uF_firstHitPower_8 : Int32) (f_uF_foul_9 : Int32) (f_uFT_taken_10 : Int64) (f_uFT_size_11 : Int32) (f_uFT_spot_12 : Int32) (v_uFTc_13 : Nat → Int32) (v_uFTk_14 : Nat → Int32) (v_uFTw_15 : Nat → Int32) : Option (Int32 × Int32 × Int32 × Int32 × Int32 × Int32 × Int32 × Int32 × Int64 × Int32 × Int32 × (Nat → Int32) × (Nat → Int32) × (Nat → Int32)) :=
  lpF (fun (self : (Int32 × Int32 × Int32 × Int32 × Int32 × Int32 × Int32 × Int32 × Int32 × Int64 × Int32 × Int32 × (Nat → Int32) × (Nat → Int32) × (Nat → Int32)) → Option (Int32 × Int32 × Int32 × Int32 × Int32 × Int32 × Int32 × Int32 × Int64 × Int32 × Int32 × (Nat → Int32) × (Nat → Int32) × (Nat → Int32))) (a : Int32 × Int32 × Int32 × Int32 × Int32 × Int32 × Int32 × Int32 × Int32 × Int64 × Int32 × Int32 × (Nat → Int32) × (Nat → Int32) × (Nat → Int32)) => b_X4_possibleKinds_L6 f_o_seen f_oT_taken f_oT_size f_oT_spot v_oTc v_oTk v_oTw v_ob v_od v_oe v_of p2 n (fun x3_1 x4_2 f_uF_moves_3 f_uF_bounces_4 f_uF_potted_5 f_uF_brings_6 f_uF_firstHitDirection_7 f_uF_firstHitPower_8 f_uF_foul_9 f_uFT_taken_10 f_uFT_size_11 f_uFT_spot_12 v_uFTc_13 v_uFTk_14 v_uFTw_15 => self (x3_1, x4_2, f_uF_moves_3, f_uF_bounces_4, f_uF_potted_5, f_uF_brings_6, f_uF_firstHitDirection_7, f_uF_firstHitPower_8, f_uF_foul_9, f_uFT_taken_10, f_uFT_size_11, f_uFT_spot_12, v_uFTc_13, v_uFTk_14, v_uFTw_15)) a.1 a.2.1 a.2.2.1 a.2.2.2.1 a.2.2.2.2.1 a.2.2.2.2.2.1 a.2.2.2.2.2.2.1 a.2.2.2.2.2.2.2.1 a.2.2.2.2.2.2.2.2.1 a.2.2.2.2.2.2.2.2.2.1 a.2.2.2.2.2.2.2.2.2.2.1 a.2.2.2.2.2.2.2.2.2.2.2.1 a.2.2.2.2.2.2.2.2.2.2.2.2.1 a.2.2.2.2.2.2.2.2.2.2.2.2.2.1 a.2.2.2.2.2.2.2.2.2.2.2.2.2.2) k (x3_1, x4_2, f_uF_moves_3, f_uF_bounces_4, f_uF_potted_5, f_uF_brings_6, f_uF_firstHitDirection_7, f_uF_firstHitPower_8, f_uF_foul_9, f_uFT_taken_10, f_uFT_size_11, f_uFT_spot_12, v_uFTc_13, v_uFTk_14, v_uFTw_15)
def f_X4_possibleKinds (n : Nat) (f_uF_moves : Int32) (f_uF_bounces : Int32) (f_uF_potted : Int32) (f_uF_brings : Int32) (f_uF_firstHitDirection : Int32) (f_uF_firstHitPower : Int32) (f_uF_foul : Int32) (f_uFT_taken : Int64) (f_uFT_size : Int32) (f_uFT_spot : Int32) (v_uFTc : Nat → Int32) (v_uFTk : Nat → Int32) (v_uFTw : Nat → Int32) (f_o_seen : Int32) (f_oT_taken : Int64) (f_oT_size : Int32) (f_oT_spot : Int32) (v_oTc : Nat → Int32) (v_oTk : Nat → Int32) (v_oTw : Nat → Int32) (v_ob : Nat → Int32) (v_od : Nat → Int32) (v_oe : Nat → Int32) (v_of : Nat → Int32) (p2 : Int32) : Option (Int32 × Int32 × Int32 × Int32 × Int32 × Int32 × Int32 × Int32 × Int64 × Int32 × Int32 × (Nat → Int32) × (Nat → Int32) × (Nat → Int32)) :=
  (f_X4_possibleKinds_L6 f_o_seen f_oT_taken f_oT_size f_oT_spot v_oTc v_oTk v_oTw v_ob v_od v_oe v_of p2 n n 31 0 f_uF_moves f_uF_bounces f_uF_potted f_uF_brings f_uF_firstHitDirection f_uF_firstHitPower f_uF_foul f_uFT_taken f_uFT_size f_uFT_spot v_uFTc v_uFTk v_uFTw)
def b_X4_leftAtWorst_L49 (p4 : Int32) (x6_2 : Int32) (v_un_16 : Nat → Int32) (u_38 : Int32 × Int32 × Int32 × Int32 × Int32 × Int32 × Int32 × Int32 × Int64 × Int32 × Int32 × (Nat → Int32) × (Nat → Int32) × (Nat → Int32)) (j92_41 : Int32 → Option (Int32 × Int32 × Int32 × Int32 × Int32 × Int32 × Int32 × Int32 × Int64 × Int32 × Int32 × (Nat → Int32) × (Nat → Int32) × (Nat → Int32) × (Nat → Int32))) (go_45 : Int32 → Int32 → Option (Int32 × Int32 × Int32 × Int32 × Int32 × Int32 × Int32 × Int32 × Int64 × Int32 × Int32 × (Nat → Int32) × (Nat → Int32) × (Nat → Int32) × (Nat → Int32))) (x7_43 : Int32) (x8_44 : Int32) : Option (Int32 × Int32 × Int32 × Int32 × Int32 × Int32 × Int32 × Int32 × Int64 × Int32 × Int32 × (Nat → Int32) × (Nat → Int32) × (Nat → Int32) × (Nat → Int32)) :=
  (if x6_2 < x8_44 then (j92_41 x7_43) else (jn (fun (x7_48 : Int32) => (bnd (x8_44 + 1) (fun x8_50 => (go_45 x7_48 x8_50)))) (fun (j86_49 : Int32 → Option (Int32 × Int32 × Int32 × Int32 × Int32 × Int32 × Int32 × Int32 × Int64 × Int32 × Int32 × (Nat → Int32) × (Nat → Int32) × (Nat → Int32) × (Nat → Int32))) => (if ((p4 >>> (x8_44 &&& 31)) &&& 1) = 0 then (j86_49 x7_43) else (gd (inb x8_44 5) (gd (inb x6_2 5) (if ((upd v_un_16 x6_2.toNatClampNeg u_38.1) x8_44.toNatClampNeg) = ((upd v_un_16 x6_2.toNatClampNeg u_38.1) x6_2.toNatClampNeg) then (bnd (x7_43 + 1) (fun x7_55 => (j86_49 x7_55))) else (j86_49 x7_43))))))))
def f_X4_leftAtWorst_L49 (p4 : Int32) (x6_2 : Int32) (v_un_16 : Nat → Int32) (u_38 : Int32 × Int32 × Int32 × Int32 × Int32 × Int32 × Int32 × Int32 × Int64 × Int32 × Int32 × (Nat → Int32) × (Nat → Int32) × (Nat → Int32)) (j92_41 : Int32 → Option (Int32 × Int32 × Int32 × Int32 × Int32 × Int32 × Int32 × Int32 × Int64 × Int32 × Int32 × (Nat → Int32) × (Nat → Int32) × (Nat → Int32) × (Nat → Int32))) (k : Nat) (x7_43 : Int32) (x8_44 : Int32) : Option (Int32 × Int32 × Int32 × Int32 × Int32 × Int32 × Int32 × Int32 × Int64 × Int32 × Int32 × (Nat → Int32) × (Nat → Int32) × (Nat → Int32) × (Nat → Int32)) :=
  lpF (fun (self : (Int32 × Int32) → Option (Int32 × Int32 × Int32 × Int32 × Int32 × Int32 × Int32 × Int32 × Int64 × Int32 × Int32 × (Nat → Int32) × (Nat → Int32) × (Nat → Int32) × (Nat → Int32))) (a : Int32 × Int32) => b_X4_leftAtWorst_L49 p4 x6_2 v_un_16 u_38 j92_41 (fun x7_43 x8_44 => self (x7_43, x8_44)) a.1 a.2) k (x7_43, x8_44)
def b_X4_leftAtWorst_L6 (f_o_taken : Int64) (f_o_size : Int32) (f_o_spot : Int32) (v_oc : Nat → Int32) (v_ok : Nat → Int32) (v_ow : Nat → Int32) (p2 : Int32) (p3 : Int32) (p4 : Int32) (n : Nat) (go_17 : Int32 → Int32 → Int32 → Int32 → Int32 → Int32 → Int32 → Int32 → Int32 → Int64 → Int32 → Int32 → (Nat → Int32) → (Nat → Int32) → (Nat → Int32) → (Nat → Int32) → Option (Int32 × Int32 × Int32 × Int32 × Int32 × Int32 × Int32 × Int32 × Int64 × Int32 × Int32 × (Nat → Int32) × (Nat → Int32) × (Nat → Int32) × (Nat → Int32))) (x5_1 : Int32) (x6_2 : Int32) (f_uF_moves_3 : Int32) (f_uF_bounces_4 : Int32) (f_uF_potted_5 : Int32) (f_uF_brings_6 : Int32) (f_uF_firstHitDirection_7 : Int32) (f_uF_firstHitPower_8 : Int32) (f_uF_foul_9 : Int32) (f_uFT_taken_10 : Int64) (f_uFT_size_11 : Int32) (f_uFT_spot_12 : Int32) (v_uFTc_13 : Nat → Int32) (v_uFTk_14 : Nat → Int32) (v_uFTw_15 : Nat → Int32) (v_un_16 : Nat → Int32) : Option (Int32 × Int32 × Int32 × Int32 × Int32 × Int32 × Int32 × Int32 × Int64 × Int32 × Int32 × (Nat → Int32) × (Nat → Int32) × (Nat → Int32) × (Nat → Int32)) :=
  (if 5 ≤ x6_2 then (some (x5_1, f_uF_moves_3, f_uF_bounces_4, f_uF_potted_5, f_uF_brings_6, f_uF_firstHitDirection_7, f_uF_firstHitPower_8, f_uF_foul_9, f_uFT_taken_10, f_uFT_size_11, f_uFT_spot_12, v_uFTc_13, v_uFTk_14, v_uFTw_15, v_un_16)) else (jn (fun (x5_20 : Int32) (f_uF_moves_21 : Int32) (f_uF_bounces_22 : Int32) (f_uF_potted_23 : Int32) (f_uF_brings_24 : Int32) (f_uF_firstHitDirection_25 : Int32) (f_uF_firstHitPower_26 : Int32) (f_uF_foul_27 : Int32) (f_uFT_taken_28 : Int64) (f_uFT_size_29 : Int32) (f_uFT_spot_30 : Int32) (v_uFTc_31 : Nat → Int32) (v_uFTk_32 : Nat → Int32) (v_uFTw_33 : Nat → Int32) (v_un_34 : Nat → Int32) => (bnd (x6_2 + 1) (fun x6_36 => (go_17 x5_20 x6_36 f_uF_moves_21 f_uF_bounces_22 f_uF_potted_23 f_uF_brings_24 f_uF_firstHitDirection_25 f_uF_firstHitPower_26 f_uF_foul_27 f_uFT_taken_28 f_uFT_size_29 f_uFT_spot_30 v_uFTc_31 v_uFTk_32 v_uFTw_33 v_un_34)))) (fun (j101_35 : Int32 → Int32 → Int32 → Int32 → Int32 → Int32 → Int32 → Int32 → Int64 → Int32 → Int32 → (Nat → Int32) → (Nat → Int32) → (Nat → Int32) → (Nat → Int32) → Option (Int32 × Int32 × Int32 × Int32 × Int32 × Int32 × Int32 × Int32 × Int64 × Int32 × Int32 × (Nat → Int32) × (Nat → Int32) × (Nat → Int32) × (Nat → Int32))) => (if ((p4 >>> (x6_2 &&& 31)) &&& 1) = 0 then (j101_35 x5_1 f_uF_moves_3 f_uF_bounces_4 f_uF_potted_5 f_uF_brings_6 f_uF_firstHitDirection_7 f_uF_firstHitPower_8 f_uF_foul_9 f_uFT_taken_10 f_uFT_size_11 f_uFT_spot_12 v_uFTc_13 v_uFTk_14 v_uFTw_15 v_un_16) else ((f_X4_endAs n f_uF_moves_3 f_uF_bounces_4 f_uF_potted_5 f_uF_brings_6 f_uF_firstHitDirection_7 f_uF_firstHitPower_8 f_uF_foul_9 f_uFT_taken_10 f_uFT_size_11 f_uFT_spot_12 v_uFTc_13 v_uFTk_14 v_uFTw_15 f_o_taken f_o_size f_o_spot v_oc v_ok v_ow p2 x6_2 p3 6).bind (fun u_38 => (gd (inb x6_2 5) (jn (fun (x7_40 : Int32) => (bnd (if x5_1 < x7_40 then x7_40 else x5_1) (fun x5_42 => (j101_35 x5_42 u_38.2.1 u_38.2.2.1 u_38.2.2.2.1 u_38.2.2.2.2.1 u_38.2.2.2.2.2.1 u_38.2.2.2.2.2.2.1 u_38.2.2.2.2.2.2.2.1 u_38.2.2.2.2.2.2.2.2.1 u_38.2.2.2.2.2.2.2.2.2.1 u_38.2.2.2.2.2.2.2.2.2.2.1 u_38.2.2.2.2.2.2.2.2.2.2.2.1 u_38.2.2.2.2.2.2.2.2.2.2.2.2.1 u_38.2.2.2.2.2.2.2.2.2.2.2.2.2 (upd v_un_16 x6_2.toNatClampNeg u_38.1))))) (fun (j92_41 : Int32 → Option (Int32 × Int32 × Int32 × Int32 × Int32 × Int32 × Int32 × Int32 × Int64 × Int32 × Int32 × (Nat → Int32) × (Nat → Int32) × (Nat → Int32) × (Nat → Int32))) => (f_X4_leftAtWorst_L49 p4 x6_2 v_un_16 u_38 j92_41 n 0 0))))))))))
def f_X4_leftAtWorst_L6 (f_o_taken : Int64) (f_o_size : Int32) (f_o_spot : Int32) (v_oc : Nat → Int32) (v_ok : Nat → Int32) (v_ow : Nat → Int32) (p2 : Int32) (p3 : Int32) (p4 : Int32) (n : Nat) (k : Nat) (x5_1 : Int32) (x6_2 : Int32) (f_uF_moves_3 : Int32) (f_uF_bounces_4 : Int32) (f_uF_potted_5 : Int32) (f_uF_brings_6 : Int32) (f_uF_firstHitDirection_7 : Int32) (f_uF_firstHitPower_8 : Int32) (f_uF_foul_9 : Int32) (f_uFT_taken_10 : Int64) (f_uFT_size_11 : Int32) (f_uFT_spot_12 : Int32) (v_uFTc_13 : Nat → Int32) (v_uFTk_14 : Nat → Int32) (v_uFTw_15 : Nat → Int32) (v_un_16 : Nat → Int32) : Option (Int32 × Int32 × Int32 × Int32 × Int32 × Int32 × Int32 × Int32 × Int64 × Int32 × Int32 × (Nat → Int32) × (Nat → Int32) × (Nat → Int32) × (Nat → Int32)) :=
  lpF (fun (self : (Int32 × Int32 × Int32 × Int32 × Int32 × Int32 × Int32 × Int32 × Int32 × Int64 × Int32 × Int32 × (Nat → Int32) × (Nat → Int32) × (Nat → Int32) × (Nat → Int32)) → Option (Int32 × Int32 × Int32 × Int32 × Int32 × Int32 × Int32 × Int32 × Int64 × Int32 × Int32 × (Nat → Int32) × (Nat → Int32) × (Nat → Int32) × (Nat → Int32))) (a : Int32 × Int32 × Int32 × Int32 × Int32 × Int32 × Int32 × Int32 × Int32 × Int64 × Int32 × Int32 × (Nat → Int32) × (Nat → Int32) × (Nat → Int32) × (Nat → Int32)) => b_X4_leftAtWorst_L6 f_o_taken f_o_size f_o_spot v_oc v_ok v_ow p2 p3 p4 n (fun x5_1 x6_2 f_uF_moves_3 f_uF_bounces_4 f_uF_potted_5 f_uF_brings_6 f_uF_firstHitDirection_7 f_uF_firstHitPower_8 f_uF_foul_9 f_uFT_taken_10 f_uFT_size_11 f_uFT_spot_12 v_uFTc_13 v_uFTk_14 v_uFTw_15 v_un_16 => self (x5_1, x6_2, f_uF_moves_3, f_uF_bounces_4, f_uF_potted_5, f_uF_brings_6, f_uF_firstHitDirection_7, f_uF_firstHitPower_8, f_uF_foul_9, f_uFT_taken_10, f_uFT_size_11, f_uFT_spot_12, v_uFTc_13, v_uFTk_14, v_uFTw_15, v_un_16)) a.1 a.2.1 a.2.2.1 a.2.2.2.1 a.2.2.2.2.1 a.2.2.2.2.2.1 a.2.2.2.2.2.2.1 a.2.2.2.2.2.2.2.1 a.2.2.2.2.2.2.2.2.1 a.2.2.2.2.2.2.2.2.2.1 a.2.2.2.2.2.2.2.2.2.2.1 a.2.2.2.2.2.2.2.2.2.2.2.1 a.2.2.2.2.2.2.2.2.2.2.2.2.1 a.2.2.2.2.2.2.2.2.2.2.2.2.2.1 a.2.2.2.2.2.2.2.2.2.2.2.2.2.2.1 a.2.2.2.2.2.2.2.2.2.2.2.2.2.2.2) k (x5_1, x6_2, f_uF_moves_3, f_uF_bounces_4, f_uF_potted_5, f_uF_brings_6, f_uF_firstHitDirection_7, f_uF_firstHitPower_8, f_uF_foul_9, f_uFT_taken_10, f_uFT_size_11, f_uFT_spot_12, v_uFTc_13, v_uFTk_14, v_uFTw_15, v_un_16)
def f_X4_leftAtWorst (n : Nat) (f_uF_moves : Int32) (f_uF_bounces : Int32) (f_uF_potted : Int32) (f_uF_brings : Int32) (f_uF_firstHitDirection : Int32) (f_uF_firstHitPower : Int32) (f_uF_foul : Int32) (f_uFT_taken : Int64) (f_uFT_size : Int32) (f_uFT_spot : Int32) (v_uFTc : Nat → Int32) (v_uFTk : Nat → Int32) (v_uFTw : Nat → Int32) (v_un : Nat → Int32) (f_o_taken : Int64) (f_o_size : Int32) (f_o_spot : Int32) (v_oc : Nat → Int32) (v_ok : Nat → Int32) (v_ow : Nat → Int32) (p2 : Int32) (p3 : Int32) (p4 : Int32) : Option (Int32 × Int32 × Int32 × Int32 × Int32 × Int32 × Int32 × Int32 × Int64 × Int32 × Int32 × (Nat → Int32) × (Nat → Int32) × (Nat → Int32) × (Nat → Int32)) :=
  (f_X4_leftAtWorst_L6 f_o_taken f_o_size f_o_spot v_oc v_ok v_ow p2 p3 p4 n n 0 0 f_uF_moves f_uF_bounces f_uF_potted f_uF_brings f_uF_firstHitDirection f_uF_firstHitPower f_uF_foul f_uFT_taken f_uFT_size f_uFT_spot v_uFTc v_uFTk v_uFTw v_un)
def b_X4_tellingDirection_L23 (f_oT_taken : Int64) (f_oT_size : Int32) (f_oT_spot : Int32) (v_oTc : Nat → Int32) (v_oTk : Nat → Int32) (v_oTw : Nat → Int32) (p2 : Int32) (n : Nat) (u_1 : Int32 × Int32 × Int32 × Int32 × Int32 × Int32 × Int32 × Int32 × Int64 × Int32 × Int32 × (Nat → Int32) × (Nat → Int32) × (Nat → Int32)) (go_20 : Int32 → Int32 → Int32 → Int32 → Int32 → Int32 → Int32 → Int32 → Int32 → Int32 → Int64 → Int32 → Int32 → (Nat → Int32) → (Nat → Int32) → (Nat → Int32) → (Nat → Int32) → Option (Int32 × Int32 × Int32 × Int32 × Int32 × Int32 × Int32 × Int32 × Int64 × Int32 × Int32 × (Nat → Int32) × (Nat → Int32) × (Nat → Int32) × (Nat → Int32))) (x4_3 : Int32) (x5_4 : Int32) (x6_5 : Int32) (f_uF_moves_6 : Int32) (f_uF_bounces_7 : Int32) (f_uF_potted_8 : Int32) (f_uF_brings_9 : Int32) (f_uF_firstHitDirection_10 : Int32) (f_uF_firstHitPower_11 : Int32) (f_uF_foul_12 : Int32) (f_uFT_taken_13 : Int64) (f_uFT_size_14 : Int32) (f_uFT_spot_15 : Int32) (v_uFTc_16 : Nat → Int32) (v_uFTk_17 : Nat → Int32) (v_uFTw_18 : Nat → Int32) (v_un_19 : Nat → Int32) : Option (Int32 × Int32 × Int32 × Int32 × Int32 × Int32 × Int32 × Int32 × Int64 × Int32 × Int32 × (Nat → Int32) × (Nat → Int32) × (Nat → Int32) × (Nat → Int32)) :=
  (if 8 ≤ x6_5 then (some (x5_4, f_uF_moves_6, f_uF_bounces_7, f_uF_potted_8, f_uF_brings_9, f_uF_firstHitDirection_10, f_uF_firstHitPower_11, f_uF_foul_12, f_uFT_taken_13, f_uFT_size_14, f_uFT_spot_15, v_uFTc_16, v_uFTk_17, v_uFTw_18, v_un_19)) else ((f_X4_leftAtWorst n f_uF_moves_6 f_uF_bounces_7 f_uF_potted_8 f_uF_brings_9 f_uF_firstHitDirection_10 f_uF_firstHitPower_11 f_uF_foul_12 f_uFT_taken_13 f_uFT_size_14 f_uFT_spot_15 v_uFTc_16 v_uFTk_17 v_uFTw_18 v_un_19 f_oT_taken f_oT_size f_oT_spot v_oTc v_oTk v_oTw p2 x6_5 u_1.1).bind (fun u_23 => (jn (fun (x4_24 : Int32) (x5_25 : Int32) => (bnd (x6_5 + 1) (fun x6_27 => (go_20 x4_24 x5_25 x6_27 u_23.2.1 u_23.2.2.1 u_23.2.2.2.1 u_23.2.2.2.2.1 u_23.2.2.2.2.2.1 u_23.2.2.2.2.2.2.1 u_23.2.2.2.2.2.2.2.1 u_23.2.2.2.2.2.2.2.2.1 u_23.2.2.2.2.2.2.2.2.2.1 u_23.2.2.2.2.2.2.2.2.2.2.1 u_23.2.2.2.2.2.2.2.2.2.2.2.1 u_23.2.2.2.2.2.2.2.2.2.2.2.2.1 u_23.2.2.2.2.2.2.2.2.2.2.2.2.2.1 u_23.2.2.2.2.2.2.2.2.2.2.2.2.2.2)))) (fun (j59_26 : Int32 → Int32 → Option (Int32 × Int32 × Int32 × Int32 × Int32 × Int32 × Int32 × Int32 × Int64 × Int32 × Int32 × (Nat → Int32) × (Nat → Int32) × (Nat → Int32) × (Nat → Int32))) => (if x4_3 ≤ u_23.1 then (j59_26 x4_3 x5_4) else (j59_26 u_23.1 x6_5)))))))
def f_X4_tellingDirection_L23 (f_oT_taken : Int64) (f_oT_size : Int32) (f_oT_spot : Int32) (v_oTc : Nat → Int32) (v_oTk : Nat → Int32) (v_oTw : Nat → Int32) (p2 : Int32) (n : Nat) (u_1 : Int32 × Int32 × Int32 × Int32 × Int32 × Int32 × Int32 × Int32 × Int64 × Int32 × Int32 × (Nat → Int32) × (Nat → Int32) × (Nat → Int32)) (k : Nat) (x4_3 : Int32) (x5_4 : Int32) (x6_5 : Int32) (f_uF_moves_6 : Int32) (f_uF_bounces_7 : Int32) (f_uF_potted_8 : Int32) (f_uF_brings_9 : Int32) (f_uF_firstHitDirection_10 : Int32) (f_uF_firstHitPower_11 : Int32) (f_uF_foul_12 : Int32) (f_uFT_taken_13 : Int64) (f_uFT_size_14 : Int32) (f_uFT_spot_15 : Int32) (v_uFTc_16 : Nat → Int32) (v_uFTk_17 : Nat → Int32) (v_uFTw_18 : Nat → Int32) (v_un_19 : Nat → Int32) : Option (Int32 × Int32 × Int32 × Int32 × Int32 × Int32 × Int32 × Int32 × Int64 × Int32 × Int32 × (Nat → Int32) × (Nat → Int32) × (Nat → Int32) × (Nat → Int32)) :=
  lpF (fun (self : (Int32 × Int32 × Int32 × Int32 × Int32 × Int32 × Int32 × Int32 × Int32 × Int32 × Int64 × Int32 × Int32 × (Nat → Int32) × (Nat → Int32) × (Nat → Int32) × (Nat → Int32)) → Option (Int32 × Int32 × Int32 × Int32 × Int32 × Int32 × Int32 × Int32 × Int64 × Int32 × Int32 × (Nat → Int32) × (Nat → Int32) × (Nat → Int32) × (Nat → Int32))) (a : Int32 × Int32 × Int32 × Int32 × Int32 × Int32 × Int32 × Int32 × Int32 × Int32 × Int64 × Int32 × Int32 × (Nat → Int32) × (Nat → Int32) × (Nat → Int32) × (Nat → Int32)) => b_X4_tellingDirection_L23 f_oT_taken f_oT_size f_oT_spot v_oTc v_oTk v_oTw p2 n u_1 (fun x4_3 x5_4 x6_5 f_uF_moves_6 f_uF_bounces_7 f_uF_potted_8 f_uF_brings_9 f_uF_firstHitDirection_10 f_uF_firstHitPower_11 f_uF_foul_12 f_uFT_taken_13 f_uFT_size_14 f_uFT_spot_15 v_uFTc_16 v_uFTk_17 v_uFTw_18 v_un_19 => self (x4_3, x5_4, x6_5, f_uF_moves_6, f_uF_bounces_7, f_uF_potted_8, f_uF_brings_9, f_uF_firstHitDirection_10, f_uF_firstHitPower_11, f_uF_foul_12, f_uFT_taken_13, f_uFT_size_14, f_uFT_spot_15, v_uFTc_16, v_uFTk_17, v_uFTw_18, v_un_19)) a.1 a.2.1 a.2.2.1 a.2.2.2.1 a.2.2.2.2.1 a.2.2.2.2.2.1 a.2.2.2.2.2.2.1 a.2.2.2.2.2.2.2.1 a.2.2.2.2.2.2.2.2.1 a.2.2.2.2.2.2.2.2.2.1 a.2.2.2.2.2.2.2.2.2.2.1 a.2.2.2.2.2.2.2.2.2.2.2.1 a.2.2.2.2.2.2.2.2.2.2.2.2.1 a.2.2.2.2.2.2.2.2.2.2.2.2.2.1 a.2.2.2.2.2.2.2.2.2.2.2.2.2.2.1 a.2.2.2.2.2.2.2.2.2.2.2.2.2.2.2.1 a.2.2.2.2.2.2.2.2.2.2.2.2.2.2.2.2) k (x4_3, x5_4, x6_5, f_uF_moves_6, f_uF_bounces_7, f_uF_potted_8, f_uF_brings_9, f_uF_firstHitDirection_10, f_uF_firstHitPower_11, f_uF_foul_12, f_uFT_taken_13, f_uFT_size_14, f_uFT_spot_15, v_uFTc_16, v_uFTk_17, v_uFTw_18, v_un_19)
def f_X4_tellingDirection (n : Nat) (f_uF_moves : Int32) (f_uF_bounces : Int32) (f_uF_potted : Int32) (f_uF_brings : Int32) (f_uF_firstHitDirection : Int32) (f_uF_firstHitPower : Int32) (f_uF_foul : Int32) (f_uFT_taken : Int64) (f_uFT_size : Int32) (f_uFT_spot : Int32) (v_uFTc : Nat → Int32) (v_uFTk : Nat → Int32) (v_uFTw : Nat → Int32) (v_un : Nat → Int32) (f_o_seen : Int32) (f_oT_taken : Int64) (f_oT_size : Int32) (f_oT_spot : Int32) (v_oTc : Nat → Int32) (v_oTk : Nat → Int32) (v_oTw : Nat → Int32) (v_ob : Nat → Int32) (v_od : Nat → Int32) (v_oe : Nat → Int32) (v_of : Nat → Int32) (p2 : Int32) : Option (Int32 × Int32 × Int32 × Int32 × Int32 × Int32 × Int32 × Int32 × Int64 × Int32 × Int32 × (Nat → Int32) × (Nat → Int32) × (Nat → Int32) × (Nat → Int32)) :=
  ((f_X4_possibleKinds n f_uF_moves f_uF_bounces f_uF_potted f_uF_brings f_uF_firstHitDirection f_uF_firstHitPower f_uF_foul f_uFT_taken f_uFT_size f_uFT_spot v_uFTc v_uFTk v_uFTw f_o_seen f_oT_taken f_oT_size f_oT_spot v_oTc v_oTk v_oTw v_ob v_od v_oe v_of p2).bind (fun u_1 => (if u_1.1 = 0 then (some ((-1), u_1.2.1, u_1.2.2.1, u_1.2.2.2.1, u_1.2.2.2.2.1, u_1.2.2.2.2.2.1, u_1.2.2.2.2.2.2.1, u_1.2.2.2.2.2.2.2.1, u_1.2.2.2.2.2.2.2.2.1, u_1.2.2.2.2.2.2.2.2.2.1, u_1.2.2.2.2.2.2.2.2.2.2.1, u_1.2.2.2.2.2.2.2.2.2.2.2.1, u_1.2.2.2.2.2.2.2.2.2.2.2.2.1, u_1.2.2.2.2.2.2.2.2.2.2.2.2.2, v_un)) else (f_X4_tellingDirection_L23 f_oT_taken f_oT_size f_oT_spot v_oTc v_oTk v_oTw p2 n u_1 n 6 (-1) 0 u_1.2.1 u_1.2.2.1 u_1.2.2.2.1 u_1.2.2.2.2.1 u_1.2.2.2.2.2.1 u_1.2.2.2.2.2.2.1 u_1.2.2.2.2.2.2.2.1 u_1.2.2.2.2.2.2.2.2.1 u_1.2.2.2.2.2.2.2.2.2.1 u_1.2.2.2.2.2.2.2.2.2.2.1 u_1.2.2.2.2.2.2.2.2.2.2.2.1 u_1.2.2.2.2.2.2.2.2.2.2.2.2.1 u_1.2.2.2.2.2.2.2.2.2.2.2.2.2 v_un))))
def f_X12_lacks (f_m_balls : Int32) : Option (Int32) :=
  (if f_m_balls = 0 then (some 1) else (some 0))
def b_X12_liesIn_L5 (f_m_balls : Int32) (v_q1 : Nat → Int32) (p2 : Int32) (go_3 : Int32 → Int32 → Option (Int32)) (x3_1 : Int32) (x4_2 : Int32) : Option (Int32) :=
  (if f_m_balls < x4_2 then (some x3_1) else ((f_X12_lacks f_m_balls).bind (fun u_6 => (if u_6 = 0 then (gd (inb x4_2 7) (jn (fun (k_9 : Int32) => (bnd (x4_2 + 1) (fun x4_11 => (go_3 k_9 x4_11)))) (fun (j35_10 : Int32 → Option (Int32)) => (if (v_q1 x4_2.toNatClampNeg) = p2 then (j35_10 x4_2) else (j35_10 x3_1))))) else (some x3_1)))))
def f_X12_liesIn_L5 (f_m_balls : Int32) (v_q1 : Nat → Int32) (p2 : Int32) (k : Nat) (x3_1 : Int32) (x4_2 : Int32) : Option (Int32) :=
  lpF (fun (self : (Int32 × Int32) → Option (Int32)) (a : Int32 × Int32) => b_X12_liesIn_L5 f_m_balls v_q1 p2 (fun x3_1 x4_2 => self (x3_1, x4_2)) a.1 a.2) k (x3_1, x4_2)
def f_X12_liesIn (n : Nat) (f_m_balls : Int32) (v_q1 : Nat → Int32) (p2 : Int32) : Option (Int32) :=
  (f_X12_liesIn_L5 f_m_balls v_q1 p2 n (-1) 0)
def f_X12_isPocket (p0 : Int32) : Option (Int32) :=
  (bnd (p0 / 9) (fun x1_1 => (bnd (p0 - p0 / 9 * 9) (fun x2_2 => (jn ((some 0)) (fun (j38_3 : Option (Int32)) => (jn ((jn ((some 1)) (fun (j34_5 : Option (Int32)) => (if x2_2 = 0 then j34_5 else (if x2_2 = 4 then j34_5 else (if x2_2 = 8 then j34_5 else j38_3)))))) (fun (j19_4 : Option (Int32)) => (if x1_1 = 0 then j19_4 else (if x1_1 = 4 then j19_4 else j38_3))))))))))
def b_X12_spotWhite_L22 (f_m_balls : Int32) (n : Nat) (go_6 : Int32 → (Nat → Int32) → Option ((Nat → Int32))) (x2_4 : Int32) (v_q1_5 : Nat → Int32) : Option ((Nat → Int32)) :=
  (if 45 ≤ x2_4 then (some v_q1_5) else (gd (inb 0 7) (if (v_q1_5 (0 : Int32).toNatClampNeg) = (-1) then ((f_X12_isPocket x2_4).bind (fun u_11 => (jn (fun (k_12 : Int32) (k_13 : Int32) => (gd (inb k_12 7) (bnd (x2_4 + 1) (fun x2_16 => (go_6 x2_16 (upd v_q1_5 k_12.toNatClampNeg k_13)))))) (fun (j59_14 : Int32 → Int32 → Option ((Nat → Int32))) => (jn (fun (k_17 : Int32) => (j59_14 k_17 (-1))) (fun (j58_18 : Int32 → Option ((Nat → Int32))) => (if u_11 = 0 then ((f_X12_liesIn n f_m_balls v_q1_5 x2_4).bind (fun u_20 => (if u_20 = (-1) then (j59_14 0 x2_4) else (j58_18 0)))) else (j58_18 0)))))))) else (some v_q1_5))))
def f_X12_spotWhite_L22 (f_m_balls : Int32) (n : Nat) (k : Nat) (x2_4 : Int32) (v_q1_5 : Nat → Int32) : Option ((Nat → Int32)) :=
  lpF (fun (self : (Int32 × (Nat → Int32)) → Option ((Nat → Int32))) (a : Int32 × (Nat → Int32)) => b_X12_spotWhite_L22 f_m_balls n (fun x2_4 v_q1_5 => self (x2_4, v_q1_5)) a.1 a.2) k (x2_4, v_q1_5)
def f_X12_spotWhite (n : Nat) (f_m_balls : Int32) (f_m_spot : Int32) (v_q1 : Nat → Int32) : Option ((Nat → Int32)) :=
  ((f_X12_liesIn n f_m_balls v_q1 f_m_spot).bind (fun u_1 => (jn (fun (v_q1_2 : Nat → Int32) => (f_X12_spotWhite_L22 f_m_balls n n 0 v_q1_2)) (fun (j20_3 : (Nat → Int32) → Option ((Nat → Int32))) => (if u_1 = (-1) then (gd (inb 0 7) (j20_3 (upd v_q1 (0 : Int32).toNatClampNeg f_m_spot))) else (j20_3 v_q1))))))
def f_X12_downBy (p0 : Int32) : Option (Int32) :=
  (jn ((some (-1))) (fun (j15_1 : Option (Int32)) => (if p0 = 0 then j15_1 else (if p0 = 1 then j15_1 else (if p0 = 7 then j15_1 else (jn ((some 0)) (fun (j30_5 : Option (Int32)) => (if p0 = 2 then j30_5 else (if p0 = 6 then j30_5 else (some 1))))))))))
def f_X12_rightBy (p0 : Int32) : Option (Int32) :=
  (jn ((some 0)) (fun (j9_1 : Option (Int32)) => (if p0 = 0 then j9_1 else (if p0 = 4 then j9_1 else (if 4 ≤ p0 then (some (-1)) else (some 1))))))
def f_X12_in (p0 : Int64) (p2 : Int64) (p4 : Int64) : Option (Int32) :=
  (jn ((some 0)) (fun (j17_1 : Option (Int32)) => (if (lg_cmp p0 p2) < 0 then j17_1 else (if 0 < (lg_cmp p0 p4) then j17_1 else (some 1)))))
def f_X12_rollsBy (p0 : Int32) (p1 : Int32) : Option (Int32) :=
  (if p0 = 1 then (some (p1 / 2)) else (if p0 = 4 then (some (p1 / 4)) else (if p0 = 2 then (some (p1 + 1)) else (some p1))))
def b_X12_roll_L14 (f_m_balls : Int32) (v_mk : Nat → Int32) (n : Nat) (go_13 : Int32 → Int32 → Int32 → Int32 → Int32 → Int32 → Int32 → Int32 → Int32 → Int32 → Int32 → (Nat → Int32) → Option (Int32 × Int32 × Int32 × Int32 × Int32 × Int32 × Int32 × (Nat → Int32))) (x6_1 : Int32) (x7_2 : Int32) (x8_3 : Int32) (x9_4 : Int32) (f_m_potted_5 : Int32) (f_m_moves_6 : Int32) (f_m_bounces_7 : Int32) (f_m_hitFirst_8 : Int32) (f_m_hitPower_9 : Int32) (f_m_hitDown_10 : Int32) (f_m_hitRight_11 : Int32) (v_q1_12 : Nat → Int32) : Option (Int32 × Int32 × Int32 × Int32 × Int32 × Int32 × Int32 × (Nat → Int32)) :=
  (if x9_4 ≤ 0 then (some (f_m_potted_5, f_m_moves_6, f_m_bounces_7, f_m_hitFirst_8, f_m_hitPower_9, f_m_hitDown_10, f_m_hitRight_11, v_q1_12)) else (gd (inb x6_1 7) (bnd (((v_q1_12 x6_1.toNatClampNeg) / 9) + x7_2) (fun x10_17 => (gd (inb x6_1 7) (bnd (((v_q1_12 x6_1.toNatClampNeg) - (v_q1_12 x6_1.toNatClampNeg) / 9 * 9) + x8_3) (fun x11_19 => ((f_X12_in x10_17.toInt64 0 4).bind (fun u_20 => (jn (fun (k_21 : Int32) => ((f_X12_in x11_19.toInt64 0 8).bind (fun u_23 => (jn (fun (k_24 : Int32) => (jn (fun (k_26 : Int32) => (jn (fun (k_28 : Int32) => (jn (fun (x6_30 : Int32) (x7_31 : Int32) (x8_32 : Int32) (x9_33 : Int32) (f_m_potted_34 : Int32) (f_m_moves_35 : Int32) (f_m_bounces_36 : Int32) (f_m_hitFirst_37 : Int32) (f_m_hitPower_38 : Int32) (f_m_hitDown_39 : Int32) (f_m_hitRight_40 : Int32) (v_q1_41 : Nat → Int32) => (go_13 x6_30 x7_31 x8_32 x9_33 f_m_potted_34 f_m_moves_35 f_m_bounces_36 f_m_hitFirst_37 f_m_hitPower_38 f_m_hitDown_39 f_m_hitRight_40 v_q1_41)) (fun (j317_42 : Int32 → Int32 → Int32 → Int32 → Int32 → Int32 → Int32 → Int32 → Int32 → Int32 → Int32 → (Nat → Int32) → Option (Int32 × Int32 × Int32 × Int32 × Int32 × Int32 × Int32 × (Nat → Int32))) => (jn ((if k_26 = (-1) then (jn (fun (k_60 : Int32) => (jn (fun (k_62 : Int32) => (bnd (x9_4 + (-1)) (fun x9_64 => (j317_42 x6_1 k_60 k_62 x9_64 f_m_potted_5 f_m_moves_6 (f_m_bounces_7 + 1) f_m_hitFirst_8 f_m_hitPower_9 f_m_hitDown_10 f_m_hitRight_11 v_q1_12)))) (fun (j183_63 : Int32 → Option (Int32 × Int32 × Int32 × Int32 × Int32 × Int32 × Int32 × (Nat → Int32))) => (if k_24 = 0 then (j183_63 x8_3) else (j183_63 (-x8_3)))))) (fun (j168_61 : Int32 → Option (Int32 × Int32 × Int32 × Int32 × Int32 × Int32 × Int32 × (Nat → Int32))) => (if k_21 = 0 then (j168_61 x7_2) else (j168_61 (-x7_2))))) else (if k_28 = (-1) then (gd (inb x6_1 7) (bnd (x9_4 + (-1)) (fun x9_47 => ((f_X12_isPocket k_26).bind (fun u_48 => (if u_48 = 0 then (j317_42 x6_1 x7_2 x8_3 x9_47 f_m_potted_5 (f_m_moves_6 + 1) f_m_bounces_7 f_m_hitFirst_8 f_m_hitPower_9 f_m_hitDown_10 f_m_hitRight_11 (upd v_q1_12 x6_1.toNatClampNeg k_26)) else (gd (inb x6_1 7) (j317_42 x6_1 x7_2 x8_3 0 (f_m_potted_5 ||| (1 <<< (x6_1 &&& 31))) (f_m_moves_6 + 1) f_m_bounces_7 f_m_hitFirst_8 f_m_hitPower_9 f_m_hitDown_10 f_m_hitRight_11 (upd (upd v_q1_12 x6_1.toNatClampNeg k_26) x6_1.toNatClampNeg (-1)))))))))) else (jn (fun (f_m_hitFirst_51 : Int32) (f_m_hitPower_52 : Int32) (f_m_hitDown_53 : Int32) (f_m_hitRight_54 : Int32) => (gd (inb k_28 7) ((f_X12_rollsBy (v_mk k_28.toNatClampNeg) (x9_4 - 1)).bind (fun u_57 => (j317_42 k_28 x7_2 x8_3 u_57 f_m_potted_5 f_m_moves_6 f_m_bounces_7 f_m_hitFirst_51 f_m_hitPower_52 f_m_hitDown_53 f_m_hitRight_54 v_q1_12))))) (fun (j246_55 : Int32 → Int32 → Int32 → Int32 → Option (Int32 × Int32 × Int32 × Int32 × Int32 × Int32 × Int32 × (Nat → Int32))) => (if x6_1 = 0 then (if f_m_hitFirst_8 = (-1) then (j246_55 k_28 (x9_4 - 1) x7_2 x8_3) else (j246_55 f_m_hitFirst_8 f_m_hitPower_9 f_m_hitDown_10 f_m_hitRight_11)) else (j246_55 f_m_hitFirst_8 f_m_hitPower_9 f_m_hitDown_10 f_m_hitRight_11))))))) (fun (j149_43 : Option (Int32 × Int32 × Int32 × Int32 × Int32 × Int32 × Int32 × (Nat → Int32))) => (if k_26 = (-1) then (gd (inb x6_1 7) (if (v_mk x6_1.toNatClampNeg) = 3 then (j317_42 x6_1 x7_2 x8_3 0 f_m_potted_5 f_m_moves_6 f_m_bounces_7 f_m_hitFirst_8 f_m_hitPower_9 f_m_hitDown_10 f_m_hitRight_11 v_q1_12) else j149_43)) else j149_43)))))) (fun (j124_29 : Int32 → Option (Int32 × Int32 × Int32 × Int32 × Int32 × Int32 × Int32 × (Nat → Int32))) => (if k_26 = (-1) then (j124_29 (-1)) else ((f_X12_liesIn n f_m_balls v_q1_12 k_26).bind (fun u_71 => (j124_29 u_71))))))) (fun (j105_27 : Int32 → Option (Int32 × Int32 × Int32 × Int32 × Int32 × Int32 × Int32 × (Nat → Int32))) => (jn ((j105_27 (-1))) (fun (j93_72 : Option (Int32 × Int32 × Int32 × Int32 × Int32 × Int32 × Int32 × (Nat → Int32))) => (if k_21 = 0 then (if k_24 = 0 then (j105_27 ((9 * x10_17) + x11_19)) else j93_72) else j93_72)))))) (fun (j81_25 : Int32 → Option (Int32 × Int32 × Int32 × Int32 × Int32 × Int32 × Int32 × (Nat → Int32))) => (if u_23 = 0 then (j81_25 1) else (j81_25 0))))))) (fun (j61_22 : Int32 → Option (Int32 × Int32 × Int32 × Int32 × Int32 × Int32 × Int32 × (Nat → Int32))) => (if u_20 = 0 then (j61_22 1) else (j61_22 0)))))))))))))
def f_X12_roll_L14 (f_m_balls : Int32) (v_mk : Nat → Int32) (n : Nat) (k : Nat) (x6_1 : Int32) (x7_2 : Int32) (x8_3 : Int32) (x9_4 : Int32) (f_m_potted_5 : Int32) (f_m_moves_6 : Int32) (f_m_bounces_7 : Int32) (f_m_hitFirst_8 : Int32) (f_m_hitPower_9 : Int32) (f_m_hitDown_10 : Int32) (f_m_hitRight_11 : Int32) (v_q1_12 : Nat → Int32) : Option (Int32 × Int32 × Int32 × Int32 × Int32 × Int32 × Int32 × (Nat → Int32)) :=
  lpF (fun (self : (Int32 × Int32 × Int32 × Int32 × Int32 × Int32 × Int32 × Int32 × Int32 × Int32 × Int32 × (Nat → Int32)) → Option (Int32 × Int32 × Int32 × Int32 × Int32 × Int32 × Int32 × (Nat → Int32))) (a : Int32 × Int32 × Int32 × Int32 × Int32 × Int32 × Int32 × Int32 × Int32 × Int32 × Int32 × (Nat → Int32)) => b_X12_roll_L14 f_m_balls v_mk n (fun x6_1 x7_2 x8_3 x9_4 f_m_potted_5 f_m_moves_6 f_m_bounces_7 f_m_hitFirst_8 f_m_hitPower_9 f_m_hitDown_10 f_m_hitRight_11 v_q1_12 => self (x6_1, x7_2, x8_3, x9_4, f_m_potted_5, f_m_moves_6, f_m_bounces_7, f_m_hitFirst_8, f_m_hitPower_9, f_m_hitDown_10, f_m_hitRight_11, v_q1_12)) a.1 a.2.1 a.2.2.1 a.2.2.2.1 a.2.2.2.2.1 a.2.2.2.2.2.1 a.2.2.2.2.2.2.1 a.2.2.2.2.2.2.2.1 a.2.2.2.2.2.2.2.2.1 a.2.2.2.2.2.2.2.2.2.1 a.2.2.2.2.2.2.2.2.2.2.1 a.2.2.2.2.2.2.2.2.2.2.2) k (x6_1, x7_2, x8_3, x9_4, f_m_potted_5, f_m_moves_6, f_m_bounces_7, f_m_hitFirst_8, f_m_hitPower_9, f_m_hitDown_10, f_m_hitRight_11, v_q1_12)
def f_X12_roll (n : Nat) (f_m_balls : Int32) (f_m_potted : Int32) (f_m_moves : Int32) (f_m_bounces : Int32) (f_m_hitFirst : Int32) (f_m_hitPower : Int32) (f_m_hitDown : Int32) (f_m_hitRight : Int32) (v_mk : Nat → Int32) (v_q1 : Nat → Int32) (p2 : Int32) (p3 : Int32) (p4 : Int32) (p5 : Int32) : Option (Int32 × Int32 × Int32 × Int32 × Int32 × Int32 × Int32 × (Nat → Int32)) :=
  (f_X12_roll_L14 f_m_balls v_mk n n p2 p3 p4 p5 f_m_potted f_m_moves f_m_bounces f_m_hitFirst f_m_hitPower f_m_hitDown f_m_hitRight v_q1)
def b_X12_strike_L154 (f_m_balls : Int32) (v_mw : Nat → Int32) (f_m_potted_7 : Int32) (j191_22 : Int32 → Option (Int32 × Int32 × Int32 × Int32 × Int32 × Int32 × Int32 × Int32 × Int32 × (Nat → Int32))) (go_28 : Int32 → Int32 → Option (Int32 × Int32 × Int32 × Int32 × Int32 × Int32 × Int32 × Int32 × Int32 × (Nat → Int32))) (x5_26 : Int32) (x6_27 : Int32) : Option (Int32 × Int32 × Int32 × Int32 × Int32 × Int32 × Int32 × Int32 × Int32 × (Nat → Int32)) :=
  (if f_m_balls < x6_27 then (j191_22 x5_26) else (gd (inb x6_27 7) (bnd (x5_26 + (((f_m_potted_7 >>> (x6_27 &&& 31)) &&& 1) * (v_mw x6_27.toNatClampNeg))) (fun x5_32 => (bnd (x6_27 + 1) (fun x6_33 => (go_28 x5_32 x6_33)))))))
def f_X12_strike_L154 (f_m_balls : Int32) (v_mw : Nat → Int32) (f_m_potted_7 : Int32) (j191_22 : Int32 → Option (Int32 × Int32 × Int32 × Int32 × Int32 × Int32 × Int32 × Int32 × Int32 × (Nat → Int32))) (k : Nat) (x5_26 : Int32) (x6_27 : Int32) : Option (Int32 × Int32 × Int32 × Int32 × Int32 × Int32 × Int32 × Int32 × Int32 × (Nat → Int32)) :=
  lpF (fun (self : (Int32 × Int32) → Option (Int32 × Int32 × Int32 × Int32 × Int32 × Int32 × Int32 × Int32 × Int32 × (Nat → Int32))) (a : Int32 × Int32) => b_X12_strike_L154 f_m_balls v_mw f_m_potted_7 j191_22 (fun x5_26 x6_27 => self (x5_26, x6_27)) a.1 a.2) k (x5_26, x6_27)
def f_X12_strike (n : Nat) (f_m_balls : Int32) (f_m_spot : Int32) (f_m_potted : Int32) (f_m_moves : Int32) (f_m_bounces : Int32) (f_m_hitFirst : Int32) (f_m_hitPower : Int32) (f_m_hitDown : Int32) (f_m_hitRight : Int32) (f_m_isFoul : Int32) (v_mk : Nat → Int32) (v_mw : Nat → Int32) (v_q1 : Nat → Int32) (p2 : Int32) (p3 : Int32) (p4 : Int32) : Option (Int32 × Int32 × Int32 × Int32 × Int32 × Int32 × Int32 × Int32 × Int32 × (Nat → Int32)) :=
  ((f_X12_downBy p2).bind (fun u_1 => ((f_X12_rightBy p2).bind (fun u_2 => ((f_X12_roll n f_m_balls 0 0 0 (-1) f_m_hitPower f_m_hitDown f_m_hitRight v_mk v_q1 0 u_1 u_2 p3).bind (fun u_3 => (jn (fun (k_4 : Int32) => (gd (isb k_4) (jn (fun (f_m_potted_7 : Int32) (f_m_moves_8 : Int32) (f_m_bounces_9 : Int32) (f_m_hitFirst_10 : Int32) (f_m_hitPower_11 : Int32) (f_m_hitDown_12 : Int32) (f_m_hitRight_13 : Int32) (v_q1_14 : Nat → Int32) => (jn (fun (k_16 : Int32) => (gd (isb k_16) (jn (fun (k_19 : Int32) => (jn (fun (x5_21 : Int32) => (gd (inb 0 7) (if (v_q1_14 (0 : Int32).toNatClampNeg) = (-1) then ((f_X12_spotWhite n f_m_balls f_m_spot v_q1_14).bind (fun u_25 => (some (x5_21, f_m_potted_7, f_m_moves_8, f_m_bounces_9, f_m_hitFirst_10, f_m_hitPower_11, f_m_hitDown_12, f_m_hitRight_13, k_16, u_25)))) else (some (x5_21, f_m_potted_7, f_m_moves_8, f_m_bounces_9, f_m_hitFirst_10, f_m_hitPower_11, f_m_hitDown_12, f_m_hitRight_13, k_16, v_q1_14))))) (fun (j191_22 : Int32 → Option (Int32 × Int32 × Int32 × Int32 × Int32 × Int32 × Int32 × Int32 × Int32 × (Nat → Int32))) => (f_X12_strike_L154 f_m_balls v_mw f_m_potted_7 j191_22 n k_19 1)))) (fun (j149_20 : Int32 → Option (Int32 × Int32 × Int32 × Int32 × Int32 × Int32 × Int32 × Int32 × Int32 × (Nat → Int32))) => (if k_16 = 0 then (j149_20 0) else (j149_20 (-4))))))) (fun (j133_17 : Int32 → Option (Int32 × Int32 × Int32 × Int32 × Int32 × Int32 × Int32 × Int32 × Int32 × (Nat → Int32))) => (jn ((j133_17 1)) (fun (j128_35 : Option (Int32 × Int32 × Int32 × Int32 × Int32 × Int32 × Int32 × Int32 × Int32 × (Nat → Int32))) => (if k_4 = 0 then (if (f_m_potted_7 &&& 1) = 1 then j128_35 else (j133_17 0)) else j128_35)))))) (fun (j110_15 : Int32 → Int32 → Int32 → Int32 → Int32 → Int32 → Int32 → (Nat → Int32) → Option (Int32 × Int32 × Int32 × Int32 × Int32 × Int32 × Int32 × Int32 × Int32 × (Nat → Int32))) => (if k_4 = 0 then (if p4 ≤ 0 then (j110_15 u_3.1 u_3.2.1 u_3.2.2.1 u_3.2.2.2.1 u_3.2.2.2.2.1 u_3.2.2.2.2.2.1 u_3.2.2.2.2.2.2.1 u_3.2.2.2.2.2.2.2) else (gd (inb 0 7) (if (u_3.2.2.2.2.2.2.2 (0 : Int32).toNatClampNeg) = (-1) then (j110_15 u_3.1 u_3.2.1 u_3.2.2.1 u_3.2.2.2.1 u_3.2.2.2.2.1 u_3.2.2.2.2.2.1 u_3.2.2.2.2.2.2.1 u_3.2.2.2.2.2.2.2) else (jn (fun (k_42 : Int32) => ((f_X12_roll n f_m_balls u_3.1 u_3.2.1 u_3.2.2.1 u_3.2.2.2.1 u_3.2.2.2.2.1 u_3.2.2.2.2.2.1 u_3.2.2.2.2.2.2.1 v_mk u_3.2.2.2.2.2.2.2 0 (k_42 * u_3.2.2.2.2.2.1) (k_42 * u_3.2.2.2.2.2.2.1) (u_3.2.2.2.2.1 / 2)).bind (fun u_44 => (j110_15 u_44.1 u_44.2.1 u_44.2.2.1 u_44.2.2.2.1 u_44.2.2.2.2.1 u_44.2.2.2.2.2.1 u_44.2.2.2.2.2.2.1 u_44.2.2.2.2.2.2.2)))) (fun (j82_43 : Int32 → Option (Int32 × Int32 × Int32 × Int32 × Int32 × Int32 × Int32 × Int32 × Int32 × (Nat → Int32))) => (if p4 = 1 then (j82_43 1) else (j82_43 (-1)))))))) else (j110_15 u_3.1 u_3.2.1 u_3.2.2.1 u_3.2.2.2.1 u_3.2.2.2.2.1 u_3.2.2.2.2.2.1 u_3.2.2.2.2.2.2.1 u_3.2.2.2.2.2.2.2)))))) (fun (j49_5 : Int32 → Option (Int32 × Int32 × Int32 × Int32 × Int32 × Int32 × Int32 × Int32 × Int32 × (Nat → Int32))) => (if u_3.2.2.2.1 = (-1) then (j49_5 1) else (j49_5 0))))))))))
def f_X12_letter (f_m_pageMany : Int32) (v_mP : Nat → Int32) (p1 : Int32) : Option (Int32 × Int32 × (Nat → Int32)) :=
  ((f_X12_in p1.toInt64 1 126).bind (fun u_1 => (if u_1 = 0 then (some ((-102), f_m_pageMany, v_mP)) else (if f_m_pageMany = 34 then (some ((-104), f_m_pageMany, v_mP)) else (gd (inb f_m_pageMany 34) (some ((f_m_pageMany + 1), (f_m_pageMany + 1), (upd v_mP f_m_pageMany.toNatClampNeg p1))))))))
def f_X12_blank (f_m_pageMany : Int32) : Option (Int32 × Int32) :=
  (some (f_m_pageMany, 0))
def f_X12_cellAt (v_mP : Nat → Int32) (p1 : Int32) : Option (Int32) :=
  (gd (inb p1 34) (gd (inb (p1 + 1) 34) (some (((9 * ((v_mP p1.toNatClampNeg) - 48)) + (v_mP (p1 + 1).toNatClampNeg)) - 48))))
def b_X12_isToldAhead_L25 (v_mP : Nat → Int32) (p1 : Int32) (go_5 : Int32 → Int32 → Option (Int32)) (x2_3 : Int32) (x3_4 : Int32) : Option (Int32) :=
  (if p1 ≤ x3_4 then (gd (isb x2_3) (some x2_3)) else (jn (fun (k_9 : Int32) => (bnd (x3_4 + 5) (fun x3_11 => (go_5 k_9 x3_11)))) (fun (j52_10 : Int32 → Option (Int32)) => (jn ((j52_10 1)) (fun (j47_12 : Option (Int32)) => (if x2_3 = 0 then ((f_X12_cellAt v_mP x3_4).bind (fun u_14 => ((f_X12_cellAt v_mP p1).bind (fun u_15 => (if u_14 = u_15 then j47_12 else (j52_10 0)))))) else j47_12))))))
def f_X12_isToldAhead_L25 (v_mP : Nat → Int32) (p1 : Int32) (k : Nat) (x2_3 : Int32) (x3_4 : Int32) : Option (Int32) :=
  lpF (fun (self : (Int32 × Int32) → Option (Int32)) (a : Int32 × Int32) => b_X12_isToldAhead_L25 v_mP p1 (fun x2_3 x3_4 => self (x2_3, x3_4)) a.1 a.2) k (x2_3, x3_4)
def f_X12_isToldAhead (n : Nat) (v_mP : Nat → Int32) (p1 : Int32) : Option (Int32) :=
  (jn (fun (k_1 : Int32) => (f_X12_isToldAhead_L25 v_mP p1 n k_1 5)) (fun (j22_2 : Int32 → Option (Int32)) => (jn ((j22_2 0)) (fun (j21_17 : Option (Int32)) => (if p1 ≤ 0 then j21_17 else ((f_X12_cellAt v_mP 0).bind (fun u_19 => ((f_X12_cellAt v_mP p1).bind (fun u_20 => (if u_19 = u_20 then (j22_2 1) else j21_17))))))))))
def f_X12_isColumn (n : Nat) (v_mP : Nat → Int32) (p1 : Int32) : Option (Int32) :=
  (gd (inb p1 34) ((f_X12_in ((v_mP p1.toNatClampNeg).toInt64) 48 56).bind (fun u_2 => (jn ((some 0)) (fun (j46_3 : Option (Int32)) => (if u_2 = 0 then j46_3 else ((f_X12_cellAt v_mP (p1 - 1)).bind (fun u_5 => ((f_X12_isPocket u_5).bind (fun u_6 => (if u_6 = 0 then ((f_X12_isToldAhead n v_mP (p1 - 1)).bind (fun u_8 => (if u_8 = 0 then (some 1) else j46_3))) else j46_3)))))))))))
def f_X12_kindBy (p0 : Int32) : Option (Int32) :=
  (if p0 = 98 then (some 0) else (if p0 = 100 then (some 3) else (if p0 = 104 then (some 1) else (if p0 = 108 then (some 2) else (if p0 = 115 then (some 4) else (some (-1)))))))
def f_X12_isGood (n : Nat) (v_mP : Nat → Int32) (p1 : Int32) : Option (Int32) :=
  (gd (inb p1 34) (bnd (v_mP p1.toNatClampNeg) (fun x2_2 => (if 3 ≤ p1 then (bnd ((p1 - 3) - (p1 - 3) / 5 * 5) (fun w_4 => (if w_4 = 0 then ((f_X12_kindBy x2_2).bind (fun u_6 => (if u_6 = (-1) then (some 0) else (some 1)))) else (if w_4 = 1 then ((f_X12_in x2_2.toInt64 49 55).bind (fun u_9 => (gd (isb u_9) (some u_9)))) else (if w_4 = 2 then ((f_X12_in x2_2.toInt64 48 52).bind (fun u_12 => (gd (isb u_12) (some u_12)))) else (if w_4 = 3 then ((f_X12_isColumn n v_mP p1).bind (fun u_15 => (gd (isb u_15) (some u_15)))) else (jn ((some 0)) (fun (j152_17 : Option (Int32)) => (if x2_2 = 44 then (if 32 ≤ p1 then j152_17 else (some 1)) else j152_17))))))))) else (if p1 = 0 then ((f_X12_in x2_2.toInt64 48 52).bind (fun u_25 => (gd (isb u_25) (some u_25)))) else (if p1 = 1 then ((f_X12_isColumn n v_mP 1).bind (fun u_23 => (gd (isb u_23) (some u_23)))) else (if x2_2 = 59 then (some 1) else (some 0))))))))
def b_X12_faultOf_L2 (f_m_pageMany : Int32) (v_mP : Nat → Int32) (n : Nat) (go_2 : Int32 → Option (Int32)) (x1_1 : Int32) : Option (Int32) :=
  (if f_m_pageMany ≤ x1_1 then (some x1_1) else ((f_X12_isGood n v_mP x1_1).bind (fun u_5 => (if u_5 = 0 then (some x1_1) else (bnd (x1_1 + 1) (fun x1_7 => (go_2 x1_7)))))))
def f_X12_faultOf_L2 (f_m_pageMany : Int32) (v_mP : Nat → Int32) (n : Nat) (k : Nat) (x1_1 : Int32) : Option (Int32) :=
  lpF (fun (self : Int32 → Option (Int32)) (a : Int32) => b_X12_faultOf_L2 f_m_pageMany v_mP n (fun x1_1 => self x1_1) a) k x1_1
def f_X12_faultOf (n : Nat) (f_m_pageMany : Int32) (v_mP : Nat → Int32) : Option (Int32) :=
  (f_X12_faultOf_L2 f_m_pageMany v_mP n n 0)
def f_X12_fault (n : Nat) (f_m_pageMany : Int32) (v_mP : Nat → Int32) : Option (Int32) :=
  ((f_X12_faultOf n f_m_pageMany v_mP).bind (fun u_1 => (some u_1)))
def b_X12_table_L80 (f_m_pageMany : Int32) (v_mP : Nat → Int32) (j145_12 : (Nat → Int32) → (Nat → Int32) → (Nat → Int32) → Option (Int32 × Int32 × Int32 × Int32 × Int32 × Int32 × Int32 × Int32 × Int32 × (Nat → Int32) × (Nat → Int32) × (Nat → Int32))) (go_17 : Int32 → (Nat → Int32) → (Nat → Int32) → (Nat → Int32) → Option (Int32 × Int32 × Int32 × Int32 × Int32 × Int32 × Int32 × Int32 × Int32 × (Nat → Int32) × (Nat → Int32) × (Nat → Int32))) (x1_13 : Int32) (v_mk_14 : Nat → Int32) (v_mw_15 : Nat → Int32) (v_mc_16 : Nat → Int32) : Option (Int32 × Int32 × Int32 × Int32 × Int32 × Int32 × Int32 × Int32 × Int32 × (Nat → Int32) × (Nat → Int32) × (Nat → Int32)) :=
  (if ((f_m_pageMany - 2) / 5) < x1_13 then (j145_12 v_mk_14 v_mw_15 v_mc_16) else (bnd ((5 * x1_13) - 2) (fun x2_20 => (gd (inb x2_20 34) ((f_X12_kindBy (v_mP x2_20.toNatClampNeg)).bind (fun u_22 => (gd (inb x1_13 7) (gd (inb (x2_20 + 1) 34) (gd (inb x1_13 7) ((f_X12_cellAt v_mP (x2_20 + 2)).bind (fun u_26 => (gd (inb x1_13 7) (bnd (x1_13 + 1) (fun x1_28 => (go_17 x1_28 (upd v_mk_14 x1_13.toNatClampNeg u_22) (upd v_mw_15 x1_13.toNatClampNeg ((v_mP (x2_20 + 1).toNatClampNeg) - 48)) (upd v_mc_16 x1_13.toNatClampNeg u_26))))))))))))))))
def f_X12_table_L80 (f_m_pageMany : Int32) (v_mP : Nat → Int32) (j145_12 : (Nat → Int32) → (Nat → Int32) → (Nat → Int32) → Option (Int32 × Int32 × Int32 × Int32 × Int32 × Int32 × Int32 × Int32 × Int32 × (Nat → Int32) × (Nat → Int32) × (Nat → Int32))) (k : Nat) (x1_13 : Int32) (v_mk_14 : Nat → Int32) (v_mw_15 : Nat → Int32) (v_mc_16 : Nat → Int32) : Option (Int32 × Int32 × Int32 × Int32 × Int32 × Int32 × Int32 × Int32 × Int32 × (Nat → Int32) × (Nat → Int32) × (Nat → Int32)) :=
  lpF (fun (self : (Int32 × (Nat → Int32) × (Nat → Int32) × (Nat → Int32)) → Option (Int32 × Int32 × Int32 × Int32 × Int32 × Int32 × Int32 × Int32 × Int32 × (Nat → Int32) × (Nat → Int32) × (Nat → Int32))) (a : Int32 × (Nat → Int32) × (Nat → Int32) × (Nat → Int32)) => b_X12_table_L80 f_m_pageMany v_mP j145_12 (fun x1_13 v_mk_14 v_mw_15 v_mc_16 => self (x1_13, v_mk_14, v_mw_15, v_mc_16)) a.1 a.2.1 a.2.2.1 a.2.2.2) k (x1_13, v_mk_14, v_mw_15, v_mc_16)
def f_X12_table (n : Nat) (f_m_pageMany : Int32) (f_m_balls : Int32) (f_m_spot : Int32) (f_m_score : Int32) (f_m_strokesNow : Int32) (f_m_fouls : Int32) (f_m_tablesRead : Int32) (f_m_seenMany : Int32) (v_mP : Nat → Int32) (v_mk : Nat → Int32) (v_mw : Nat → Int32) (v_mc : Nat → Int32) : Option (Int32 × Int32 × Int32 × Int32 × Int32 × Int32 × Int32 × Int32 × Int32 × (Nat → Int32) × (Nat → Int32) × (Nat → Int32)) :=
  (if f_m_pageMany < 7 then (some ((-103), f_m_pageMany, f_m_balls, f_m_spot, f_m_score, f_m_strokesNow, f_m_fouls, f_m_tablesRead, f_m_seenMany, v_mk, v_mw, v_mc)) else (if (f_m_pageMany - f_m_pageMany / 5 * 5) = 2 then ((f_X12_faultOf n f_m_pageMany v_mP).bind (fun u_3 => (if f_m_pageMany ≤ u_3 then ((f_X12_cellAt v_mP 0).bind (fun u_5 => (gd (inb 0 7) (gd (inb 0 7) (gd (inb 0 7) (jn (fun (v_mk_9 : Nat → Int32) (v_mw_10 : Nat → Int32) (v_mc_11 : Nat → Int32) => (some (((f_m_pageMany - 2) / 5), 0, ((f_m_pageMany - 2) / 5), u_5, 0, 0, 0, (f_m_tablesRead + 1), 0, v_mk_9, v_mw_10, v_mc_11))) (fun (j145_12 : (Nat → Int32) → (Nat → Int32) → (Nat → Int32) → Option (Int32 × Int32 × Int32 × Int32 × Int32 × Int32 × Int32 × Int32 × Int32 × (Nat → Int32) × (Nat → Int32) × (Nat → Int32))) => (f_X12_table_L80 f_m_pageMany v_mP j145_12 n 1 (upd v_mk (0 : Int32).toNatClampNeg 0) (upd v_mw (0 : Int32).toNatClampNeg 0) (upd v_mc (0 : Int32).toNatClampNeg u_5))))))))) else (some ((-103), f_m_pageMany, f_m_balls, f_m_spot, f_m_score, f_m_strokesNow, f_m_fouls, f_m_tablesRead, f_m_seenMany, v_mk, v_mw, v_mc))))) else (some ((-103), f_m_pageMany, f_m_balls, f_m_spot, f_m_score, f_m_strokesNow, f_m_fouls, f_m_tablesRead, f_m_seenMany, v_mk, v_mw, v_mc))))
def b_X12_copy_L2 (v_q0 : Nat → Int32) (N : Nat) (go_3 : Int32 → (Nat → Int32) → Option ((Nat → Int32))) (x2_1 : Int32) (v_q1_2 : Nat → Int32) : Option ((Nat → Int32)) :=
  (if (Int32.ofNat N) ≤ x2_1 then (some v_q1_2) else (gd (inb x2_1 N) (gd (inb x2_1 N) (bnd (x2_1 + 1) (fun x2_8 => (go_3 x2_8 (upd v_q1_2 x2_1.toNatClampNeg (v_q0 x2_1.toNatClampNeg))))))))
def f_X12_copy_L2 (v_q0 : Nat → Int32) (N : Nat) (k : Nat) (x2_1 : Int32) (v_q1_2 : Nat → Int32) : Option ((Nat → Int32)) :=
  lpF (fun (self : (Int32 × (Nat → Int32)) → Option ((Nat → Int32))) (a : Int32 × (Nat → Int32)) => b_X12_copy_L2 v_q0 N (fun x2_1 v_q1_2 => self (x2_1, v_q1_2)) a.1 a.2) k (x2_1, v_q1_2)
def f_X12_copy (n : Nat) (N : Nat) (v_q0 : Nat → Int32) (v_q1 : Nat → Int32) : Option ((Nat → Int32)) :=
  (f_X12_copy_L2 v_q0 N n 0 v_q1)
def f_X12_behindAs (n : Nat) (f_m_balls : Int32) (f_m_spot : Int32) (f_m_potted : Int32) (f_m_moves : Int32) (f_m_bounces : Int32) (f_m_hitFirst : Int32) (f_m_hitPower : Int32) (f_m_hitDown : Int32) (f_m_hitRight : Int32) (f_m_isFoul : Int32) (v_mk : Nat → Int32) (v_mw : Nat → Int32) (v_mc : Nat → Int32) (v_mo : Nat → Int32) (p1 : Int32) (p2 : Int32) (p3 : Int32) (p4 : Int32) : Option (Int32 × Int32 × Int32 × Int32 × Int32 × Int32 × Int32 × Int32 × Int32 × (Nat → Int32) × (Nat → Int32)) :=
  (gd (inb p1 7) (bnd (v_mk p1.toNatClampNeg) (fun x5_2 => (gd (inb p1 7) ((f_X12_copy n 7 v_mc v_mo).bind (fun u_4 => ((f_X12_strike n f_m_balls f_m_spot f_m_potted f_m_moves f_m_bounces f_m_hitFirst f_m_hitPower f_m_hitDown f_m_hitRight f_m_isFoul (upd v_mk p1.toNatClampNeg p2) v_mw u_4 p3 p4 0).bind (fun u_5 => (gd (inb p1 7) (gd (inb p1 7) (some ((u_5.2.2.2.2.2.2.2.2.2 p1.toNatClampNeg), u_5.2.1, u_5.2.2.1, u_5.2.2.2.1, u_5.2.2.2.2.1, u_5.2.2.2.2.2.1, u_5.2.2.2.2.2.2.1, u_5.2.2.2.2.2.2.2.1, u_5.2.2.2.2.2.2.2.2.1, (upd (upd v_mk p1.toNatClampNeg p2) p1.toNatClampNeg x5_2), u_5.2.2.2.2.2.2.2.2.2))))))))))))
def b_X12_kindsOf_L15 (f_m_balls : Int32) (f_m_spot : Int32) (f_m_seenMany : Int32) (v_mw : Nat → Int32) (v_mc : Nat → Int32) (v_ms : Nat → Int32) (p1 : Int32) (n : Nat) (x3_2 : Int32) (j91_27 : Int32 → Int32 → Int32 → Int32 → Int32 → Int32 → Int32 → Int32 → Int32 → (Nat → Int32) → (Nat → Int32) → Option (Int32 × Int32 × Int32 × Int32 × Int32 × Int32 × Int32 × Int32 × Int32 × (Nat → Int32) × (Nat → Int32))) (go_46 : Int32 → Int32 → Int32 → Int32 → Int32 → Int32 → Int32 → Int32 → Int32 → Int32 → (Nat → Int32) → (Nat → Int32) → Option (Int32 × Int32 × Int32 × Int32 × Int32 × Int32 × Int32 × Int32 × Int32 × (Nat → Int32) × (Nat → Int32))) (x4_34 : Int32) (x5_35 : Int32) (f_m_potted_36 : Int32) (f_m_moves_37 : Int32) (f_m_bounces_38 : Int32) (f_m_hitFirst_39 : Int32) (f_m_hitPower_40 : Int32) (f_m_hitDown_41 : Int32) (f_m_hitRight_42 : Int32) (f_m_isFoul_43 : Int32) (v_mk_44 : Nat → Int32) (v_mo_45 : Nat → Int32) : Option (Int32 × Int32 × Int32 × Int32 × Int32 × Int32 × Int32 × Int32 × Int32 × (Nat → Int32) × (Nat → Int32)) :=
  (if (4 * f_m_seenMany) ≤ x5_35 then (j91_27 x4_34 f_m_potted_36 f_m_moves_37 f_m_bounces_38 f_m_hitFirst_39 f_m_hitPower_40 f_m_hitDown_41 f_m_hitRight_42 f_m_isFoul_43 v_mk_44 v_mo_45) else (gd (inb x5_35 24) (jn (fun (x4_50 : Int32) (f_m_potted_51 : Int32) (f_m_moves_52 : Int32) (f_m_bounces_53 : Int32) (f_m_hitFirst_54 : Int32) (f_m_hitPower_55 : Int32) (f_m_hitDown_56 : Int32) (f_m_hitRight_57 : Int32) (f_m_isFoul_58 : Int32) (v_mk_59 : Nat → Int32) (v_mo_60 : Nat → Int32) => (bnd (x5_35 + 4) (fun x5_62 => (go_46 x4_50 x5_62 f_m_potted_51 f_m_moves_52 f_m_bounces_53 f_m_hitFirst_54 f_m_hitPower_55 f_m_hitDown_56 f_m_hitRight_57 f_m_isFoul_58 v_mk_59 v_mo_60)))) (fun (j85_61 : Int32 → Int32 → Int32 → Int32 → Int32 → Int32 → Int32 → Int32 → Int32 → (Nat → Int32) → (Nat → Int32) → Option (Int32 × Int32 × Int32 × Int32 × Int32 × Int32 × Int32 × Int32 × Int32 × (Nat → Int32) × (Nat → Int32))) => (if (v_ms x5_35.toNatClampNeg) = p1 then (jn (fun (k_64 : Int32) (f_m_potted_65 : Int32) (f_m_moves_66 : Int32) (f_m_bounces_67 : Int32) (f_m_hitFirst_68 : Int32) (f_m_hitPower_69 : Int32) (f_m_hitDown_70 : Int32) (f_m_hitRight_71 : Int32) (f_m_isFoul_72 : Int32) (v_mk_73 : Nat → Int32) (v_mo_74 : Nat → Int32) => (j85_61 k_64 f_m_potted_65 f_m_moves_66 f_m_bounces_67 f_m_hitFirst_68 f_m_hitPower_69 f_m_hitDown_70 f_m_hitRight_71 f_m_isFoul_72 v_mk_73 v_mo_74)) (fun (j83_75 : Int32 → Int32 → Int32 → Int32 → Int32 → Int32 → Int32 → Int32 → Int32 → (Nat → Int32) → (Nat → Int32) → Option (Int32 × Int32 × Int32 × Int32 × Int32 × Int32 × Int32 × Int32 × Int32 × (Nat → Int32) × (Nat → Int32))) => (jn (fun (f_m_potted_76 : Int32) (f_m_moves_77 : Int32) (f_m_bounces_78 : Int32) (f_m_hitFirst_79 : Int32) (f_m_hitPower_80 : Int32) (f_m_hitDown_81 : Int32) (f_m_hitRight_82 : Int32) (f_m_isFoul_83 : Int32) (v_mk_84 : Nat → Int32) (v_mo_85 : Nat → Int32) => (j83_75 0 f_m_potted_76 f_m_moves_77 f_m_bounces_78 f_m_hitFirst_79 f_m_hitPower_80 f_m_hitDown_81 f_m_hitRight_82 f_m_isFoul_83 v_mk_84 v_mo_85)) (fun (j82_86 : Int32 → Int32 → Int32 → Int32 → Int32 → Int32 → Int32 → Int32 → (Nat → Int32) → (Nat → Int32) → Option (Int32 × Int32 × Int32 × Int32 × Int32 × Int32 × Int32 × Int32 × Int32 × (Nat → Int32) × (Nat → Int32))) => (if x4_34 = 0 then (j82_86 f_m_potted_36 f_m_moves_37 f_m_bounces_38 f_m_hitFirst_39 f_m_hitPower_40 f_m_hitDown_41 f_m_hitRight_42 f_m_isFoul_43 v_mk_44 v_mo_45) else (gd (inb (x5_35 + 1) 24) (gd (inb (x5_35 + 2) 24) ((f_X12_behindAs n f_m_balls f_m_spot f_m_potted_36 f_m_moves_37 f_m_bounces_38 f_m_hitFirst_39 f_m_hitPower_40 f_m_hitDown_41 f_m_hitRight_42 f_m_isFoul_43 v_mk_44 v_mw v_mc v_mo_45 p1 x3_2 (v_ms (x5_35 + 1).toNatClampNeg) (v_ms (x5_35 + 2).toNatClampNeg)).bind (fun u_90 => (gd (inb (x5_35 + 3) 24) (if u_90.1 = (v_ms (x5_35 + 3).toNatClampNeg) then (j83_75 1 u_90.2.1 u_90.2.2.1 u_90.2.2.2.1 u_90.2.2.2.2.1 u_90.2.2.2.2.2.1 u_90.2.2.2.2.2.2.1 u_90.2.2.2.2.2.2.2.1 u_90.2.2.2.2.2.2.2.2.1 u_90.2.2.2.2.2.2.2.2.2.1 u_90.2.2.2.2.2.2.2.2.2.2) else (j82_86 u_90.2.1 u_90.2.2.1 u_90.2.2.2.1 u_90.2.2.2.2.1 u_90.2.2.2.2.2.1 u_90.2.2.2.2.2.2.1 u_90.2.2.2.2.2.2.2.1 u_90.2.2.2.2.2.2.2.2.1 u_90.2.2.2.2.2.2.2.2.2.1 u_90.2.2.2.2.2.2.2.2.2.2)))))))))))) else (j85_61 x4_34 f_m_potted_36 f_m_moves_37 f_m_bounces_38 f_m_hitFirst_39 f_m_hitPower_40 f_m_hitDown_41 f_m_hitRight_42 f_m_isFoul_43 v_mk_44 v_mo_45))))))
def f_X12_kindsOf_L15 (f_m_balls : Int32) (f_m_spot : Int32) (f_m_seenMany : Int32) (v_mw : Nat → Int32) (v_mc : Nat → Int32) (v_ms : Nat → Int32) (p1 : Int32) (n : Nat) (x3_2 : Int32) (j91_27 : Int32 → Int32 → Int32 → Int32 → Int32 → Int32 → Int32 → Int32 → Int32 → (Nat → Int32) → (Nat → Int32) → Option (Int32 × Int32 × Int32 × Int32 × Int32 × Int32 × Int32 × Int32 × Int32 × (Nat → Int32) × (Nat → Int32))) (k : Nat) (x4_34 : Int32) (x5_35 : Int32) (f_m_potted_36 : Int32) (f_m_moves_37 : Int32) (f_m_bounces_38 : Int32) (f_m_hitFirst_39 : Int32) (f_m_hitPower_40 : Int32) (f_m_hitDown_41 : Int32) (f_m_hitRight_42 : Int32) (f_m_isFoul_43 : Int32) (v_mk_44 : Nat → Int32) (v_mo_45 : Nat → Int32) : Option (Int32 × Int32 × Int32 × Int32 × Int32 × Int32 × Int32 × Int32 × Int32 × (Nat → Int32) × (Nat → Int32)) :=
  lpF (fun (self : (Int32 × Int32 × Int32 × Int32 × Int32 × Int32 × Int32 × Int32 × Int32 × Int32 × (Nat → Int32) × (Nat → Int32)) → Option (Int32 × Int32 × Int32 × Int32 × Int32 × Int32 × Int32 × Int32 × Int32 × (Nat → Int32) × (Nat → Int32))) (a : Int32 × Int32 × Int32 × Int32 × Int32 × Int32 × Int32 × Int32 × Int32 × Int32 × (Nat → Int32) × (Nat → Int32)) => b_X12_kindsOf_L15 f_m_balls f_m_spot f_m_seenMany v_mw v_mc v_ms p1 n x3_2 j91_27 (fun x4_34 x5_35 f_m_potted_36 f_m_moves_37 f_m_bounces_38 f_m_hitFirst_39 f_m_hitPower_40 f_m_hitDown_41 f_m_hitRight_42 f_m_isFoul_43 v_mk_44 v_mo_45 => self (x4_34, x5_35, f_m_potted_36, f_m_moves_37, f_m_bounces_38, f_m_hitFirst_39, f_m_hitPower_40, f_m_hitDown_41, f_m_hitRight_42, f_m_isFoul_43, v_mk_44, v_mo_45)) a.1 a.2.1 a.2.2.1 a.2.2.2.1 a.2.2.2.2.1 a.2.2.2.2.2.1 a.2.2.2.2.2.2.1 a.2.2.2.2.2.2.2.1 a.2.2.2.2.2.2.2.2.1 a.2.2.2.2.2.2.2.2.2.1 a.2.2.2.2.2.2.2.2.2.2.1 a.2.2.2.2.2.2.2.2.2.2.2) k (x4_34, x5_35, f_m_potted_36, f_m_moves_37, f_m_bounces_38, f_m_hitFirst_39, f_m_hitPower_40, f_m_hitDown_41, f_m_hitRight_42, f_m_isFoul_43, v_mk_44, v_mo_45)
def b_X12_kindsOf_L4 (f_m_balls : Int32) (f_m_spot : Int32) (f_m_seenMany : Int32) (v_mw : Nat → Int32) (v_mc : Nat → Int32) (v_ms : Nat → Int32) (p1 : Int32) (n : Nat) (go_13 : Int32 → Int32 → Int32 → Int32 → Int32 → Int32 → Int32 → Int32 → Int32 → Int32 → (Nat → Int32) → (Nat → Int32) → Option (Int32 × Int32 × Int32 × Int32 × Int32 × Int32 × Int32 × Int32 × Int32 × (Nat → Int32) × (Nat → Int32))) (x2_1 : Int32) (x3_2 : Int32) (f_m_potted_3 : Int32) (f_m_moves_4 : Int32) (f_m_bounces_5 : Int32) (f_m_hitFirst_6 : Int32) (f_m_hitPower_7 : Int32) (f_m_hitDown_8 : Int32) (f_m_hitRight_9 : Int32) (f_m_isFoul_10 : Int32) (v_mk_11 : Nat → Int32) (v_mo_12 : Nat → Int32) : Option (Int32 × Int32 × Int32 × Int32 × Int32 × Int32 × Int32 × Int32 × Int32 × (Nat → Int32) × (Nat → Int32)) :=
  (if 5 ≤ x3_2 then (some (x2_1, f_m_potted_3, f_m_moves_4, f_m_bounces_5, f_m_hitFirst_6, f_m_hitPower_7, f_m_hitDown_8, f_m_hitRight_9, f_m_isFoul_10, v_mk_11, v_mo_12)) else (jn (fun (x4_16 : Int32) (f_m_potted_17 : Int32) (f_m_moves_18 : Int32) (f_m_bounces_19 : Int32) (f_m_hitFirst_20 : Int32) (f_m_hitPower_21 : Int32) (f_m_hitDown_22 : Int32) (f_m_hitRight_23 : Int32) (f_m_isFoul_24 : Int32) (v_mk_25 : Nat → Int32) (v_mo_26 : Nat → Int32) => (jn (fun (k_28 : Int32) (k_29 : Int32) => (bnd (k_28 ||| k_29) (fun x2_31 => (bnd (x3_2 + 1) (fun x3_32 => (go_13 x2_31 x3_32 f_m_potted_17 f_m_moves_18 f_m_bounces_19 f_m_hitFirst_20 f_m_hitPower_21 f_m_hitDown_22 f_m_hitRight_23 f_m_isFoul_24 v_mk_25 v_mo_26)))))) (fun (j104_30 : Int32 → Int32 → Option (Int32 × Int32 × Int32 × Int32 × Int32 × Int32 × Int32 × Int32 × Int32 × (Nat → Int32) × (Nat → Int32))) => (if x4_16 = 0 then (j104_30 x2_1 0) else (j104_30 x2_1 (1 <<< (x3_2 &&& 31))))))) (fun (j91_27 : Int32 → Int32 → Int32 → Int32 → Int32 → Int32 → Int32 → Int32 → Int32 → (Nat → Int32) → (Nat → Int32) → Option (Int32 × Int32 × Int32 × Int32 × Int32 × Int32 × Int32 × Int32 × Int32 × (Nat → Int32) × (Nat → Int32))) => (f_X12_kindsOf_L15 f_m_balls f_m_spot f_m_seenMany v_mw v_mc v_ms p1 n x3_2 j91_27 n 1 0 f_m_potted_3 f_m_moves_4 f_m_bounces_5 f_m_hitFirst_6 f_m_hitPower_7 f_m_hitDown_8 f_m_hitRight_9 f_m_isFoul_10 v_mk_11 v_mo_12))))
def f_X12_kindsOf_L4 (f_m_balls : Int32) (f_m_spot : Int32) (f_m_seenMany : Int32) (v_mw : Nat → Int32) (v_mc : Nat → Int32) (v_ms : Nat → Int32) (p1 : Int32) (n : Nat) (k : Nat) (x2_1 : Int32) (x3_2 : Int32) (f_m_potted_3 : Int32) (f_m_moves_4 : Int32) (f_m_bounces_5 : Int32) (f_m_hitFirst_6 : Int32) (f_m_hitPower_7 : Int32) (f_m_hitDown_8 : Int32) (f_m_hitRight_9 : Int32) (f_m_isFoul_10 : Int32) (v_mk_11 : Nat → Int32) (v_mo_12 : Nat → Int32) : Option (Int32 × Int32 × Int32 × Int32 × Int32 × Int32 × Int32 × Int32 × Int32 × (Nat → Int32) × (Nat → Int32)) :=
  lpF (fun (self : (Int32 × Int32 × Int32 × Int32 × Int32 × Int32 × Int32 × Int32 × Int32 × Int32 × (Nat → Int32) × (Nat → Int32)) → Option (Int32 × Int32 × Int32 × Int32 × Int32 × Int32 × Int32 × Int32 × Int32 × (Nat → Int32) × (Nat → Int32))) (a : Int32 × Int32 × Int32 × Int32 × Int32 × Int32 × Int32 × Int32 × Int32 × Int32 × (Nat → Int32) × (Nat → Int32)) => b_X12_kindsOf_L4 f_m_balls f_m_spot f_m_seenMany v_mw v_mc v_ms p1 n (fun x2_1 x3_2 f_m_potted_3 f_m_moves_4 f_m_bounces_5 f_m_hitFirst_6 f_m_hitPower_7 f_m_hitDown_8 f_m_hitRight_9 f_m_isFoul_10 v_mk_11 v_mo_12 => self (x2_1, x3_2, f_m_potted_3, f_m_moves_4, f_m_bounces_5, f_m_hitFirst_6, f_m_hitPower_7, f_m_hitDown_8, f_m_hitRight_9, f_m_isFoul_10, v_mk_11, v_mo_12)) a.1 a.2.1 a.2.2.1 a.2.2.2.1 a.2.2.2.2.1 a.2.2.2.2.2.1 a.2.2.2.2.2.2.1 a.2.2.2.2.2.2.2.1 a.2.2.2.2.2.2.2.2.1 a.2.2.2.2.2.2.2.2.2.1 a.2.2.2.2.2.2.2.2.2.2.1 a.2.2.2.2.2.2.2.2.2.2.2) k (x2_1, x3_2, f_m_potted_3, f_m_moves_4, f_m_bounces_5, f_m_hitFirst_6, f_m_hitPower_7, f_m_hitDown_8, f_m_hitRight_9, f_m_isFoul_10, v_mk_11, v_mo_12)
def f_X12_kindsOf (n : Nat) (f_m_balls : Int32) (f_m_spot : Int32) (f_m_potted : Int32) (f_m_moves : Int32) (f_m_bounces : Int32) (f_m_hitFirst : Int32) (f_m_hitPower : Int32) (f_m_hitDown : Int32) (f_m_hitRight : Int32) (f_m_isFoul : Int32) (f_m_seenMany : Int32) (v_mk : Nat → Int32) (v_mw : Nat → Int32) (v_mc : Nat → Int32) (v_mo : Nat → Int32) (v_ms : Nat → Int32) (p1 : Int32) : Option (Int32 × Int32 × Int32 × Int32 × Int32 × Int32 × Int32 × Int32 × Int32 × (Nat → Int32) × (Nat → Int32)) :=
  (f_X12_kindsOf_L4 f_m_balls f_m_spot f_m_seenMany v_mw v_mc v_ms p1 n n 0 0 f_m_potted f_m_moves f_m_bounces f_m_hitFirst f_m_hitPower f_m_hitDown f_m_hitRight f_m_isFoul v_mk v_mo)
def b_X12_tryOf_L77 (u_1 : Int32 × Int32 × Int32 × Int32 × Int32 × Int32 × Int32 × Int32 × Int32 × (Nat → Int32) × (Nat → Int32)) (v_mb_30 : Nat → Int32) (x7_42 : Int32) (j121_47 : Int32 → Option (Int32 × Int32 × Int32 × Int32 × Int32 × Int32 × Int32 × Int32 × Int32 × (Nat → Int32) × (Nat → Int32) × (Nat → Int32))) (go_56 : Int32 → Int32 → Option (Int32 × Int32 × Int32 × Int32 × Int32 × Int32 × Int32 × Int32 × Int32 × (Nat → Int32) × (Nat → Int32) × (Nat → Int32))) (x8_54 : Int32) (x9_55 : Int32) : Option (Int32 × Int32 × Int32 × Int32 × Int32 × Int32 × Int32 × Int32 × Int32 × (Nat → Int32) × (Nat → Int32) × (Nat → Int32)) :=
  (if 5 ≤ x9_55 then (j121_47 x8_54) else (gd (inb x9_55 5) (gd (inb x7_42 5) (jn (fun (k_61 : Int32) (k_62 : Int32) => (bnd (k_61 + k_62) (fun x8_64 => (bnd (x9_55 + 1) (fun x9_65 => (go_56 x8_64 x9_65)))))) (fun (j112_63 : Int32 → Int32 → Option (Int32 × Int32 × Int32 × Int32 × Int32 × Int32 × Int32 × Int32 × Int32 × (Nat → Int32) × (Nat → Int32) × (Nat → Int32))) => (if (v_mb_30 x9_55.toNatClampNeg) = (v_mb_30 x7_42.toNatClampNeg) then (j112_63 x8_54 ((u_1.1 >>> (x9_55 &&& 31)) &&& 1)) else (j112_63 x8_54 0)))))))
def f_X12_tryOf_L77 (u_1 : Int32 × Int32 × Int32 × Int32 × Int32 × Int32 × Int32 × Int32 × Int32 × (Nat → Int32) × (Nat → Int32)) (v_mb_30 : Nat → Int32) (x7_42 : Int32) (j121_47 : Int32 → Option (Int32 × Int32 × Int32 × Int32 × Int32 × Int32 × Int32 × Int32 × Int32 × (Nat → Int32) × (Nat → Int32) × (Nat → Int32))) (k : Nat) (x8_54 : Int32) (x9_55 : Int32) : Option (Int32 × Int32 × Int32 × Int32 × Int32 × Int32 × Int32 × Int32 × Int32 × (Nat → Int32) × (Nat → Int32) × (Nat → Int32)) :=
  lpF (fun (self : (Int32 × Int32) → Option (Int32 × Int32 × Int32 × Int32 × Int32 × Int32 × Int32 × Int32 × Int32 × (Nat → Int32) × (Nat → Int32) × (Nat → Int32))) (a : Int32 × Int32) => b_X12_tryOf_L77 u_1 v_mb_30 x7_42 j121_47 (fun x8_54 x9_55 => self (x8_54, x9_55)) a.1 a.2) k (x8_54, x9_55)
def b_X12_tryOf_L65 (n : Nat) (u_1 : Int32 × Int32 × Int32 × Int32 × Int32 × Int32 × Int32 × Int32 × Int32 × (Nat → Int32) × (Nat → Int32)) (v_mb_30 : Nat → Int32) (j153_33 : Int32 → Option (Int32 × Int32 × Int32 × Int32 × Int32 × Int32 × Int32 × Int32 × Int32 × (Nat → Int32) × (Nat → Int32) × (Nat → Int32))) (go_43 : Int32 → Int32 → Option (Int32 × Int32 × Int32 × Int32 × Int32 × Int32 × Int32 × Int32 × Int32 × (Nat → Int32) × (Nat → Int32) × (Nat → Int32))) (x6_41 : Int32) (x7_42 : Int32) : Option (Int32 × Int32 × Int32 × Int32 × Int32 × Int32 × Int32 × Int32 × Int32 × (Nat → Int32) × (Nat → Int32) × (Nat → Int32)) :=
  (if 5 ≤ x7_42 then (j153_33 x6_41) else (jn (fun (x8_46 : Int32) => (jn (fun (k_48 : Int32) => (bnd (x7_42 + 1) (fun x7_50 => (go_43 k_48 x7_50)))) (fun (j145_49 : Int32 → Option (Int32 × Int32 × Int32 × Int32 × Int32 × Int32 × Int32 × Int32 × Int32 × (Nat → Int32) × (Nat → Int32) × (Nat → Int32))) => (jn ((j145_49 x6_41)) (fun (j143_51 : Option (Int32 × Int32 × Int32 × Int32 × Int32 × Int32 × Int32 × Int32 × Int32 × (Nat → Int32) × (Nat → Int32) × (Nat → Int32))) => (if ((u_1.1 >>> (x7_42 &&& 31)) &&& 1) = 1 then (if x8_46 ≤ x6_41 then j143_51 else (j145_49 x8_46)) else j143_51)))))) (fun (j121_47 : Int32 → Option (Int32 × Int32 × Int32 × Int32 × Int32 × Int32 × Int32 × Int32 × Int32 × (Nat → Int32) × (Nat → Int32) × (Nat → Int32))) => (f_X12_tryOf_L77 u_1 v_mb_30 x7_42 j121_47 n 0 0))))
def f_X12_tryOf_L65 (n : Nat) (u_1 : Int32 × Int32 × Int32 × Int32 × Int32 × Int32 × Int32 × Int32 × Int32 × (Nat → Int32) × (Nat → Int32)) (v_mb_30 : Nat → Int32) (j153_33 : Int32 → Option (Int32 × Int32 × Int32 × Int32 × Int32 × Int32 × Int32 × Int32 × Int32 × (Nat → Int32) × (Nat → Int32) × (Nat → Int32))) (k : Nat) (x6_41 : Int32) (x7_42 : Int32) : Option (Int32 × Int32 × Int32 × Int32 × Int32 × Int32 × Int32 × Int32 × Int32 × (Nat → Int32) × (Nat → Int32) × (Nat → Int32)) :=
  lpF (fun (self : (Int32 × Int32) → Option (Int32 × Int32 × Int32 × Int32 × Int32 × Int32 × Int32 × Int32 × Int32 × (Nat → Int32) × (Nat → Int32) × (Nat → Int32))) (a : Int32 × Int32) => b_X12_tryOf_L65 n u_1 v_mb_30 j153_33 (fun x6_41 x7_42 => self (x6_41, x7_42)) a.1 a.2) k (x6_41, x7_42)
def b_X12_tryOf_L29 (f_m_balls : Int32) (f_m_spot : Int32) (v_mw : Nat → Int32) (v_mc : Nat → Int32) (p1 : Int32) (n : Nat) (x5_4 : Int32) (j59_31 : Int32 → Int32 → Int32 → Int32 → Int32 → Int32 → Int32 → Int32 → (Nat → Int32) → (Nat → Int32) → (Nat → Int32) → Option (Int32 × Int32 × Int32 × Int32 × Int32 × Int32 × Int32 × Int32 × Int32 × (Nat → Int32) × (Nat → Int32) × (Nat → Int32))) (go_79 : Int32 → Int32 → Int32 → Int32 → Int32 → Int32 → Int32 → Int32 → Int32 → (Nat → Int32) → (Nat → Int32) → (Nat → Int32) → Option (Int32 × Int32 × Int32 × Int32 × Int32 × Int32 × Int32 × Int32 × Int32 × (Nat → Int32) × (Nat → Int32) × (Nat → Int32))) (x6_67 : Int32) (f_m_potted_68 : Int32) (f_m_moves_69 : Int32) (f_m_bounces_70 : Int32) (f_m_hitFirst_71 : Int32) (f_m_hitPower_72 : Int32) (f_m_hitDown_73 : Int32) (f_m_hitRight_74 : Int32) (f_m_isFoul_75 : Int32) (v_mk_76 : Nat → Int32) (v_mo_77 : Nat → Int32) (v_mb_78 : Nat → Int32) : Option (Int32 × Int32 × Int32 × Int32 × Int32 × Int32 × Int32 × Int32 × Int32 × (Nat → Int32) × (Nat → Int32) × (Nat → Int32)) :=
  (if 5 ≤ x6_67 then (j59_31 f_m_potted_68 f_m_moves_69 f_m_bounces_70 f_m_hitFirst_71 f_m_hitPower_72 f_m_hitDown_73 f_m_hitRight_74 f_m_isFoul_75 v_mk_76 v_mo_77 v_mb_78) else ((f_X12_behindAs n f_m_balls f_m_spot f_m_potted_68 f_m_moves_69 f_m_bounces_70 f_m_hitFirst_71 f_m_hitPower_72 f_m_hitDown_73 f_m_hitRight_74 f_m_isFoul_75 v_mk_76 v_mw v_mc v_mo_77 p1 x6_67 x5_4 6).bind (fun u_82 => (gd (inb x6_67 5) (bnd (x6_67 + 1) (fun x6_84 => (go_79 x6_84 u_82.2.1 u_82.2.2.1 u_82.2.2.2.1 u_82.2.2.2.2.1 u_82.2.2.2.2.2.1 u_82.2.2.2.2.2.2.1 u_82.2.2.2.2.2.2.2.1 u_82.2.2.2.2.2.2.2.2.1 u_82.2.2.2.2.2.2.2.2.2.1 u_82.2.2.2.2.2.2.2.2.2.2 (upd v_mb_78 x6_67.toNatClampNeg u_82.1))))))))
def f_X12_tryOf_L29 (f_m_balls : Int32) (f_m_spot : Int32) (v_mw : Nat → Int32) (v_mc : Nat → Int32) (p1 : Int32) (n : Nat) (x5_4 : Int32) (j59_31 : Int32 → Int32 → Int32 → Int32 → Int32 → Int32 → Int32 → Int32 → (Nat → Int32) → (Nat → Int32) → (Nat → Int32) → Option (Int32 × Int32 × Int32 × Int32 × Int32 × Int32 × Int32 × Int32 × Int32 × (Nat → Int32) × (Nat → Int32) × (Nat → Int32))) (k : Nat) (x6_67 : Int32) (f_m_potted_68 : Int32) (f_m_moves_69 : Int32) (f_m_bounces_70 : Int32) (f_m_hitFirst_71 : Int32) (f_m_hitPower_72 : Int32) (f_m_hitDown_73 : Int32) (f_m_hitRight_74 : Int32) (f_m_isFoul_75 : Int32) (v_mk_76 : Nat → Int32) (v_mo_77 : Nat → Int32) (v_mb_78 : Nat → Int32) : Option (Int32 × Int32 × Int32 × Int32 × Int32 × Int32 × Int32 × Int32 × Int32 × (Nat → Int32) × (Nat → Int32) × (Nat → Int32)) :=
  lpF (fun (self : (Int32 × Int32 × Int32 × Int32 × Int32 × Int32 × Int32 × Int32 × Int32 × (Nat → Int32) × (Nat → Int32) × (Nat → Int32)) → Option (Int32 × Int32 × Int32 × Int32 × Int32 × Int32 × Int32 × Int32 × Int32 × (Nat → Int32) × (Nat → Int32) × (Nat → Int32))) (a : Int32 × Int32 × Int32 × Int32 × Int32 × Int32 × Int32 × Int32 × Int32 × (Nat → Int32) × (Nat → Int32) × (Nat → Int32)) => b_X12_tryOf_L29 f_m_balls f_m_spot v_mw v_mc p1 n x5_4 j59_31 (fun x6_67 f_m_potted_68 f_m_moves_69 f_m_bounces_70 f_m_hitFirst_71 f_m_hitPower_72 f_m_hitDown_73 f_m_hitRight_74 f_m_isFoul_75 v_mk_76 v_mo_77 v_mb_78 => self (x6_67, f_m_potted_68, f_m_moves_69, f_m_bounces_70, f_m_hitFirst_71, f_m_hitPower_72, f_m_hitDown_73, f_m_hitRight_74, f_m_isFoul_75, v_mk_76, v_mo_77, v_mb_78)) a.1 a.2.1 a.2.2.1 a.2.2.2.1 a.2.2.2.2.1 a.2.2.2.2.2.1 a.2.2.2.2.2.2.1 a.2.2.2.2.2.2.2.1 a.2.2.2.2.2.2.2.2.1 a.2.2.2.2.2.2.2.2.2.1 a.2.2.2.2.2.2.2.2.2.2.1 a.2.2.2.2.2.2.2.2.2.2.2) k (x6_67, f_m_potted_68, f_m_moves_69, f_m_bounces_70, f_m_hitFirst_71, f_m_hitPower_72, f_m_hitDown_73, f_m_hitRight_74, f_m_isFoul_75, v_mk_76, v_mo_77, v_mb_78)
def b_X12_tryOf_L15 (f_m_balls : Int32) (f_m_spot : Int32) (v_mw : Nat → Int32) (v_mc : Nat → Int32) (p1 : Int32) (n : Nat) (u_1 : Int32 × Int32 × Int32 × Int32 × Int32 × Int32 × Int32 × Int32 × Int32 × (Nat → Int32) × (Nat → Int32)) (go_16 : Int32 → Int32 → Int32 → Int32 → Int32 → Int32 → Int32 → Int32 → Int32 → Int32 → Int32 → (Nat → Int32) → (Nat → Int32) → (Nat → Int32) → Option (Int32 × Int32 × Int32 × Int32 × Int32 × Int32 × Int32 × Int32 × Int32 × (Nat → Int32) × (Nat → Int32) × (Nat → Int32))) (x3_2 : Int32) (x4_3 : Int32) (x5_4 : Int32) (f_m_potted_5 : Int32) (f_m_moves_6 : Int32) (f_m_bounces_7 : Int32) (f_m_hitFirst_8 : Int32) (f_m_hitPower_9 : Int32) (f_m_hitDown_10 : Int32) (f_m_hitRight_11 : Int32) (f_m_isFoul_12 : Int32) (v_mk_13 : Nat → Int32) (v_mo_14 : Nat → Int32) (v_mb_15 : Nat → Int32) : Option (Int32 × Int32 × Int32 × Int32 × Int32 × Int32 × Int32 × Int32 × Int32 × (Nat → Int32) × (Nat → Int32) × (Nat → Int32)) :=
  (if 8 ≤ x5_4 then (some (x3_2, f_m_potted_5, f_m_moves_6, f_m_bounces_7, f_m_hitFirst_8, f_m_hitPower_9, f_m_hitDown_10, f_m_hitRight_11, f_m_isFoul_12, v_mk_13, v_mo_14, v_mb_15)) else (if u_1.1 = 0 then (some (x3_2, f_m_potted_5, f_m_moves_6, f_m_bounces_7, f_m_hitFirst_8, f_m_hitPower_9, f_m_hitDown_10, f_m_hitRight_11, f_m_isFoul_12, v_mk_13, v_mo_14, v_mb_15)) else (jn (fun (f_m_potted_20 : Int32) (f_m_moves_21 : Int32) (f_m_bounces_22 : Int32) (f_m_hitFirst_23 : Int32) (f_m_hitPower_24 : Int32) (f_m_hitDown_25 : Int32) (f_m_hitRight_26 : Int32) (f_m_isFoul_27 : Int32) (v_mk_28 : Nat → Int32) (v_mo_29 : Nat → Int32) (v_mb_30 : Nat → Int32) => (jn (fun (x6_32 : Int32) => (jn (fun (k_34 : Int32) => (jn (fun (k_36 : Int32) => (bnd (x5_4 + 1) (fun x5_38 => (go_16 k_34 k_36 x5_38 f_m_potted_20 f_m_moves_21 f_m_bounces_22 f_m_hitFirst_23 f_m_hitPower_24 f_m_hitDown_25 f_m_hitRight_26 f_m_isFoul_27 v_mk_28 v_mo_29 v_mb_30)))) (fun (j181_37 : Int32 → Option (Int32 × Int32 × Int32 × Int32 × Int32 × Int32 × Int32 × Int32 × Int32 × (Nat → Int32) × (Nat → Int32) × (Nat → Int32))) => (if x4_3 ≤ x6_32 then (j181_37 x4_3) else (j181_37 x6_32))))) (fun (j166_35 : Int32 → Option (Int32 × Int32 × Int32 × Int32 × Int32 × Int32 × Int32 × Int32 × Int32 × (Nat → Int32) × (Nat → Int32) × (Nat → Int32))) => (if x4_3 ≤ x6_32 then (j166_35 x3_2) else (j166_35 x5_4))))) (fun (j153_33 : Int32 → Option (Int32 × Int32 × Int32 × Int32 × Int32 × Int32 × Int32 × Int32 × Int32 × (Nat → Int32) × (Nat → Int32) × (Nat → Int32))) => (f_X12_tryOf_L65 n u_1 v_mb_30 j153_33 n 0 0)))) (fun (j59_31 : Int32 → Int32 → Int32 → Int32 → Int32 → Int32 → Int32 → Int32 → (Nat → Int32) → (Nat → Int32) → (Nat → Int32) → Option (Int32 × Int32 × Int32 × Int32 × Int32 × Int32 × Int32 × Int32 × Int32 × (Nat → Int32) × (Nat → Int32) × (Nat → Int32))) => (f_X12_tryOf_L29 f_m_balls f_m_spot v_mw v_mc p1 n x5_4 j59_31 n 0 f_m_potted_5 f_m_moves_6 f_m_bounces_7 f_m_hitFirst_8 f_m_hitPower_9 f_m_hitDown_10 f_m_hitRight_11 f_m_isFoul_12 v_mk_13 v_mo_14 v_mb_15)))))
def f_X12_tryOf_L15 (f_m_balls : Int32) (f_m_spot : Int32) (v_mw : Nat → Int32) (v_mc : Nat → Int32) (p1 : Int32) (n : Nat) (u_1 : Int32 × Int32 × Int32 × Int32 × Int32 × Int32 × Int32 × Int32 × Int32 × (Nat → Int32) × (Nat → Int32)) (k : Nat) (x3_2 : Int32) (x4_3 : Int32) (x5_4 : Int32) (f_m_potted_5 : Int32) (f_m_moves_6 : Int32) (f_m_bounces_7 : Int32) (f_m_hitFirst_8 : Int32) (f_m_hitPower_9 : Int32) (f_m_hitDown_10 : Int32) (f_m_hitRight_11 : Int32) (f_m_isFoul_12 : Int32) (v_mk_13 : Nat → Int32) (v_mo_14 : Nat → Int32) (v_mb_15 : Nat → Int32) : Option (Int32 × Int32 × Int32 × Int32 × Int32 × Int32 × Int32 × Int32 × Int32 × (Nat → Int32) × (Nat → Int32) × (Nat → Int32)) :=
  lpF (fun (self : (Int32 × Int32 × Int32 × Int32 × Int32 × Int32 × Int32 × Int32 × Int32 × Int32 × Int32 × (Nat → Int32) × (Nat → Int32) × (Nat → Int32)) → Option (Int32 × Int32 × Int32 × Int32 × Int32 × Int32 × Int32 × Int32 × Int32 × (Nat → Int32) × (Nat → Int32) × (Nat → Int32))) (a : Int32 × Int32 × Int32 × Int32 × Int32 × Int32 × Int32 × Int32 × Int32 × Int32 × Int32 × (Nat → Int32) × (Nat → Int32) × (Nat → Int32)) => b_X12_tryOf_L15 f_m_balls f_m_spot v_mw v_mc p1 n u_1 (fun x3_2 x4_3 x5_4 f_m_potted_5 f_m_moves_6 f_m_bounces_7 f_m_hitFirst_8 f_m_hitPower_9 f_m_hitDown_10 f_m_hitRight_11 f_m_isFoul_12 v_mk_13 v_mo_14 v_mb_15 => self (x3_2, x4_3, x5_4, f_m_potted_5, f_m_moves_6, f_m_bounces_7, f_m_hitFirst_8, f_m_hitPower_9, f_m_hitDown_10, f_m_hitRight_11, f_m_isFoul_12, v_mk_13, v_mo_14, v_mb_15)) a.1 a.2.1 a.2.2.1 a.2.2.2.1 a.2.2.2.2.1 a.2.2.2.2.2.1 a.2.2.2.2.2.2.1 a.2.2.2.2.2.2.2.1 a.2.2.2.2.2.2.2.2.1 a.2.2.2.2.2.2.2.2.2.1 a.2.2.2.2.2.2.2.2.2.2.1 a.2.2.2.2.2.2.2.2.2.2.2.1 a.2.2.2.2.2.2.2.2.2.2.2.2.1 a.2.2.2.2.2.2.2.2.2.2.2.2.2) k (x3_2, x4_3, x5_4, f_m_potted_5, f_m_moves_6, f_m_bounces_7, f_m_hitFirst_8, f_m_hitPower_9, f_m_hitDown_10, f_m_hitRight_11, f_m_isFoul_12, v_mk_13, v_mo_14, v_mb_15)
def f_X12_tryOf (n : Nat) (f_m_balls : Int32) (f_m_spot : Int32) (f_m_potted : Int32) (f_m_moves : Int32) (f_m_bounces : Int32) (f_m_hitFirst : Int32) (f_m_hitPower : Int32) (f_m_hitDown : Int32) (f_m_hitRight : Int32) (f_m_isFoul : Int32) (f_m_seenMany : Int32) (v_mk : Nat → Int32) (v_mw : Nat → Int32) (v_mc : Nat → Int32) (v_mo : Nat → Int32) (v_ms : Nat → Int32) (v_mb : Nat → Int32) (p1 : Int32) : Option (Int32 × Int32 × Int32 × Int32 × Int32 × Int32 × Int32 × Int32 × Int32 × (Nat → Int32) × (Nat → Int32) × (Nat → Int32)) :=
  ((f_X12_kindsOf n f_m_balls f_m_spot f_m_potted f_m_moves f_m_bounces f_m_hitFirst f_m_hitPower f_m_hitDown f_m_hitRight f_m_isFoul f_m_seenMany v_mk v_mw v_mc v_mo v_ms p1).bind (fun u_1 => (f_X12_tryOf_L15 f_m_balls f_m_spot v_mw v_mc p1 n u_1 n (-1) 6 0 u_1.2.1 u_1.2.2.1 u_1.2.2.2.1 u_1.2.2.2.2.1 u_1.2.2.2.2.2.1 u_1.2.2.2.2.2.2.1 u_1.2.2.2.2.2.2.2.1 u_1.2.2.2.2.2.2.2.2.1 u_1.2.2.2.2.2.2.2.2.2.1 u_1.2.2.2.2.2.2.2.2.2.2 v_mb)))
def b_X12_isWantedFrom_L11 (f_m_balls : Int32) (f_m_spot : Int32) (v_mk : Nat → Int32) (v_mw : Nat → Int32) (v_mc : Nat → Int32) (p1 : Int32) (p2 : Int32) (n : Nat) (x3_1 : Int32) (j76_23 : Int32 → Int32 → Int32 → Int32 → Int32 → Int32 → Int32 → Int32 → (Nat → Int32) → Option (Int32 × Int32 × Int32 × Int32 × Int32 × Int32 × Int32 × Int32 × Int32 × (Nat → Int32))) (go_35 : Int32 → Int32 → Int32 → Int32 → Int32 → Int32 → Int32 → Int32 → Int32 → (Nat → Int32) → Option (Int32 × Int32 × Int32 × Int32 × Int32 × Int32 × Int32 × Int32 × Int32 × (Nat → Int32))) (x4_25 : Int32) (f_m_potted_26 : Int32) (f_m_moves_27 : Int32) (f_m_bounces_28 : Int32) (f_m_hitFirst_29 : Int32) (f_m_hitPower_30 : Int32) (f_m_hitDown_31 : Int32) (f_m_hitRight_32 : Int32) (f_m_isFoul_33 : Int32) (v_mo_34 : Nat → Int32) : Option (Int32 × Int32 × Int32 × Int32 × Int32 × Int32 × Int32 × Int32 × Int32 × (Nat → Int32)) :=
  (if 10 ≤ x4_25 then (j76_23 f_m_potted_26 f_m_moves_27 f_m_bounces_28 f_m_hitFirst_29 f_m_hitPower_30 f_m_hitDown_31 f_m_hitRight_32 f_m_isFoul_33 v_mo_34) else ((f_X12_copy n 7 v_mc v_mo_34).bind (fun u_38 => (gd (inb 0 7) ((f_X12_strike n f_m_balls f_m_spot f_m_potted_26 f_m_moves_27 f_m_bounces_28 f_m_hitFirst_29 f_m_hitPower_30 f_m_hitDown_31 f_m_hitRight_32 f_m_isFoul_33 v_mk v_mw (upd u_38 (0 : Int32).toNatClampNeg p2) x3_1 x4_25 0).bind (fun u_40 => (jn ((bnd (x4_25 + 1) (fun x4_42 => (go_35 x4_42 u_40.2.1 u_40.2.2.1 u_40.2.2.2.1 u_40.2.2.2.2.1 u_40.2.2.2.2.2.1 u_40.2.2.2.2.2.2.1 u_40.2.2.2.2.2.2.2.1 u_40.2.2.2.2.2.2.2.2.1 u_40.2.2.2.2.2.2.2.2.2)))) (fun (j70_41 : Option (Int32 × Int32 × Int32 × Int32 × Int32 × Int32 × Int32 × Int32 × Int32 × (Nat → Int32))) => (if u_40.2.2.2.2.2.2.2.2.1 = 0 then (if ((u_40.2.1 >>> (p1 &&& 31)) &&& 1) = 1 then (some (1, u_40.2.1, u_40.2.2.1, u_40.2.2.2.1, u_40.2.2.2.2.1, u_40.2.2.2.2.2.1, u_40.2.2.2.2.2.2.1, u_40.2.2.2.2.2.2.2.1, u_40.2.2.2.2.2.2.2.2.1, u_40.2.2.2.2.2.2.2.2.2)) else j70_41) else j70_41)))))))))
def f_X12_isWantedFrom_L11 (f_m_balls : Int32) (f_m_spot : Int32) (v_mk : Nat → Int32) (v_mw : Nat → Int32) (v_mc : Nat → Int32) (p1 : Int32) (p2 : Int32) (n : Nat) (x3_1 : Int32) (j76_23 : Int32 → Int32 → Int32 → Int32 → Int32 → Int32 → Int32 → Int32 → (Nat → Int32) → Option (Int32 × Int32 × Int32 × Int32 × Int32 × Int32 × Int32 × Int32 × Int32 × (Nat → Int32))) (k : Nat) (x4_25 : Int32) (f_m_potted_26 : Int32) (f_m_moves_27 : Int32) (f_m_bounces_28 : Int32) (f_m_hitFirst_29 : Int32) (f_m_hitPower_30 : Int32) (f_m_hitDown_31 : Int32) (f_m_hitRight_32 : Int32) (f_m_isFoul_33 : Int32) (v_mo_34 : Nat → Int32) : Option (Int32 × Int32 × Int32 × Int32 × Int32 × Int32 × Int32 × Int32 × Int32 × (Nat → Int32)) :=
  lpF (fun (self : (Int32 × Int32 × Int32 × Int32 × Int32 × Int32 × Int32 × Int32 × Int32 × (Nat → Int32)) → Option (Int32 × Int32 × Int32 × Int32 × Int32 × Int32 × Int32 × Int32 × Int32 × (Nat → Int32))) (a : Int32 × Int32 × Int32 × Int32 × Int32 × Int32 × Int32 × Int32 × Int32 × (Nat → Int32)) => b_X12_isWantedFrom_L11 f_m_balls f_m_spot v_mk v_mw v_mc p1 p2 n x3_1 j76_23 (fun x4_25 f_m_potted_26 f_m_moves_27 f_m_bounces_28 f_m_hitFirst_29 f_m_hitPower_30 f_m_hitDown_31 f_m_hitRight_32 f_m_isFoul_33 v_mo_34 => self (x4_25, f_m_potted_26, f_m_moves_27, f_m_bounces_28, f_m_hitFirst_29, f_m_hitPower_30, f_m_hitDown_31, f_m_hitRight_32, f_m_isFoul_33, v_mo_34)) a.1 a.2.1 a.2.2.1 a.2.2.2.1 a.2.2.2.2.1 a.2.2.2.2.2.1 a.2.2.2.2.2.2.1 a.2.2.2.2.2.2.2.1 a.2.2.2.2.2.2.2.2.1 a.2.2.2.2.2.2.2.2.2) k (x4_25, f_m_potted_26, f_m_moves_27, f_m_bounces_28, f_m_hitFirst_29, f_m_hitPower_30, f_m_hitDown_31, f_m_hitRight_32, f_m_isFoul_33, v_mo_34)
def b_X12_isWantedFrom_L2 (f_m_balls : Int32) (f_m_spot : Int32) (v_mk : Nat → Int32) (v_mw : Nat → Int32) (v_mc : Nat → Int32) (p1 : Int32) (p2 : Int32) (n : Nat) (go_11 : Int32 → Int32 → Int32 → Int32 → Int32 → Int32 → Int32 → Int32 → Int32 → (Nat → Int32) → Option (Int32 × Int32 × Int32 × Int32 × Int32 × Int32 × Int32 × Int32 × Int32 × (Nat → Int32))) (x3_1 : Int32) (f_m_potted_2 : Int32) (f_m_moves_3 : Int32) (f_m_bounces_4 : Int32) (f_m_hitFirst_5 : Int32) (f_m_hitPower_6 : Int32) (f_m_hitDown_7 : Int32) (f_m_hitRight_8 : Int32) (f_m_isFoul_9 : Int32) (v_mo_10 : Nat → Int32) : Option (Int32 × Int32 × Int32 × Int32 × Int32 × Int32 × Int32 × Int32 × Int32 × (Nat → Int32)) :=
  (if 8 ≤ x3_1 then (some (0, f_m_potted_2, f_m_moves_3, f_m_bounces_4, f_m_hitFirst_5, f_m_hitPower_6, f_m_hitDown_7, f_m_hitRight_8, f_m_isFoul_9, v_mo_10)) else (jn (fun (f_m_potted_14 : Int32) (f_m_moves_15 : Int32) (f_m_bounces_16 : Int32) (f_m_hitFirst_17 : Int32) (f_m_hitPower_18 : Int32) (f_m_hitDown_19 : Int32) (f_m_hitRight_20 : Int32) (f_m_isFoul_21 : Int32) (v_mo_22 : Nat → Int32) => (bnd (x3_1 + 1) (fun x3_24 => (go_11 x3_24 f_m_potted_14 f_m_moves_15 f_m_bounces_16 f_m_hitFirst_17 f_m_hitPower_18 f_m_hitDown_19 f_m_hitRight_20 f_m_isFoul_21 v_mo_22)))) (fun (j76_23 : Int32 → Int32 → Int32 → Int32 → Int32 → Int32 → Int32 → Int32 → (Nat → Int32) → Option (Int32 × Int32 × Int32 × Int32 × Int32 × Int32 × Int32 × Int32 × Int32 × (Nat → Int32))) => (f_X12_isWantedFrom_L11 f_m_balls f_m_spot v_mk v_mw v_mc p1 p2 n x3_1 j76_23 n 1 f_m_potted_2 f_m_moves_3 f_m_bounces_4 f_m_hitFirst_5 f_m_hitPower_6 f_m_hitDown_7 f_m_hitRight_8 f_m_isFoul_9 v_mo_10))))
def f_X12_isWantedFrom_L2 (f_m_balls : Int32) (f_m_spot : Int32) (v_mk : Nat → Int32) (v_mw : Nat → Int32) (v_mc : Nat → Int32) (p1 : Int32) (p2 : Int32) (n : Nat) (k : Nat) (x3_1 : Int32) (f_m_potted_2 : Int32) (f_m_moves_3 : Int32) (f_m_bounces_4 : Int32) (f_m_hitFirst_5 : Int32) (f_m_hitPower_6 : Int32) (f_m_hitDown_7 : Int32) (f_m_hitRight_8 : Int32) (f_m_isFoul_9 : Int32) (v_mo_10 : Nat → Int32) : Option (Int32 × Int32 × Int32 × Int32 × Int32 × Int32 × Int32 × Int32 × Int32 × (Nat → Int32)) :=
  lpF (fun (self : (Int32 × Int32 × Int32 × Int32 × Int32 × Int32 × Int32 × Int32 × Int32 × (Nat → Int32)) → Option (Int32 × Int32 × Int32 × Int32 × Int32 × Int32 × Int32 × Int32 × Int32 × (Nat → Int32))) (a : Int32 × Int32 × Int32 × Int32 × Int32 × Int32 × Int32 × Int32 × Int32 × (Nat → Int32)) => b_X12_isWantedFrom_L2 f_m_balls f_m_spot v_mk v_mw v_mc p1 p2 n (fun x3_1 f_m_potted_2 f_m_moves_3 f_m_bounces_4 f_m_hitFirst_5 f_m_hitPower_6 f_m_hitDown_7 f_m_hitRight_8 f_m_isFoul_9 v_mo_10 => self (x3_1, f_m_potted_2, f_m_moves_3, f_m_bounces_4, f_m_hitFirst_5, f_m_hitPower_6, f_m_hitDown_7, f_m_hitRight_8, f_m_isFoul_9, v_mo_10)) a.1 a.2.1 a.2.2.1 a.2.2.2.1 a.2.2.2.2.1 a.2.2.2.2.2.1 a.2.2.2.2.2.2.1 a.2.2.2.2.2.2.2.1 a.2.2.2.2.2.2.2.2.1 a.2.2.2.2.2.2.2.2.2) k (x3_1, f_m_potted_2, f_m_moves_3, f_m_bounces_4, f_m_hitFirst_5, f_m_hitPower_6, f_m_hitDown_7, f_m_hitRight_8, f_m_isFoul_9, v_mo_10)
def f_X12_isWantedFrom (n : Nat) (f_m_balls : Int32) (f_m_spot : Int32) (f_m_potted : Int32) (f_m_moves : Int32) (f_m_bounces : Int32) (f_m_hitFirst : Int32) (f_m_hitPower : Int32) (f_m_hitDown : Int32) (f_m_hitRight : Int32) (f_m_isFoul : Int32) (v_mk : Nat → Int32) (v_mw : Nat → Int32) (v_mc : Nat → Int32) (v_mo : Nat → Int32) (p1 : Int32) (p2 : Int32) : Option (Int32 × Int32 × Int32 × Int32 × Int32 × Int32 × Int32 × Int32 × Int32 × (Nat → Int32)) :=
  (f_X12_isWantedFrom_L2 f_m_balls f_m_spot v_mk v_mw v_mc p1 p2 n n 0 f_m_potted f_m_moves f_m_bounces f_m_hitFirst f_m_hitPower f_m_hitDown f_m_hitRight f_m_isFoul v_mo)
def b_X12_wantedOf_L5 (f_m_balls : Int32) (f_m_spot : Int32) (v_mk : Nat → Int32) (v_mw : Nat → Int32) (v_mc : Nat → Int32) (p1 : Int32) (n : Nat) (go_12 : Int64 → Int32 → Int32 → Int32 → Int32 → Int32 → Int32 → Int32 → Int32 → Int32 → (Nat → Int32) → Option (Int64 × Int32 × Int32 × Int32 × Int32 × Int32 × Int32 × Int32 × Int32 × (Nat → Int32))) (x2_1 : Int64) (x4_2 : Int32) (f_m_potted_3 : Int32) (f_m_moves_4 : Int32) (f_m_bounces_5 : Int32) (f_m_hitFirst_6 : Int32) (f_m_hitPower_7 : Int32) (f_m_hitDown_8 : Int32) (f_m_hitRight_9 : Int32) (f_m_isFoul_10 : Int32) (v_mo_11 : Nat → Int32) : Option (Int64 × Int32 × Int32 × Int32 × Int32 × Int32 × Int32 × Int32 × Int32 × (Nat → Int32)) :=
  (if 45 ≤ x4_2 then (some (x2_1, f_m_potted_3, f_m_moves_4, f_m_bounces_5, f_m_hitFirst_6, f_m_hitPower_7, f_m_hitDown_8, f_m_hitRight_9, f_m_isFoul_10, v_mo_11)) else ((f_X12_isPocket x4_2).bind (fun u_15 => (jn (fun (k_16 : Int32) => (jn (fun (k_18 : Int64) (k_19 : Int64) (f_m_potted_20 : Int32) (f_m_moves_21 : Int32) (f_m_bounces_22 : Int32) (f_m_hitFirst_23 : Int32) (f_m_hitPower_24 : Int32) (f_m_hitDown_25 : Int32) (f_m_hitRight_26 : Int32) (f_m_isFoul_27 : Int32) (v_mo_28 : Nat → Int32) => (bnd (k_18 ||| k_19) (fun x2_30 => (bnd (x4_2 + 1) (fun x4_31 => (go_12 x2_30 x4_31 f_m_potted_20 f_m_moves_21 f_m_bounces_22 f_m_hitFirst_23 f_m_hitPower_24 f_m_hitDown_25 f_m_hitRight_26 f_m_isFoul_27 v_mo_28)))))) (fun (j65_29 : Int64 → Int64 → Int32 → Int32 → Int32 → Int32 → Int32 → Int32 → Int32 → Int32 → (Nat → Int32) → Option (Int64 × Int32 × Int32 × Int32 × Int32 × Int32 × Int32 × Int32 × Int32 × (Nat → Int32))) => (jn (fun (k_32 : Int64) (f_m_potted_33 : Int32) (f_m_moves_34 : Int32) (f_m_bounces_35 : Int32) (f_m_hitFirst_36 : Int32) (f_m_hitPower_37 : Int32) (f_m_hitDown_38 : Int32) (f_m_hitRight_39 : Int32) (f_m_isFoul_40 : Int32) (v_mo_41 : Nat → Int32) => (j65_29 k_32 0 f_m_potted_33 f_m_moves_34 f_m_bounces_35 f_m_hitFirst_36 f_m_hitPower_37 f_m_hitDown_38 f_m_hitRight_39 f_m_isFoul_40 v_mo_41)) (fun (j64_42 : Int64 → Int32 → Int32 → Int32 → Int32 → Int32 → Int32 → Int32 → Int32 → (Nat → Int32) → Option (Int64 × Int32 × Int32 × Int32 × Int32 × Int32 × Int32 × Int32 × Int32 × (Nat → Int32))) => (if k_16 = 0 then (j64_42 x2_1 f_m_potted_3 f_m_moves_4 f_m_bounces_5 f_m_hitFirst_6 f_m_hitPower_7 f_m_hitDown_8 f_m_hitRight_9 f_m_isFoul_10 v_mo_11) else ((f_X12_isWantedFrom n f_m_balls f_m_spot f_m_potted_3 f_m_moves_4 f_m_bounces_5 f_m_hitFirst_6 f_m_hitPower_7 f_m_hitDown_8 f_m_hitRight_9 f_m_isFoul_10 v_mk v_mw v_mc v_mo_11 p1 x4_2).bind (fun u_44 => (if u_44.1 = 0 then (j64_42 x2_1 u_44.2.1 u_44.2.2.1 u_44.2.2.2.1 u_44.2.2.2.2.1 u_44.2.2.2.2.2.1 u_44.2.2.2.2.2.2.1 u_44.2.2.2.2.2.2.2.1 u_44.2.2.2.2.2.2.2.2.1 u_44.2.2.2.2.2.2.2.2.2) else (j65_29 x2_1 (1 <<< (x4_2.toInt64 &&& 63)) u_44.2.1 u_44.2.2.1 u_44.2.2.2.1 u_44.2.2.2.2.1 u_44.2.2.2.2.2.1 u_44.2.2.2.2.2.2.1 u_44.2.2.2.2.2.2.2.1 u_44.2.2.2.2.2.2.2.2.1 u_44.2.2.2.2.2.2.2.2.2)))))))))) (fun (j39_17 : Int32 → Option (Int64 × Int32 × Int32 × Int32 × Int32 × Int32 × Int32 × Int32 × Int32 × (Nat → Int32))) => (jn ((j39_17 0)) (fun (j38_46 : Option (Int64 × Int32 × Int32 × Int32 × Int32 × Int32 × Int32 × Int32 × Int32 × (Nat → Int32))) => (if u_15 = 0 then ((f_X12_liesIn n f_m_balls v_mc x4_2).bind (fun u_48 => (if 1 ≤ u_48 then j38_46 else (j39_17 1)))) else j38_46))))))))
def f_X12_wantedOf_L5 (f_m_balls : Int32) (f_m_spot : Int32) (v_mk : Nat → Int32) (v_mw : Nat → Int32) (v_mc : Nat → Int32) (p1 : Int32) (n : Nat) (k : Nat) (x2_1 : Int64) (x4_2 : Int32) (f_m_potted_3 : Int32) (f_m_moves_4 : Int32) (f_m_bounces_5 : Int32) (f_m_hitFirst_6 : Int32) (f_m_hitPower_7 : Int32) (f_m_hitDown_8 : Int32) (f_m_hitRight_9 : Int32) (f_m_isFoul_10 : Int32) (v_mo_11 : Nat → Int32) : Option (Int64 × Int32 × Int32 × Int32 × Int32 × Int32 × Int32 × Int32 × Int32 × (Nat → Int32)) :=
  lpF (fun (self : (Int64 × Int32 × Int32 × Int32 × Int32 × Int32 × Int32 × Int32 × Int32 × Int32 × (Nat → Int32)) → Option (Int64 × Int32 × Int32 × Int32 × Int32 × Int32 × Int32 × Int32 × Int32 × (Nat → Int32))) (a : Int64 × Int32 × Int32 × Int32 × Int32 × Int32 × Int32 × Int32 × Int32 × Int32 × (Nat → Int32)) => b_X12_wantedOf_L5 f_m_balls f_m_spot v_mk v_mw v_mc p1 n (fun x2_1 x4_2 f_m_potted_3 f_m_moves_4 f_m_bounces_5 f_m_hitFirst_6 f_m_hitPower_7 f_m_hitDown_8 f_m_hitRight_9 f_m_isFoul_10 v_mo_11 => self (x2_1, x4_2, f_m_potted_3, f_m_moves_4, f_m_bounces_5, f_m_hitFirst_6, f_m_hitPower_7, f_m_hitDown_8, f_m_hitRight_9, f_m_isFoul_10, v_mo_11)) a.1 a.2.1 a.2.2.1 a.2.2.2.1 a.2.2.2.2.1 a.2.2.2.2.2.1 a.2.2.2.2.2.2.1 a.2.2.2.2.2.2.2.1 a.2.2.2.2.2.2.2.2.1 a.2.2.2.2.2.2.2.2.2.1 a.2.2.2.2.2.2.2.2.2.2) k (x2_1, x4_2, f_m_potted_3, f_m_moves_4, f_m_bounces_5, f_m_hitFirst_6, f_m_hitPower_7, f_m_hitDown_8, f_m_hitRight_9, f_m_isFoul_10, v_mo_11)
def f_X12_wantedOf (n : Nat) (f_m_balls : Int32) (f_m_spot : Int32) (f_m_potted : Int32) (f_m_moves : Int32) (f_m_bounces : Int32) (f_m_hitFirst : Int32) (f_m_hitPower : Int32) (f_m_hitDown : Int32) (f_m_hitRight : Int32) (f_m_isFoul : Int32) (v_mk : Nat → Int32) (v_mw : Nat → Int32) (v_mc : Nat → Int32) (v_mo : Nat → Int32) (p1 : Int32) : Option (Int64 × Int32 × Int32 × Int32 × Int32 × Int32 × Int32 × Int32 × Int32 × (Nat → Int32)) :=
  (f_X12_wantedOf_L5 f_m_balls f_m_spot v_mk v_mw v_mc p1 n n 0 0 f_m_potted f_m_moves f_m_bounces f_m_hitFirst f_m_hitPower f_m_hitDown f_m_hitRight f_m_isFoul v_mo)
def b_X12_wantedMany_L12 (u_1 : Int64 × Int32 × Int32 × Int32 × Int32 × Int32 × Int32 × Int32 × Int32 × (Nat → Int32)) (go_4 : Int32 → Int32 → Option (Int32 × Int32 × Int32 × Int32 × Int32 × Int32 × Int32 × Int32 × Int32 × (Nat → Int32))) (x4_2 : Int32) (x5_3 : Int32) : Option (Int32 × Int32 × Int32 × Int32 × Int32 × Int32 × Int32 × Int32 × Int32 × (Nat → Int32)) :=
  (if 45 ≤ x5_3 then (some (x4_2, u_1.2.1, u_1.2.2.1, u_1.2.2.2.1, u_1.2.2.2.2.1, u_1.2.2.2.2.2.1, u_1.2.2.2.2.2.2.1, u_1.2.2.2.2.2.2.2.1, u_1.2.2.2.2.2.2.2.2.1, u_1.2.2.2.2.2.2.2.2.2)) else (jn (fun (k_7 : Int32) (k_8 : Int32) => (bnd (k_7 + k_8) (fun x4_10 => (bnd (x5_3 + 1) (fun x5_11 => (go_4 x4_10 x5_11)))))) (fun (j37_9 : Int32 → Int32 → Option (Int32 × Int32 × Int32 × Int32 × Int32 × Int32 × Int32 × Int32 × Int32 × (Nat → Int32))) => (if (lg_cmp ((u_1.1 >>> (x5_3.toInt64 &&& 63)) &&& 1) 1) = 0 then (j37_9 x4_2 1) else (j37_9 x4_2 0)))))
def f_X12_wantedMany_L12 (u_1 : Int64 × Int32 × Int32 × Int32 × Int32 × Int32 × Int32 × Int32 × Int32 × (Nat → Int32)) (k : Nat) (x4_2 : Int32) (x5_3 : Int32) : Option (Int32 × Int32 × Int32 × Int32 × Int32 × Int32 × Int32 × Int32 × Int32 × (Nat → Int32)) :=
  lpF (fun (self : (Int32 × Int32) → Option (Int32 × Int32 × Int32 × Int32 × Int32 × Int32 × Int32 × Int32 × Int32 × (Nat → Int32))) (a : Int32 × Int32) => b_X12_wantedMany_L12 u_1 (fun x4_2 x5_3 => self (x4_2, x5_3)) a.1 a.2) k (x4_2, x5_3)
def f_X12_wantedMany (n : Nat) (f_m_balls : Int32) (f_m_spot : Int32) (f_m_potted : Int32) (f_m_moves : Int32) (f_m_bounces : Int32) (f_m_hitFirst : Int32) (f_m_hitPower : Int32) (f_m_hitDown : Int32) (f_m_hitRight : Int32) (f_m_isFoul : Int32) (v_mk : Nat → Int32) (v_mw : Nat → Int32) (v_mc : Nat → Int32) (v_mo : Nat → Int32) (p1 : Int32) : Option (Int32 × Int32 × Int32 × Int32 × Int32 × Int32 × Int32 × Int32 × Int32 × (Nat → Int32)) :=
  ((f_X12_wantedOf n f_m_balls f_m_spot f_m_potted f_m_moves f_m_bounces f_m_hitFirst f_m_hitPower f_m_hitDown f_m_hitRight f_m_isFoul v_mk v_mw v_mc v_mo p1).bind (fun u_1 => (f_X12_wantedMany_L12 u_1 n 0 0)))
def b_X12_seesBy_L33 (f_m_balls : Int32) (v_mc : Nat → Int32) (p1 : Int32) (n : Nat) (go_10 : Int32 → Int32 → Int32 → Option (Int32)) (x2_7 : Int32) (x3_8 : Int32) (x4_9 : Int32) : Option (Int32) :=
  (if x4_9 = (-1) then ((f_X12_in x2_7.toInt64 0 4).bind (fun u_13 => (if u_13 = 0 then (some x4_9) else ((f_X12_in x3_8.toInt64 0 8).bind (fun u_15 => (if u_15 = 0 then (some x4_9) else ((f_X12_liesIn n f_m_balls v_mc ((9 * x2_7) + x3_8)).bind (fun u_17 => ((f_X12_downBy p1).bind (fun u_18 => (bnd (x2_7 + u_18) (fun x2_19 => ((f_X12_rightBy p1).bind (fun u_20 => (bnd (x3_8 + u_20) (fun x3_21 => (go_10 x2_19 x3_21 u_17))))))))))))))))) else (some x4_9))
def f_X12_seesBy_L33 (f_m_balls : Int32) (v_mc : Nat → Int32) (p1 : Int32) (n : Nat) (k : Nat) (x2_7 : Int32) (x3_8 : Int32) (x4_9 : Int32) : Option (Int32) :=
  lpF (fun (self : (Int32 × Int32 × Int32) → Option (Int32)) (a : Int32 × Int32 × Int32) => b_X12_seesBy_L33 f_m_balls v_mc p1 n (fun x2_7 x3_8 x4_9 => self (x2_7, x3_8, x4_9)) a.1 a.2.1 a.2.2) k (x2_7, x3_8, x4_9)
def f_X12_seesBy (n : Nat) (f_m_balls : Int32) (v_mc : Nat → Int32) (p1 : Int32) : Option (Int32) :=
  (gd (inb 0 7) ((f_X12_downBy p1).bind (fun u_2 => (bnd (((v_mc (0 : Int32).toNatClampNeg) / 9) + u_2) (fun x2_3 => (gd (inb 0 7) ((f_X12_rightBy p1).bind (fun u_5 => (bnd (((v_mc (0 : Int32).toNatClampNeg) - (v_mc (0 : Int32).toNatClampNeg) / 9 * 9) + u_5) (fun x3_6 => (f_X12_seesBy_L33 f_m_balls v_mc p1 n n x2_3 x3_6 (-1))))))))))))
def f_X12_isBall (f_m_balls : Int32) (p1 : Int32) : Option (Int32) :=
  ((f_X12_lacks f_m_balls).bind (fun u_1 => (jn ((some 0)) (fun (j25_2 : Option (Int32)) => (if u_1 = 0 then ((f_X12_in p1.toInt64 0 f_m_balls.toInt64).bind (fun u_4 => (if u_4 = 0 then j25_2 else (some 1)))) else j25_2)))))
def f_X12_as (f_m_balls : Int32) (v_mk : Nat → Int32) (p1 : Int32) (p2 : Int32) : Option (Int32) :=
  ((f_X12_isBall f_m_balls p1).bind (fun u_1 => (if u_1 = 0 then (some (-101)) else ((f_X12_in p2.toInt64 0 4).bind (fun u_3 => (if u_3 = 0 then (some (-102)) else (jn (fun (k_5 : Int32) => (if k_5 = 0 then (some (-1)) else (some p1))) (fun (j60_6 : Int32 → Option (Int32)) => (jn ((j60_6 1)) (fun (j55_8 : Option (Int32)) => (if p2 = 0 then j55_8 else (gd (inb p1 7) (if p2 = (v_mk p1.toNatClampNeg) then j55_8 else (jn ((j60_6 0)) (fun (j59_12 : Option (Int32)) => (if p2 = 1 then (gd (inb p1 7) (if (v_mk p1.toNatClampNeg) = 4 then j55_8 else j59_12)) else j59_12))))))))))))))))
def f_X12_isCell (f_m_balls : Int32) (p1 : Int32) : Option (Int32) :=
  ((f_X12_lacks f_m_balls).bind (fun u_1 => (jn ((some 0)) (fun (j23_2 : Option (Int32)) => (if u_1 = 0 then ((f_X12_in p1.toInt64 0 44).bind (fun u_4 => (if u_4 = 0 then j23_2 else (some 1)))) else j23_2)))))
def f_X12_cell (n : Nat) (f_m_balls : Int32) (v_mc : Nat → Int32) (p1 : Int32) : Option (Int32) :=
  ((f_X12_isCell f_m_balls p1).bind (fun u_1 => (if u_1 = 0 then (some (-101)) else ((f_X12_isPocket p1).bind (fun u_3 => (if u_3 = 0 then ((f_X12_liesIn n f_m_balls v_mc p1).bind (fun u_5 => (some u_5))) else (some (-2))))))))
def f_X12_put (n : Nat) (f_m_balls : Int32) (v_mc : Nat → Int32) (p1 : Int32) (p2 : Int32) : Option (Int32 × (Nat → Int32)) :=
  ((f_X12_isBall f_m_balls p1).bind (fun u_1 => (if u_1 = 0 then (some ((-101), v_mc)) else ((f_X12_isCell f_m_balls p2).bind (fun u_3 => (if u_3 = 0 then (some ((-101), v_mc)) else ((f_X12_liesIn n f_m_balls v_mc p2).bind (fun u_5 => ((f_X12_isPocket p2).bind (fun u_6 => (if u_6 = 0 then (jn ((gd (inb p1 7) (bnd (v_mc p1.toNatClampNeg) (fun x4_10 => (gd (inb p1 7) (some (x4_10, (upd v_mc p1.toNatClampNeg p2)))))))) (fun (j49_8 : Option (Int32 × (Nat → Int32))) => (if u_5 = (-1) then j49_8 else (if u_5 = p1 then j49_8 else (some ((-103), v_mc)))))) else (some ((-103), v_mc)))))))))))))
def f_X12_isColoured (f_m_balls : Int32) (p1 : Int32) : Option (Int32) :=
  ((f_X12_in p1.toInt64 1 f_m_balls.toInt64).bind (fun u_1 => (gd (isb u_1) (some u_1))))
def f_X12_lift (f_m_balls : Int32) (v_mc : Nat → Int32) (p1 : Int32) : Option (Int32 × (Nat → Int32)) :=
  ((f_X12_isColoured f_m_balls p1).bind (fun u_1 => (if u_1 = 0 then (some ((-101), v_mc)) else (gd (inb p1 7) (bnd (v_mc p1.toNatClampNeg) (fun x2_4 => (if x2_4 = (-1) then (some ((-103), v_mc)) else (gd (inb p1 7) (some (x2_4, (upd v_mc p1.toNatClampNeg (-1))))))))))))
def f_X12_change (f_m_balls : Int32) (v_mk : Nat → Int32) (p1 : Int32) (p2 : Int32) : Option (Int32 × (Nat → Int32)) :=
  ((f_X12_isColoured f_m_balls p1).bind (fun u_1 => (if u_1 = 0 then (some ((-101), v_mk)) else ((f_X12_in p2.toInt64 0 4).bind (fun u_3 => (if u_3 = 0 then (some ((-102), v_mk)) else (gd (inb p1 7) (bnd (v_mk p1.toNatClampNeg) (fun x3_6 => (gd (inb p1 7) (some (x3_6, (upd v_mk p1.toNatClampNeg p2)))))))))))))
def f_X12_isStroke (p0 : Int32) (p1 : Int32) (p2 : Int32) : Option (Int32) :=
  ((f_X12_in p0.toInt64 0 7).bind (fun u_1 => (jn ((some 0)) (fun (j40_2 : Option (Int32)) => (if u_1 = 0 then j40_2 else ((f_X12_in p1.toInt64 1 9).bind (fun u_4 => (if u_4 = 0 then j40_2 else ((f_X12_in p2.toInt64 0 2).bind (fun u_6 => (if u_6 = 0 then j40_2 else (some 1))))))))))))
def f_X12_stroke (n : Nat) (f_m_balls : Int32) (f_m_spot : Int32) (f_m_score : Int32) (f_m_strokesNow : Int32) (f_m_fouls : Int32) (f_m_potted : Int32) (f_m_moves : Int32) (f_m_bounces : Int32) (f_m_hitFirst : Int32) (f_m_hitPower : Int32) (f_m_hitDown : Int32) (f_m_hitRight : Int32) (f_m_isFoul : Int32) (v_mk : Nat → Int32) (v_mw : Nat → Int32) (v_mc : Nat → Int32) (p1 : Int32) (p2 : Int32) (p3 : Int32) : Option (Int32 × Int32 × Int32 × Int32 × Int32 × Int32 × Int32 × Int32 × Int32 × Int32 × Int32 × Int32 × (Nat → Int32)) :=
  ((f_X12_isStroke p1 p2 p3).bind (fun u_1 => (if u_1 = 0 then (some ((-102), f_m_score, f_m_strokesNow, f_m_fouls, f_m_potted, f_m_moves, f_m_bounces, f_m_hitFirst, f_m_hitPower, f_m_hitDown, f_m_hitRight, f_m_isFoul, v_mc)) else ((f_X12_lacks f_m_balls).bind (fun u_3 => (if u_3 = 0 then ((f_X12_strike n f_m_balls f_m_spot f_m_potted f_m_moves f_m_bounces f_m_hitFirst f_m_hitPower f_m_hitDown f_m_hitRight f_m_isFoul v_mk v_mw v_mc p1 p2 p3).bind (fun u_5 => (jn (fun (k_6 : Int32) (k_7 : Int32) => (some ((u_5.1 + 100), (f_m_score + u_5.1), (f_m_strokesNow + 1), (k_6 + k_7), u_5.2.1, u_5.2.2.1, u_5.2.2.2.1, u_5.2.2.2.2.1, u_5.2.2.2.2.2.1, u_5.2.2.2.2.2.2.1, u_5.2.2.2.2.2.2.2.1, u_5.2.2.2.2.2.2.2.2.1, u_5.2.2.2.2.2.2.2.2.2))) (fun (j62_8 : Int32 → Int32 → Option (Int32 × Int32 × Int32 × Int32 × Int32 × Int32 × Int32 × Int32 × Int32 × Int32 × Int32 × Int32 × (Nat → Int32))) => (if u_5.2.2.2.2.2.2.2.2.1 = 0 then (j62_8 f_m_fouls 0) else (j62_8 f_m_fouls 1)))))) else (some ((-103), f_m_score, f_m_strokesNow, f_m_fouls, f_m_potted, f_m_moves, f_m_bounces, f_m_hitFirst, f_m_hitPower, f_m_hitDown, f_m_hitRight, f_m_isFoul, v_mc))))))))
def f_X12_wouldBe (n : Nat) (f_m_balls : Int32) (f_m_spot : Int32) (f_m_potted : Int32) (f_m_moves : Int32) (f_m_bounces : Int32) (f_m_hitFirst : Int32) (f_m_hitPower : Int32) (f_m_hitDown : Int32) (f_m_hitRight : Int32) (f_m_isFoul : Int32) (v_mk : Nat → Int32) (v_mw : Nat → Int32) (v_mc : Nat → Int32) (v_mo : Nat → Int32) (p1 : Int32) (p2 : Int32) (p3 : Int32) (p4 : Int32) : Option (Int32 × Int32 × Int32 × Int32 × Int32 × Int32 × Int32 × Int32 × Int32 × (Nat → Int32)) :=
  ((f_X12_copy n 7 v_mc v_mo).bind (fun u_1 => ((f_X12_strike n f_m_balls f_m_spot f_m_potted f_m_moves f_m_bounces f_m_hitFirst f_m_hitPower f_m_hitDown f_m_hitRight f_m_isFoul v_mk v_mw u_1 p1 p2 p3).bind (fun u_2 => (if p4 = 0 then (some ((u_2.1 + 100), u_2.2.1, u_2.2.2.1, u_2.2.2.2.1, u_2.2.2.2.2.1, u_2.2.2.2.2.2.1, u_2.2.2.2.2.2.2.1, u_2.2.2.2.2.2.2.2.1, u_2.2.2.2.2.2.2.2.2.1, u_2.2.2.2.2.2.2.2.2.2)) else (if p4 = 1 then (gd (inb 0 7) (some ((u_2.2.2.2.2.2.2.2.2.2 (0 : Int32).toNatClampNeg), u_2.2.1, u_2.2.2.1, u_2.2.2.2.1, u_2.2.2.2.2.1, u_2.2.2.2.2.2.1, u_2.2.2.2.2.2.2.1, u_2.2.2.2.2.2.2.2.1, u_2.2.2.2.2.2.2.2.2.1, u_2.2.2.2.2.2.2.2.2.2))) else (if p4 = 2 then (some (u_2.2.1, u_2.2.1, u_2.2.2.1, u_2.2.2.2.1, u_2.2.2.2.2.1, u_2.2.2.2.2.2.1, u_2.2.2.2.2.2.2.1, u_2.2.2.2.2.2.2.2.1, u_2.2.2.2.2.2.2.2.2.1, u_2.2.2.2.2.2.2.2.2.2)) else (if p4 = 3 then (if u_2.2.2.2.2.2.2.2.2.1 = 0 then (some (0, u_2.2.1, u_2.2.2.1, u_2.2.2.2.1, u_2.2.2.2.2.1, u_2.2.2.2.2.2.1, u_2.2.2.2.2.2.2.1, u_2.2.2.2.2.2.2.2.1, u_2.2.2.2.2.2.2.2.2.1, u_2.2.2.2.2.2.2.2.2.2)) else (some (1, u_2.2.1, u_2.2.2.1, u_2.2.2.2.1, u_2.2.2.2.2.1, u_2.2.2.2.2.2.1, u_2.2.2.2.2.2.2.1, u_2.2.2.2.2.2.2.2.1, u_2.2.2.2.2.2.2.2.2.1, u_2.2.2.2.2.2.2.2.2.2))) else (if p4 = 4 then (some (u_2.2.2.1, u_2.2.1, u_2.2.2.1, u_2.2.2.2.1, u_2.2.2.2.2.1, u_2.2.2.2.2.2.1, u_2.2.2.2.2.2.2.1, u_2.2.2.2.2.2.2.2.1, u_2.2.2.2.2.2.2.2.2.1, u_2.2.2.2.2.2.2.2.2.2)) else (if p4 = 5 then (some (u_2.2.2.2.1, u_2.2.1, u_2.2.2.1, u_2.2.2.2.1, u_2.2.2.2.2.1, u_2.2.2.2.2.2.1, u_2.2.2.2.2.2.2.1, u_2.2.2.2.2.2.2.2.1, u_2.2.2.2.2.2.2.2.2.1, u_2.2.2.2.2.2.2.2.2.2)) else (if f_m_balls < (p4 - 9) then (some ((-1), u_2.2.1, u_2.2.2.1, u_2.2.2.2.1, u_2.2.2.2.2.1, u_2.2.2.2.2.2.1, u_2.2.2.2.2.2.2.1, u_2.2.2.2.2.2.2.2.1, u_2.2.2.2.2.2.2.2.2.1, u_2.2.2.2.2.2.2.2.2.2)) else (gd (inb (p4 - 9) 7) (some ((u_2.2.2.2.2.2.2.2.2.2 (p4 - 9).toNatClampNeg), u_2.2.1, u_2.2.2.1, u_2.2.2.2.1, u_2.2.2.2.2.1, u_2.2.2.2.2.2.1, u_2.2.2.2.2.2.2.1, u_2.2.2.2.2.2.2.2.1, u_2.2.2.2.2.2.2.2.2.1, u_2.2.2.2.2.2.2.2.2.2))))))))))))))
def f_X12_would (n : Nat) (f_m_balls : Int32) (f_m_spot : Int32) (f_m_potted : Int32) (f_m_moves : Int32) (f_m_bounces : Int32) (f_m_hitFirst : Int32) (f_m_hitPower : Int32) (f_m_hitDown : Int32) (f_m_hitRight : Int32) (f_m_isFoul : Int32) (v_mk : Nat → Int32) (v_mw : Nat → Int32) (v_mc : Nat → Int32) (v_mo : Nat → Int32) (p1 : Int32) (p2 : Int32) (p3 : Int32) (p4 : Int32) : Option (Int32 × Int32 × Int32 × Int32 × Int32 × Int32 × Int32 × Int32 × Int32 × (Nat → Int32)) :=
  ((f_X12_isStroke p1 p2 p3).bind (fun u_1 => (if u_1 = 0 then (some ((-102), f_m_potted, f_m_moves, f_m_bounces, f_m_hitFirst, f_m_hitPower, f_m_hitDown, f_m_hitRight, f_m_isFoul, v_mo)) else ((f_X12_in p4.toInt64 0 5).bind (fun u_3 => (jn (((f_X12_lacks f_m_balls).bind (fun u_5 => (if u_5 = 0 then ((f_X12_wouldBe n f_m_balls f_m_spot f_m_potted f_m_moves f_m_bounces f_m_hitFirst f_m_hitPower f_m_hitDown f_m_hitRight f_m_isFoul v_mk v_mw v_mc v_mo p1 p2 p3 p4).bind (fun u_7 => (some (u_7.1, u_7.2.1, u_7.2.2.1, u_7.2.2.2.1, u_7.2.2.2.2.1, u_7.2.2.2.2.2.1, u_7.2.2.2.2.2.2.1, u_7.2.2.2.2.2.2.2.1, u_7.2.2.2.2.2.2.2.2.1, u_7.2.2.2.2.2.2.2.2.2)))) else (some ((-103), f_m_potted, f_m_moves, f_m_bounces, f_m_hitFirst, f_m_hitPower, f_m_hitDown, f_m_hitRight, f_m_isFoul, v_mo)))))) (fun (j40_4 : Option (Int32 × Int32 × Int32 × Int32 × Int32 × Int32 × Int32 × Int32 × Int32 × (Nat → Int32))) => (if u_3 = 0 then ((f_X12_in p4.toInt64 10 15).bind (fun u_9 => (if u_9 = 0 then (some ((-102), f_m_potted, f_m_moves, f_m_bounces, f_m_hitFirst, f_m_hitPower, f_m_hitDown, f_m_hitRight, f_m_isFoul, v_mo)) else j40_4))) else j40_4))))))))
def f_X12_tellCode (f_m_bestCode : Int32) (p1 : Int32) : Option (Int32) :=
  (if p1 = 1 then (some (f_m_bestCode / 100)) else (if p1 = 2 then (some ((f_m_bestCode / 10) - (f_m_bestCode / 10) / 10 * 10)) else (some (f_m_bestCode - f_m_bestCode / 10 * 10))))
def b_X12_bestOf_L8 (f_m_balls : Int32) (f_m_spot : Int32) (v_mk : Nat → Int32) (v_mw : Nat → Int32) (v_mc : Nat → Int32) (n : Nat) (j117_12 : Int32 → Int32 → Int32 → Int32 → Int32 → Int32 → Int32 → Int32 → Int32 → Int32 → (Nat → Int32) → Option (Int32 × Int32 × Int32 × Int32 × Int32 × Int32 × Int32 × Int32 × Int32 × Int32 × Int32 × (Nat → Int32))) (go_27 : Int32 → Int32 → Int32 → Int32 → Int32 → Int32 → Int32 → Int32 → Int32 → Int32 → Int32 → (Nat → Int32) → Option (Int32 × Int32 × Int32 × Int32 × Int32 × Int32 × Int32 × Int32 × Int32 × Int32 × Int32 × (Nat → Int32))) (x2_15 : Int32) (f_m_potted_16 : Int32) (f_m_moves_17 : Int32) (f_m_bounces_18 : Int32) (f_m_hitFirst_19 : Int32) (f_m_hitPower_20 : Int32) (f_m_hitDown_21 : Int32) (f_m_hitRight_22 : Int32) (f_m_isFoul_23 : Int32) (f_m_bestCode_24 : Int32) (f_m_bestBrings_25 : Int32) (v_mo_26 : Nat → Int32) : Option (Int32 × Int32 × Int32 × Int32 × Int32 × Int32 × Int32 × Int32 × Int32 × Int32 × Int32 × (Nat → Int32)) :=
  (if 800 ≤ x2_15 then (j117_12 f_m_potted_16 f_m_moves_17 f_m_bounces_18 f_m_hitFirst_19 f_m_hitPower_20 f_m_hitDown_21 f_m_hitRight_22 f_m_isFoul_23 f_m_bestCode_24 f_m_bestBrings_25 v_mo_26) else ((f_X12_isStroke (x2_15 / 100) ((x2_15 / 10) - (x2_15 / 10) / 10 * 10) (x2_15 - x2_15 / 10 * 10)).bind (fun u_30 => (jn (fun (f_m_potted_31 : Int32) (f_m_moves_32 : Int32) (f_m_bounces_33 : Int32) (f_m_hitFirst_34 : Int32) (f_m_hitPower_35 : Int32) (f_m_hitDown_36 : Int32) (f_m_hitRight_37 : Int32) (f_m_isFoul_38 : Int32) (f_m_bestCode_39 : Int32) (f_m_bestBrings_40 : Int32) (v_mo_41 : Nat → Int32) => (bnd (x2_15 + 1) (fun x2_43 => (go_27 x2_43 f_m_potted_31 f_m_moves_32 f_m_bounces_33 f_m_hitFirst_34 f_m_hitPower_35 f_m_hitDown_36 f_m_hitRight_37 f_m_isFoul_38 f_m_bestCode_39 f_m_bestBrings_40 v_mo_41)))) (fun (j111_42 : Int32 → Int32 → Int32 → Int32 → Int32 → Int32 → Int32 → Int32 → Int32 → Int32 → (Nat → Int32) → Option (Int32 × Int32 × Int32 × Int32 × Int32 × Int32 × Int32 × Int32 × Int32 × Int32 × Int32 × (Nat → Int32))) => (if u_30 = 0 then (j111_42 f_m_potted_16 f_m_moves_17 f_m_bounces_18 f_m_hitFirst_19 f_m_hitPower_20 f_m_hitDown_21 f_m_hitRight_22 f_m_isFoul_23 f_m_bestCode_24 f_m_bestBrings_25 v_mo_26) else ((f_X12_copy n 7 v_mc v_mo_26).bind (fun u_45 => ((f_X12_strike n f_m_balls f_m_spot f_m_potted_16 f_m_moves_17 f_m_bounces_18 f_m_hitFirst_19 f_m_hitPower_20 f_m_hitDown_21 f_m_hitRight_22 f_m_isFoul_23 v_mk v_mw u_45 (x2_15 / 100) ((x2_15 / 10) - (x2_15 / 10) / 10 * 10) (x2_15 - x2_15 / 10 * 10)).bind (fun u_46 => (jn (fun (k_47 : Int32) => (jn (fun (k_49 : Int32) => (j111_42 u_46.2.1 u_46.2.2.1 u_46.2.2.2.1 u_46.2.2.2.2.1 u_46.2.2.2.2.2.1 u_46.2.2.2.2.2.2.1 u_46.2.2.2.2.2.2.2.1 u_46.2.2.2.2.2.2.2.2.1 k_47 k_49 u_46.2.2.2.2.2.2.2.2.2)) (fun (j108_50 : Int32 → Option (Int32 × Int32 × Int32 × Int32 × Int32 × Int32 × Int32 × Int32 × Int32 × Int32 × Int32 × (Nat → Int32))) => (if u_46.1 ≤ f_m_bestBrings_25 then (j108_50 f_m_bestBrings_25) else (j108_50 u_46.1))))) (fun (j88_48 : Int32 → Option (Int32 × Int32 × Int32 × Int32 × Int32 × Int32 × Int32 × Int32 × Int32 × Int32 × Int32 × (Nat → Int32))) => (if u_46.1 ≤ f_m_bestBrings_25 then (j88_48 f_m_bestCode_24) else (j88_48 x2_15))))))))))))))
def f_X12_bestOf_L8 (f_m_balls : Int32) (f_m_spot : Int32) (v_mk : Nat → Int32) (v_mw : Nat → Int32) (v_mc : Nat → Int32) (n : Nat) (j117_12 : Int32 → Int32 → Int32 → Int32 → Int32 → Int32 → Int32 → Int32 → Int32 → Int32 → (Nat → Int32) → Option (Int32 × Int32 × Int32 × Int32 × Int32 × Int32 × Int32 × Int32 × Int32 × Int32 × Int32 × (Nat → Int32))) (k : Nat) (x2_15 : Int32) (f_m_potted_16 : Int32) (f_m_moves_17 : Int32) (f_m_bounces_18 : Int32) (f_m_hitFirst_19 : Int32) (f_m_hitPower_20 : Int32) (f_m_hitDown_21 : Int32) (f_m_hitRight_22 : Int32) (f_m_isFoul_23 : Int32) (f_m_bestCode_24 : Int32) (f_m_bestBrings_25 : Int32) (v_mo_26 : Nat → Int32) : Option (Int32 × Int32 × Int32 × Int32 × Int32 × Int32 × Int32 × Int32 × Int32 × Int32 × Int32 × (Nat → Int32)) :=
  lpF (fun (self : (Int32 × Int32 × Int32 × Int32 × Int32 × Int32 × Int32 × Int32 × Int32 × Int32 × Int32 × (Nat → Int32)) → Option (Int32 × Int32 × Int32 × Int32 × Int32 × Int32 × Int32 × Int32 × Int32 × Int32 × Int32 × (Nat → Int32))) (a : Int32 × Int32 × Int32 × Int32 × Int32 × Int32 × Int32 × Int32 × Int32 × Int32 × Int32 × (Nat → Int32)) => b_X12_bestOf_L8 f_m_balls f_m_spot v_mk v_mw v_mc n j117_12 (fun x2_15 f_m_potted_16 f_m_moves_17 f_m_bounces_18 f_m_hitFirst_19 f_m_hitPower_20 f_m_hitDown_21 f_m_hitRight_22 f_m_isFoul_23 f_m_bestCode_24 f_m_bestBrings_25 v_mo_26 => self (x2_15, f_m_potted_16, f_m_moves_17, f_m_bounces_18, f_m_hitFirst_19, f_m_hitPower_20, f_m_hitDown_21, f_m_hitRight_22, f_m_isFoul_23, f_m_bestCode_24, f_m_bestBrings_25, v_mo_26)) a.1 a.2.1 a.2.2.1 a.2.2.2.1 a.2.2.2.2.1 a.2.2.2.2.2.1 a.2.2.2.2.2.2.1 a.2.2.2.2.2.2.2.1 a.2.2.2.2.2.2.2.2.1 a.2.2.2.2.2.2.2.2.2.1 a.2.2.2.2.2.2.2.2.2.2.1 a.2.2.2.2.2.2.2.2.2.2.2) k (x2_15, f_m_potted_16, f_m_moves_17, f_m_bounces_18, f_m_hitFirst_19, f_m_hitPower_20, f_m_hitDown_21, f_m_hitRight_22, f_m_isFoul_23, f_m_bestCode_24, f_m_bestBrings_25, v_mo_26)
def f_X12_bestOf (n : Nat) (f_m_balls : Int32) (f_m_spot : Int32) (f_m_potted : Int32) (f_m_moves : Int32) (f_m_bounces : Int32) (f_m_hitFirst : Int32) (f_m_hitPower : Int32) (f_m_hitDown : Int32) (f_m_hitRight : Int32) (f_m_isFoul : Int32) (f_m_bestCode : Int32) (f_m_bestBrings : Int32) (v_mk : Nat → Int32) (v_mw : Nat → Int32) (v_mc : Nat → Int32) (v_mo : Nat → Int32) (p1 : Int32) : Option (Int32 × Int32 × Int32 × Int32 × Int32 × Int32 × Int32 × Int32 × Int32 × Int32 × Int32 × (Nat → Int32)) :=
  (jn (fun (f_m_potted_1 : Int32) (f_m_moves_2 : Int32) (f_m_bounces_3 : Int32) (f_m_hitFirst_4 : Int32) (f_m_hitPower_5 : Int32) (f_m_hitDown_6 : Int32) (f_m_hitRight_7 : Int32) (f_m_isFoul_8 : Int32) (f_m_bestCode_9 : Int32) (f_m_bestBrings_10 : Int32) (v_mo_11 : Nat → Int32) => (if p1 = 0 then (some ((f_m_bestBrings_10 + 100), f_m_potted_1, f_m_moves_2, f_m_bounces_3, f_m_hitFirst_4, f_m_hitPower_5, f_m_hitDown_6, f_m_hitRight_7, f_m_isFoul_8, f_m_bestCode_9, f_m_bestBrings_10, v_mo_11)) else ((f_X12_tellCode f_m_bestCode_9 p1).bind (fun u_14 => (some (u_14, f_m_potted_1, f_m_moves_2, f_m_bounces_3, f_m_hitFirst_4, f_m_hitPower_5, f_m_hitDown_6, f_m_hitRight_7, f_m_isFoul_8, f_m_bestCode_9, f_m_bestBrings_10, v_mo_11)))))) (fun (j117_12 : Int32 → Int32 → Int32 → Int32 → Int32 → Int32 → Int32 → Int32 → Int32 → Int32 → (Nat → Int32) → Option (Int32 × Int32 × Int32 × Int32 × Int32 × Int32 × Int32 × Int32 × Int32 × Int32 × Int32 × (Nat → Int32))) => (f_X12_bestOf_L8 f_m_balls f_m_spot v_mk v_mw v_mc n j117_12 n 0 f_m_potted f_m_moves f_m_bounces f_m_hitFirst f_m_hitPower f_m_hitDown f_m_hitRight f_m_isFoul f_m_bestCode (-99) v_mo)))
def f_X12_best (n : Nat) (f_m_balls : Int32) (f_m_spot : Int32) (f_m_potted : Int32) (f_m_moves : Int32) (f_m_bounces : Int32) (f_m_hitFirst : Int32) (f_m_hitPower : Int32) (f_m_hitDown : Int32) (f_m_hitRight : Int32) (f_m_isFoul : Int32) (f_m_bestCode : Int32) (f_m_bestBrings : Int32) (v_mk : Nat → Int32) (v_mw : Nat → Int32) (v_mc : Nat → Int32) (v_mo : Nat → Int32) (p1 : Int32) : Option (Int32 × Int32 × Int32 × Int32 × Int32 × Int32 × Int32 × Int32 × Int32 × Int32 × Int32 × (Nat → Int32)) :=
  ((f_X12_in p1.toInt64 0 3).bind (fun u_1 => (if u_1 = 0 then (some ((-102), f_m_potted, f_m_moves, f_m_bounces, f_m_hitFirst, f_m_hitPower, f_m_hitDown, f_m_hitRight, f_m_isFoul, f_m_bestCode, f_m_bestBrings, v_mo)) else ((f_X12_lacks f_m_balls).bind (fun u_3 => (if u_3 = 0 then ((f_X12_bestOf n f_m_balls f_m_spot f_m_potted f_m_moves f_m_bounces f_m_hitFirst f_m_hitPower f_m_hitDown f_m_hitRight f_m_isFoul f_m_bestCode f_m_bestBrings v_mk v_mw v_mc v_mo p1).bind (fun u_5 => (some (u_5.1, u_5.2.1, u_5.2.2.1, u_5.2.2.2.1, u_5.2.2.2.2.1, u_5.2.2.2.2.2.1, u_5.2.2.2.2.2.2.1, u_5.2.2.2.2.2.2.2.1, u_5.2.2.2.2.2.2.2.2.1, u_5.2.2.2.2.2.2.2.2.2.1, u_5.2.2.2.2.2.2.2.2.2.2.1, u_5.2.2.2.2.2.2.2.2.2.2.2)))) else (some ((-103), f_m_potted, f_m_moves, f_m_bounces, f_m_hitFirst, f_m_hitPower, f_m_hitDown, f_m_hitRight, f_m_isFoul, f_m_bestCode, f_m_bestBrings, v_mo))))))))
def f_X12_see (f_m_balls : Int32) (f_m_seenMany : Int32) (v_ms : Nat → Int32) (p1 : Int32) (p2 : Int32) (p3 : Int32) (p4 : Int32) : Option (Int32 × Int32 × (Nat → Int32)) :=
  ((f_X12_isColoured f_m_balls p1).bind (fun u_1 => (if u_1 = 0 then (some ((-101), f_m_seenMany, v_ms)) else (jn (((f_X12_in p2.toInt64 0 7).bind (fun u_4 => (if u_4 = 0 then (some ((-102), f_m_seenMany, v_ms)) else ((f_X12_in p3.toInt64 1 9).bind (fun u_6 => (if u_6 = 0 then (some ((-102), f_m_seenMany, v_ms)) else (if f_m_seenMany = 6 then (some ((-104), f_m_seenMany, v_ms)) else (gd (inb (4 * f_m_seenMany) 24) (gd (inb ((4 * f_m_seenMany) + 1) 24) (gd (inb ((4 * f_m_seenMany) + 2) 24) (gd (inb ((4 * f_m_seenMany) + 3) 24) (some ((f_m_seenMany + 1), (f_m_seenMany + 1), (upd (upd (upd (upd v_ms (4 * f_m_seenMany).toNatClampNeg p1) ((4 * f_m_seenMany) + 1).toNatClampNeg p2) ((4 * f_m_seenMany) + 2).toNatClampNeg p3) ((4 * f_m_seenMany) + 3).toNatClampNeg p4))))))))))))))) (fun (j26_3 : Option (Int32 × Int32 × (Nat → Int32))) => (if p4 = (-1) then j26_3 else ((f_X12_isCell f_m_balls p4).bind (fun u_14 => (if u_14 = 0 then (some ((-101), f_m_seenMany, v_ms)) else j26_3)))))))))
def f_X12_forget (f_m_seenMany : Int32) : Option (Int32 × Int32) :=
  (some (f_m_seenMany, 0))
def f_X12_draw (f_m_seedNow : Int32) (p1 : Int32) : Option (Int32 × Int32) :=
  (gd (decide (¬ p1 = 0)) (some (((((((1103515245 * f_m_seedNow.toInt64) + 12345) &&& 2147483647).toInt32) / 65536) - (((((1103515245 * f_m_seedNow.toInt64) + 12345) &&& 2147483647).toInt32) / 65536) / p1 * p1), (((1103515245 * f_m_seedNow.toInt64) + 12345) &&& 2147483647).toInt32)))
def b_X12_onTable_L4 (f_m_balls : Int32) (v_q1 : Nat → Int32) (go_3 : Int32 → Int32 → Option (Int32)) (x2_1 : Int32) (x3_2 : Int32) : Option (Int32) :=
  (if f_m_balls < x3_2 then (some x2_1) else (gd (inb x3_2 7) (jn (fun (k_7 : Int32) (k_8 : Int32) => (bnd (k_7 + k_8) (fun x2_10 => (bnd (x3_2 + 1) (fun x3_11 => (go_3 x2_10 x3_11)))))) (fun (j25_9 : Int32 → Int32 → Option (Int32)) => (if (v_q1 x3_2.toNatClampNeg) = (-1) then (j25_9 x2_1 0) else (j25_9 x2_1 1))))))
def f_X12_onTable_L4 (f_m_balls : Int32) (v_q1 : Nat → Int32) (k : Nat) (x2_1 : Int32) (x3_2 : Int32) : Option (Int32) :=
  lpF (fun (self : (Int32 × Int32) → Option (Int32)) (a : Int32 × Int32) => b_X12_onTable_L4 f_m_balls v_q1 (fun x2_1 x3_2 => self (x2_1, x3_2)) a.1 a.2) k (x2_1, x3_2)
def f_X12_onTable (n : Nat) (f_m_balls : Int32) (v_q1 : Nat → Int32) : Option (Int32) :=
  (f_X12_onTable_L4 f_m_balls v_q1 n 0 1)
def b_X12_frames_L65 (f_m_balls : Int32) (f_m_spot : Int32) (v_mk : Nat → Int32) (v_mw : Nat → Int32) (p1 : Int32) (n : Nat) (j121_20 : Int32 → Int32 → Int32 → Int32 → Int32 → Int32 → Int32 → Int32 → Int32 → Int32 → (Nat → Int32) → Option (Int32 × Int32 × Int32 × Int32 × Int32 × Int32 × Int32 × Int32 × Int32 × Int32 × (Nat → Int32))) (go_36 : Int32 → Int32 → Int32 → Int32 → Int32 → Int32 → Int32 → Int32 → Int32 → Int32 → Int32 → (Nat → Int32) → Option (Int32 × Int32 × Int32 × Int32 × Int32 × Int32 × Int32 × Int32 × Int32 × Int32 × (Nat → Int32))) (x4_24 : Int32) (x5_25 : Int32) (f_m_potted_26 : Int32) (f_m_moves_27 : Int32) (f_m_bounces_28 : Int32) (f_m_hitFirst_29 : Int32) (f_m_hitPower_30 : Int32) (f_m_hitDown_31 : Int32) (f_m_hitRight_32 : Int32) (f_m_isFoul_33 : Int32) (f_m_seedNow_34 : Int32) (v_mo_35 : Nat → Int32) : Option (Int32 × Int32 × Int32 × Int32 × Int32 × Int32 × Int32 × Int32 × Int32 × Int32 × (Nat → Int32)) :=
  (if p1 ≤ x5_25 then (j121_20 x4_24 f_m_potted_26 f_m_moves_27 f_m_bounces_28 f_m_hitFirst_29 f_m_hitPower_30 f_m_hitDown_31 f_m_hitRight_32 f_m_isFoul_33 f_m_seedNow_34 v_mo_35) else ((f_X12_draw f_m_seedNow_34 8).bind (fun u_39 => ((f_X12_draw u_39.2 9).bind (fun u_40 => (bnd (u_40.1 + 1) (fun x7_41 => ((f_X12_draw u_40.2 3).bind (fun u_42 => ((f_X12_strike n f_m_balls f_m_spot f_m_potted_26 f_m_moves_27 f_m_bounces_28 f_m_hitFirst_29 f_m_hitPower_30 f_m_hitDown_31 f_m_hitRight_32 f_m_isFoul_33 v_mk v_mw v_mo_35 u_39.1 x7_41 u_42.1).bind (fun u_43 => (bnd (x4_24 + u_43.1) (fun x4_44 => (bnd (x5_25 + 1) (fun x5_45 => (go_36 x4_44 x5_45 u_43.2.1 u_43.2.2.1 u_43.2.2.2.1 u_43.2.2.2.2.1 u_43.2.2.2.2.2.1 u_43.2.2.2.2.2.2.1 u_43.2.2.2.2.2.2.2.1 u_43.2.2.2.2.2.2.2.2.1 u_42.2 u_43.2.2.2.2.2.2.2.2.2))))))))))))))))
def f_X12_frames_L65 (f_m_balls : Int32) (f_m_spot : Int32) (v_mk : Nat → Int32) (v_mw : Nat → Int32) (p1 : Int32) (n : Nat) (j121_20 : Int32 → Int32 → Int32 → Int32 → Int32 → Int32 → Int32 → Int32 → Int32 → Int32 → (Nat → Int32) → Option (Int32 × Int32 × Int32 × Int32 × Int32 × Int32 × Int32 × Int32 × Int32 × Int32 × (Nat → Int32))) (k : Nat) (x4_24 : Int32) (x5_25 : Int32) (f_m_potted_26 : Int32) (f_m_moves_27 : Int32) (f_m_bounces_28 : Int32) (f_m_hitFirst_29 : Int32) (f_m_hitPower_30 : Int32) (f_m_hitDown_31 : Int32) (f_m_hitRight_32 : Int32) (f_m_isFoul_33 : Int32) (f_m_seedNow_34 : Int32) (v_mo_35 : Nat → Int32) : Option (Int32 × Int32 × Int32 × Int32 × Int32 × Int32 × Int32 × Int32 × Int32 × Int32 × (Nat → Int32)) :=
  lpF (fun (self : (Int32 × Int32 × Int32 × Int32 × Int32 × Int32 × Int32 × Int32 × Int32 × Int32 × Int32 × (Nat → Int32)) → Option (Int32 × Int32 × Int32 × Int32 × Int32 × Int32 × Int32 × Int32 × Int32 × Int32 × (Nat → Int32))) (a : Int32 × Int32 × Int32 × Int32 × Int32 × Int32 × Int32 × Int32 × Int32 × Int32 × Int32 × (Nat → Int32)) => b_X12_frames_L65 f_m_balls f_m_spot v_mk v_mw p1 n j121_20 (fun x4_24 x5_25 f_m_potted_26 f_m_moves_27 f_m_bounces_28 f_m_hitFirst_29 f_m_hitPower_30 f_m_hitDown_31 f_m_hitRight_32 f_m_isFoul_33 f_m_seedNow_34 v_mo_35 => self (x4_24, x5_25, f_m_potted_26, f_m_moves_27, f_m_bounces_28, f_m_hitFirst_29, f_m_hitPower_30, f_m_hitDown_31, f_m_hitRight_32, f_m_isFoul_33, f_m_seedNow_34, v_mo_35)) a.1 a.2.1 a.2.2.1 a.2.2.2.1 a.2.2.2.2.1 a.2.2.2.2.2.1 a.2.2.2.2.2.2.1 a.2.2.2.2.2.2.2.1 a.2.2.2.2.2.2.2.2.1 a.2.2.2.2.2.2.2.2.2.1 a.2.2.2.2.2.2.2.2.2.2.1 a.2.2.2.2.2.2.2.2.2.2.2) k (x4_24, x5_25, f_m_potted_26, f_m_moves_27, f_m_bounces_28, f_m_hitFirst_29, f_m_hitPower_30, f_m_hitDown_31, f_m_hitRight_32, f_m_isFoul_33, f_m_seedNow_34, v_mo_35)
def f_X12_frames (n : Nat) (f_m_balls : Int32) (f_m_spot : Int32) (f_m_potted : Int32) (f_m_moves : Int32) (f_m_bounces : Int32) (f_m_hitFirst : Int32) (f_m_hitPower : Int32) (f_m_hitDown : Int32) (f_m_hitRight : Int32) (f_m_isFoul : Int32) (f_m_seedNow : Int32) (v_mk : Nat → Int32) (v_mw : Nat → Int32) (v_mc : Nat → Int32) (v_mo : Nat → Int32) (p1 : Int32) (p2 : Int32) (p3 : Int32) : Option (Int32 × Int32 × Int32 × Int32 × Int32 × Int32 × Int32 × Int32 × Int32 × Int32 × (Nat → Int32)) :=
  ((f_X12_in p1.toInt64 1 60).bind (fun u_1 => (if u_1 = 0 then (some ((-102), f_m_potted, f_m_moves, f_m_bounces, f_m_hitFirst, f_m_hitPower, f_m_hitDown, f_m_hitRight, f_m_isFoul, f_m_seedNow, v_mo)) else (if p2 < 0 then (some ((-102), f_m_potted, f_m_moves, f_m_bounces, f_m_hitFirst, f_m_hitPower, f_m_hitDown, f_m_hitRight, f_m_isFoul, f_m_seedNow, v_mo)) else ((f_X12_in p3.toInt64 0 2).bind (fun u_4 => (if u_4 = 0 then (some ((-102), f_m_potted, f_m_moves, f_m_bounces, f_m_hitFirst, f_m_hitPower, f_m_hitDown, f_m_hitRight, f_m_isFoul, f_m_seedNow, v_mo)) else ((f_X12_lacks f_m_balls).bind (fun u_6 => (if u_6 = 0 then ((f_X12_copy n 7 v_mc v_mo).bind (fun u_8 => (jn (fun (x4_9 : Int32) (f_m_potted_10 : Int32) (f_m_moves_11 : Int32) (f_m_bounces_12 : Int32) (f_m_hitFirst_13 : Int32) (f_m_hitPower_14 : Int32) (f_m_hitDown_15 : Int32) (f_m_hitRight_16 : Int32) (f_m_isFoul_17 : Int32) (f_m_seedNow_18 : Int32) (v_mo_19 : Nat → Int32) => (if p3 = 0 then (some (x4_9, f_m_potted_10, f_m_moves_11, f_m_bounces_12, f_m_hitFirst_13, f_m_hitPower_14, f_m_hitDown_15, f_m_hitRight_16, f_m_isFoul_17, f_m_seedNow_18, v_mo_19)) else (if p3 = 1 then ((f_X12_onTable n f_m_balls v_mo_19).bind (fun u_23 => (some (u_23, f_m_potted_10, f_m_moves_11, f_m_bounces_12, f_m_hitFirst_13, f_m_hitPower_14, f_m_hitDown_15, f_m_hitRight_16, f_m_isFoul_17, f_m_seedNow_18, v_mo_19)))) else (some (f_m_seedNow_18, f_m_potted_10, f_m_moves_11, f_m_bounces_12, f_m_hitFirst_13, f_m_hitPower_14, f_m_hitDown_15, f_m_hitRight_16, f_m_isFoul_17, f_m_seedNow_18, v_mo_19))))) (fun (j121_20 : Int32 → Int32 → Int32 → Int32 → Int32 → Int32 → Int32 → Int32 → Int32 → Int32 → (Nat → Int32) → Option (Int32 × Int32 × Int32 × Int32 × Int32 × Int32 × Int32 × Int32 × Int32 × Int32 × (Nat → Int32))) => (f_X12_frames_L65 f_m_balls f_m_spot v_mk v_mw p1 n j121_20 n 1000 0 f_m_potted f_m_moves f_m_bounces f_m_hitFirst f_m_hitPower f_m_hitDown f_m_hitRight f_m_isFoul p2 u_8))))) else (some ((-103), f_m_potted, f_m_moves, f_m_bounces, f_m_hitFirst, f_m_hitPower, f_m_hitDown, f_m_hitRight, f_m_isFoul, f_m_seedNow, v_mo))))))))))))
def f_X12_image (n : Nat) (f_m_balls : Int32) (f_m_score : Int32) (f_m_strokesNow : Int32) (f_m_fouls : Int32) (f_m_tablesRead : Int32) (f_m_seenMany : Int32) (f_m_keptTable : Int32) (f_m_keptScore : Int32) (f_m_keptStrokes : Int32) (f_m_keptFouls : Int32) (f_m_keptSeen : Int32) (v_mk : Nat → Int32) (v_mc : Nat → Int32) (v_ms : Nat → Int32) (v_mK : Nat → Int32) (v_mC : Nat → Int32) (v_mS : Nat → Int32) : Option (Int32 × Int32 × Int32 × Int32 × Int32 × Int32 × (Nat → Int32) × (Nat → Int32) × (Nat → Int32)) :=
  ((f_X12_lacks f_m_balls).bind (fun u_1 => (if u_1 = 0 then ((f_X12_copy n 7 v_mk v_mK).bind (fun u_3 => ((f_X12_copy n 7 v_mc v_mC).bind (fun u_4 => ((f_X12_copy n 24 v_ms v_mS).bind (fun u_5 => (some (f_m_strokesNow, f_m_tablesRead, f_m_score, f_m_strokesNow, f_m_fouls, f_m_seenMany, u_3, u_4, u_5)))))))) else (some ((-103), f_m_keptTable, f_m_keptScore, f_m_keptStrokes, f_m_keptFouls, f_m_keptSeen, v_mK, v_mC, v_mS)))))
def f_X12_restore (n : Nat) (f_m_score : Int32) (f_m_strokesNow : Int32) (f_m_fouls : Int32) (f_m_tablesRead : Int32) (f_m_seenMany : Int32) (f_m_keptTable : Int32) (f_m_keptScore : Int32) (f_m_keptStrokes : Int32) (f_m_keptFouls : Int32) (f_m_keptSeen : Int32) (v_mk : Nat → Int32) (v_mc : Nat → Int32) (v_ms : Nat → Int32) (v_mK : Nat → Int32) (v_mC : Nat → Int32) (v_mS : Nat → Int32) : Option (Int32 × Int32 × Int32 × Int32 × Int32 × (Nat → Int32) × (Nat → Int32) × (Nat → Int32)) :=
  (if f_m_keptTable = f_m_tablesRead then ((f_X12_copy n 7 v_mK v_mk).bind (fun u_2 => ((f_X12_copy n 7 v_mC v_mc).bind (fun u_3 => ((f_X12_copy n 24 v_mS v_ms).bind (fun u_4 => (some (f_m_keptStrokes, f_m_keptScore, f_m_keptStrokes, f_m_keptFouls, f_m_keptSeen, u_2, u_3, u_4)))))))) else (some ((-103), f_m_score, f_m_strokesNow, f_m_fouls, f_m_seenMany, v_mk, v_mc, v_ms)))
def f_X12_tellBall (n : Nat) (f_m_balls : Int32) (f_m_spot : Int32) (f_m_potted : Int32) (f_m_moves : Int32) (f_m_bounces : Int32) (f_m_hitFirst : Int32) (f_m_hitPower : Int32) (f_m_hitDown : Int32) (f_m_hitRight : Int32) (f_m_isFoul : Int32) (f_m_seenMany : Int32) (v_mk : Nat → Int32) (v_mw : Nat → Int32) (v_mc : Nat → Int32) (v_mo : Nat → Int32) (v_ms : Nat → Int32) (v_mb : Nat → Int32) (p1 : Int32) (p2 : Int32) : Option (Int32 × Int32 × Int32 × Int32 × Int32 × Int32 × Int32 × Int32 × Int32 × (Nat → Int32) × (Nat → Int32) × (Nat → Int32)) :=
  (if p2 = 0 then (gd (inb p1 7) (some ((v_mk p1.toNatClampNeg), f_m_potted, f_m_moves, f_m_bounces, f_m_hitFirst, f_m_hitPower, f_m_hitDown, f_m_hitRight, f_m_isFoul, v_mk, v_mo, v_mb))) else (if p2 = 1 then (gd (inb p1 7) (some ((v_mw p1.toNatClampNeg), f_m_potted, f_m_moves, f_m_bounces, f_m_hitFirst, f_m_hitPower, f_m_hitDown, f_m_hitRight, f_m_isFoul, v_mk, v_mo, v_mb))) else (if p2 = 2 then (gd (inb p1 7) (some ((v_mc p1.toNatClampNeg), f_m_potted, f_m_moves, f_m_bounces, f_m_hitFirst, f_m_hitPower, f_m_hitDown, f_m_hitRight, f_m_isFoul, v_mk, v_mo, v_mb))) else (if p2 = 3 then (if p1 = 0 then (some (1, f_m_potted, f_m_moves, f_m_bounces, f_m_hitFirst, f_m_hitPower, f_m_hitDown, f_m_hitRight, f_m_isFoul, v_mk, v_mo, v_mb)) else ((f_X12_kindsOf n f_m_balls f_m_spot f_m_potted f_m_moves f_m_bounces f_m_hitFirst f_m_hitPower f_m_hitDown f_m_hitRight f_m_isFoul f_m_seenMany v_mk v_mw v_mc v_mo v_ms p1).bind (fun u_9 => (some (u_9.1, u_9.2.1, u_9.2.2.1, u_9.2.2.2.1, u_9.2.2.2.2.1, u_9.2.2.2.2.2.1, u_9.2.2.2.2.2.2.1, u_9.2.2.2.2.2.2.2.1, u_9.2.2.2.2.2.2.2.2.1, u_9.2.2.2.2.2.2.2.2.2.1, u_9.2.2.2.2.2.2.2.2.2.2, v_mb))))) else (if p2 = 4 then (if p1 = 0 then (some ((-1), f_m_potted, f_m_moves, f_m_bounces, f_m_hitFirst, f_m_hitPower, f_m_hitDown, f_m_hitRight, f_m_isFoul, v_mk, v_mo, v_mb)) else ((f_X12_tryOf n f_m_balls f_m_spot f_m_potted f_m_moves f_m_bounces f_m_hitFirst f_m_hitPower f_m_hitDown f_m_hitRight f_m_isFoul f_m_seenMany v_mk v_mw v_mc v_mo v_ms v_mb p1).bind (fun u_12 => (some (u_12.1, u_12.2.1, u_12.2.2.1, u_12.2.2.2.1, u_12.2.2.2.2.1, u_12.2.2.2.2.2.1, u_12.2.2.2.2.2.2.1, u_12.2.2.2.2.2.2.2.1, u_12.2.2.2.2.2.2.2.2.1, u_12.2.2.2.2.2.2.2.2.2.1, u_12.2.2.2.2.2.2.2.2.2.2.1, u_12.2.2.2.2.2.2.2.2.2.2.2))))) else (if p2 = 5 then (jn ((some (0, f_m_potted, f_m_moves, f_m_bounces, f_m_hitFirst, f_m_hitPower, f_m_hitDown, f_m_hitRight, f_m_isFoul, v_mk, v_mo, v_mb))) (fun (j103_14 : Option (Int32 × Int32 × Int32 × Int32 × Int32 × Int32 × Int32 × Int32 × Int32 × (Nat → Int32) × (Nat → Int32) × (Nat → Int32))) => (if p1 = 0 then j103_14 else (gd (inb p1 7) (if (v_mc p1.toNatClampNeg) = (-1) then j103_14 else ((f_X12_wantedMany n f_m_balls f_m_spot f_m_potted f_m_moves f_m_bounces f_m_hitFirst f_m_hitPower f_m_hitDown f_m_hitRight f_m_isFoul v_mk v_mw v_mc v_mo p1).bind (fun u_18 => (some (u_18.1, u_18.2.1, u_18.2.2.1, u_18.2.2.2.1, u_18.2.2.2.2.1, u_18.2.2.2.2.2.1, u_18.2.2.2.2.2.2.1, u_18.2.2.2.2.2.2.2.1, u_18.2.2.2.2.2.2.2.2.1, v_mk, u_18.2.2.2.2.2.2.2.2.2, v_mb))))))))) else (some ((-102), f_m_potted, f_m_moves, f_m_bounces, f_m_hitFirst, f_m_hitPower, f_m_hitDown, f_m_hitRight, f_m_isFoul, v_mk, v_mo, v_mb))))))))
def f_X12_ball (n : Nat) (f_m_balls : Int32) (f_m_spot : Int32) (f_m_potted : Int32) (f_m_moves : Int32) (f_m_bounces : Int32) (f_m_hitFirst : Int32) (f_m_hitPower : Int32) (f_m_hitDown : Int32) (f_m_hitRight : Int32) (f_m_isFoul : Int32) (f_m_seenMany : Int32) (v_mk : Nat → Int32) (v_mw : Nat → Int32) (v_mc : Nat → Int32) (v_mo : Nat → Int32) (v_ms : Nat → Int32) (v_mb : Nat → Int32) (p1 : Int32) (p2 : Int32) : Option (Int32 × Int32 × Int32 × Int32 × Int32 × Int32 × Int32 × Int32 × Int32 × (Nat → Int32) × (Nat → Int32) × (Nat → Int32)) :=
  ((f_X12_isBall f_m_balls p1).bind (fun u_1 => (if u_1 = 0 then (some ((-101), f_m_potted, f_m_moves, f_m_bounces, f_m_hitFirst, f_m_hitPower, f_m_hitDown, f_m_hitRight, f_m_isFoul, v_mk, v_mo, v_mb)) else ((f_X12_tellBall n f_m_balls f_m_spot f_m_potted f_m_moves f_m_bounces f_m_hitFirst f_m_hitPower f_m_hitDown f_m_hitRight f_m_isFoul f_m_seenMany v_mk v_mw v_mc v_mo v_ms v_mb p1 p2).bind (fun u_3 => (some (u_3.1, u_3.2.1, u_3.2.2.1, u_3.2.2.2.1, u_3.2.2.2.2.1, u_3.2.2.2.2.2.1, u_3.2.2.2.2.2.2.1, u_3.2.2.2.2.2.2.2.1, u_3.2.2.2.2.2.2.2.2.1, u_3.2.2.2.2.2.2.2.2.2.1, u_3.2.2.2.2.2.2.2.2.2.2.1, u_3.2.2.2.2.2.2.2.2.2.2.2)))))))
def f_X12_sees (n : Nat) (f_m_balls : Int32) (v_mc : Nat → Int32) (p1 : Int32) : Option (Int32) :=
  ((f_X12_in p1.toInt64 0 7).bind (fun u_1 => (if u_1 = 0 then (some (-102)) else ((f_X12_lacks f_m_balls).bind (fun u_3 => (if u_3 = 0 then ((f_X12_seesBy n f_m_balls v_mc p1).bind (fun u_5 => (some u_5))) else (some (-103))))))))
def b_X12_replyOf_L14 (f_m_balls : Int32) (f_m_spot : Int32) (v_mk : Nat → Int32) (v_mw : Nat → Int32) (v_q1 : Nat → Int32) (n : Nat) (x3_2 : Int32) (j62_25 : Int32 → Int32 → Int32 → Int32 → Int32 → Int32 → Int32 → Int32 → Int32 → (Nat → Int32) → Option (Int32 × Int32 × Int32 × Int32 × Int32 × Int32 × Int32 × Int32 × Int32 × (Nat → Int32))) (go_38 : Int32 → Int32 → Int32 → Int32 → Int32 → Int32 → Int32 → Int32 → Int32 → Int32 → (Nat → Int32) → Option (Int32 × Int32 × Int32 × Int32 × Int32 × Int32 × Int32 × Int32 × Int32 × (Nat → Int32))) (x2_27 : Int32) (x4_28 : Int32) (f_m_potted_29 : Int32) (f_m_moves_30 : Int32) (f_m_bounces_31 : Int32) (f_m_hitFirst_32 : Int32) (f_m_hitPower_33 : Int32) (f_m_hitDown_34 : Int32) (f_m_hitRight_35 : Int32) (f_m_isFoul_36 : Int32) (v_mt_37 : Nat → Int32) : Option (Int32 × Int32 × Int32 × Int32 × Int32 × Int32 × Int32 × Int32 × Int32 × (Nat → Int32)) :=
  (if 10 ≤ x4_28 then (j62_25 x2_27 f_m_potted_29 f_m_moves_30 f_m_bounces_31 f_m_hitFirst_32 f_m_hitPower_33 f_m_hitDown_34 f_m_hitRight_35 f_m_isFoul_36 v_mt_37) else ((f_X12_copy n 7 v_q1 v_mt_37).bind (fun u_41 => ((f_X12_strike n f_m_balls f_m_spot f_m_potted_29 f_m_moves_30 f_m_bounces_31 f_m_hitFirst_32 f_m_hitPower_33 f_m_hitDown_34 f_m_hitRight_35 f_m_isFoul_36 v_mk v_mw u_41 x3_2 x4_28 0).bind (fun u_42 => (jn (fun (k_43 : Int32) => (bnd (x4_28 + 3) (fun x4_45 => (go_38 k_43 x4_45 u_42.2.1 u_42.2.2.1 u_42.2.2.2.1 u_42.2.2.2.2.1 u_42.2.2.2.2.2.1 u_42.2.2.2.2.2.2.1 u_42.2.2.2.2.2.2.2.1 u_42.2.2.2.2.2.2.2.2.1 u_42.2.2.2.2.2.2.2.2.2)))) (fun (j55_44 : Int32 → Option (Int32 × Int32 × Int32 × Int32 × Int32 × Int32 × Int32 × Int32 × Int32 × (Nat → Int32))) => (if u_42.1 ≤ x2_27 then (j55_44 x2_27) else (j55_44 u_42.1)))))))))
def f_X12_replyOf_L14 (f_m_balls : Int32) (f_m_spot : Int32) (v_mk : Nat → Int32) (v_mw : Nat → Int32) (v_q1 : Nat → Int32) (n : Nat) (x3_2 : Int32) (j62_25 : Int32 → Int32 → Int32 → Int32 → Int32 → Int32 → Int32 → Int32 → Int32 → (Nat → Int32) → Option (Int32 × Int32 × Int32 × Int32 × Int32 × Int32 × Int32 × Int32 × Int32 × (Nat → Int32))) (k : Nat) (x2_27 : Int32) (x4_28 : Int32) (f_m_potted_29 : Int32) (f_m_moves_30 : Int32) (f_m_bounces_31 : Int32) (f_m_hitFirst_32 : Int32) (f_m_hitPower_33 : Int32) (f_m_hitDown_34 : Int32) (f_m_hitRight_35 : Int32) (f_m_isFoul_36 : Int32) (v_mt_37 : Nat → Int32) : Option (Int32 × Int32 × Int32 × Int32 × Int32 × Int32 × Int32 × Int32 × Int32 × (Nat → Int32)) :=
  lpF (fun (self : (Int32 × Int32 × Int32 × Int32 × Int32 × Int32 × Int32 × Int32 × Int32 × Int32 × (Nat → Int32)) → Option (Int32 × Int32 × Int32 × Int32 × Int32 × Int32 × Int32 × Int32 × Int32 × (Nat → Int32))) (a : Int32 × Int32 × Int32 × Int32 × Int32 × Int32 × Int32 × Int32 × Int32 × Int32 × (Nat → Int32)) => b_X12_replyOf_L14 f_m_balls f_m_spot v_mk v_mw v_q1 n x3_2 j62_25 (fun x2_27 x4_28 f_m_potted_29 f_m_moves_30 f_m_bounces_31 f_m_hitFirst_32 f_m_hitPower_33 f_m_hitDown_34 f_m_hitRight_35 f_m_isFoul_36 v_mt_37 => self (x2_27, x4_28, f_m_potted_29, f_m_moves_30, f_m_bounces_31, f_m_hitFirst_32, f_m_hitPower_33, f_m_hitDown_34, f_m_hitRight_35, f_m_isFoul_36, v_mt_37)) a.1 a.2.1 a.2.2.1 a.2.2.2.1 a.2.2.2.2.1 a.2.2.2.2.2.1 a.2.2.2.2.2.2.1 a.2.2.2.2.2.2.2.1 a.2.2.2.2.2.2.2.2.1 a.2.2.2.2.2.2.2.2.2.1 a.2.2.2.2.2.2.2.2.2.2) k (x2_27, x4_28, f_m_potted_29, f_m_moves_30, f_m_bounces_31, f_m_hitFirst_32, f_m_hitPower_33, f_m_hitDown_34, f_m_hitRight_35, f_m_isFoul_36, v_mt_37)
def b_X12_replyOf_L5 (f_m_balls : Int32) (f_m_spot : Int32) (v_mk : Nat → Int32) (v_mw : Nat → Int32) (v_q1 : Nat → Int32) (n : Nat) (go_12 : Int32 → Int32 → Int32 → Int32 → Int32 → Int32 → Int32 → Int32 → Int32 → Int32 → (Nat → Int32) → Option (Int32 × Int32 × Int32 × Int32 × Int32 × Int32 × Int32 × Int32 × Int32 × (Nat → Int32))) (x2_1 : Int32) (x3_2 : Int32) (f_m_potted_3 : Int32) (f_m_moves_4 : Int32) (f_m_bounces_5 : Int32) (f_m_hitFirst_6 : Int32) (f_m_hitPower_7 : Int32) (f_m_hitDown_8 : Int32) (f_m_hitRight_9 : Int32) (f_m_isFoul_10 : Int32) (v_mt_11 : Nat → Int32) : Option (Int32 × Int32 × Int32 × Int32 × Int32 × Int32 × Int32 × Int32 × Int32 × (Nat → Int32)) :=
  (if 8 ≤ x3_2 then (some (x2_1, f_m_potted_3, f_m_moves_4, f_m_bounces_5, f_m_hitFirst_6, f_m_hitPower_7, f_m_hitDown_8, f_m_hitRight_9, f_m_isFoul_10, v_mt_11)) else (jn (fun (x2_15 : Int32) (f_m_potted_16 : Int32) (f_m_moves_17 : Int32) (f_m_bounces_18 : Int32) (f_m_hitFirst_19 : Int32) (f_m_hitPower_20 : Int32) (f_m_hitDown_21 : Int32) (f_m_hitRight_22 : Int32) (f_m_isFoul_23 : Int32) (v_mt_24 : Nat → Int32) => (bnd (x3_2 + 1) (fun x3_26 => (go_12 x2_15 x3_26 f_m_potted_16 f_m_moves_17 f_m_bounces_18 f_m_hitFirst_19 f_m_hitPower_20 f_m_hitDown_21 f_m_hitRight_22 f_m_isFoul_23 v_mt_24)))) (fun (j62_25 : Int32 → Int32 → Int32 → Int32 → Int32 → Int32 → Int32 → Int32 → Int32 → (Nat → Int32) → Option (Int32 × Int32 × Int32 × Int32 × Int32 × Int32 × Int32 × Int32 × Int32 × (Nat → Int32))) => (f_X12_replyOf_L14 f_m_balls f_m_spot v_mk v_mw v_q1 n x3_2 j62_25 n x2_1 3 f_m_potted_3 f_m_moves_4 f_m_bounces_5 f_m_hitFirst_6 f_m_hitPower_7 f_m_hitDown_8 f_m_hitRight_9 f_m_isFoul_10 v_mt_11))))
def f_X12_replyOf_L5 (f_m_balls : Int32) (f_m_spot : Int32) (v_mk : Nat → Int32) (v_mw : Nat → Int32) (v_q1 : Nat → Int32) (n : Nat) (k : Nat) (x2_1 : Int32) (x3_2 : Int32) (f_m_potted_3 : Int32) (f_m_moves_4 : Int32) (f_m_bounces_5 : Int32) (f_m_hitFirst_6 : Int32) (f_m_hitPower_7 : Int32) (f_m_hitDown_8 : Int32) (f_m_hitRight_9 : Int32) (f_m_isFoul_10 : Int32) (v_mt_11 : Nat → Int32) : Option (Int32 × Int32 × Int32 × Int32 × Int32 × Int32 × Int32 × Int32 × Int32 × (Nat → Int32)) :=
  lpF (fun (self : (Int32 × Int32 × Int32 × Int32 × Int32 × Int32 × Int32 × Int32 × Int32 × Int32 × (Nat → Int32)) → Option (Int32 × Int32 × Int32 × Int32 × Int32 × Int32 × Int32 × Int32 × Int32 × (Nat → Int32))) (a : Int32 × Int32 × Int32 × Int32 × Int32 × Int32 × Int32 × Int32 × Int32 × Int32 × (Nat → Int32)) => b_X12_replyOf_L5 f_m_balls f_m_spot v_mk v_mw v_q1 n (fun x2_1 x3_2 f_m_potted_3 f_m_moves_4 f_m_bounces_5 f_m_hitFirst_6 f_m_hitPower_7 f_m_hitDown_8 f_m_hitRight_9 f_m_isFoul_10 v_mt_11 => self (x2_1, x3_2, f_m_potted_3, f_m_moves_4, f_m_bounces_5, f_m_hitFirst_6, f_m_hitPower_7, f_m_hitDown_8, f_m_hitRight_9, f_m_isFoul_10, v_mt_11)) a.1 a.2.1 a.2.2.1 a.2.2.2.1 a.2.2.2.2.1 a.2.2.2.2.2.1 a.2.2.2.2.2.2.1 a.2.2.2.2.2.2.2.1 a.2.2.2.2.2.2.2.2.1 a.2.2.2.2.2.2.2.2.2.1 a.2.2.2.2.2.2.2.2.2.2) k (x2_1, x3_2, f_m_potted_3, f_m_moves_4, f_m_bounces_5, f_m_hitFirst_6, f_m_hitPower_7, f_m_hitDown_8, f_m_hitRight_9, f_m_isFoul_10, v_mt_11)
def f_X12_replyOf (n : Nat) (f_m_balls : Int32) (f_m_spot : Int32) (f_m_potted : Int32) (f_m_moves : Int32) (f_m_bounces : Int32) (f_m_hitFirst : Int32) (f_m_hitPower : Int32) (f_m_hitDown : Int32) (f_m_hitRight : Int32) (f_m_isFoul : Int32) (v_mk : Nat → Int32) (v_mw : Nat → Int32) (v_mt : Nat → Int32) (v_q1 : Nat → Int32) : Option (Int32 × Int32 × Int32 × Int32 × Int32 × Int32 × Int32 × Int32 × Int32 × (Nat → Int32)) :=
  (f_X12_replyOf_L5 f_m_balls f_m_spot v_mk v_mw v_q1 n n (-99) 0 f_m_potted f_m_moves f_m_bounces f_m_hitFirst f_m_hitPower f_m_hitDown f_m_hitRight f_m_isFoul v_mt)
def b_X12_planOf_L8 (f_m_balls : Int32) (f_m_spot : Int32) (v_mk : Nat → Int32) (v_mw : Nat → Int32) (v_mc : Nat → Int32) (n : Nat) (j128_13 : Int32 → Int32 → Int32 → Int32 → Int32 → Int32 → Int32 → Int32 → Int32 → Int32 → (Nat → Int32) → (Nat → Int32) → Option (Int32 × Int32 × Int32 × Int32 × Int32 × Int32 × Int32 × Int32 × Int32 × Int32 × Int32 × (Nat → Int32) × (Nat → Int32))) (go_29 : Int32 → Int32 → Int32 → Int32 → Int32 → Int32 → Int32 → Int32 → Int32 → Int32 → Int32 → (Nat → Int32) → (Nat → Int32) → Option (Int32 × Int32 × Int32 × Int32 × Int32 × Int32 × Int32 × Int32 × Int32 × Int32 × Int32 × (Nat → Int32) × (Nat → Int32))) (x2_16 : Int32) (f_m_potted_17 : Int32) (f_m_moves_18 : Int32) (f_m_bounces_19 : Int32) (f_m_hitFirst_20 : Int32) (f_m_hitPower_21 : Int32) (f_m_hitDown_22 : Int32) (f_m_hitRight_23 : Int32) (f_m_isFoul_24 : Int32) (f_m_bestCode_25 : Int32) (f_m_bestBrings_26 : Int32) (v_mo_27 : Nat → Int32) (v_mt_28 : Nat → Int32) : Option (Int32 × Int32 × Int32 × Int32 × Int32 × Int32 × Int32 × Int32 × Int32 × Int32 × Int32 × (Nat → Int32) × (Nat → Int32)) :=
  (if 800 ≤ x2_16 then (j128_13 f_m_potted_17 f_m_moves_18 f_m_bounces_19 f_m_hitFirst_20 f_m_hitPower_21 f_m_hitDown_22 f_m_hitRight_23 f_m_isFoul_24 f_m_bestCode_25 f_m_bestBrings_26 v_mo_27 v_mt_28) else ((f_X12_isStroke (x2_16 / 100) ((x2_16 / 10) - (x2_16 / 10) / 10 * 10) (x2_16 - x2_16 / 10 * 10)).bind (fun u_32 => (jn (fun (f_m_potted_33 : Int32) (f_m_moves_34 : Int32) (f_m_bounces_35 : Int32) (f_m_hitFirst_36 : Int32) (f_m_hitPower_37 : Int32) (f_m_hitDown_38 : Int32) (f_m_hitRight_39 : Int32) (f_m_isFoul_40 : Int32) (f_m_bestCode_41 : Int32) (f_m_bestBrings_42 : Int32) (v_mo_43 : Nat → Int32) (v_mt_44 : Nat → Int32) => (bnd (x2_16 + 1) (fun x2_46 => (go_29 x2_46 f_m_potted_33 f_m_moves_34 f_m_bounces_35 f_m_hitFirst_36 f_m_hitPower_37 f_m_hitDown_38 f_m_hitRight_39 f_m_isFoul_40 f_m_bestCode_41 f_m_bestBrings_42 v_mo_43 v_mt_44)))) (fun (j122_45 : Int32 → Int32 → Int32 → Int32 → Int32 → Int32 → Int32 → Int32 → Int32 → Int32 → (Nat → Int32) → (Nat → Int32) → Option (Int32 × Int32 × Int32 × Int32 × Int32 × Int32 × Int32 × Int32 × Int32 × Int32 × Int32 × (Nat → Int32) × (Nat → Int32))) => (if u_32 = 0 then (j122_45 f_m_potted_17 f_m_moves_18 f_m_bounces_19 f_m_hitFirst_20 f_m_hitPower_21 f_m_hitDown_22 f_m_hitRight_23 f_m_isFoul_24 f_m_bestCode_25 f_m_bestBrings_26 v_mo_27 v_mt_28) else ((f_X12_copy n 7 v_mc v_mo_27).bind (fun u_48 => ((f_X12_strike n f_m_balls f_m_spot f_m_potted_17 f_m_moves_18 f_m_bounces_19 f_m_hitFirst_20 f_m_hitPower_21 f_m_hitDown_22 f_m_hitRight_23 f_m_isFoul_24 v_mk v_mw u_48 (x2_16 / 100) ((x2_16 / 10) - (x2_16 / 10) / 10 * 10) (x2_16 - x2_16 / 10 * 10)).bind (fun u_49 => ((f_X12_replyOf n f_m_balls f_m_spot u_49.2.1 u_49.2.2.1 u_49.2.2.2.1 u_49.2.2.2.2.1 u_49.2.2.2.2.2.1 u_49.2.2.2.2.2.2.1 u_49.2.2.2.2.2.2.2.1 u_49.2.2.2.2.2.2.2.2.1 v_mk v_mw v_mt_28 u_49.2.2.2.2.2.2.2.2.2).bind (fun u_50 => (bnd (u_49.1 + u_50.1) (fun x3_51 => (jn (fun (k_52 : Int32) => (jn (fun (k_54 : Int32) => (j122_45 u_50.2.1 u_50.2.2.1 u_50.2.2.2.1 u_50.2.2.2.2.1 u_50.2.2.2.2.2.1 u_50.2.2.2.2.2.2.1 u_50.2.2.2.2.2.2.2.1 u_50.2.2.2.2.2.2.2.2.1 k_52 k_54 u_49.2.2.2.2.2.2.2.2.2 u_50.2.2.2.2.2.2.2.2.2)) (fun (j119_55 : Int32 → Option (Int32 × Int32 × Int32 × Int32 × Int32 × Int32 × Int32 × Int32 × Int32 × Int32 × Int32 × (Nat → Int32) × (Nat → Int32))) => (if x3_51 ≤ f_m_bestBrings_26 then (j119_55 f_m_bestBrings_26) else (j119_55 x3_51))))) (fun (j99_53 : Int32 → Option (Int32 × Int32 × Int32 × Int32 × Int32 × Int32 × Int32 × Int32 × Int32 × Int32 × Int32 × (Nat → Int32) × (Nat → Int32))) => (if x3_51 ≤ f_m_bestBrings_26 then (j99_53 f_m_bestCode_25) else (j99_53 x2_16))))))))))))))))))
def f_X12_planOf_L8 (f_m_balls : Int32) (f_m_spot : Int32) (v_mk : Nat → Int32) (v_mw : Nat → Int32) (v_mc : Nat → Int32) (n : Nat) (j128_13 : Int32 → Int32 → Int32 → Int32 → Int32 → Int32 → Int32 → Int32 → Int32 → Int32 → (Nat → Int32) → (Nat → Int32) → Option (Int32 × Int32 × Int32 × Int32 × Int32 × Int32 × Int32 × Int32 × Int32 × Int32 × Int32 × (Nat → Int32) × (Nat → Int32))) (k : Nat) (x2_16 : Int32) (f_m_potted_17 : Int32) (f_m_moves_18 : Int32) (f_m_bounces_19 : Int32) (f_m_hitFirst_20 : Int32) (f_m_hitPower_21 : Int32) (f_m_hitDown_22 : Int32) (f_m_hitRight_23 : Int32) (f_m_isFoul_24 : Int32) (f_m_bestCode_25 : Int32) (f_m_bestBrings_26 : Int32) (v_mo_27 : Nat → Int32) (v_mt_28 : Nat → Int32) : Option (Int32 × Int32 × Int32 × Int32 × Int32 × Int32 × Int32 × Int32 × Int32 × Int32 × Int32 × (Nat → Int32) × (Nat → Int32)) :=
  lpF (fun (self : (Int32 × Int32 × Int32 × Int32 × Int32 × Int32 × Int32 × Int32 × Int32 × Int32 × Int32 × (Nat → Int32) × (Nat → Int32)) → Option (Int32 × Int32 × Int32 × Int32 × Int32 × Int32 × Int32 × Int32 × Int32 × Int32 × Int32 × (Nat → Int32) × (Nat → Int32))) (a : Int32 × Int32 × Int32 × Int32 × Int32 × Int32 × Int32 × Int32 × Int32 × Int32 × Int32 × (Nat → Int32) × (Nat → Int32)) => b_X12_planOf_L8 f_m_balls f_m_spot v_mk v_mw v_mc n j128_13 (fun x2_16 f_m_potted_17 f_m_moves_18 f_m_bounces_19 f_m_hitFirst_20 f_m_hitPower_21 f_m_hitDown_22 f_m_hitRight_23 f_m_isFoul_24 f_m_bestCode_25 f_m_bestBrings_26 v_mo_27 v_mt_28 => self (x2_16, f_m_potted_17, f_m_moves_18, f_m_bounces_19, f_m_hitFirst_20, f_m_hitPower_21, f_m_hitDown_22, f_m_hitRight_23, f_m_isFoul_24, f_m_bestCode_25, f_m_bestBrings_26, v_mo_27, v_mt_28)) a.1 a.2.1 a.2.2.1 a.2.2.2.1 a.2.2.2.2.1 a.2.2.2.2.2.1 a.2.2.2.2.2.2.1 a.2.2.2.2.2.2.2.1 a.2.2.2.2.2.2.2.2.1 a.2.2.2.2.2.2.2.2.2.1 a.2.2.2.2.2.2.2.2.2.2.1 a.2.2.2.2.2.2.2.2.2.2.2.1 a.2.2.2.2.2.2.2.2.2.2.2.2) k (x2_16, f_m_potted_17, f_m_moves_18, f_m_bounces_19, f_m_hitFirst_20, f_m_hitPower_21, f_m_hitDown_22, f_m_hitRight_23, f_m_isFoul_24, f_m_bestCode_25, f_m_bestBrings_26, v_mo_27, v_mt_28)
def f_X12_planOf (n : Nat) (f_m_balls : Int32) (f_m_spot : Int32) (f_m_potted : Int32) (f_m_moves : Int32) (f_m_bounces : Int32) (f_m_hitFirst : Int32) (f_m_hitPower : Int32) (f_m_hitDown : Int32) (f_m_hitRight : Int32) (f_m_isFoul : Int32) (f_m_bestCode : Int32) (f_m_bestBrings : Int32) (v_mk : Nat → Int32) (v_mw : Nat → Int32) (v_mc : Nat → Int32) (v_mo : Nat → Int32) (v_mt : Nat → Int32) (p1 : Int32) : Option (Int32 × Int32 × Int32 × Int32 × Int32 × Int32 × Int32 × Int32 × Int32 × Int32 × Int32 × (Nat → Int32) × (Nat → Int32)) :=
  (jn (fun (f_m_potted_1 : Int32) (f_m_moves_2 : Int32) (f_m_bounces_3 : Int32) (f_m_hitFirst_4 : Int32) (f_m_hitPower_5 : Int32) (f_m_hitDown_6 : Int32) (f_m_hitRight_7 : Int32) (f_m_isFoul_8 : Int32) (f_m_bestCode_9 : Int32) (f_m_bestBrings_10 : Int32) (v_mo_11 : Nat → Int32) (v_mt_12 : Nat → Int32) => (if p1 = 0 then (some ((f_m_bestBrings_10 + 100), f_m_potted_1, f_m_moves_2, f_m_bounces_3, f_m_hitFirst_4, f_m_hitPower_5, f_m_hitDown_6, f_m_hitRight_7, f_m_isFoul_8, f_m_bestCode_9, f_m_bestBrings_10, v_mo_11, v_mt_12)) else ((f_X12_tellCode f_m_bestCode_9 p1).bind (fun u_15 => (some (u_15, f_m_potted_1, f_m_moves_2, f_m_bounces_3, f_m_hitFirst_4, f_m_hitPower_5, f_m_hitDown_6, f_m_hitRight_7, f_m_isFoul_8, f_m_bestCode_9, f_m_bestBrings_10, v_mo_11, v_mt_12)))))) (fun (j128_13 : Int32 → Int32 → Int32 → Int32 → Int32 → Int32 → Int32 → Int32 → Int32 → Int32 → (Nat → Int32) → (Nat → Int32) → Option (Int32 × Int32 × Int32 × Int32 × Int32 × Int32 × Int32 × Int32 × Int32 × Int32 × Int32 × (Nat → Int32) × (Nat → Int32))) => (f_X12_planOf_L8 f_m_balls f_m_spot v_mk v_mw v_mc n j128_13 n 0 f_m_potted f_m_moves f_m_bounces f_m_hitFirst f_m_hitPower f_m_hitDown f_m_hitRight f_m_isFoul f_m_bestCode (-99) v_mo v_mt)))
def f_X12_plan (n : Nat) (f_m_balls : Int32) (f_m_spot : Int32) (f_m_potted : Int32) (f_m_moves : Int32) (f_m_bounces : Int32) (f_m_hitFirst : Int32) (f_m_hitPower : Int32) (f_m_hitDown : Int32) (f_m_hitRight : Int32) (f_m_isFoul : Int32) (f_m_bestCode : Int32) (f_m_bestBrings : Int32) (f_m_plansDone : Int32) (v_mk : Nat → Int32) (v_mw : Nat → Int32) (v_mc : Nat → Int32) (v_mo : Nat → Int32) (v_mt : Nat → Int32) (p1 : Int32) : Option (Int32 × Int32 × Int32 × Int32 × Int32 × Int32 × Int32 × Int32 × Int32 × Int32 × Int32 × Int32 × (Nat → Int32) × (Nat → Int32)) :=
  ((f_X12_in p1.toInt64 0 3).bind (fun u_1 => (if u_1 = 0 then (some ((-102), f_m_potted, f_m_moves, f_m_bounces, f_m_hitFirst, f_m_hitPower, f_m_hitDown, f_m_hitRight, f_m_isFoul, f_m_bestCode, f_m_bestBrings, f_m_plansDone, v_mo, v_mt)) else ((f_X12_lacks f_m_balls).bind (fun u_3 => (if u_3 = 0 then (if f_m_plansDone = 8 then (some ((-103), f_m_potted, f_m_moves, f_m_bounces, f_m_hitFirst, f_m_hitPower, f_m_hitDown, f_m_hitRight, f_m_isFoul, f_m_bestCode, f_m_bestBrings, f_m_plansDone, v_mo, v_mt)) else ((f_X12_planOf n f_m_balls f_m_spot f_m_potted f_m_moves f_m_bounces f_m_hitFirst f_m_hitPower f_m_hitDown f_m_hitRight f_m_isFoul f_m_bestCode f_m_bestBrings v_mk v_mw v_mc v_mo v_mt p1).bind (fun u_6 => (some (u_6.1, u_6.2.1, u_6.2.2.1, u_6.2.2.2.1, u_6.2.2.2.2.1, u_6.2.2.2.2.2.1, u_6.2.2.2.2.2.2.1, u_6.2.2.2.2.2.2.2.1, u_6.2.2.2.2.2.2.2.2.1, u_6.2.2.2.2.2.2.2.2.2.1, u_6.2.2.2.2.2.2.2.2.2.2.1, (f_m_plansDone + 1), u_6.2.2.2.2.2.2.2.2.2.2.2.1, u_6.2.2.2.2.2.2.2.2.2.2.2.2))))) else (some ((-103), f_m_potted, f_m_moves, f_m_bounces, f_m_hitFirst, f_m_hitPower, f_m_hitDown, f_m_hitRight, f_m_isFoul, f_m_bestCode, f_m_bestBrings, f_m_plansDone, v_mo, v_mt))))))))
def b_X12_safeOf_L13 (f_m_balls : Int32) (f_m_spot : Int32) (v_mk : Nat → Int32) (v_mw : Nat → Int32) (v_mc : Nat → Int32) (n : Nat) (j138_13 : Int32 → Int32 → Int32 → Int32 → Int32 → Int32 → Int32 → Int32 → Int32 → Int32 → (Nat → Int32) → (Nat → Int32) → Option (Int32 × Int32 × Int32 × Int32 × Int32 × Int32 × Int32 × Int32 × Int32 × Int32 × Int32 × (Nat → Int32) × (Nat → Int32))) (go_30 : Int32 → Int32 → Int32 → Int32 → Int32 → Int32 → Int32 → Int32 → Int32 → Int32 → Int32 → (Nat → Int32) → (Nat → Int32) → Option (Int32 × Int32 × Int32 × Int32 × Int32 × Int32 × Int32 × Int32 × Int32 × Int32 × Int32 × (Nat → Int32) × (Nat → Int32))) (x2_17 : Int32) (f_m_potted_18 : Int32) (f_m_moves_19 : Int32) (f_m_bounces_20 : Int32) (f_m_hitFirst_21 : Int32) (f_m_hitPower_22 : Int32) (f_m_hitDown_23 : Int32) (f_m_hitRight_24 : Int32) (f_m_isFoul_25 : Int32) (f_m_bestCode_26 : Int32) (f_m_bestBrings_27 : Int32) (v_mo_28 : Nat → Int32) (v_mt_29 : Nat → Int32) : Option (Int32 × Int32 × Int32 × Int32 × Int32 × Int32 × Int32 × Int32 × Int32 × Int32 × Int32 × (Nat → Int32) × (Nat → Int32)) :=
  (if 800 ≤ x2_17 then (j138_13 f_m_potted_18 f_m_moves_19 f_m_bounces_20 f_m_hitFirst_21 f_m_hitPower_22 f_m_hitDown_23 f_m_hitRight_24 f_m_isFoul_25 f_m_bestCode_26 f_m_bestBrings_27 v_mo_28 v_mt_29) else ((f_X12_isStroke (x2_17 / 100) ((x2_17 / 10) - (x2_17 / 10) / 10 * 10) (x2_17 - x2_17 / 10 * 10)).bind (fun u_33 => (jn (fun (f_m_potted_34 : Int32) (f_m_moves_35 : Int32) (f_m_bounces_36 : Int32) (f_m_hitFirst_37 : Int32) (f_m_hitPower_38 : Int32) (f_m_hitDown_39 : Int32) (f_m_hitRight_40 : Int32) (f_m_isFoul_41 : Int32) (f_m_bestCode_42 : Int32) (f_m_bestBrings_43 : Int32) (v_mo_44 : Nat → Int32) (v_mt_45 : Nat → Int32) => (bnd (x2_17 + 1) (fun x2_47 => (go_30 x2_47 f_m_potted_34 f_m_moves_35 f_m_bounces_36 f_m_hitFirst_37 f_m_hitPower_38 f_m_hitDown_39 f_m_hitRight_40 f_m_isFoul_41 f_m_bestCode_42 f_m_bestBrings_43 v_mo_44 v_mt_45)))) (fun (j132_46 : Int32 → Int32 → Int32 → Int32 → Int32 → Int32 → Int32 → Int32 → Int32 → Int32 → (Nat → Int32) → (Nat → Int32) → Option (Int32 × Int32 × Int32 × Int32 × Int32 × Int32 × Int32 × Int32 × Int32 × Int32 × Int32 × (Nat → Int32) × (Nat → Int32))) => (if u_33 = 0 then (j132_46 f_m_potted_18 f_m_moves_19 f_m_bounces_20 f_m_hitFirst_21 f_m_hitPower_22 f_m_hitDown_23 f_m_hitRight_24 f_m_isFoul_25 f_m_bestCode_26 f_m_bestBrings_27 v_mo_28 v_mt_29) else ((f_X12_copy n 7 v_mc v_mo_28).bind (fun u_49 => ((f_X12_strike n f_m_balls f_m_spot f_m_potted_18 f_m_moves_19 f_m_bounces_20 f_m_hitFirst_21 f_m_hitPower_22 f_m_hitDown_23 f_m_hitRight_24 f_m_isFoul_25 v_mk v_mw u_49 (x2_17 / 100) ((x2_17 / 10) - (x2_17 / 10) / 10 * 10) (x2_17 - x2_17 / 10 * 10)).bind (fun u_50 => (if u_50.2.2.2.2.2.2.2.2.1 = 0 then ((f_X12_replyOf n f_m_balls f_m_spot u_50.2.1 u_50.2.2.1 u_50.2.2.2.1 u_50.2.2.2.2.1 u_50.2.2.2.2.2.1 u_50.2.2.2.2.2.2.1 u_50.2.2.2.2.2.2.2.1 u_50.2.2.2.2.2.2.2.2.1 v_mk v_mw v_mt_29 u_50.2.2.2.2.2.2.2.2.2).bind (fun u_52 => (jn (fun (k_53 : Int32) => (jn (fun (k_55 : Int32) => (j132_46 u_52.2.1 u_52.2.2.1 u_52.2.2.2.1 u_52.2.2.2.2.1 u_52.2.2.2.2.2.1 u_52.2.2.2.2.2.2.1 u_52.2.2.2.2.2.2.2.1 u_52.2.2.2.2.2.2.2.2.1 k_53 k_55 u_50.2.2.2.2.2.2.2.2.2 u_52.2.2.2.2.2.2.2.2.2)) (fun (j129_56 : Int32 → Option (Int32 × Int32 × Int32 × Int32 × Int32 × Int32 × Int32 × Int32 × Int32 × Int32 × Int32 × (Nat → Int32) × (Nat → Int32))) => (if f_m_bestBrings_27 ≤ u_52.1 then (j129_56 f_m_bestBrings_27) else (j129_56 u_52.1))))) (fun (j109_54 : Int32 → Option (Int32 × Int32 × Int32 × Int32 × Int32 × Int32 × Int32 × Int32 × Int32 × Int32 × Int32 × (Nat → Int32) × (Nat → Int32))) => (if f_m_bestBrings_27 ≤ u_52.1 then (j109_54 f_m_bestCode_26) else (j109_54 x2_17)))))) else (j132_46 u_50.2.1 u_50.2.2.1 u_50.2.2.2.1 u_50.2.2.2.2.1 u_50.2.2.2.2.2.1 u_50.2.2.2.2.2.2.1 u_50.2.2.2.2.2.2.2.1 u_50.2.2.2.2.2.2.2.2.1 f_m_bestCode_26 f_m_bestBrings_27 u_50.2.2.2.2.2.2.2.2.2 v_mt_29))))))))))))
def f_X12_safeOf_L13 (f_m_balls : Int32) (f_m_spot : Int32) (v_mk : Nat → Int32) (v_mw : Nat → Int32) (v_mc : Nat → Int32) (n : Nat) (j138_13 : Int32 → Int32 → Int32 → Int32 → Int32 → Int32 → Int32 → Int32 → Int32 → Int32 → (Nat → Int32) → (Nat → Int32) → Option (Int32 × Int32 × Int32 × Int32 × Int32 × Int32 × Int32 × Int32 × Int32 × Int32 × Int32 × (Nat → Int32) × (Nat → Int32))) (k : Nat) (x2_17 : Int32) (f_m_potted_18 : Int32) (f_m_moves_19 : Int32) (f_m_bounces_20 : Int32) (f_m_hitFirst_21 : Int32) (f_m_hitPower_22 : Int32) (f_m_hitDown_23 : Int32) (f_m_hitRight_24 : Int32) (f_m_isFoul_25 : Int32) (f_m_bestCode_26 : Int32) (f_m_bestBrings_27 : Int32) (v_mo_28 : Nat → Int32) (v_mt_29 : Nat → Int32) : Option (Int32 × Int32 × Int32 × Int32 × Int32 × Int32 × Int32 × Int32 × Int32 × Int32 × Int32 × (Nat → Int32) × (Nat → Int32)) :=
  lpF (fun (self : (Int32 × Int32 × Int32 × Int32 × Int32 × Int32 × Int32 × Int32 × Int32 × Int32 × Int32 × (Nat → Int32) × (Nat → Int32)) → Option (Int32 × Int32 × Int32 × Int32 × Int32 × Int32 × Int32 × Int32 × Int32 × Int32 × Int32 × (Nat → Int32) × (Nat → Int32))) (a : Int32 × Int32 × Int32 × Int32 × Int32 × Int32 × Int32 × Int32 × Int32 × Int32 × Int32 × (Nat → Int32) × (Nat → Int32)) => b_X12_safeOf_L13 f_m_balls f_m_spot v_mk v_mw v_mc n j138_13 (fun x2_17 f_m_potted_18 f_m_moves_19 f_m_bounces_20 f_m_hitFirst_21 f_m_hitPower_22 f_m_hitDown_23 f_m_hitRight_24 f_m_isFoul_25 f_m_bestCode_26 f_m_bestBrings_27 v_mo_28 v_mt_29 => self (x2_17, f_m_potted_18, f_m_moves_19, f_m_bounces_20, f_m_hitFirst_21, f_m_hitPower_22, f_m_hitDown_23, f_m_hitRight_24, f_m_isFoul_25, f_m_bestCode_26, f_m_bestBrings_27, v_mo_28, v_mt_29)) a.1 a.2.1 a.2.2.1 a.2.2.2.1 a.2.2.2.2.1 a.2.2.2.2.2.1 a.2.2.2.2.2.2.1 a.2.2.2.2.2.2.2.1 a.2.2.2.2.2.2.2.2.1 a.2.2.2.2.2.2.2.2.2.1 a.2.2.2.2.2.2.2.2.2.2.1 a.2.2.2.2.2.2.2.2.2.2.2.1 a.2.2.2.2.2.2.2.2.2.2.2.2) k (x2_17, f_m_potted_18, f_m_moves_19, f_m_bounces_20, f_m_hitFirst_21, f_m_hitPower_22, f_m_hitDown_23, f_m_hitRight_24, f_m_isFoul_25, f_m_bestCode_26, f_m_bestBrings_27, v_mo_28, v_mt_29)
def f_X12_safeOf (n : Nat) (f_m_balls : Int32) (f_m_spot : Int32) (f_m_potted : Int32) (f_m_moves : Int32) (f_m_bounces : Int32) (f_m_hitFirst : Int32) (f_m_hitPower : Int32) (f_m_hitDown : Int32) (f_m_hitRight : Int32) (f_m_isFoul : Int32) (f_m_bestCode : Int32) (f_m_bestBrings : Int32) (v_mk : Nat → Int32) (v_mw : Nat → Int32) (v_mc : Nat → Int32) (v_mo : Nat → Int32) (v_mt : Nat → Int32) (p1 : Int32) : Option (Int32 × Int32 × Int32 × Int32 × Int32 × Int32 × Int32 × Int32 × Int32 × Int32 × Int32 × (Nat → Int32) × (Nat → Int32)) :=
  (jn (fun (f_m_potted_1 : Int32) (f_m_moves_2 : Int32) (f_m_bounces_3 : Int32) (f_m_hitFirst_4 : Int32) (f_m_hitPower_5 : Int32) (f_m_hitDown_6 : Int32) (f_m_hitRight_7 : Int32) (f_m_isFoul_8 : Int32) (f_m_bestCode_9 : Int32) (f_m_bestBrings_10 : Int32) (v_mo_11 : Nat → Int32) (v_mt_12 : Nat → Int32) => (if f_m_bestCode_9 = (-1) then (some ((-1), f_m_potted_1, f_m_moves_2, f_m_bounces_3, f_m_hitFirst_4, f_m_hitPower_5, f_m_hitDown_6, f_m_hitRight_7, f_m_isFoul_8, f_m_bestCode_9, f_m_bestBrings_10, v_mo_11, v_mt_12)) else (if p1 = 0 then (some ((f_m_bestBrings_10 + 100), f_m_potted_1, f_m_moves_2, f_m_bounces_3, f_m_hitFirst_4, f_m_hitPower_5, f_m_hitDown_6, f_m_hitRight_7, f_m_isFoul_8, f_m_bestCode_9, f_m_bestBrings_10, v_mo_11, v_mt_12)) else ((f_X12_tellCode f_m_bestCode_9 p1).bind (fun u_16 => (some (u_16, f_m_potted_1, f_m_moves_2, f_m_bounces_3, f_m_hitFirst_4, f_m_hitPower_5, f_m_hitDown_6, f_m_hitRight_7, f_m_isFoul_8, f_m_bestCode_9, f_m_bestBrings_10, v_mo_11, v_mt_12))))))) (fun (j138_13 : Int32 → Int32 → Int32 → Int32 → Int32 → Int32 → Int32 → Int32 → Int32 → Int32 → (Nat → Int32) → (Nat → Int32) → Option (Int32 × Int32 × Int32 × Int32 × Int32 × Int32 × Int32 × Int32 × Int32 × Int32 × Int32 × (Nat → Int32) × (Nat → Int32))) => (f_X12_safeOf_L13 f_m_balls f_m_spot v_mk v_mw v_mc n j138_13 n 0 f_m_potted f_m_moves f_m_bounces f_m_hitFirst f_m_hitPower f_m_hitDown f_m_hitRight f_m_isFoul (-1) 99 v_mo v_mt)))
def f_X12_safe (n : Nat) (f_m_balls : Int32) (f_m_spot : Int32) (f_m_potted : Int32) (f_m_moves : Int32) (f_m_bounces : Int32) (f_m_hitFirst : Int32) (f_m_hitPower : Int32) (f_m_hitDown : Int32) (f_m_hitRight : Int32) (f_m_isFoul : Int32) (f_m_bestCode : Int32) (f_m_bestBrings : Int32) (f_m_safesDone : Int32) (v_mk : Nat → Int32) (v_mw : Nat → Int32) (v_mc : Nat → Int32) (v_mo : Nat → Int32) (v_mt : Nat → Int32) (p1 : Int32) : Option (Int32 × Int32 × Int32 × Int32 × Int32 × Int32 × Int32 × Int32 × Int32 × Int32 × Int32 × Int32 × (Nat → Int32) × (Nat → Int32)) :=
  ((f_X12_in p1.toInt64 0 3).bind (fun u_1 => (if u_1 = 0 then (some ((-102), f_m_potted, f_m_moves, f_m_bounces, f_m_hitFirst, f_m_hitPower, f_m_hitDown, f_m_hitRight, f_m_isFoul, f_m_bestCode, f_m_bestBrings, f_m_safesDone, v_mo, v_mt)) else ((f_X12_lacks f_m_balls).bind (fun u_3 => (if u_3 = 0 then (if f_m_safesDone = 8 then (some ((-103), f_m_potted, f_m_moves, f_m_bounces, f_m_hitFirst, f_m_hitPower, f_m_hitDown, f_m_hitRight, f_m_isFoul, f_m_bestCode, f_m_bestBrings, f_m_safesDone, v_mo, v_mt)) else ((f_X12_safeOf n f_m_balls f_m_spot f_m_potted f_m_moves f_m_bounces f_m_hitFirst f_m_hitPower f_m_hitDown f_m_hitRight f_m_isFoul f_m_bestCode f_m_bestBrings v_mk v_mw v_mc v_mo v_mt p1).bind (fun u_6 => (some (u_6.1, u_6.2.1, u_6.2.2.1, u_6.2.2.2.1, u_6.2.2.2.2.1, u_6.2.2.2.2.2.1, u_6.2.2.2.2.2.2.1, u_6.2.2.2.2.2.2.2.1, u_6.2.2.2.2.2.2.2.2.1, u_6.2.2.2.2.2.2.2.2.2.1, u_6.2.2.2.2.2.2.2.2.2.2.1, (f_m_safesDone + 1), u_6.2.2.2.2.2.2.2.2.2.2.2.1, u_6.2.2.2.2.2.2.2.2.2.2.2.2))))) else (some ((-103), f_m_potted, f_m_moves, f_m_bounces, f_m_hitFirst, f_m_hitPower, f_m_hitDown, f_m_hitRight, f_m_isFoul, f_m_bestCode, f_m_bestBrings, f_m_safesDone, v_mo, v_mt))))))))
def f_X12_wanted (n : Nat) (f_m_balls : Int32) (f_m_spot : Int32) (f_m_potted : Int32) (f_m_moves : Int32) (f_m_bounces : Int32) (f_m_hitFirst : Int32) (f_m_hitPower : Int32) (f_m_hitDown : Int32) (f_m_hitRight : Int32) (f_m_isFoul : Int32) (v_mk : Nat → Int32) (v_mw : Nat → Int32) (v_mc : Nat → Int32) (v_mo : Nat → Int32) (p1 : Int32) : Option (Int64 × Int32 × Int32 × Int32 × Int32 × Int32 × Int32 × Int32 × Int32 × (Nat → Int32)) :=
  ((f_X12_isColoured f_m_balls p1).bind (fun u_1 => (jn ((some ((-101), f_m_potted, f_m_moves, f_m_bounces, f_m_hitFirst, f_m_hitPower, f_m_hitDown, f_m_hitRight, f_m_isFoul, v_mo))) (fun (j26_2 : Option (Int64 × Int32 × Int32 × Int32 × Int32 × Int32 × Int32 × Int32 × Int32 × (Nat → Int32))) => (if u_1 = 0 then j26_2 else (gd (inb p1 7) (if (v_mc p1.toNatClampNeg) = (-1) then j26_2 else ((f_X12_wantedOf n f_m_balls f_m_spot f_m_potted f_m_moves f_m_bounces f_m_hitFirst f_m_hitPower f_m_hitDown f_m_hitRight f_m_isFoul v_mk v_mw v_mc v_mo p1).bind (fun u_6 => (some (u_6.1, u_6.2.1, u_6.2.2.1, u_6.2.2.2.1, u_6.2.2.2.2.1, u_6.2.2.2.2.2.1, u_6.2.2.2.2.2.2.1, u_6.2.2.2.2.2.2.2.1, u_6.2.2.2.2.2.2.2.2.1, u_6.2.2.2.2.2.2.2.2.2)))))))))))
def b_X12_worthAll_L4 (f_m_balls : Int32) (v_mw : Nat → Int32) (v_mc : Nat → Int32) (go_3 : Int32 → Int32 → Option (Int32)) (x1_1 : Int32) (x2_2 : Int32) : Option (Int32) :=
  (if f_m_balls < x2_2 then (some x1_1) else (gd (inb x2_2 7) (jn (fun (k_7 : Int32) (k_8 : Int32) => (bnd (k_7 + k_8) (fun x1_10 => (bnd (x2_2 + 1) (fun x2_11 => (go_3 x1_10 x2_11)))))) (fun (j33_9 : Int32 → Int32 → Option (Int32)) => (if (v_mc x2_2.toNatClampNeg) = (-1) then (j33_9 x1_1 0) else (gd (inb x2_2 7) (j33_9 x1_1 (v_mw x2_2.toNatClampNeg))))))))
def f_X12_worthAll_L4 (f_m_balls : Int32) (v_mw : Nat → Int32) (v_mc : Nat → Int32) (k : Nat) (x1_1 : Int32) (x2_2 : Int32) : Option (Int32) :=
  lpF (fun (self : (Int32 × Int32) → Option (Int32)) (a : Int32 × Int32) => b_X12_worthAll_L4 f_m_balls v_mw v_mc (fun x1_1 x2_2 => self (x1_1, x2_2)) a.1 a.2) k (x1_1, x2_2)
def f_X12_worthAll (n : Nat) (f_m_balls : Int32) (v_mw : Nat → Int32) (v_mc : Nat → Int32) : Option (Int32) :=
  (f_X12_worthAll_L4 f_m_balls v_mw v_mc n 0 1)
def b_X12_seenByWhite_L6 (f_m_balls : Int32) (v_mc : Nat → Int32) (n : Nat) (go_4 : Int32 → Int32 → Int32 → Option (Int32)) (x1_1 : Int32) (x2_2 : Int32) (x3_3 : Int32) : Option (Int32) :=
  (if 8 ≤ x3_3 then (some x2_2) else ((f_X12_lacks f_m_balls).bind (fun u_7 => (if u_7 = 0 then ((f_X12_seesBy n f_m_balls v_mc x3_3).bind (fun u_9 => (jn (fun (k_10 : Int32) (k_11 : Int32) => (bnd (k_10 + k_11) (fun x2_13 => (jn (fun (k_14 : Int32) (k_15 : Int32) => (bnd (k_14 ||| k_15) (fun x1_17 => (bnd (x3_3 + 1) (fun x3_18 => (go_4 x1_17 x2_13 x3_18)))))) (fun (j62_16 : Int32 → Int32 → Option (Int32)) => (if u_9 = (-1) then (j62_16 x1_1 0) else (j62_16 x1_1 (1 <<< (u_9 &&& 31))))))))) (fun (j45_12 : Int32 → Int32 → Option (Int32)) => (if u_9 = (-1) then (j45_12 x2_2 0) else (j45_12 x2_2 (1 - ((x1_1 >>> (u_9 &&& 31)) &&& 1)))))))) else (some x2_2)))))
def f_X12_seenByWhite_L6 (f_m_balls : Int32) (v_mc : Nat → Int32) (n : Nat) (k : Nat) (x1_1 : Int32) (x2_2 : Int32) (x3_3 : Int32) : Option (Int32) :=
  lpF (fun (self : (Int32 × Int32 × Int32) → Option (Int32)) (a : Int32 × Int32 × Int32) => b_X12_seenByWhite_L6 f_m_balls v_mc n (fun x1_1 x2_2 x3_3 => self (x1_1, x2_2, x3_3)) a.1 a.2.1 a.2.2) k (x1_1, x2_2, x3_3)
def f_X12_seenByWhite (n : Nat) (f_m_balls : Int32) (v_mc : Nat → Int32) : Option (Int32) :=
  (f_X12_seenByWhite_L6 f_m_balls v_mc n n 0 0 0)
def f_X12_countOf (n : Nat) (f_m_pageMany : Int32) (f_m_balls : Int32) (f_m_spot : Int32) (f_m_score : Int32) (f_m_strokesNow : Int32) (f_m_fouls : Int32) (f_m_tablesRead : Int32) (f_m_plansDone : Int32) (f_m_safesDone : Int32) (f_m_seenMany : Int32) (v_mw : Nat → Int32) (v_mc : Nat → Int32) (p1 : Int32) : Option (Int32) :=
  (if p1 = 0 then (some f_m_balls) else (if p1 = 1 then ((f_X12_onTable n f_m_balls v_mc).bind (fun u_3 => (some u_3))) else (if p1 = 2 then ((f_X12_worthAll n f_m_balls v_mw v_mc).bind (fun u_5 => (some u_5))) else (if p1 = 3 then (some (f_m_score + 1000)) else (if p1 = 4 then (some f_m_strokesNow) else (if p1 = 5 then (some f_m_fouls) else (if p1 = 6 then ((f_X12_seenByWhite n f_m_balls v_mc).bind (fun u_10 => (some u_10))) else (if p1 = 7 then (gd (inb 0 7) (some (v_mc (0 : Int32).toNatClampNeg))) else (if p1 = 8 then (some f_m_spot) else (if p1 = 9 then (some f_m_seenMany) else (if p1 = 10 then (some f_m_pageMany) else (if p1 = 11 then (some f_m_tablesRead) else (if p1 = 12 then (some f_m_plansDone) else (if p1 = 13 then (some f_m_safesDone) else (some (-102))))))))))))))))
def f_X12_count (n : Nat) (f_m_pageMany : Int32) (f_m_balls : Int32) (f_m_spot : Int32) (f_m_score : Int32) (f_m_strokesNow : Int32) (f_m_fouls : Int32) (f_m_tablesRead : Int32) (f_m_plansDone : Int32) (f_m_safesDone : Int32) (f_m_seenMany : Int32) (v_mw : Nat → Int32) (v_mc : Nat → Int32) (p1 : Int32) : Option (Int32) :=
  ((f_X12_countOf n f_m_pageMany f_m_balls f_m_spot f_m_score f_m_strokesNow f_m_fouls f_m_tablesRead f_m_plansDone f_m_safesDone f_m_seenMany v_mw v_mc p1).bind (fun u_1 => (some u_1)))
def f_X12_say (f_m_hash : Int64) (p1 : Int64) : Option (Int64) :=
  (some ((31 * f_m_hash) + p1))
def b_X12_sayTable_L118 (f_m_balls : Int32) (f_m_spot : Int32) (v_mw : Nat → Int32) (v_mc : Nat → Int32) (n : Nat) (u_5 : Int32 × Int32 × Int32 × Int32 × Int32 × Int32 × Int32 × Int32 × Int32 × (Nat → Int32) × (Nat → Int32) × (Nat → Int32)) (f_m_bestCode_17 : Int32) (f_m_bestBrings_18 : Int32) (go_33 : Int32 → Int32 → Int32 → Int32 → Int32 → Int32 → Int32 → Int32 → Int32 → Int64 → (Nat → Int32) → Option (Int32 × Int32 × Int32 × Int32 × Int32 × Int32 × Int32 × Int32 × Int32 × Int32 × Int64 × (Nat → Int32) × (Nat → Int32) × (Nat → Int32))) (x1_22 : Int32) (f_m_potted_23 : Int32) (f_m_moves_24 : Int32) (f_m_bounces_25 : Int32) (f_m_hitFirst_26 : Int32) (f_m_hitPower_27 : Int32) (f_m_hitDown_28 : Int32) (f_m_hitRight_29 : Int32) (f_m_isFoul_30 : Int32) (f_m_hash_31 : Int64) (v_mo_32 : Nat → Int32) : Option (Int32 × Int32 × Int32 × Int32 × Int32 × Int32 × Int32 × Int32 × Int32 × Int32 × Int64 × (Nat → Int32) × (Nat → Int32) × (Nat → Int32)) :=
  (if 6 ≤ x1_22 then (some (f_m_potted_23, f_m_moves_24, f_m_bounces_25, f_m_hitFirst_26, f_m_hitPower_27, f_m_hitDown_28, f_m_hitRight_29, f_m_isFoul_30, f_m_bestCode_17, f_m_bestBrings_18, f_m_hash_31, u_5.2.2.2.2.2.2.2.2.2.1, v_mo_32, u_5.2.2.2.2.2.2.2.2.2.2.2)) else ((f_X12_wouldBe n f_m_balls f_m_spot f_m_potted_23 f_m_moves_24 f_m_bounces_25 f_m_hitFirst_26 f_m_hitPower_27 f_m_hitDown_28 f_m_hitRight_29 f_m_isFoul_30 u_5.2.2.2.2.2.2.2.2.2.1 v_mw v_mc v_mo_32 3 9 1 x1_22).bind (fun u_36 => ((f_X12_say f_m_hash_31 u_36.1.toInt64).bind (fun u_37 => (bnd (x1_22 + 1) (fun x1_38 => (go_33 x1_38 u_36.2.1 u_36.2.2.1 u_36.2.2.2.1 u_36.2.2.2.2.1 u_36.2.2.2.2.2.1 u_36.2.2.2.2.2.2.1 u_36.2.2.2.2.2.2.2.1 u_36.2.2.2.2.2.2.2.2.1 u_37 u_36.2.2.2.2.2.2.2.2.2))))))))
def f_X12_sayTable_L118 (f_m_balls : Int32) (f_m_spot : Int32) (v_mw : Nat → Int32) (v_mc : Nat → Int32) (n : Nat) (u_5 : Int32 × Int32 × Int32 × Int32 × Int32 × Int32 × Int32 × Int32 × Int32 × (Nat → Int32) × (Nat → Int32) × (Nat → Int32)) (f_m_bestCode_17 : Int32) (f_m_bestBrings_18 : Int32) (k : Nat) (x1_22 : Int32) (f_m_potted_23 : Int32) (f_m_moves_24 : Int32) (f_m_bounces_25 : Int32) (f_m_hitFirst_26 : Int32) (f_m_hitPower_27 : Int32) (f_m_hitDown_28 : Int32) (f_m_hitRight_29 : Int32) (f_m_isFoul_30 : Int32) (f_m_hash_31 : Int64) (v_mo_32 : Nat → Int32) : Option (Int32 × Int32 × Int32 × Int32 × Int32 × Int32 × Int32 × Int32 × Int32 × Int32 × Int64 × (Nat → Int32) × (Nat → Int32) × (Nat → Int32)) :=
  lpF (fun (self : (Int32 × Int32 × Int32 × Int32 × Int32 × Int32 × Int32 × Int32 × Int32 × Int64 × (Nat → Int32)) → Option (Int32 × Int32 × Int32 × Int32 × Int32 × Int32 × Int32 × Int32 × Int32 × Int32 × Int64 × (Nat → Int32) × (Nat → Int32) × (Nat → Int32))) (a : Int32 × Int32 × Int32 × Int32 × Int32 × Int32 × Int32 × Int32 × Int32 × Int64 × (Nat → Int32)) => b_X12_sayTable_L118 f_m_balls f_m_spot v_mw v_mc n u_5 f_m_bestCode_17 f_m_bestBrings_18 (fun x1_22 f_m_potted_23 f_m_moves_24 f_m_bounces_25 f_m_hitFirst_26 f_m_hitPower_27 f_m_hitDown_28 f_m_hitRight_29 f_m_isFoul_30 f_m_hash_31 v_mo_32 => self (x1_22, f_m_potted_23, f_m_moves_24, f_m_bounces_25, f_m_hitFirst_26, f_m_hitPower_27, f_m_hitDown_28, f_m_hitRight_29, f_m_isFoul_30, f_m_hash_31, v_mo_32)) a.1 a.2.1 a.2.2.1 a.2.2.2.1 a.2.2.2.2.1 a.2.2.2.2.2.1 a.2.2.2.2.2.2.1 a.2.2.2.2.2.2.2.1 a.2.2.2.2.2.2.2.2.1 a.2.2.2.2.2.2.2.2.2.1 a.2.2.2.2.2.2.2.2.2.2) k (x1_22, f_m_potted_23, f_m_moves_24, f_m_bounces_25, f_m_hitFirst_26, f_m_hitPower_27, f_m_hitDown_28, f_m_hitRight_29, f_m_isFoul_30, f_m_hash_31, v_mo_32)
def b_X12_sayTable_L95 (f_m_balls : Int32) (f_m_spot : Int32) (v_mw : Nat → Int32) (v_mc : Nat → Int32) (n : Nat) (u_5 : Int32 × Int32 × Int32 × Int32 × Int32 × Int32 × Int32 × Int32 × Int32 × (Nat → Int32) × (Nat → Int32) × (Nat → Int32)) (j116_21 : Int32 → Int32 → Int32 → Int32 → Int32 → Int32 → Int32 → Int32 → Int32 → Int32 → Int64 → (Nat → Int32) → Option (Int32 × Int32 × Int32 × Int32 × Int32 × Int32 × Int32 × Int32 × Int32 × Int32 × Int64 × (Nat → Int32) × (Nat → Int32) × (Nat → Int32))) (go_52 : Int32 → Int32 → Int32 → Int32 → Int32 → Int32 → Int32 → Int32 → Int32 → Int32 → Int32 → Int64 → (Nat → Int32) → Option (Int32 × Int32 × Int32 × Int32 × Int32 × Int32 × Int32 × Int32 × Int32 × Int32 × Int64 × (Nat → Int32) × (Nat → Int32) × (Nat → Int32))) (x1_39 : Int32) (f_m_potted_40 : Int32) (f_m_moves_41 : Int32) (f_m_bounces_42 : Int32) (f_m_hitFirst_43 : Int32) (f_m_hitPower_44 : Int32) (f_m_hitDown_45 : Int32) (f_m_hitRight_46 : Int32) (f_m_isFoul_47 : Int32) (f_m_bestCode_48 : Int32) (f_m_bestBrings_49 : Int32) (f_m_hash_50 : Int64) (v_mo_51 : Nat → Int32) : Option (Int32 × Int32 × Int32 × Int32 × Int32 × Int32 × Int32 × Int32 × Int32 × Int32 × Int64 × (Nat → Int32) × (Nat → Int32) × (Nat → Int32)) :=
  (if 4 ≤ x1_39 then (j116_21 f_m_potted_40 f_m_moves_41 f_m_bounces_42 f_m_hitFirst_43 f_m_hitPower_44 f_m_hitDown_45 f_m_hitRight_46 f_m_isFoul_47 f_m_bestCode_48 f_m_bestBrings_49 f_m_hash_50 v_mo_51) else ((f_X12_bestOf n f_m_balls f_m_spot f_m_potted_40 f_m_moves_41 f_m_bounces_42 f_m_hitFirst_43 f_m_hitPower_44 f_m_hitDown_45 f_m_hitRight_46 f_m_isFoul_47 f_m_bestCode_48 f_m_bestBrings_49 u_5.2.2.2.2.2.2.2.2.2.1 v_mw v_mc v_mo_51 x1_39).bind (fun u_55 => ((f_X12_say f_m_hash_50 u_55.1.toInt64).bind (fun u_56 => (bnd (x1_39 + 1) (fun x1_57 => (go_52 x1_57 u_55.2.1 u_55.2.2.1 u_55.2.2.2.1 u_55.2.2.2.2.1 u_55.2.2.2.2.2.1 u_55.2.2.2.2.2.2.1 u_55.2.2.2.2.2.2.2.1 u_55.2.2.2.2.2.2.2.2.1 u_55.2.2.2.2.2.2.2.2.2.1 u_55.2.2.2.2.2.2.2.2.2.2.1 u_56 u_55.2.2.2.2.2.2.2.2.2.2.2))))))))
def f_X12_sayTable_L95 (f_m_balls : Int32) (f_m_spot : Int32) (v_mw : Nat → Int32) (v_mc : Nat → Int32) (n : Nat) (u_5 : Int32 × Int32 × Int32 × Int32 × Int32 × Int32 × Int32 × Int32 × Int32 × (Nat → Int32) × (Nat → Int32) × (Nat → Int32)) (j116_21 : Int32 → Int32 → Int32 → Int32 → Int32 → Int32 → Int32 → Int32 → Int32 → Int32 → Int64 → (Nat → Int32) → Option (Int32 × Int32 × Int32 × Int32 × Int32 × Int32 × Int32 × Int32 × Int32 × Int32 × Int64 × (Nat → Int32) × (Nat → Int32) × (Nat → Int32))) (k : Nat) (x1_39 : Int32) (f_m_potted_40 : Int32) (f_m_moves_41 : Int32) (f_m_bounces_42 : Int32) (f_m_hitFirst_43 : Int32) (f_m_hitPower_44 : Int32) (f_m_hitDown_45 : Int32) (f_m_hitRight_46 : Int32) (f_m_isFoul_47 : Int32) (f_m_bestCode_48 : Int32) (f_m_bestBrings_49 : Int32) (f_m_hash_50 : Int64) (v_mo_51 : Nat → Int32) : Option (Int32 × Int32 × Int32 × Int32 × Int32 × Int32 × Int32 × Int32 × Int32 × Int32 × Int64 × (Nat → Int32) × (Nat → Int32) × (Nat → Int32)) :=
  lpF (fun (self : (Int32 × Int32 × Int32 × Int32 × Int32 × Int32 × Int32 × Int32 × Int32 × Int32 × Int32 × Int64 × (Nat → Int32)) → Option (Int32 × Int32 × Int32 × Int32 × Int32 × Int32 × Int32 × Int32 × Int32 × Int32 × Int64 × (Nat → Int32) × (Nat → Int32) × (Nat → Int32))) (a : Int32 × Int32 × Int32 × Int32 × Int32 × Int32 × Int32 × Int32 × Int32 × Int32 × Int32 × Int64 × (Nat → Int32)) => b_X12_sayTable_L95 f_m_balls f_m_spot v_mw v_mc n u_5 j116_21 (fun x1_39 f_m_potted_40 f_m_moves_41 f_m_bounces_42 f_m_hitFirst_43 f_m_hitPower_44 f_m_hitDown_45 f_m_hitRight_46 f_m_isFoul_47 f_m_bestCode_48 f_m_bestBrings_49 f_m_hash_50 v_mo_51 => self (x1_39, f_m_potted_40, f_m_moves_41, f_m_bounces_42, f_m_hitFirst_43, f_m_hitPower_44, f_m_hitDown_45, f_m_hitRight_46, f_m_isFoul_47, f_m_bestCode_48, f_m_bestBrings_49, f_m_hash_50, v_mo_51)) a.1 a.2.1 a.2.2.1 a.2.2.2.1 a.2.2.2.2.1 a.2.2.2.2.2.1 a.2.2.2.2.2.2.1 a.2.2.2.2.2.2.2.1 a.2.2.2.2.2.2.2.2.1 a.2.2.2.2.2.2.2.2.2.1 a.2.2.2.2.2.2.2.2.2.2.1 a.2.2.2.2.2.2.2.2.2.2.2.1 a.2.2.2.2.2.2.2.2.2.2.2.2) k (x1_39, f_m_potted_40, f_m_moves_41, f_m_bounces_42, f_m_hitFirst_43, f_m_hitPower_44, f_m_hitDown_45, f_m_hitRight_46, f_m_isFoul_47, f_m_bestCode_48, f_m_bestBrings_49, f_m_hash_50, v_mo_51)
def b_X12_sayTable_L71 (f_m_balls : Int32) (v_mc : Nat → Int32) (n : Nat) (j93_8 : Int64 → Option (Int32 × Int32 × Int32 × Int32 × Int32 × Int32 × Int32 × Int32 × Int32 × Int32 × Int64 × (Nat → Int32) × (Nat → Int32) × (Nat → Int32))) (go_60 : Int32 → Int64 → Option (Int32 × Int32 × Int32 × Int32 × Int32 × Int32 × Int32 × Int32 × Int32 × Int32 × Int64 × (Nat → Int32) × (Nat → Int32) × (Nat → Int32))) (x1_58 : Int32) (f_m_hash_59 : Int64) : Option (Int32 × Int32 × Int32 × Int32 × Int32 × Int32 × Int32 × Int32 × Int32 × Int32 × Int64 × (Nat → Int32) × (Nat → Int32) × (Nat → Int32)) :=
  (if 8 ≤ x1_58 then (j93_8 f_m_hash_59) else ((f_X12_seesBy n f_m_balls v_mc x1_58).bind (fun u_63 => ((f_X12_say f_m_hash_59 u_63.toInt64).bind (fun u_64 => (bnd (x1_58 + 1) (fun x1_65 => (go_60 x1_65 u_64))))))))
def f_X12_sayTable_L71 (f_m_balls : Int32) (v_mc : Nat → Int32) (n : Nat) (j93_8 : Int64 → Option (Int32 × Int32 × Int32 × Int32 × Int32 × Int32 × Int32 × Int32 × Int32 × Int32 × Int64 × (Nat → Int32) × (Nat → Int32) × (Nat → Int32))) (k : Nat) (x1_58 : Int32) (f_m_hash_59 : Int64) : Option (Int32 × Int32 × Int32 × Int32 × Int32 × Int32 × Int32 × Int32 × Int32 × Int32 × Int64 × (Nat → Int32) × (Nat → Int32) × (Nat → Int32)) :=
  lpF (fun (self : (Int32 × Int64) → Option (Int32 × Int32 × Int32 × Int32 × Int32 × Int32 × Int32 × Int32 × Int32 × Int32 × Int64 × (Nat → Int32) × (Nat → Int32) × (Nat → Int32))) (a : Int32 × Int64) => b_X12_sayTable_L71 f_m_balls v_mc n j93_8 (fun x1_58 f_m_hash_59 => self (x1_58, f_m_hash_59)) a.1 a.2) k (x1_58, f_m_hash_59)
def b_X12_sayTable_L2 (f_m_balls : Int32) (v_mk : Nat → Int32) (v_mw : Nat → Int32) (v_mc : Nat → Int32) (j49_2 : Int64 → Option (Int32 × Int32 × Int32 × Int32 × Int32 × Int32 × Int32 × Int32 × Int32 × Int32 × Int64 × (Nat → Int32) × (Nat → Int32) × (Nat → Int32))) (go_68 : Int32 → Int64 → Option (Int32 × Int32 × Int32 × Int32 × Int32 × Int32 × Int32 × Int32 × Int32 × Int32 × Int64 × (Nat → Int32) × (Nat → Int32) × (Nat → Int32))) (x1_66 : Int32) (f_m_hash_67 : Int64) : Option (Int32 × Int32 × Int32 × Int32 × Int32 × Int32 × Int32 × Int32 × Int32 × Int32 × Int64 × (Nat → Int32) × (Nat → Int32) × (Nat → Int32)) :=
  (if f_m_balls < x1_66 then (j49_2 f_m_hash_67) else (gd (inb x1_66 7) ((f_X12_say f_m_hash_67 ((v_mk x1_66.toNatClampNeg).toInt64)).bind (fun u_72 => (gd (inb x1_66 7) ((f_X12_say u_72 ((v_mw x1_66.toNatClampNeg).toInt64)).bind (fun u_74 => (gd (inb x1_66 7) ((f_X12_say u_74 ((v_mc x1_66.toNatClampNeg).toInt64)).bind (fun u_76 => (bnd (x1_66 + 1) (fun x1_77 => (go_68 x1_77 u_76)))))))))))))
def f_X12_sayTable_L2 (f_m_balls : Int32) (v_mk : Nat → Int32) (v_mw : Nat → Int32) (v_mc : Nat → Int32) (j49_2 : Int64 → Option (Int32 × Int32 × Int32 × Int32 × Int32 × Int32 × Int32 × Int32 × Int32 × Int32 × Int64 × (Nat → Int32) × (Nat → Int32) × (Nat → Int32))) (k : Nat) (x1_66 : Int32) (f_m_hash_67 : Int64) : Option (Int32 × Int32 × Int32 × Int32 × Int32 × Int32 × Int32 × Int32 × Int32 × Int32 × Int64 × (Nat → Int32) × (Nat → Int32) × (Nat → Int32)) :=
  lpF (fun (self : (Int32 × Int64) → Option (Int32 × Int32 × Int32 × Int32 × Int32 × Int32 × Int32 × Int32 × Int32 × Int32 × Int64 × (Nat → Int32) × (Nat → Int32) × (Nat → Int32))) (a : Int32 × Int64) => b_X12_sayTable_L2 f_m_balls v_mk v_mw v_mc j49_2 (fun x1_66 f_m_hash_67 => self (x1_66, f_m_hash_67)) a.1 a.2) k (x1_66, f_m_hash_67)
def f_X12_sayTable (n : Nat) (f_m_balls : Int32) (f_m_spot : Int32) (f_m_potted : Int32) (f_m_moves : Int32) (f_m_bounces : Int32) (f_m_hitFirst : Int32) (f_m_hitPower : Int32) (f_m_hitDown : Int32) (f_m_hitRight : Int32) (f_m_isFoul : Int32) (f_m_bestCode : Int32) (f_m_bestBrings : Int32) (f_m_seenMany : Int32) (f_m_hash : Int64) (v_mk : Nat → Int32) (v_mw : Nat → Int32) (v_mc : Nat → Int32) (v_mo : Nat → Int32) (v_ms : Nat → Int32) (v_mb : Nat → Int32) : Option (Int32 × Int32 × Int32 × Int32 × Int32 × Int32 × Int32 × Int32 × Int32 × Int32 × Int64 × (Nat → Int32) × (Nat → Int32) × (Nat → Int32)) :=
  (jn (fun (f_m_hash_1 : Int64) => ((f_X12_kindsOf n f_m_balls f_m_spot f_m_potted f_m_moves f_m_bounces f_m_hitFirst f_m_hitPower f_m_hitDown f_m_hitRight f_m_isFoul f_m_seenMany v_mk v_mw v_mc v_mo v_ms 1).bind (fun u_3 => ((f_X12_say f_m_hash_1 u_3.1.toInt64).bind (fun u_4 => ((f_X12_tryOf n f_m_balls f_m_spot u_3.2.1 u_3.2.2.1 u_3.2.2.2.1 u_3.2.2.2.2.1 u_3.2.2.2.2.2.1 u_3.2.2.2.2.2.2.1 u_3.2.2.2.2.2.2.2.1 u_3.2.2.2.2.2.2.2.2.1 f_m_seenMany u_3.2.2.2.2.2.2.2.2.2.1 v_mw v_mc u_3.2.2.2.2.2.2.2.2.2.2 v_ms v_mb 1).bind (fun u_5 => ((f_X12_say u_4 u_5.1.toInt64).bind (fun u_6 => (jn (fun (f_m_hash_7 : Int64) => (jn (fun (f_m_potted_9 : Int32) (f_m_moves_10 : Int32) (f_m_bounces_11 : Int32) (f_m_hitFirst_12 : Int32) (f_m_hitPower_13 : Int32) (f_m_hitDown_14 : Int32) (f_m_hitRight_15 : Int32) (f_m_isFoul_16 : Int32) (f_m_bestCode_17 : Int32) (f_m_bestBrings_18 : Int32) (f_m_hash_19 : Int64) (v_mo_20 : Nat → Int32) => (f_X12_sayTable_L118 f_m_balls f_m_spot v_mw v_mc n u_5 f_m_bestCode_17 f_m_bestBrings_18 n 0 f_m_potted_9 f_m_moves_10 f_m_bounces_11 f_m_hitFirst_12 f_m_hitPower_13 f_m_hitDown_14 f_m_hitRight_15 f_m_isFoul_16 f_m_hash_19 v_mo_20)) (fun (j116_21 : Int32 → Int32 → Int32 → Int32 → Int32 → Int32 → Int32 → Int32 → Int32 → Int32 → Int64 → (Nat → Int32) → Option (Int32 × Int32 × Int32 × Int32 × Int32 × Int32 × Int32 × Int32 × Int32 × Int32 × Int64 × (Nat → Int32) × (Nat → Int32) × (Nat → Int32))) => (f_X12_sayTable_L95 f_m_balls f_m_spot v_mw v_mc n u_5 j116_21 n 0 u_5.2.1 u_5.2.2.1 u_5.2.2.2.1 u_5.2.2.2.2.1 u_5.2.2.2.2.2.1 u_5.2.2.2.2.2.2.1 u_5.2.2.2.2.2.2.2.1 u_5.2.2.2.2.2.2.2.2.1 f_m_bestCode f_m_bestBrings f_m_hash_7 u_5.2.2.2.2.2.2.2.2.2.2.1)))) (fun (j93_8 : Int64 → Option (Int32 × Int32 × Int32 × Int32 × Int32 × Int32 × Int32 × Int32 × Int32 × Int32 × Int64 × (Nat → Int32) × (Nat → Int32) × (Nat → Int32))) => (f_X12_sayTable_L71 f_m_balls v_mc n j93_8 n 0 u_6)))))))))))) (fun (j49_2 : Int64 → Option (Int32 × Int32 × Int32 × Int32 × Int32 × Int32 × Int32 × Int32 × Int32 × Int32 × Int64 × (Nat → Int32) × (Nat → Int32) × (Nat → Int32))) => (f_X12_sayTable_L2 f_m_balls v_mk v_mw v_mc j49_2 n 0 f_m_hash)))
def b_X12_digest_L47 (f_m_pageMany : Int32) (f_m_balls : Int32) (f_m_spot : Int32) (f_m_score : Int32) (f_m_strokesNow : Int32) (f_m_fouls : Int32) (f_m_tablesRead : Int32) (f_m_plansDone : Int32) (f_m_safesDone : Int32) (f_m_seenMany : Int32) (v_mw : Nat → Int32) (v_mc : Nat → Int32) (n : Nat) (j69_20 : Int64 → Option (Int64 × Int32 × Int32 × Int32 × Int32 × Int32 × Int32 × Int32 × Int32 × Int32 × Int32 × Int64 × (Nat → Int32) × (Nat → Int32) × (Nat → Int32))) (go_23 : Int32 → Int64 → Option (Int64 × Int32 × Int32 × Int32 × Int32 × Int32 × Int32 × Int32 × Int32 × Int32 × Int32 × Int64 × (Nat → Int32) × (Nat → Int32) × (Nat → Int32))) (x1_21 : Int32) (f_m_hash_22 : Int64) : Option (Int64 × Int32 × Int32 × Int32 × Int32 × Int32 × Int32 × Int32 × Int32 × Int32 × Int32 × Int64 × (Nat → Int32) × (Nat → Int32) × (Nat → Int32)) :=
  (if 14 ≤ x1_21 then (j69_20 f_m_hash_22) else ((f_X12_countOf n f_m_pageMany f_m_balls f_m_spot f_m_score f_m_strokesNow f_m_fouls f_m_tablesRead f_m_plansDone f_m_safesDone f_m_seenMany v_mw v_mc x1_21).bind (fun u_26 => ((f_X12_say f_m_hash_22 u_26.toInt64).bind (fun u_27 => (bnd (x1_21 + 1) (fun x1_28 => (go_23 x1_28 u_27))))))))
def f_X12_digest_L47 (f_m_pageMany : Int32) (f_m_balls : Int32) (f_m_spot : Int32) (f_m_score : Int32) (f_m_strokesNow : Int32) (f_m_fouls : Int32) (f_m_tablesRead : Int32) (f_m_plansDone : Int32) (f_m_safesDone : Int32) (f_m_seenMany : Int32) (v_mw : Nat → Int32) (v_mc : Nat → Int32) (n : Nat) (j69_20 : Int64 → Option (Int64 × Int32 × Int32 × Int32 × Int32 × Int32 × Int32 × Int32 × Int32 × Int32 × Int32 × Int64 × (Nat → Int32) × (Nat → Int32) × (Nat → Int32))) (k : Nat) (x1_21 : Int32) (f_m_hash_22 : Int64) : Option (Int64 × Int32 × Int32 × Int32 × Int32 × Int32 × Int32 × Int32 × Int32 × Int32 × Int32 × Int64 × (Nat → Int32) × (Nat → Int32) × (Nat → Int32)) :=
  lpF (fun (self : (Int32 × Int64) → Option (Int64 × Int32 × Int32 × Int32 × Int32 × Int32 × Int32 × Int32 × Int32 × Int32 × Int32 × Int64 × (Nat → Int32) × (Nat → Int32) × (Nat → Int32))) (a : Int32 × Int64) => b_X12_digest_L47 f_m_pageMany f_m_balls f_m_spot f_m_score f_m_strokesNow f_m_fouls f_m_tablesRead f_m_plansDone f_m_safesDone f_m_seenMany v_mw v_mc n j69_20 (fun x1_21 f_m_hash_22 => self (x1_21, f_m_hash_22)) a.1 a.2) k (x1_21, f_m_hash_22)
def b_X12_digest_L20 (f_m_pageMany : Int32) (v_mP : Nat → Int32) (j45_18 : Int64 → Option (Int64 × Int32 × Int32 × Int32 × Int32 × Int32 × Int32 × Int32 × Int32 × Int32 × Int32 × Int64 × (Nat → Int32) × (Nat → Int32) × (Nat → Int32))) (go_31 : Int32 → Int64 → Option (Int64 × Int32 × Int32 × Int32 × Int32 × Int32 × Int32 × Int32 × Int32 × Int32 × Int32 × Int64 × (Nat → Int32) × (Nat → Int32) × (Nat → Int32))) (x1_29 : Int32) (f_m_hash_30 : Int64) : Option (Int64 × Int32 × Int32 × Int32 × Int32 × Int32 × Int32 × Int32 × Int32 × Int32 × Int32 × Int64 × (Nat → Int32) × (Nat → Int32) × (Nat → Int32)) :=
  (if f_m_pageMany ≤ x1_29 then (j45_18 f_m_hash_30) else (gd (inb x1_29 34) ((f_X12_say f_m_hash_30 ((v_mP x1_29.toNatClampNeg).toInt64)).bind (fun u_35 => (bnd (x1_29 + 1) (fun x1_36 => (go_31 x1_36 u_35)))))))
def f_X12_digest_L20 (f_m_pageMany : Int32) (v_mP : Nat → Int32) (j45_18 : Int64 → Option (Int64 × Int32 × Int32 × Int32 × Int32 × Int32 × Int32 × Int32 × Int32 × Int32 × Int32 × Int64 × (Nat → Int32) × (Nat → Int32) × (Nat → Int32))) (k : Nat) (x1_29 : Int32) (f_m_hash_30 : Int64) : Option (Int64 × Int32 × Int32 × Int32 × Int32 × Int32 × Int32 × Int32 × Int32 × Int32 × Int32 × Int64 × (Nat → Int32) × (Nat → Int32) × (Nat → Int32)) :=
  lpF (fun (self : (Int32 × Int64) → Option (Int64 × Int32 × Int32 × Int32 × Int32 × Int32 × Int32 × Int32 × Int32 × Int32 × Int32 × Int64 × (Nat → Int32) × (Nat → Int32) × (Nat → Int32))) (a : Int32 × Int64) => b_X12_digest_L20 f_m_pageMany v_mP j45_18 (fun x1_29 f_m_hash_30 => self (x1_29, f_m_hash_30)) a.1 a.2) k (x1_29, f_m_hash_30)
def f_X12_digest (n : Nat) (f_m_pageMany : Int32) (f_m_balls : Int32) (f_m_spot : Int32) (f_m_score : Int32) (f_m_strokesNow : Int32) (f_m_fouls : Int32) (f_m_tablesRead : Int32) (f_m_potted : Int32) (f_m_moves : Int32) (f_m_bounces : Int32) (f_m_hitFirst : Int32) (f_m_hitPower : Int32) (f_m_hitDown : Int32) (f_m_hitRight : Int32) (f_m_isFoul : Int32) (f_m_bestCode : Int32) (f_m_bestBrings : Int32) (f_m_plansDone : Int32) (f_m_safesDone : Int32) (f_m_seenMany : Int32) (f_m_hash : Int64) (v_mP : Nat → Int32) (v_mk : Nat → Int32) (v_mw : Nat → Int32) (v_mc : Nat → Int32) (v_mo : Nat → Int32) (v_ms : Nat → Int32) (v_mb : Nat → Int32) : Option (Int64 × Int32 × Int32 × Int32 × Int32 × Int32 × Int32 × Int32 × Int32 × Int32 × Int32 × Int64 × (Nat → Int32) × (Nat → Int32) × (Nat → Int32)) :=
  ((f_X12_lacks f_m_balls).bind (fun u_1 => (jn (fun (f_m_potted_2 : Int32) (f_m_moves_3 : Int32) (f_m_bounces_4 : Int32) (f_m_hitFirst_5 : Int32) (f_m_hitPower_6 : Int32) (f_m_hitDown_7 : Int32) (f_m_hitRight_8 : Int32) (f_m_isFoul_9 : Int32) (f_m_bestCode_10 : Int32) (f_m_bestBrings_11 : Int32) (f_m_hash_12 : Int64) (v_mk_13 : Nat → Int32) (v_mo_14 : Nat → Int32) (v_mb_15 : Nat → Int32) => (jn (fun (f_m_hash_17 : Int64) => (jn (fun (f_m_hash_19 : Int64) => (some (f_m_hash_19, f_m_potted_2, f_m_moves_3, f_m_bounces_4, f_m_hitFirst_5, f_m_hitPower_6, f_m_hitDown_7, f_m_hitRight_8, f_m_isFoul_9, f_m_bestCode_10, f_m_bestBrings_11, f_m_hash_19, v_mk_13, v_mo_14, v_mb_15))) (fun (j69_20 : Int64 → Option (Int64 × Int32 × Int32 × Int32 × Int32 × Int32 × Int32 × Int32 × Int32 × Int32 × Int32 × Int64 × (Nat → Int32) × (Nat → Int32) × (Nat → Int32))) => (f_X12_digest_L47 f_m_pageMany f_m_balls f_m_spot f_m_score f_m_strokesNow f_m_fouls f_m_tablesRead f_m_plansDone f_m_safesDone f_m_seenMany v_mw v_mc n j69_20 n 0 f_m_hash_17)))) (fun (j45_18 : Int64 → Option (Int64 × Int32 × Int32 × Int32 × Int32 × Int32 × Int32 × Int32 × Int32 × Int32 × Int32 × Int64 × (Nat → Int32) × (Nat → Int32) × (Nat → Int32))) => (f_X12_digest_L20 f_m_pageMany v_mP j45_18 n 0 f_m_hash_12)))) (fun (j18_16 : Int32 → Int32 → Int32 → Int32 → Int32 → Int32 → Int32 → Int32 → Int32 → Int32 → Int64 → (Nat → Int32) → (Nat → Int32) → (Nat → Int32) → Option (Int64 × Int32 × Int32 × Int32 × Int32 × Int32 × Int32 × Int32 × Int32 × Int32 × Int32 × Int64 × (Nat → Int32) × (Nat → Int32) × (Nat → Int32))) => (if u_1 = 0 then ((f_X12_sayTable n f_m_balls f_m_spot f_m_potted f_m_moves f_m_bounces f_m_hitFirst f_m_hitPower f_m_hitDown f_m_hitRight f_m_isFoul f_m_bestCode f_m_bestBrings f_m_seenMany 1097 v_mk v_mw v_mc v_mo v_ms v_mb).bind (fun u_38 => (j18_16 u_38.1 u_38.2.1 u_38.2.2.1 u_38.2.2.2.1 u_38.2.2.2.2.1 u_38.2.2.2.2.2.1 u_38.2.2.2.2.2.2.1 u_38.2.2.2.2.2.2.2.1 u_38.2.2.2.2.2.2.2.2.1 u_38.2.2.2.2.2.2.2.2.2.1 u_38.2.2.2.2.2.2.2.2.2.2.1 u_38.2.2.2.2.2.2.2.2.2.2.2.1 u_38.2.2.2.2.2.2.2.2.2.2.2.2.1 u_38.2.2.2.2.2.2.2.2.2.2.2.2.2))) else (j18_16 f_m_potted f_m_moves f_m_bounces f_m_hitFirst f_m_hitPower f_m_hitDown f_m_hitRight f_m_isFoul f_m_bestCode f_m_bestBrings 1097 v_mk v_mo v_mb))))))
def f_X7_isFull (f_g_size : Int32) : Option (Int32) :=
  (if f_g_size < 34 then (some 0) else (some 1))
def f_X7_append (f_g_size : Int32) (v_gl : Nat → Int32) (p1 : Int32) : Option (Int32 × (Nat → Int32)) :=
  ((f_X7_isFull f_g_size).bind (fun u_1 => (if u_1 = 0 then (gd (inb f_g_size 34) (some ((f_g_size + 1), (upd v_gl f_g_size.toNatClampNeg p1)))) else (some (f_g_size, v_gl)))))
def f_X7_at (v_gl : Nat → Int32) (p1 : Int32) : Option (Int32) :=
  (jn ((some 0)) (fun (j22_1 : Option (Int32)) => (if p1 < 0 then j22_1 else (if 34 ≤ p1 then j22_1 else (gd (inb p1 34) (some (v_gl p1.toNatClampNeg)))))))
def f_X7_digitAt (v_gl : Nat → Int32) (p1 : Int32) : Option (Int32) :=
  ((f_X7_at v_gl p1).bind (fun u_1 => (some (u_1 - 48))))
def f_X11_within (p0 : Int32) (p1 : Int32) (p2 : Int32) : Option (Int32) :=
  (jn ((some 0)) (fun (j14_1 : Option (Int32)) => (if p0 < p1 then j14_1 else (if p2 < p0 then j14_1 else (some 1)))))
def f_J0_isLatin1_aae02  : Option (Int32) :=
  (bnd (1 : Int32) (fun w_1 => (jn ((some 0)) (fun (j17_2 : Option (Int32)) => (if w_1 = 0 then j17_2 else (bnd (0 : Int32) (fun w_4 => (if w_4 = 0 then (some 1) else j17_2))))))))
def f_J0_coder_7d493  : Option (Int32) :=
  (bnd (1 : Int32) (fun w_1 => (if w_1 = 0 then (some 1) else (bnd (0 : Int32) (fun w_3 => (gd (isb w_3) (some w_3)))))))
def f_J0_length_8abf5  : Option (Int32) :=
  ((f_J0_coder_7d493 ).bind (fun u_1 => (some (5 >>> (u_1 &&& 31)))))
def f_J1_canEncode_9a6ad (p0 : Int32) : Option (Int32) :=
  (jn ((some 0)) (fun (j15_1 : Option (Int32)) => (if p0 < 0 then j15_1 else (if 255 < p0 then j15_1 else (some 1)))))
def b_J1_indexOfChar_4cfef_L7 (p1 : Int32) (p3 : Int32) (go_2 : Int32 → Option (Int32)) (x5_1 : Int32) : Option (Int32) :=
  (if p3 ≤ x5_1 then (some (-1)) else (gd (inb x5_1 5) (if (ltr x5_1.toNatClampNeg) = p1.toInt8.toInt32 then (some x5_1) else (bnd (x5_1 + 1) (fun x5_7 => (go_2 x5_7))))))
def f_J1_indexOfChar_4cfef_L7 (p1 : Int32) (p3 : Int32) (k : Nat) (x5_1 : Int32) : Option (Int32) :=
  lpF (fun (self : Int32 → Option (Int32)) (a : Int32) => b_J1_indexOfChar_4cfef_L7 p1 p3 (fun x5_1 => self x5_1) a) k x5_1
def f_J1_indexOfChar_4cfef (n : Nat) (p1 : Int32) (p2 : Int32) (p3 : Int32) : Option (Int32) :=
  (f_J1_indexOfChar_4cfef_L7 p1 p3 n p2)
def f_J1_indexOf_4cfef (n : Nat) (p1 : Int32) (p2 : Int32) (p3 : Int32) : Option (Int32) :=
  ((f_J1_canEncode_9a6ad p1).bind (fun u_1 => (if u_1 = 0 then (some (-1)) else (bnd (if p2 < 0 then 0 else p2) (fun x2_3 => (bnd (if 5 < p3 then 5 else p3) (fun x3_4 => (if x2_3 < x3_4 then ((f_J1_indexOfChar_4cfef n p1 x2_3 x3_4).bind (fun u_6 => (some u_6))) else (some (-1))))))))))
def f_J0_indexOf_7cf53 (n : Nat) (p1 : Int32) (p2 : Int32) : Option (Int32) :=
  ((f_J0_isLatin1_aae02 ).bind (fun u_1 => (if u_1 = 0 then none else ((f_J0_length_8abf5 ).bind (fun u_3 => ((f_J1_indexOf_4cfef n p1 p2 u_3).bind (fun u_4 => (some u_4))))))))
def f_J0_indexOf_0f7a4 (n : Nat) (p1 : Int32) : Option (Int32) :=
  ((f_J0_indexOf_7cf53 n p1 0).bind (fun u_1 => (some u_1)))
def f_X7_cellAt (v_gl : Nat → Int32) (p1 : Int32) : Option (Int32) :=
  ((f_X7_digitAt v_gl (p1 - 1)).bind (fun u_1 => ((f_X7_digitAt v_gl p1).bind (fun u_2 => (some ((9 * u_1) + u_2))))))
def b_X7_isFreeCell_L8 (v_gl : Nat → Int32) (p1 : Int32) (u_1 : Int32) (j30_2 : Option (Int32)) (go_6 : Int32 → Option (Int32)) (x3_5 : Int32) : Option (Int32) :=
  (if p1 ≤ x3_5 then j30_2 else ((f_X7_cellAt v_gl x3_5).bind (fun u_9 => (if u_9 = u_1 then (some 0) else (bnd (x3_5 + 5) (fun x3_11 => (go_6 x3_11)))))))
def f_X7_isFreeCell_L8 (v_gl : Nat → Int32) (p1 : Int32) (u_1 : Int32) (j30_2 : Option (Int32)) (k : Nat) (x3_5 : Int32) : Option (Int32) :=
  lpF (fun (self : Int32 → Option (Int32)) (a : Int32) => b_X7_isFreeCell_L8 v_gl p1 u_1 j30_2 (fun x3_5 => self x3_5) a) k x3_5
def f_X7_isFreeCell (n : Nat) (v_gl : Nat → Int32) (p1 : Int32) : Option (Int32) :=
  ((f_X7_cellAt v_gl p1).bind (fun u_1 => (jn (((f_X11_isPocket u_1).bind (fun u_3 => (if u_3 = 0 then (some 1) else (some 0))))) (fun (j30_2 : Option (Int32)) => (f_X7_isFreeCell_L8 v_gl p1 u_1 j30_2 n 1)))))
def f_X7_fits (n : Nat) (v_gl : Nat → Int32) (p1 : Int32) : Option (Int32) :=
  (if p1 < 32 then (bnd (p1 - p1 / 5 * 5) (fun w_2 => (if w_2 = 0 then ((f_X7_digitAt v_gl p1).bind (fun u_4 => ((f_X11_isRow u_4).bind (fun u_5 => (gd (isb u_5) (some u_5)))))) else (if w_2 = 1 then ((f_X7_digitAt v_gl p1).bind (fun u_8 => ((f_X11_isColumn u_8).bind (fun u_9 => (jn ((some 0)) (fun (j72_10 : Option (Int32)) => (if u_9 = 0 then j72_10 else ((f_X7_isFreeCell n v_gl p1).bind (fun u_12 => (if u_12 = 0 then j72_10 else (some 1))))))))))) else (if w_2 = 2 then ((f_X7_at v_gl p1).bind (fun u_15 => (jn (fun (k_16 : Int32) (k_17 : Int32) => (if k_16 = k_17 then (some 1) else (some 0))) (fun (j91_18 : Int32 → Int32 → Option (Int32)) => (if p1 = 2 then (j91_18 u_15 59) else (j91_18 u_15 44)))))) else (if w_2 = 3 then ((f_X7_at v_gl p1).bind (fun u_22 => ((f_J0_indexOf_0f7a4 n ((u_22.toUInt32 % 65536).toInt32)).bind (fun u_23 => (if u_23 < 0 then (some 0) else (some 1)))))) else ((f_X7_digitAt v_gl p1).bind (fun u_25 => ((f_X11_within u_25 1 7).bind (fun u_26 => (gd (isb u_26) (some u_26)))))))))))) else (some 0))
def b_X7_firstFault_L2 (f_g_size : Int32) (v_gl : Nat → Int32) (n : Nat) (j26_1 : Option (Int32)) (go_3 : Int32 → Option (Int32)) (x1_2 : Int32) : Option (Int32) :=
  (if f_g_size ≤ x1_2 then j26_1 else ((f_X7_fits n v_gl x1_2).bind (fun u_6 => (if u_6 = 0 then (some x1_2) else (bnd (x1_2 + 1) (fun x1_8 => (go_3 x1_8)))))))
def f_X7_firstFault_L2 (f_g_size : Int32) (v_gl : Nat → Int32) (n : Nat) (j26_1 : Option (Int32)) (k : Nat) (x1_2 : Int32) : Option (Int32) :=
  lpF (fun (self : Int32 → Option (Int32)) (a : Int32) => b_X7_firstFault_L2 f_g_size v_gl n j26_1 (fun x1_2 => self x1_2) a) k x1_2
def f_X7_firstFault (n : Nat) (f_g_size : Int32) (v_gl : Nat → Int32) : Option (Int32) :=
  (jn ((some f_g_size)) (fun (j26_1 : Option (Int32)) => (f_X7_firstFault_L2 f_g_size v_gl n j26_1 n 0)))
def f_X7_isWhole (n : Nat) (f_g_size : Int32) (v_gl : Nat → Int32) : Option (Int32) :=
  (jn ((some 0)) (fun (j34_1 : Option (Int32)) => (if f_g_size < 7 then j34_1 else (if (f_g_size - f_g_size / 5 * 5) = 2 then ((f_X7_firstFault n f_g_size v_gl).bind (fun u_4 => (if u_4 = f_g_size then (some 1) else j34_1))) else j34_1))))
def b_X7_readInto_L30 (f_g_size : Int32) (v_gl : Nat → Int32) (n : Nat) (u_1 : Int32) (go_8 : Int32 → Int64 → (Nat → Int32) → (Nat → Int32) → (Nat → Int32) → Option (Int64 × Int32 × Int32 × (Nat → Int32) × (Nat → Int32) × (Nat → Int32))) (x2_3 : Int32) (f_o_taken_4 : Int64) (v_oc_5 : Nat → Int32) (v_ok_6 : Nat → Int32) (v_ow_7 : Nat → Int32) : Option (Int64 × Int32 × Int32 × (Nat → Int32) × (Nat → Int32) × (Nat → Int32)) :=
  (if (f_g_size / 5) < x2_3 then (some (f_o_taken_4, (f_g_size / 5), u_1, v_oc_5, v_ok_6, v_ow_7)) else (bnd ((5 * x2_3) + 1) (fun x3_11 => ((f_X7_at v_gl (x3_11 - 3)).bind (fun u_12 => ((f_J0_indexOf_0f7a4 n ((u_12.toUInt32 % 65536).toInt32)).bind (fun u_13 => ((f_X10_setKind v_ok_6 x2_3 u_13).bind (fun u_14 => ((f_X7_digitAt v_gl (x3_11 - 2)).bind (fun u_15 => ((f_X10_setWorth v_ow_7 x2_3 u_15).bind (fun u_16 => ((f_X7_cellAt v_gl x3_11).bind (fun u_17 => ((f_X10_lay f_o_taken_4 v_oc_5 x2_3 u_17).bind (fun u_18 => (bnd (x2_3 + 1) (fun x2_19 => (go_8 x2_19 u_18.1 u_18.2 u_14 u_16))))))))))))))))))))
def f_X7_readInto_L30 (f_g_size : Int32) (v_gl : Nat → Int32) (n : Nat) (u_1 : Int32) (k : Nat) (x2_3 : Int32) (f_o_taken_4 : Int64) (v_oc_5 : Nat → Int32) (v_ok_6 : Nat → Int32) (v_ow_7 : Nat → Int32) : Option (Int64 × Int32 × Int32 × (Nat → Int32) × (Nat → Int32) × (Nat → Int32)) :=
  lpF (fun (self : (Int32 × Int64 × (Nat → Int32) × (Nat → Int32) × (Nat → Int32)) → Option (Int64 × Int32 × Int32 × (Nat → Int32) × (Nat → Int32) × (Nat → Int32))) (a : Int32 × Int64 × (Nat → Int32) × (Nat → Int32) × (Nat → Int32)) => b_X7_readInto_L30 f_g_size v_gl n u_1 (fun x2_3 f_o_taken_4 v_oc_5 v_ok_6 v_ow_7 => self (x2_3, f_o_taken_4, v_oc_5, v_ok_6, v_ow_7)) a.1 a.2.1 a.2.2.1 a.2.2.2.1 a.2.2.2.2) k (x2_3, f_o_taken_4, v_oc_5, v_ok_6, v_ow_7)
def f_X7_readInto (n : Nat) (f_g_size : Int32) (v_gl : Nat → Int32) (f_o_taken : Int64) (f_o_size : Int32) (f_o_spot : Int32) (v_oc : Nat → Int32) (v_ok : Nat → Int32) (v_ow : Nat → Int32) : Option (Int64 × Int32 × Int32 × (Nat → Int32) × (Nat → Int32) × (Nat → Int32)) :=
  ((f_X7_cellAt v_gl 1).bind (fun u_1 => ((f_X10_lay f_o_taken v_oc 0 u_1).bind (fun u_2 => (f_X7_readInto_L30 f_g_size v_gl n u_1 n 1 u_2.1 u_2.2 v_ok v_ow)))))
def b_X7_digestOn_L5 (f_g_size : Int32) (v_gl : Nat → Int32) (go_3 : Int64 → Int32 → Option (Int64)) (x3_1 : Int64) (x5_2 : Int32) : Option (Int64) :=
  (if f_g_size ≤ x5_2 then (some x3_1) else ((f_X7_at v_gl x5_2).bind (fun u_6 => (bnd ((31 * x3_1) + u_6.toInt64) (fun x3_7 => (bnd (x5_2 + 1) (fun x5_8 => (go_3 x3_7 x5_8))))))))
def f_X7_digestOn_L5 (f_g_size : Int32) (v_gl : Nat → Int32) (k : Nat) (x3_1 : Int64) (x5_2 : Int32) : Option (Int64) :=
  lpF (fun (self : (Int64 × Int32) → Option (Int64)) (a : Int64 × Int32) => b_X7_digestOn_L5 f_g_size v_gl (fun x3_1 x5_2 => self (x3_1, x5_2)) a.1 a.2) k (x3_1, x5_2)
def f_X7_digestOn (n : Nat) (f_g_size : Int32) (v_gl : Nat → Int32) (p1 : Int64) : Option (Int64) :=
  (f_X7_digestOn_L5 f_g_size v_gl n p1 0)
def f_X11_letter (f_xP_size : Int32) (v_xPl : Nat → Int32) (p1 : Int32) : Option (Int32 × Int32 × (Nat → Int32)) :=
  ((f_X11_within p1 1 126).bind (fun u_1 => (if u_1 = 0 then (some ((-102), f_xP_size, v_xPl)) else ((f_X7_isFull f_xP_size).bind (fun u_3 => (if u_3 = 0 then ((f_X7_append f_xP_size v_xPl p1).bind (fun u_5 => (some (u_5.1, u_5.1, u_5.2)))) else (some ((-104), f_xP_size, v_xPl))))))))
def f_X11_blank (f_xP_size : Int32) : Option (Int32 × Int32) :=
  (some (f_xP_size, 0))
def f_X11_fault (n : Nat) (f_xP_size : Int32) (v_xPl : Nat → Int32) : Option (Int32) :=
  ((f_X7_firstFault n f_xP_size v_xPl).bind (fun u_1 => (some u_1)))
def f_X11_table (n : Nat) (f_x_imageKept : Int32) (f_x_tablesRead : Int32) (f_xP_size : Int32) (v_xPl : Nat → Int32) (f_xG_seen : Int32) (f_xG_score : Int32) (f_xG_strokes : Int32) (f_xG_fouls : Int32) (f_xGT_taken : Int64) (f_xGT_size : Int32) (f_xGT_spot : Int32) (v_xGTc : Nat → Int32) (v_xGTk : Nat → Int32) (v_xGTw : Nat → Int32) : Option (Int32 × Int32 × Int32 × Int32 × Int32 × Int32 × Int32 × Int32 × Int64 × Int32 × Int32 × (Nat → Int32) × (Nat → Int32) × (Nat → Int32)) :=
  ((f_X7_isWhole n f_xP_size v_xPl).bind (fun u_1 => (if u_1 = 0 then (some ((-103), f_x_imageKept, f_x_tablesRead, f_xP_size, f_xG_seen, f_xG_score, f_xG_strokes, f_xG_fouls, f_xGT_taken, f_xGT_size, f_xGT_spot, v_xGTc, v_xGTk, v_xGTw)) else ((f_X3_clear n f_xG_seen f_xG_score f_xG_strokes f_xG_fouls f_xGT_taken v_xGTc).bind (fun u_3 => ((f_X7_readInto n f_xP_size v_xPl u_3.2.2.2.2.1 f_xGT_size f_xGT_spot u_3.2.2.2.2.2 v_xGTk v_xGTw).bind (fun u_4 => (some (u_4.2.1, 0, (f_x_tablesRead + 1), 0, u_3.1, u_3.2.1, u_3.2.2.1, u_3.2.2.2.1, u_4.1, u_4.2.1, u_4.2.2.1, u_4.2.2.2.1, u_4.2.2.2.2.1, u_4.2.2.2.2.2)))))))))
def f_X11_hasTable (f_x_tablesRead : Int32) : Option (Int32) :=
  (if f_x_tablesRead ≤ 0 then (some 0) else (some 1))
def f_X11_isBall (f_x_tablesRead : Int32) (f_xGT_size : Int32) (p1 : Int32) : Option (Int32) :=
  ((f_X11_hasTable f_x_tablesRead).bind (fun u_1 => (jn ((some 0)) (fun (j29_2 : Option (Int32)) => (if u_1 = 0 then j29_2 else ((f_X11_within p1 0 f_xGT_size).bind (fun u_4 => (if u_4 = 0 then j29_2 else (some 1)))))))))
def f_X11_isOfKind (p1 : Int32) (p2 : Int32) : Option (Int32) :=
  (jn ((if p2 = 0 then (some 0) else (if p2 = 1 then (some 0) else (if p2 = 2 then (some 0) else (if p2 = 3 then (some 0) else (some 0)))))) (fun (j22_1 : Option (Int32)) => (if p1 < 0 then j22_1 else (if 5 ≤ p1 then j22_1 else (gd (inb p1 5) (if p2 = 0 then (gd (decide (p1.toNatClampNeg < 5)) (gd (isb (instF 1 p1.toNatClampNeg)) (some (instF 1 p1.toNatClampNeg)))) else (if p2 = 1 then (gd (decide (p1.toNatClampNeg < 5)) (gd (isb (instF 5 p1.toNatClampNeg)) (some (instF 5 p1.toNatClampNeg)))) else (if p2 = 2 then (gd (decide (p1.toNatClampNeg < 5)) (gd (isb (instF 6 p1.toNatClampNeg)) (some (instF 6 p1.toNatClampNeg)))) else (if p2 = 3 then (gd (decide (p1.toNatClampNeg < 5)) (gd (isb (instF 2 p1.toNatClampNeg)) (some (instF 2 p1.toNatClampNeg)))) else (gd (decide (p1.toNatClampNeg < 5)) (gd (isb (instF 8 p1.toNatClampNeg)) (some (instF 8 p1.toNatClampNeg)))))))))))))
def f_X11_as (f_x_tablesRead : Int32) (f_xGT_size : Int32) (v_xGTk : Nat → Int32) (p1 : Int32) (p2 : Int32) : Option (Int32) :=
  ((f_X11_isBall f_x_tablesRead f_xGT_size p1).bind (fun u_1 => (if u_1 = 0 then (some (-101)) else ((f_X11_within p2 0 4).bind (fun u_3 => (if u_3 = 0 then (some (-102)) else ((f_X10_kindOf v_xGTk p1).bind (fun u_5 => ((f_X11_isOfKind u_5 p2).bind (fun u_6 => (if u_6 = 0 then (some (-1)) else (some p1))))))))))))
def f_X11_isCell (p0 : Int32) : Option (Int32) :=
  ((f_X11_within p0 0 44).bind (fun u_1 => (gd (isb u_1) (some u_1))))
def f_X11_cell (n : Nat) (f_x_tablesRead : Int32) (f_xGT_taken : Int64) (v_xGTc : Nat → Int32) (p1 : Int32) : Option (Int32) :=
  ((f_X11_hasTable f_x_tablesRead).bind (fun u_1 => (if u_1 = 0 then (some (-101)) else ((f_X11_isCell p1).bind (fun u_3 => (if u_3 = 0 then (some (-101)) else ((f_X11_isPocket p1).bind (fun u_5 => (if u_5 = 0 then ((f_X10_ballIn n f_xGT_taken v_xGTc p1).bind (fun u_7 => (some u_7))) else (some (-2)))))))))))
def f_X11_isDirection (p0 : Int32) : Option (Int32) :=
  ((f_X11_within p0 0 7).bind (fun u_1 => (gd (isb u_1) (some u_1))))
def f_X11_sees (n : Nat) (f_x_tablesRead : Int32) (f_xGT_taken : Int64) (v_xGTc : Nat → Int32) (p1 : Int32) : Option (Int32) :=
  ((f_X11_isDirection p1).bind (fun u_1 => (if u_1 = 0 then (some (-102)) else ((f_X11_hasTable f_x_tablesRead).bind (fun u_3 => (if u_3 = 0 then (some (-103)) else ((f_X10_firstInSight n f_xGT_taken v_xGTc p1).bind (fun u_5 => (some u_5)))))))))
def f_X11_put (n : Nat) (f_x_tablesRead : Int32) (f_xGT_taken : Int64) (f_xGT_size : Int32) (v_xGTc : Nat → Int32) (p1 : Int32) (p2 : Int32) : Option (Int32 × Int64 × (Nat → Int32)) :=
  ((f_X11_isBall f_x_tablesRead f_xGT_size p1).bind (fun u_1 => (if u_1 = 0 then (some ((-101), f_xGT_taken, v_xGTc)) else ((f_X11_isCell p2).bind (fun u_3 => (if u_3 = 0 then (some ((-101), f_xGT_taken, v_xGTc)) else ((f_X10_ballIn n f_xGT_taken v_xGTc p2).bind (fun u_5 => ((f_X11_isPocket p2).bind (fun u_6 => (if u_6 = 0 then (jn (((f_X10_cellOf v_xGTc p1).bind (fun u_9 => ((f_X10_lay f_xGT_taken v_xGTc p1 p2).bind (fun u_10 => (some (u_9, u_10.1, u_10.2))))))) (fun (j50_8 : Option (Int32 × Int64 × (Nat → Int32))) => (if u_5 = (-1) then j50_8 else (if u_5 = p1 then j50_8 else (some ((-103), f_xGT_taken, v_xGTc)))))) else (some ((-103), f_xGT_taken, v_xGTc)))))))))))))
def f_X11_isObjectBall (f_x_tablesRead : Int32) (f_xGT_size : Int32) (p1 : Int32) : Option (Int32) :=
  (jn ((some 0)) (fun (j16_1 : Option (Int32)) => (if p1 = 0 then j16_1 else ((f_X11_isBall f_x_tablesRead f_xGT_size p1).bind (fun u_3 => (if u_3 = 0 then j16_1 else (some 1)))))))
def f_X11_lift (f_x_tablesRead : Int32) (f_xGT_taken : Int64) (f_xGT_size : Int32) (v_xGTc : Nat → Int32) (p1 : Int32) : Option (Int32 × Int64 × (Nat → Int32)) :=
  ((f_X11_isObjectBall f_x_tablesRead f_xGT_size p1).bind (fun u_1 => (if u_1 = 0 then (some ((-101), f_xGT_taken, v_xGTc)) else ((f_X10_cellOf v_xGTc p1).bind (fun u_3 => (if u_3 = (-1) then (some ((-103), f_xGT_taken, v_xGTc)) else ((f_X10_lay f_xGT_taken v_xGTc p1 (-1)).bind (fun u_5 => (some (u_3, u_5.1, u_5.2))))))))))
def f_X11_change (f_x_tablesRead : Int32) (f_xGT_size : Int32) (v_xGTk : Nat → Int32) (p1 : Int32) (p2 : Int32) : Option (Int32 × (Nat → Int32)) :=
  ((f_X11_isObjectBall f_x_tablesRead f_xGT_size p1).bind (fun u_1 => (if u_1 = 0 then (some ((-101), v_xGTk)) else ((f_X11_within p2 0 4).bind (fun u_3 => (if u_3 = 0 then (some ((-102), v_xGTk)) else ((f_X10_kindOf v_xGTk p1).bind (fun u_5 => ((f_X10_setKind v_xGTk p1 p2).bind (fun u_6 => (some (u_5, u_6))))))))))))
def f_X11_isStroke (p0 : Int32) (p1 : Int32) (p2 : Int32) : Option (Int32) :=
  ((f_X11_isDirection p0).bind (fun u_1 => (jn ((some 0)) (fun (j30_2 : Option (Int32)) => (if u_1 = 0 then j30_2 else ((f_X11_within p1 1 9).bind (fun u_4 => (if u_4 = 0 then j30_2 else ((f_X11_within p2 0 2).bind (fun u_6 => (if u_6 = 0 then j30_2 else (some 1))))))))))))
def f_X11_stroke (n : Nat) (f_x_tablesRead : Int32) (f_xG_score : Int32) (f_xG_strokes : Int32) (f_xG_fouls : Int32) (f_xGT_taken : Int64) (f_xGT_size : Int32) (f_xGT_spot : Int32) (v_xGTc : Nat → Int32) (v_xGTk : Nat → Int32) (v_xGTw : Nat → Int32) (f_xR_moves : Int32) (f_xR_bounces : Int32) (f_xR_potted : Int32) (f_xR_brings : Int32) (f_xR_firstHitDirection : Int32) (f_xR_firstHitPower : Int32) (f_xR_foul : Int32) (f_xRT_taken : Int64) (f_xRT_size : Int32) (f_xRT_spot : Int32) (v_xRTc : Nat → Int32) (v_xRTk : Nat → Int32) (v_xRTw : Nat → Int32) (p1 : Int32) (p2 : Int32) (p3 : Int32) : Option (Int32 × Int32 × Int32 × Int32 × Int64 × Int32 × Int32 × (Nat → Int32) × (Nat → Int32) × (Nat → Int32) × Int32 × Int32 × Int32 × Int32 × Int32 × Int32 × Int32 × Int64 × Int32 × Int32 × (Nat → Int32) × (Nat → Int32) × (Nat → Int32)) :=
  ((f_X11_isStroke p1 p2 p3).bind (fun u_1 => (if u_1 = 0 then (some ((-102), f_xG_score, f_xG_strokes, f_xG_fouls, f_xGT_taken, f_xGT_size, f_xGT_spot, v_xGTc, v_xGTk, v_xGTw, f_xR_moves, f_xR_bounces, f_xR_potted, f_xR_brings, f_xR_firstHitDirection, f_xR_firstHitPower, f_xR_foul, f_xRT_taken, f_xRT_size, f_xRT_spot, v_xRTc, v_xRTk, v_xRTw)) else ((f_X11_hasTable f_x_tablesRead).bind (fun u_3 => (if u_3 = 0 then (some ((-103), f_xG_score, f_xG_strokes, f_xG_fouls, f_xGT_taken, f_xGT_size, f_xGT_spot, v_xGTc, v_xGTk, v_xGTw, f_xR_moves, f_xR_bounces, f_xR_potted, f_xR_brings, f_xR_firstHitDirection, f_xR_firstHitPower, f_xR_foul, f_xRT_taken, f_xRT_size, f_xRT_spot, v_xRTc, v_xRTk, v_xRTw)) else ((f_X9_begin f_xRT_taken f_xRT_size f_xRT_spot v_xRTc v_xRTk v_xRTw f_xGT_taken f_xGT_size f_xGT_spot v_xGTc v_xGTk v_xGTw).bind (fun u_5 => ((f_X9_shoot n f_xR_moves f_xR_bounces f_xR_potted f_xR_brings f_xR_firstHitDirection f_xR_firstHitPower f_xR_foul u_5.1 u_5.2.2.1 u_5.2.2.2.1 u_5.2.2.2.2.1 u_5.2.2.2.2.2 p1 p2 p3).bind (fun u_6 => ((f_X3_take f_xG_score f_xG_strokes f_xG_fouls f_xGT_taken f_xGT_size f_xGT_spot v_xGTc v_xGTk v_xGTw u_6.2.2.2.1 u_6.2.2.2.2.2.2.1 u_6.2.2.2.2.2.2.2.1 u_5.2.1 u_5.2.2.1 u_6.2.2.2.2.2.2.2.2 u_5.2.2.2.2.1 u_5.2.2.2.2.2).bind (fun u_7 => (some ((u_6.2.2.2.1 + 100), u_7.1, u_7.2.1, u_7.2.2.1, u_7.2.2.2.1, u_7.2.2.2.2.1, u_7.2.2.2.2.2.1, u_7.2.2.2.2.2.2.1, u_7.2.2.2.2.2.2.2.1, u_7.2.2.2.2.2.2.2.2, u_6.1, u_6.2.1, u_6.2.2.1, u_6.2.2.2.1, u_6.2.2.2.2.1, u_6.2.2.2.2.2.1, u_6.2.2.2.2.2.2.1, u_6.2.2.2.2.2.2.2.1, u_5.2.1, u_5.2.2.1, u_6.2.2.2.2.2.2.2.2, u_5.2.2.2.2.1, u_5.2.2.2.2.2))))))))))))))
def f_X11_would (n : Nat) (f_x_tablesRead : Int32) (f_xGT_taken : Int64) (f_xGT_size : Int32) (f_xGT_spot : Int32) (v_xGTc : Nat → Int32) (v_xGTk : Nat → Int32) (v_xGTw : Nat → Int32) (f_xR_moves : Int32) (f_xR_bounces : Int32) (f_xR_potted : Int32) (f_xR_brings : Int32) (f_xR_firstHitDirection : Int32) (f_xR_firstHitPower : Int32) (f_xR_foul : Int32) (f_xRT_taken : Int64) (f_xRT_size : Int32) (f_xRT_spot : Int32) (v_xRTc : Nat → Int32) (v_xRTk : Nat → Int32) (v_xRTw : Nat → Int32) (p1 : Int32) (p2 : Int32) (p3 : Int32) (p4 : Int32) : Option (Int32 × Int32 × Int32 × Int32 × Int32 × Int32 × Int32 × Int32 × Int64 × Int32 × Int32 × (Nat → Int32) × (Nat → Int32) × (Nat → Int32)) :=
  ((f_X11_isStroke p1 p2 p3).bind (fun u_1 => (if u_1 = 0 then (some ((-102), f_xR_moves, f_xR_bounces, f_xR_potted, f_xR_brings, f_xR_firstHitDirection, f_xR_firstHitPower, f_xR_foul, f_xRT_taken, f_xRT_size, f_xRT_spot, v_xRTc, v_xRTk, v_xRTw)) else ((f_X11_within p4 0 5).bind (fun u_3 => (jn (((f_X11_hasTable f_x_tablesRead).bind (fun u_5 => (if u_5 = 0 then (some ((-103), f_xR_moves, f_xR_bounces, f_xR_potted, f_xR_brings, f_xR_firstHitDirection, f_xR_firstHitPower, f_xR_foul, f_xRT_taken, f_xRT_size, f_xRT_spot, v_xRTc, v_xRTk, v_xRTw)) else ((f_X9_begin f_xRT_taken f_xRT_size f_xRT_spot v_xRTc v_xRTk v_xRTw f_xGT_taken f_xGT_size f_xGT_spot v_xGTc v_xGTk v_xGTw).bind (fun u_7 => ((f_X9_shoot n f_xR_moves f_xR_bounces f_xR_potted f_xR_brings f_xR_firstHitDirection f_xR_firstHitPower f_xR_foul u_7.1 u_7.2.2.1 u_7.2.2.2.1 u_7.2.2.2.2.1 u_7.2.2.2.2.2 p1 p2 p3).bind (fun u_8 => ((f_X9_tell u_8.1 u_8.2.1 u_8.2.2.1 u_8.2.2.2.1 u_8.2.2.2.2.2.2.1 u_8.2.2.2.2.2.2.2.2 p4).bind (fun u_9 => (some (u_9, u_8.1, u_8.2.1, u_8.2.2.1, u_8.2.2.2.1, u_8.2.2.2.2.1, u_8.2.2.2.2.2.1, u_8.2.2.2.2.2.2.1, u_8.2.2.2.2.2.2.2.1, u_7.2.1, u_7.2.2.1, u_8.2.2.2.2.2.2.2.2, u_7.2.2.2.2.1, u_7.2.2.2.2.2)))))))))))) (fun (j37_4 : Option (Int32 × Int32 × Int32 × Int32 × Int32 × Int32 × Int32 × Int32 × Int64 × Int32 × Int32 × (Nat → Int32) × (Nat → Int32) × (Nat → Int32))) => (if u_3 = 0 then ((f_X11_within p4 10 15).bind (fun u_11 => (if u_11 = 0 then (some ((-102), f_xR_moves, f_xR_bounces, f_xR_potted, f_xR_brings, f_xR_firstHitDirection, f_xR_firstHitPower, f_xR_foul, f_xRT_taken, f_xRT_size, f_xRT_spot, v_xRTc, v_xRTk, v_xRTw)) else j37_4))) else j37_4))))))))
def f_X11_best (n : Nat) (f_x_tablesRead : Int32) (f_xGT_taken : Int64) (f_xGT_size : Int32) (f_xGT_spot : Int32) (v_xGTc : Nat → Int32) (v_xGTk : Nat → Int32) (v_xGTw : Nat → Int32) (f_xR_moves : Int32) (f_xR_bounces : Int32) (f_xR_potted : Int32) (f_xR_brings : Int32) (f_xR_firstHitDirection : Int32) (f_xR_firstHitPower : Int32) (f_xR_foul : Int32) (f_xRT_taken : Int64) (f_xRT_size : Int32) (f_xRT_spot : Int32) (v_xRTc : Nat → Int32) (v_xRTk : Nat → Int32) (v_xRTw : Nat → Int32) (f_xA_chosen : Int32) (f_xA_value : Int32) (p1 : Int32) : Option (Int32 × Int32 × Int32 × Int32 × Int32 × Int32 × Int32 × Int32 × Int64 × Int32 × Int32 × (Nat → Int32) × (Nat → Int32) × (Nat → Int32) × Int32 × Int32) :=
  ((f_X11_within p1 0 3).bind (fun u_1 => (if u_1 = 0 then (some ((-102), f_xR_moves, f_xR_bounces, f_xR_potted, f_xR_brings, f_xR_firstHitDirection, f_xR_firstHitPower, f_xR_foul, f_xRT_taken, f_xRT_size, f_xRT_spot, v_xRTc, v_xRTk, v_xRTw, f_xA_chosen, f_xA_value)) else ((f_X11_hasTable f_x_tablesRead).bind (fun u_3 => (if u_3 = 0 then (some ((-103), f_xR_moves, f_xR_bounces, f_xR_potted, f_xR_brings, f_xR_firstHitDirection, f_xR_firstHitPower, f_xR_foul, f_xRT_taken, f_xRT_size, f_xRT_spot, v_xRTc, v_xRTk, v_xRTw, f_xA_chosen, f_xA_value)) else ((f_X0_chooseBest n f_xA_chosen f_xA_value f_xR_moves f_xR_bounces f_xR_potted f_xR_brings f_xR_firstHitDirection f_xR_firstHitPower f_xR_foul f_xRT_taken f_xRT_size f_xRT_spot v_xRTc v_xRTk v_xRTw f_xGT_taken f_xGT_size f_xGT_spot v_xGTc v_xGTk v_xGTw).bind (fun u_5 => ((f_X0_tell u_5.1 u_5.2.1 p1).bind (fun u_6 => (some (u_6, u_5.2.2.1, u_5.2.2.2.1, u_5.2.2.2.2.1, u_5.2.2.2.2.2.1, u_5.2.2.2.2.2.2.1, u_5.2.2.2.2.2.2.2.1, u_5.2.2.2.2.2.2.2.2.1, u_5.2.2.2.2.2.2.2.2.2.1, u_5.2.2.2.2.2.2.2.2.2.2.1, u_5.2.2.2.2.2.2.2.2.2.2.2.1, u_5.2.2.2.2.2.2.2.2.2.2.2.2.1, u_5.2.2.2.2.2.2.2.2.2.2.2.2.2.1, u_5.2.2.2.2.2.2.2.2.2.2.2.2.2.2, u_5.1, u_5.2.1))))))))))))
def f_X11_plan (n : Nat) (f_x_tablesRead : Int32) (f_x_plansDone : Int32) (f_xGT_taken : Int64) (f_xGT_size : Int32) (f_xGT_spot : Int32) (v_xGTc : Nat → Int32) (v_xGTk : Nat → Int32) (v_xGTw : Nat → Int32) (f_xR_moves : Int32) (f_xR_bounces : Int32) (f_xR_potted : Int32) (f_xR_brings : Int32) (f_xR_firstHitDirection : Int32) (f_xR_firstHitPower : Int32) (f_xR_foul : Int32) (f_xRT_taken : Int64) (f_xRT_size : Int32) (f_xRT_spot : Int32) (v_xRTc : Nat → Int32) (v_xRTk : Nat → Int32) (v_xRTw : Nat → Int32) (f_xA_chosen : Int32) (f_xA_value : Int32) (f_xAS_moves : Int32) (f_xAS_bounces : Int32) (f_xAS_potted : Int32) (f_xAS_brings : Int32) (f_xAS_firstHitDirection : Int32) (f_xAS_firstHitPower : Int32) (f_xAS_foul : Int32) (f_xAST_taken : Int64) (f_xAST_size : Int32) (f_xAST_spot : Int32) (v_xASTc : Nat → Int32) (v_xASTk : Nat → Int32) (v_xASTw : Nat → Int32) (p1 : Int32) : Option (Int32 × Int32 × Int32 × Int32 × Int32 × Int32 × Int32 × Int32 × Int32 × Int64 × Int32 × Int32 × (Nat → Int32) × (Nat → Int32) × (Nat → Int32) × Int32 × Int32 × Int32 × Int32 × Int32 × Int32 × Int32 × Int32 × Int32 × Int64 × Int32 × Int32 × (Nat → Int32) × (Nat → Int32) × (Nat → Int32)) :=
  ((f_X11_within p1 0 3).bind (fun u_1 => (if u_1 = 0 then (some ((-102), f_x_plansDone, f_xR_moves, f_xR_bounces, f_xR_potted, f_xR_brings, f_xR_firstHitDirection, f_xR_firstHitPower, f_xR_foul, f_xRT_taken, f_xRT_size, f_xRT_spot, v_xRTc, v_xRTk, v_xRTw, f_xA_chosen, f_xA_value, f_xAS_moves, f_xAS_bounces, f_xAS_potted, f_xAS_brings, f_xAS_firstHitDirection, f_xAS_firstHitPower, f_xAS_foul, f_xAST_taken, f_xAST_size, f_xAST_spot, v_xASTc, v_xASTk, v_xASTw)) else ((f_X11_hasTable f_x_tablesRead).bind (fun u_3 => (if u_3 = 0 then (some ((-103), f_x_plansDone, f_xR_moves, f_xR_bounces, f_xR_potted, f_xR_brings, f_xR_firstHitDirection, f_xR_firstHitPower, f_xR_foul, f_xRT_taken, f_xRT_size, f_xRT_spot, v_xRTc, v_xRTk, v_xRTw, f_xA_chosen, f_xA_value, f_xAS_moves, f_xAS_bounces, f_xAS_potted, f_xAS_brings, f_xAS_firstHitDirection, f_xAS_firstHitPower, f_xAS_foul, f_xAST_taken, f_xAST_size, f_xAST_spot, v_xASTc, v_xASTk, v_xASTw)) else (if f_x_plansDone < 8 then ((f_X0_choosePlan n f_xA_chosen f_xA_value f_xR_moves f_xR_bounces f_xR_potted f_xR_brings f_xR_firstHitDirection f_xR_firstHitPower f_xR_foul f_xRT_taken f_xRT_size f_xRT_spot v_xRTc v_xRTk v_xRTw f_xAS_moves f_xAS_bounces f_xAS_potted f_xAS_brings f_xAS_firstHitDirection f_xAS_firstHitPower f_xAS_foul f_xAST_taken f_xAST_size f_xAST_spot v_xASTc v_xASTk v_xASTw f_xGT_taken f_xGT_size f_xGT_spot v_xGTc v_xGTk v_xGTw).bind (fun u_6 => ((f_X0_tell u_6.1 u_6.2.1 p1).bind (fun u_7 => (some (u_7, (f_x_plansDone + 1), u_6.2.2.1, u_6.2.2.2.1, u_6.2.2.2.2.1, u_6.2.2.2.2.2.1, u_6.2.2.2.2.2.2.1, u_6.2.2.2.2.2.2.2.1, u_6.2.2.2.2.2.2.2.2.1, u_6.2.2.2.2.2.2.2.2.2.1, u_6.2.2.2.2.2.2.2.2.2.2.1, u_6.2.2.2.2.2.2.2.2.2.2.2.1, u_6.2.2.2.2.2.2.2.2.2.2.2.2.1, u_6.2.2.2.2.2.2.2.2.2.2.2.2.2.1, u_6.2.2.2.2.2.2.2.2.2.2.2.2.2.2.1, u_6.1, u_6.2.1, u_6.2.2.2.2.2.2.2.2.2.2.2.2.2.2.2.1, u_6.2.2.2.2.2.2.2.2.2.2.2.2.2.2.2.2.1, u_6.2.2.2.2.2.2.2.2.2.2.2.2.2.2.2.2.2.1, u_6.2.2.2.2.2.2.2.2.2.2.2.2.2.2.2.2.2.2.1, u_6.2.2.2.2.2.2.2.2.2.2.2.2.2.2.2.2.2.2.2.1, u_6.2.2.2.2.2.2.2.2.2.2.2.2.2.2.2.2.2.2.2.2.1, u_6.2.2.2.2.2.2.2.2.2.2.2.2.2.2.2.2.2.2.2.2.2.1, u_6.2.2.2.2.2.2.2.2.2.2.2.2.2.2.2.2.2.2.2.2.2.2.1, u_6.2.2.2.2.2.2.2.2.2.2.2.2.2.2.2.2.2.2.2.2.2.2.2.1, u_6.2.2.2.2.2.2.2.2.2.2.2.2.2.2.2.2.2.2.2.2.2.2.2.2.1, u_6.2.2.2.2.2.2.2.2.2.2.2.2.2.2.2.2.2.2.2.2.2.2.2.2.2.1, u_6.2.2.2.2.2.2.2.2.2.2.2.2.2.2.2.2.2.2.2.2.2.2.2.2.2.2.1, u_6.2.2.2.2.2.2.2.2.2.2.2.2.2.2.2.2.2.2.2.2.2.2.2.2.2.2.2)))))) else (some ((-103), f_x_plansDone, f_xR_moves, f_xR_bounces, f_xR_potted, f_xR_brings, f_xR_firstHitDirection, f_xR_firstHitPower, f_xR_foul, f_xRT_taken, f_xRT_size, f_xRT_spot, v_xRTc, v_xRTk, v_xRTw, f_xA_chosen, f_xA_value, f_xAS_moves, f_xAS_bounces, f_xAS_potted, f_xAS_brings, f_xAS_firstHitDirection, f_xAS_firstHitPower, f_xAS_foul, f_xAST_taken, f_xAST_size, f_xAST_spot, v_xASTc, v_xASTk, v_xASTw)))))))))
def f_X11_safe (n : Nat) (f_x_tablesRead : Int32) (f_x_safesDone : Int32) (f_xGT_taken : Int64) (f_xGT_size : Int32) (f_xGT_spot : Int32) (v_xGTc : Nat → Int32) (v_xGTk : Nat → Int32) (v_xGTw : Nat → Int32) (f_xR_moves : Int32) (f_xR_bounces : Int32) (f_xR_potted : Int32) (f_xR_brings : Int32) (f_xR_firstHitDirection : Int32) (f_xR_firstHitPower : Int32) (f_xR_foul : Int32) (f_xRT_taken : Int64) (f_xRT_size : Int32) (f_xRT_spot : Int32) (v_xRTc : Nat → Int32) (v_xRTk : Nat → Int32) (v_xRTw : Nat → Int32) (f_xA_chosen : Int32) (f_xA_value : Int32) (f_xAS_moves : Int32) (f_xAS_bounces : Int32) (f_xAS_potted : Int32) (f_xAS_brings : Int32) (f_xAS_firstHitDirection : Int32) (f_xAS_firstHitPower : Int32) (f_xAS_foul : Int32) (f_xAST_taken : Int64) (f_xAST_size : Int32) (f_xAST_spot : Int32) (v_xASTc : Nat → Int32) (v_xASTk : Nat → Int32) (v_xASTw : Nat → Int32) (p1 : Int32) : Option (Int32 × Int32 × Int32 × Int32 × Int32 × Int32 × Int32 × Int32 × Int32 × Int64 × Int32 × Int32 × (Nat → Int32) × (Nat → Int32) × (Nat → Int32) × Int32 × Int32 × Int32 × Int32 × Int32 × Int32 × Int32 × Int32 × Int32 × Int64 × Int32 × Int32 × (Nat → Int32) × (Nat → Int32) × (Nat → Int32)) :=
  ((f_X11_within p1 0 3).bind (fun u_1 => (if u_1 = 0 then (some ((-102), f_x_safesDone, f_xR_moves, f_xR_bounces, f_xR_potted, f_xR_brings, f_xR_firstHitDirection, f_xR_firstHitPower, f_xR_foul, f_xRT_taken, f_xRT_size, f_xRT_spot, v_xRTc, v_xRTk, v_xRTw, f_xA_chosen, f_xA_value, f_xAS_moves, f_xAS_bounces, f_xAS_potted, f_xAS_brings, f_xAS_firstHitDirection, f_xAS_firstHitPower, f_xAS_foul, f_xAST_taken, f_xAST_size, f_xAST_spot, v_xASTc, v_xASTk, v_xASTw)) else ((f_X11_hasTable f_x_tablesRead).bind (fun u_3 => (if u_3 = 0 then (some ((-103), f_x_safesDone, f_xR_moves, f_xR_bounces, f_xR_potted, f_xR_brings, f_xR_firstHitDirection, f_xR_firstHitPower, f_xR_foul, f_xRT_taken, f_xRT_size, f_xRT_spot, v_xRTc, v_xRTk, v_xRTw, f_xA_chosen, f_xA_value, f_xAS_moves, f_xAS_bounces, f_xAS_potted, f_xAS_brings, f_xAS_firstHitDirection, f_xAS_firstHitPower, f_xAS_foul, f_xAST_taken, f_xAST_size, f_xAST_spot, v_xASTc, v_xASTk, v_xASTw)) else (if f_x_safesDone < 8 then ((f_X0_chooseSafe n f_xA_chosen f_xA_value f_xR_moves f_xR_bounces f_xR_potted f_xR_brings f_xR_firstHitDirection f_xR_firstHitPower f_xR_foul f_xRT_taken f_xRT_size f_xRT_spot v_xRTc v_xRTk v_xRTw f_xAS_moves f_xAS_bounces f_xAS_potted f_xAS_brings f_xAS_firstHitDirection f_xAS_firstHitPower f_xAS_foul f_xAST_taken f_xAST_size f_xAST_spot v_xASTc v_xASTk v_xASTw f_xGT_taken f_xGT_size f_xGT_spot v_xGTc v_xGTk v_xGTw).bind (fun u_6 => ((f_X0_tell u_6.1 u_6.2.1 p1).bind (fun u_7 => (some (u_7, (f_x_safesDone + 1), u_6.2.2.1, u_6.2.2.2.1, u_6.2.2.2.2.1, u_6.2.2.2.2.2.1, u_6.2.2.2.2.2.2.1, u_6.2.2.2.2.2.2.2.1, u_6.2.2.2.2.2.2.2.2.1, u_6.2.2.2.2.2.2.2.2.2.1, u_6.2.2.2.2.2.2.2.2.2.2.1, u_6.2.2.2.2.2.2.2.2.2.2.2.1, u_6.2.2.2.2.2.2.2.2.2.2.2.2.1, u_6.2.2.2.2.2.2.2.2.2.2.2.2.2.1, u_6.2.2.2.2.2.2.2.2.2.2.2.2.2.2.1, u_6.1, u_6.2.1, u_6.2.2.2.2.2.2.2.2.2.2.2.2.2.2.2.1, u_6.2.2.2.2.2.2.2.2.2.2.2.2.2.2.2.2.1, u_6.2.2.2.2.2.2.2.2.2.2.2.2.2.2.2.2.2.1, u_6.2.2.2.2.2.2.2.2.2.2.2.2.2.2.2.2.2.2.1, u_6.2.2.2.2.2.2.2.2.2.2.2.2.2.2.2.2.2.2.2.1, u_6.2.2.2.2.2.2.2.2.2.2.2.2.2.2.2.2.2.2.2.2.1, u_6.2.2.2.2.2.2.2.2.2.2.2.2.2.2.2.2.2.2.2.2.2.1, u_6.2.2.2.2.2.2.2.2.2.2.2.2.2.2.2.2.2.2.2.2.2.2.1, u_6.2.2.2.2.2.2.2.2.2.2.2.2.2.2.2.2.2.2.2.2.2.2.2.1, u_6.2.2.2.2.2.2.2.2.2.2.2.2.2.2.2.2.2.2.2.2.2.2.2.2.1, u_6.2.2.2.2.2.2.2.2.2.2.2.2.2.2.2.2.2.2.2.2.2.2.2.2.2.1, u_6.2.2.2.2.2.2.2.2.2.2.2.2.2.2.2.2.2.2.2.2.2.2.2.2.2.2.1, u_6.2.2.2.2.2.2.2.2.2.2.2.2.2.2.2.2.2.2.2.2.2.2.2.2.2.2.2)))))) else (some ((-103), f_x_safesDone, f_xR_moves, f_xR_bounces, f_xR_potted, f_xR_brings, f_xR_firstHitDirection, f_xR_firstHitPower, f_xR_foul, f_xRT_taken, f_xRT_size, f_xRT_spot, v_xRTc, v_xRTk, v_xRTw, f_xA_chosen, f_xA_value, f_xAS_moves, f_xAS_bounces, f_xAS_potted, f_xAS_brings, f_xAS_firstHitDirection, f_xAS_firstHitPower, f_xAS_foul, f_xAST_taken, f_xAST_size, f_xAST_spot, v_xASTc, v_xASTk, v_xASTw)))))))))
def f_X11_wantedCells (n : Nat) (f_xGT_taken : Int64) (f_xGT_size : Int32) (f_xGT_spot : Int32) (v_xGTc : Nat → Int32) (v_xGTk : Nat → Int32) (v_xGTw : Nat → Int32) (f_xR_moves : Int32) (f_xR_bounces : Int32) (f_xR_potted : Int32) (f_xR_brings : Int32) (f_xR_firstHitDirection : Int32) (f_xR_firstHitPower : Int32) (f_xR_foul : Int32) (f_xRT_taken : Int64) (f_xRT_size : Int32) (f_xRT_spot : Int32) (v_xRTc : Nat → Int32) (v_xRTk : Nat → Int32) (v_xRTw : Nat → Int32) (p1 : Int32) : Option (Int64 × Int32 × Int32 × Int32 × Int32 × Int32 × Int32 × Int32 × Int64 × Int32 × Int32 × (Nat → Int32) × (Nat → Int32) × (Nat → Int32)) :=
  (jn (fun (k_1 : Int32) => (if k_1 = 0 then (some (0, f_xR_moves, f_xR_bounces, f_xR_potted, f_xR_brings, f_xR_firstHitDirection, f_xR_firstHitPower, f_xR_foul, f_xRT_taken, f_xRT_size, f_xRT_spot, v_xRTc, v_xRTk, v_xRTw)) else ((f_X0_cellsToPotFrom n f_xR_moves f_xR_bounces f_xR_potted f_xR_brings f_xR_firstHitDirection f_xR_firstHitPower f_xR_foul f_xRT_taken f_xRT_size f_xRT_spot v_xRTc v_xRTk v_xRTw f_xGT_taken f_xGT_size f_xGT_spot v_xGTc v_xGTk v_xGTw p1).bind (fun u_4 => (some (u_4.1, u_4.2.1, u_4.2.2.1, u_4.2.2.2.1, u_4.2.2.2.2.1, u_4.2.2.2.2.2.1, u_4.2.2.2.2.2.2.1, u_4.2.2.2.2.2.2.2.1, u_4.2.2.2.2.2.2.2.2.1, u_4.2.2.2.2.2.2.2.2.2.1, u_4.2.2.2.2.2.2.2.2.2.2.1, u_4.2.2.2.2.2.2.2.2.2.2.2.1, u_4.2.2.2.2.2.2.2.2.2.2.2.2.1, u_4.2.2.2.2.2.2.2.2.2.2.2.2.2)))))) (fun (j24_2 : Int32 → Option (Int64 × Int32 × Int32 × Int32 × Int32 × Int32 × Int32 × Int32 × Int64 × Int32 × Int32 × (Nat → Int32) × (Nat → Int32) × (Nat → Int32))) => (jn ((j24_2 0)) (fun (j23_5 : Option (Int64 × Int32 × Int32 × Int32 × Int32 × Int32 × Int32 × Int32 × Int64 × Int32 × Int32 × (Nat → Int32) × (Nat → Int32) × (Nat → Int32))) => (if p1 = 0 then j23_5 else ((f_X10_cellOf v_xGTc p1).bind (fun u_7 => (if u_7 = (-1) then j23_5 else (j24_2 1)))))))))
def f_X11_wanted (n : Nat) (f_x_tablesRead : Int32) (f_xGT_taken : Int64) (f_xGT_size : Int32) (f_xGT_spot : Int32) (v_xGTc : Nat → Int32) (v_xGTk : Nat → Int32) (v_xGTw : Nat → Int32) (f_xR_moves : Int32) (f_xR_bounces : Int32) (f_xR_potted : Int32) (f_xR_brings : Int32) (f_xR_firstHitDirection : Int32) (f_xR_firstHitPower : Int32) (f_xR_foul : Int32) (f_xRT_taken : Int64) (f_xRT_size : Int32) (f_xRT_spot : Int32) (v_xRTc : Nat → Int32) (v_xRTk : Nat → Int32) (v_xRTw : Nat → Int32) (p1 : Int32) : Option (Int64 × Int32 × Int32 × Int32 × Int32 × Int32 × Int32 × Int32 × Int64 × Int32 × Int32 × (Nat → Int32) × (Nat → Int32) × (Nat → Int32)) :=
  ((f_X11_isObjectBall f_x_tablesRead f_xGT_size p1).bind (fun u_1 => (if u_1 = 0 then (some ((-101), f_xR_moves, f_xR_bounces, f_xR_potted, f_xR_brings, f_xR_firstHitDirection, f_xR_firstHitPower, f_xR_foul, f_xRT_taken, f_xRT_size, f_xRT_spot, v_xRTc, v_xRTk, v_xRTw)) else ((f_X10_cellOf v_xGTc p1).bind (fun u_3 => (if u_3 = (-1) then (some ((-101), f_xR_moves, f_xR_bounces, f_xR_potted, f_xR_brings, f_xR_firstHitDirection, f_xR_firstHitPower, f_xR_foul, f_xRT_taken, f_xRT_size, f_xRT_spot, v_xRTc, v_xRTk, v_xRTw)) else ((f_X11_wantedCells n f_xGT_taken f_xGT_size f_xGT_spot v_xGTc v_xGTk v_xGTw f_xR_moves f_xR_bounces f_xR_potted f_xR_brings f_xR_firstHitDirection f_xR_firstHitPower f_xR_foul f_xRT_taken f_xRT_size f_xRT_spot v_xRTc v_xRTk v_xRTw p1).bind (fun u_5 => (some (u_5.1, u_5.2.1, u_5.2.2.1, u_5.2.2.2.1, u_5.2.2.2.2.1, u_5.2.2.2.2.2.1, u_5.2.2.2.2.2.2.1, u_5.2.2.2.2.2.2.2.1, u_5.2.2.2.2.2.2.2.2.1, u_5.2.2.2.2.2.2.2.2.2.1, u_5.2.2.2.2.2.2.2.2.2.2.1, u_5.2.2.2.2.2.2.2.2.2.2.2.1, u_5.2.2.2.2.2.2.2.2.2.2.2.2.1, u_5.2.2.2.2.2.2.2.2.2.2.2.2.2))))))))))
def f_X11_see (f_x_tablesRead : Int32) (f_xG_seen : Int32) (f_xGT_size : Int32) (v_xGb : Nat → Int32) (v_xGd : Nat → Int32) (v_xGe : Nat → Int32) (v_xGf : Nat → Int32) (p1 : Int32) (p2 : Int32) (p3 : Int32) (p4 : Int32) : Option (Int32 × Int32 × (Nat → Int32) × (Nat → Int32) × (Nat → Int32) × (Nat → Int32)) :=
  ((f_X11_isObjectBall f_x_tablesRead f_xGT_size p1).bind (fun u_1 => (if u_1 = 0 then (some ((-101), f_xG_seen, v_xGb, v_xGd, v_xGe, v_xGf)) else ((f_X11_isCell p4).bind (fun u_3 => (jn (((f_X11_isStroke p2 p3 0).bind (fun u_5 => (if u_5 = 0 then (some ((-102), f_xG_seen, v_xGb, v_xGd, v_xGe, v_xGf)) else (if f_xG_seen < 6 then ((f_X3_note f_xG_seen v_xGb v_xGd v_xGe v_xGf p1 p2 p3 p4).bind (fun u_8 => (some (u_8.1, u_8.1, u_8.2.1, u_8.2.2.1, u_8.2.2.2.1, u_8.2.2.2.2)))) else (some ((-104), f_xG_seen, v_xGb, v_xGd, v_xGe, v_xGf))))))) (fun (j28_4 : Option (Int32 × Int32 × (Nat → Int32) × (Nat → Int32) × (Nat → Int32) × (Nat → Int32))) => (if u_3 = 0 then (if p4 = (-1) then j28_4 else (some ((-101), f_xG_seen, v_xGb, v_xGd, v_xGe, v_xGf))) else j28_4))))))))
def f_X11_forget (f_xG_seen : Int32) : Option (Int32 × Int32) :=
  (some (f_xG_seen, 0))
def f_X11_nextSeed (p0 : Int32) : Option (Int32) :=
  (some (((1103515245 * p0.toInt64) + 12345) &&& 2147483647).toInt32)
def f_X11_drawn (p0 : Int32) : Option (Int32) :=
  (some (p0 / 65536))
def b_X11_frames_L61 (p1 : Int32) (n : Nat) (u_8 : Int64 × Int32 × Int32 × (Nat → Int32) × (Nat → Int32) × (Nat → Int32)) (j150_20 : Int32 → Int32 → Int32 → Int32 → Int32 → Int32 → Int32 → Int32 → Int32 → Int64 → (Nat → Int32) → Option (Int32 × Int32 × Int32 × Int32 × Int32 × Int32 × Int32 × Int32 × Int64 × Int32 × Int32 × (Nat → Int32) × (Nat → Int32) × (Nat → Int32))) (go_36 : Int32 → Int32 → Int32 → Int32 → Int32 → Int32 → Int32 → Int32 → Int32 → Int32 → Int64 → (Nat → Int32) → Option (Int32 × Int32 × Int32 × Int32 × Int32 × Int32 × Int32 × Int32 × Int64 × Int32 × Int32 × (Nat → Int32) × (Nat → Int32) × (Nat → Int32))) (x4_24 : Int32) (x5_25 : Int32) (x6_26 : Int32) (f_xR_moves_27 : Int32) (f_xR_bounces_28 : Int32) (f_xR_potted_29 : Int32) (f_xR_brings_30 : Int32) (f_xR_firstHitDirection_31 : Int32) (f_xR_firstHitPower_32 : Int32) (f_xR_foul_33 : Int32) (f_xRT_taken_34 : Int64) (v_xRTc_35 : Nat → Int32) : Option (Int32 × Int32 × Int32 × Int32 × Int32 × Int32 × Int32 × Int32 × Int64 × Int32 × Int32 × (Nat → Int32) × (Nat → Int32) × (Nat → Int32)) :=
  (if p1 ≤ x6_26 then (j150_20 x4_24 x5_25 f_xR_moves_27 f_xR_bounces_28 f_xR_potted_29 f_xR_brings_30 f_xR_firstHitDirection_31 f_xR_firstHitPower_32 f_xR_foul_33 f_xRT_taken_34 v_xRTc_35) else ((f_X11_nextSeed x4_24).bind (fun u_39 => ((f_X11_drawn u_39).bind (fun u_40 => (bnd (u_40 - u_40 / 8 * 8) (fun x7_41 => ((f_X11_nextSeed u_39).bind (fun u_42 => ((f_X11_drawn u_42).bind (fun u_43 => (bnd ((u_43 - u_43 / 9 * 9) + 1) (fun x8_44 => ((f_X11_nextSeed u_42).bind (fun u_45 => ((f_X11_drawn u_45).bind (fun u_46 => (bnd (u_46 - u_46 / 3 * 3) (fun x9_47 => ((f_X9_shoot n f_xR_moves_27 f_xR_bounces_28 f_xR_potted_29 f_xR_brings_30 f_xR_firstHitDirection_31 f_xR_firstHitPower_32 f_xR_foul_33 f_xRT_taken_34 u_8.2.2.1 v_xRTc_35 u_8.2.2.2.2.1 u_8.2.2.2.2.2 x7_41 x8_44 x9_47).bind (fun u_48 => (bnd (x5_25 + u_48.2.2.2.1) (fun x5_49 => (bnd (x6_26 + 1) (fun x6_50 => (go_36 u_45 x5_49 x6_50 u_48.1 u_48.2.1 u_48.2.2.1 u_48.2.2.2.1 u_48.2.2.2.2.1 u_48.2.2.2.2.2.1 u_48.2.2.2.2.2.2.1 u_48.2.2.2.2.2.2.2.1 u_48.2.2.2.2.2.2.2.2))))))))))))))))))))))))))
def f_X11_frames_L61 (p1 : Int32) (n : Nat) (u_8 : Int64 × Int32 × Int32 × (Nat → Int32) × (Nat → Int32) × (Nat → Int32)) (j150_20 : Int32 → Int32 → Int32 → Int32 → Int32 → Int32 → Int32 → Int32 → Int32 → Int64 → (Nat → Int32) → Option (Int32 × Int32 × Int32 × Int32 × Int32 × Int32 × Int32 × Int32 × Int64 × Int32 × Int32 × (Nat → Int32) × (Nat → Int32) × (Nat → Int32))) (k : Nat) (x4_24 : Int32) (x5_25 : Int32) (x6_26 : Int32) (f_xR_moves_27 : Int32) (f_xR_bounces_28 : Int32) (f_xR_potted_29 : Int32) (f_xR_brings_30 : Int32) (f_xR_firstHitDirection_31 : Int32) (f_xR_firstHitPower_32 : Int32) (f_xR_foul_33 : Int32) (f_xRT_taken_34 : Int64) (v_xRTc_35 : Nat → Int32) : Option (Int32 × Int32 × Int32 × Int32 × Int32 × Int32 × Int32 × Int32 × Int64 × Int32 × Int32 × (Nat → Int32) × (Nat → Int32) × (Nat → Int32)) :=
  lpF (fun (self : (Int32 × Int32 × Int32 × Int32 × Int32 × Int32 × Int32 × Int32 × Int32 × Int32 × Int64 × (Nat → Int32)) → Option (Int32 × Int32 × Int32 × Int32 × Int32 × Int32 × Int32 × Int32 × Int64 × Int32 × Int32 × (Nat → Int32) × (Nat → Int32) × (Nat → Int32))) (a : Int32 × Int32 × Int32 × Int32 × Int32 × Int32 × Int32 × Int32 × Int32 × Int32 × Int64 × (Nat → Int32)) => b_X11_frames_L61 p1 n u_8 j150_20 (fun x4_24 x5_25 x6_26 f_xR_moves_27 f_xR_bounces_28 f_xR_potted_29 f_xR_brings_30 f_xR_firstHitDirection_31 f_xR_firstHitPower_32 f_xR_foul_33 f_xRT_taken_34 v_xRTc_35 => self (x4_24, x5_25, x6_26, f_xR_moves_27, f_xR_bounces_28, f_xR_potted_29, f_xR_brings_30, f_xR_firstHitDirection_31, f_xR_firstHitPower_32, f_xR_foul_33, f_xRT_taken_34, v_xRTc_35)) a.1 a.2.1 a.2.2.1 a.2.2.2.1 a.2.2.2.2.1 a.2.2.2.2.2.1 a.2.2.2.2.2.2.1 a.2.2.2.2.2.2.2.1 a.2.2.2.2.2.2.2.2.1 a.2.2.2.2.2.2.2.2.2.1 a.2.2.2.2.2.2.2.2.2.2.1 a.2.2.2.2.2.2.2.2.2.2.2) k (x4_24, x5_25, x6_26, f_xR_moves_27, f_xR_bounces_28, f_xR_potted_29, f_xR_brings_30, f_xR_firstHitDirection_31, f_xR_firstHitPower_32, f_xR_foul_33, f_xRT_taken_34, v_xRTc_35)
def f_X11_frames (n : Nat) (f_x_tablesRead : Int32) (f_xGT_taken : Int64) (f_xGT_size : Int32) (f_xGT_spot : Int32) (v_xGTc : Nat → Int32) (v_xGTk : Nat → Int32) (v_xGTw : Nat → Int32) (f_xR_moves : Int32) (f_xR_bounces : Int32) (f_xR_potted : Int32) (f_xR_brings : Int32) (f_xR_firstHitDirection : Int32) (f_xR_firstHitPower : Int32) (f_xR_foul : Int32) (f_xRT_taken : Int64) (f_xRT_size : Int32) (f_xRT_spot : Int32) (v_xRTc : Nat → Int32) (v_xRTk : Nat → Int32) (v_xRTw : Nat → Int32) (p1 : Int32) (p2 : Int32) (p3 : Int32) : Option (Int32 × Int32 × Int32 × Int32 × Int32 × Int32 × Int32 × Int32 × Int64 × Int32 × Int32 × (Nat → Int32) × (Nat → Int32) × (Nat → Int32)) :=
  ((f_X11_within p1 1 60).bind (fun u_1 => (if u_1 = 0 then (some ((-102), f_xR_moves, f_xR_bounces, f_xR_potted, f_xR_brings, f_xR_firstHitDirection, f_xR_firstHitPower, f_xR_foul, f_xRT_taken, f_xRT_size, f_xRT_spot, v_xRTc, v_xRTk, v_xRTw)) else (if p2 < 0 then (some ((-102), f_xR_moves, f_xR_bounces, f_xR_potted, f_xR_brings, f_xR_firstHitDirection, f_xR_firstHitPower, f_xR_foul, f_xRT_taken, f_xRT_size, f_xRT_spot, v_xRTc, v_xRTk, v_xRTw)) else ((f_X11_within p3 0 2).bind (fun u_4 => (if u_4 = 0 then (some ((-102), f_xR_moves, f_xR_bounces, f_xR_potted, f_xR_brings, f_xR_firstHitDirection, f_xR_firstHitPower, f_xR_foul, f_xRT_taken, f_xRT_size, f_xRT_spot, v_xRTc, v_xRTk, v_xRTw)) else ((f_X11_hasTable f_x_tablesRead).bind (fun u_6 => (if u_6 = 0 then (some ((-103), f_xR_moves, f_xR_bounces, f_xR_potted, f_xR_brings, f_xR_firstHitDirection, f_xR_firstHitPower, f_xR_foul, f_xRT_taken, f_xRT_size, f_xRT_spot, v_xRTc, v_xRTk, v_xRTw)) else ((f_X9_begin f_xRT_taken f_xRT_size f_xRT_spot v_xRTc v_xRTk v_xRTw f_xGT_taken f_xGT_size f_xGT_spot v_xGTc v_xGTk v_xGTw).bind (fun u_8 => (jn (fun (x4_9 : Int32) (x5_10 : Int32) (f_xR_moves_11 : Int32) (f_xR_bounces_12 : Int32) (f_xR_potted_13 : Int32) (f_xR_brings_14 : Int32) (f_xR_firstHitDirection_15 : Int32) (f_xR_firstHitPower_16 : Int32) (f_xR_foul_17 : Int32) (f_xRT_taken_18 : Int64) (v_xRTc_19 : Nat → Int32) => (if p3 = 0 then (some (x5_10, f_xR_moves_11, f_xR_bounces_12, f_xR_potted_13, f_xR_brings_14, f_xR_firstHitDirection_15, f_xR_firstHitPower_16, f_xR_foul_17, f_xRT_taken_18, u_8.2.1, u_8.2.2.1, v_xRTc_19, u_8.2.2.2.2.1, u_8.2.2.2.2.2)) else (if p3 = 1 then ((f_X10_lying n v_xRTc_19).bind (fun u_23 => (some (u_23, f_xR_moves_11, f_xR_bounces_12, f_xR_potted_13, f_xR_brings_14, f_xR_firstHitDirection_15, f_xR_firstHitPower_16, f_xR_foul_17, f_xRT_taken_18, u_8.2.1, u_8.2.2.1, v_xRTc_19, u_8.2.2.2.2.1, u_8.2.2.2.2.2)))) else (some (x4_9, f_xR_moves_11, f_xR_bounces_12, f_xR_potted_13, f_xR_brings_14, f_xR_firstHitDirection_15, f_xR_firstHitPower_16, f_xR_foul_17, f_xRT_taken_18, u_8.2.1, u_8.2.2.1, v_xRTc_19, u_8.2.2.2.2.1, u_8.2.2.2.2.2))))) (fun (j150_20 : Int32 → Int32 → Int32 → Int32 → Int32 → Int32 → Int32 → Int32 → Int32 → Int64 → (Nat → Int32) → Option (Int32 × Int32 × Int32 × Int32 × Int32 × Int32 × Int32 × Int32 × Int64 × Int32 × Int32 × (Nat → Int32) × (Nat → Int32) × (Nat → Int32))) => (f_X11_frames_L61 p1 n u_8 j150_20 n p2 1000 0 f_xR_moves f_xR_bounces f_xR_potted f_xR_brings f_xR_firstHitDirection f_xR_firstHitPower f_xR_foul u_8.1 u_8.2.2.2.1)))))))))))))))
def f_X11_image (f_x_imageKept : Int32) (f_x_tablesRead : Int32) (f_xG_seen : Int32) (f_xG_score : Int32) (f_xG_strokes : Int32) (f_xG_fouls : Int32) (f_xGT_taken : Int64) (f_xGT_size : Int32) (f_xGT_spot : Int32) (v_xGTc : Nat → Int32) (v_xGTk : Nat → Int32) (v_xGTw : Nat → Int32) (v_xGb : Nat → Int32) (v_xGd : Nat → Int32) (v_xGe : Nat → Int32) (v_xGf : Nat → Int32) (f_xK_seen : Int32) (f_xK_score : Int32) (f_xK_strokes : Int32) (f_xK_fouls : Int32) (f_xKT_taken : Int64) (f_xKT_size : Int32) (f_xKT_spot : Int32) (v_xKTc : Nat → Int32) (v_xKTk : Nat → Int32) (v_xKTw : Nat → Int32) (v_xKb : Nat → Int32) (v_xKd : Nat → Int32) (v_xKe : Nat → Int32) (v_xKf : Nat → Int32) : Option (Int32 × Int32 × Int32 × Int32 × Int32 × Int32 × Int64 × Int32 × Int32 × (Nat → Int32) × (Nat → Int32) × (Nat → Int32) × (Nat → Int32) × (Nat → Int32) × (Nat → Int32) × (Nat → Int32)) :=
  ((f_X11_hasTable f_x_tablesRead).bind (fun u_1 => (if u_1 = 0 then (some ((-103), f_x_imageKept, f_xK_seen, f_xK_score, f_xK_strokes, f_xK_fouls, f_xKT_taken, f_xKT_size, f_xKT_spot, v_xKTc, v_xKTk, v_xKTw, v_xKb, v_xKd, v_xKe, v_xKf)) else ((f_X3_copy f_xK_seen f_xK_score f_xK_strokes f_xK_fouls f_xKT_taken f_xKT_size f_xKT_spot v_xKTc v_xKTk v_xKTw v_xKb v_xKd v_xKe v_xKf f_xG_seen f_xG_score f_xG_strokes f_xG_fouls f_xGT_taken f_xGT_size f_xGT_spot v_xGTc v_xGTk v_xGTw v_xGb v_xGd v_xGe v_xGf).bind (fun u_3 => (some (f_xG_strokes, 1, u_3.1, u_3.2.1, u_3.2.2.1, u_3.2.2.2.1, u_3.2.2.2.2.1, u_3.2.2.2.2.2.1, u_3.2.2.2.2.2.2.1, u_3.2.2.2.2.2.2.2.1, u_3.2.2.2.2.2.2.2.2.1, u_3.2.2.2.2.2.2.2.2.2.1, u_3.2.2.2.2.2.2.2.2.2.2.1, u_3.2.2.2.2.2.2.2.2.2.2.2.1, u_3.2.2.2.2.2.2.2.2.2.2.2.2.1, u_3.2.2.2.2.2.2.2.2.2.2.2.2.2)))))))
def f_X11_restore (f_x_imageKept : Int32) (f_xG_seen : Int32) (f_xG_score : Int32) (f_xG_strokes : Int32) (f_xG_fouls : Int32) (f_xGT_taken : Int64) (f_xGT_size : Int32) (f_xGT_spot : Int32) (v_xGTc : Nat → Int32) (v_xGTk : Nat → Int32) (v_xGTw : Nat → Int32) (v_xGb : Nat → Int32) (v_xGd : Nat → Int32) (v_xGe : Nat → Int32) (v_xGf : Nat → Int32) (f_xK_seen : Int32) (f_xK_score : Int32) (f_xK_strokes : Int32) (f_xK_fouls : Int32) (f_xKT_taken : Int64) (f_xKT_size : Int32) (f_xKT_spot : Int32) (v_xKTc : Nat → Int32) (v_xKTk : Nat → Int32) (v_xKTw : Nat → Int32) (v_xKb : Nat → Int32) (v_xKd : Nat → Int32) (v_xKe : Nat → Int32) (v_xKf : Nat → Int32) : Option (Int32 × Int32 × Int32 × Int32 × Int32 × Int64 × Int32 × Int32 × (Nat → Int32) × (Nat → Int32) × (Nat → Int32) × (Nat → Int32) × (Nat → Int32) × (Nat → Int32) × (Nat → Int32)) :=
  (if f_x_imageKept = 0 then (some ((-103), f_xG_seen, f_xG_score, f_xG_strokes, f_xG_fouls, f_xGT_taken, f_xGT_size, f_xGT_spot, v_xGTc, v_xGTk, v_xGTw, v_xGb, v_xGd, v_xGe, v_xGf)) else ((f_X3_copy f_xG_seen f_xG_score f_xG_strokes f_xG_fouls f_xGT_taken f_xGT_size f_xGT_spot v_xGTc v_xGTk v_xGTw v_xGb v_xGd v_xGe v_xGf f_xK_seen f_xK_score f_xK_strokes f_xK_fouls f_xKT_taken f_xKT_size f_xKT_spot v_xKTc v_xKTk v_xKTw v_xKb v_xKd v_xKe v_xKf).bind (fun u_2 => (some (u_2.2.2.1, u_2.1, u_2.2.1, u_2.2.2.1, u_2.2.2.2.1, u_2.2.2.2.2.1, u_2.2.2.2.2.2.1, u_2.2.2.2.2.2.2.1, u_2.2.2.2.2.2.2.2.1, u_2.2.2.2.2.2.2.2.2.1, u_2.2.2.2.2.2.2.2.2.2.1, u_2.2.2.2.2.2.2.2.2.2.2.1, u_2.2.2.2.2.2.2.2.2.2.2.2.1, u_2.2.2.2.2.2.2.2.2.2.2.2.2.1, u_2.2.2.2.2.2.2.2.2.2.2.2.2.2)))))
def f_J13_bitCount_95d88 (p0 : Int64) : Option (Int32) :=
  (bnd (p0 - (((p0.toUInt64 >>> ((1 : Int32).toInt64.toUInt64 &&& Int64.toUInt64 63)).toInt64) &&& 6148914691236517205)) (fun x0_1 => (bnd ((x0_1 &&& 3689348814741910323) + (((x0_1.toUInt64 >>> ((2 : Int32).toInt64.toUInt64 &&& Int64.toUInt64 63)).toInt64) &&& 3689348814741910323)) (fun x0_2 => (bnd ((x0_2 + ((x0_2.toUInt64 >>> ((4 : Int32).toInt64.toUInt64 &&& Int64.toUInt64 63)).toInt64)) &&& 1085102592571150095) (fun x0_3 => (bnd (x0_3 + ((x0_3.toUInt64 >>> ((8 : Int32).toInt64.toUInt64 &&& Int64.toUInt64 63)).toInt64)) (fun x0_4 => (bnd (x0_4 + ((x0_4.toUInt64 >>> ((16 : Int32).toInt64.toUInt64 &&& Int64.toUInt64 63)).toInt64)) (fun x0_5 => (bnd (x0_5 + ((x0_5.toUInt64 >>> ((32 : Int32).toInt64.toUInt64 &&& Int64.toUInt64 63)).toInt64)) (fun x0_6 => (some (x0_6.toInt32 &&& 127))))))))))))))
def f_X11_ball (n : Nat) (f_x_tablesRead : Int32) (f_xG_seen : Int32) (f_xGT_taken : Int64) (f_xGT_size : Int32) (f_xGT_spot : Int32) (v_xGTc : Nat → Int32) (v_xGTk : Nat → Int32) (v_xGTw : Nat → Int32) (v_xGb : Nat → Int32) (v_xGd : Nat → Int32) (v_xGe : Nat → Int32) (v_xGf : Nat → Int32) (f_xR_moves : Int32) (f_xR_bounces : Int32) (f_xR_potted : Int32) (f_xR_brings : Int32) (f_xR_firstHitDirection : Int32) (f_xR_firstHitPower : Int32) (f_xR_foul : Int32) (f_xRT_taken : Int64) (f_xRT_size : Int32) (f_xRT_spot : Int32) (v_xRTc : Nat → Int32) (v_xRTk : Nat → Int32) (v_xRTw : Nat → Int32) (v_xUn : Nat → Int32) (p1 : Int32) (p2 : Int32) : Option (Int32 × Int32 × Int32 × Int32 × Int32 × Int32 × Int32 × Int32 × Int64 × Int32 × Int32 × (Nat → Int32) × (Nat → Int32) × (Nat → Int32) × (Nat → Int32)) :=
  ((f_X11_isBall f_x_tablesRead f_xGT_size p1).bind (fun u_1 => (if u_1 = 0 then (some ((-101), f_xR_moves, f_xR_bounces, f_xR_potted, f_xR_brings, f_xR_firstHitDirection, f_xR_firstHitPower, f_xR_foul, f_xRT_taken, f_xRT_size, f_xRT_spot, v_xRTc, v_xRTk, v_xRTw, v_xUn)) else ((f_X11_within p2 0 5).bind (fun u_3 => (if u_3 = 0 then (some ((-102), f_xR_moves, f_xR_bounces, f_xR_potted, f_xR_brings, f_xR_firstHitDirection, f_xR_firstHitPower, f_xR_foul, f_xRT_taken, f_xRT_size, f_xRT_spot, v_xRTc, v_xRTk, v_xRTw, v_xUn)) else (if p2 = 0 then ((f_X10_kindOf v_xGTk p1).bind (fun u_6 => (some (u_6, f_xR_moves, f_xR_bounces, f_xR_potted, f_xR_brings, f_xR_firstHitDirection, f_xR_firstHitPower, f_xR_foul, f_xRT_taken, f_xRT_size, f_xRT_spot, v_xRTc, v_xRTk, v_xRTw, v_xUn)))) else (if p2 = 1 then ((f_X10_worthOf v_xGTw p1).bind (fun u_8 => (some (u_8, f_xR_moves, f_xR_bounces, f_xR_potted, f_xR_brings, f_xR_firstHitDirection, f_xR_firstHitPower, f_xR_foul, f_xRT_taken, f_xRT_size, f_xRT_spot, v_xRTc, v_xRTk, v_xRTw, v_xUn)))) else (if p2 = 2 then ((f_X10_cellOf v_xGTc p1).bind (fun u_10 => (some (u_10, f_xR_moves, f_xR_bounces, f_xR_potted, f_xR_brings, f_xR_firstHitDirection, f_xR_firstHitPower, f_xR_foul, f_xRT_taken, f_xRT_size, f_xRT_spot, v_xRTc, v_xRTk, v_xRTw, v_xUn)))) else (if p2 = 3 then (if p1 = 0 then (some (1, f_xR_moves, f_xR_bounces, f_xR_potted, f_xR_brings, f_xR_firstHitDirection, f_xR_firstHitPower, f_xR_foul, f_xRT_taken, f_xRT_size, f_xRT_spot, v_xRTc, v_xRTk, v_xRTw, v_xUn)) else ((f_X4_possibleKinds n f_xR_moves f_xR_bounces f_xR_potted f_xR_brings f_xR_firstHitDirection f_xR_firstHitPower f_xR_foul f_xRT_taken f_xRT_size f_xRT_spot v_xRTc v_xRTk v_xRTw f_xG_seen f_xGT_taken f_xGT_size f_xGT_spot v_xGTc v_xGTk v_xGTw v_xGb v_xGd v_xGe v_xGf p1).bind (fun u_13 => (some (u_13.1, u_13.2.1, u_13.2.2.1, u_13.2.2.2.1, u_13.2.2.2.2.1, u_13.2.2.2.2.2.1, u_13.2.2.2.2.2.2.1, u_13.2.2.2.2.2.2.2.1, u_13.2.2.2.2.2.2.2.2.1, u_13.2.2.2.2.2.2.2.2.2.1, u_13.2.2.2.2.2.2.2.2.2.2.1, u_13.2.2.2.2.2.2.2.2.2.2.2.1, u_13.2.2.2.2.2.2.2.2.2.2.2.2.1, u_13.2.2.2.2.2.2.2.2.2.2.2.2.2, v_xUn))))) else (if p2 = 4 then (if p1 = 0 then (some ((-1), f_xR_moves, f_xR_bounces, f_xR_potted, f_xR_brings, f_xR_firstHitDirection, f_xR_firstHitPower, f_xR_foul, f_xRT_taken, f_xRT_size, f_xRT_spot, v_xRTc, v_xRTk, v_xRTw, v_xUn)) else ((f_X4_tellingDirection n f_xR_moves f_xR_bounces f_xR_potted f_xR_brings f_xR_firstHitDirection f_xR_firstHitPower f_xR_foul f_xRT_taken f_xRT_size f_xRT_spot v_xRTc v_xRTk v_xRTw v_xUn f_xG_seen f_xGT_taken f_xGT_size f_xGT_spot v_xGTc v_xGTk v_xGTw v_xGb v_xGd v_xGe v_xGf p1).bind (fun u_16 => (some (u_16.1, u_16.2.1, u_16.2.2.1, u_16.2.2.2.1, u_16.2.2.2.2.1, u_16.2.2.2.2.2.1, u_16.2.2.2.2.2.2.1, u_16.2.2.2.2.2.2.2.1, u_16.2.2.2.2.2.2.2.2.1, u_16.2.2.2.2.2.2.2.2.2.1, u_16.2.2.2.2.2.2.2.2.2.2.1, u_16.2.2.2.2.2.2.2.2.2.2.2.1, u_16.2.2.2.2.2.2.2.2.2.2.2.2.1, u_16.2.2.2.2.2.2.2.2.2.2.2.2.2.1, u_16.2.2.2.2.2.2.2.2.2.2.2.2.2.2))))) else ((f_X11_wantedCells n f_xGT_taken f_xGT_size f_xGT_spot v_xGTc v_xGTk v_xGTw f_xR_moves f_xR_bounces f_xR_potted f_xR_brings f_xR_firstHitDirection f_xR_firstHitPower f_xR_foul f_xRT_taken f_xRT_size f_xRT_spot v_xRTc v_xRTk v_xRTw p1).bind (fun u_17 => ((f_J13_bitCount_95d88 u_17.1).bind (fun u_18 => (some (u_18, u_17.2.1, u_17.2.2.1, u_17.2.2.2.1, u_17.2.2.2.2.1, u_17.2.2.2.2.2.1, u_17.2.2.2.2.2.2.1, u_17.2.2.2.2.2.2.2.1, u_17.2.2.2.2.2.2.2.2.1, u_17.2.2.2.2.2.2.2.2.2.1, u_17.2.2.2.2.2.2.2.2.2.2.1, u_17.2.2.2.2.2.2.2.2.2.2.2.1, u_17.2.2.2.2.2.2.2.2.2.2.2.2.1, u_17.2.2.2.2.2.2.2.2.2.2.2.2.2, v_xUn)))))))))))))))))
def b_X11_ballsInSight_L4 (f_x_tablesRead : Int32) (f_xGT_taken : Int64) (v_xGTc : Nat → Int32) (n : Nat) (go_3 : Int32 → Int32 → Option (Int32)) (x1_1 : Int32) (x2_2 : Int32) : Option (Int32) :=
  (if 8 ≤ x2_2 then (some x1_1) else ((f_X11_hasTable f_x_tablesRead).bind (fun u_6 => (if u_6 = 0 then (some x1_1) else ((f_X10_firstInSight n f_xGT_taken v_xGTc x2_2).bind (fun u_8 => (jn (fun (x1_9 : Int32) => (bnd (x2_2 + 1) (fun x2_11 => (go_3 x1_9 x2_11)))) (fun (j35_10 : Int32 → Option (Int32)) => (if u_8 = (-1) then (j35_10 x1_1) else (bnd (x1_1 + 1) (fun x1_13 => (j35_10 x1_13))))))))))))
def f_X11_ballsInSight_L4 (f_x_tablesRead : Int32) (f_xGT_taken : Int64) (v_xGTc : Nat → Int32) (n : Nat) (k : Nat) (x1_1 : Int32) (x2_2 : Int32) : Option (Int32) :=
  lpF (fun (self : (Int32 × Int32) → Option (Int32)) (a : Int32 × Int32) => b_X11_ballsInSight_L4 f_x_tablesRead f_xGT_taken v_xGTc n (fun x1_1 x2_2 => self (x1_1, x2_2)) a.1 a.2) k (x1_1, x2_2)
def f_X11_ballsInSight (n : Nat) (f_x_tablesRead : Int32) (f_xGT_taken : Int64) (v_xGTc : Nat → Int32) : Option (Int32) :=
  (f_X11_ballsInSight_L4 f_x_tablesRead f_xGT_taken v_xGTc n n 0 0)
def f_X11_count (n : Nat) (f_x_tablesRead : Int32) (f_x_plansDone : Int32) (f_x_safesDone : Int32) (f_xP_size : Int32) (f_xG_seen : Int32) (f_xG_score : Int32) (f_xG_strokes : Int32) (f_xG_fouls : Int32) (f_xGT_taken : Int64) (f_xGT_size : Int32) (f_xGT_spot : Int32) (v_xGTc : Nat → Int32) (v_xGTw : Nat → Int32) (p1 : Int32) : Option (Int32) :=
  (if p1 = 0 then (some f_xGT_size) else (if p1 = 1 then ((f_X10_lying n v_xGTc).bind (fun u_3 => (some u_3))) else (if p1 = 2 then ((f_X10_worthLying n v_xGTc v_xGTw).bind (fun u_5 => (some u_5))) else (if p1 = 3 then (some (f_xG_score + 1000)) else (if p1 = 4 then (some f_xG_strokes) else (if p1 = 5 then (some f_xG_fouls) else (if p1 = 6 then ((f_X11_ballsInSight n f_x_tablesRead f_xGT_taken v_xGTc).bind (fun u_10 => (some u_10))) else (if p1 = 7 then ((f_X11_hasTable f_x_tablesRead).bind (fun u_12 => (if u_12 = 0 then (some 0) else ((f_X10_cellOf v_xGTc 0).bind (fun u_14 => (some u_14)))))) else (if p1 = 8 then (some f_xGT_spot) else (if p1 = 9 then (some f_xG_seen) else (if p1 = 10 then (some f_xP_size) else (if p1 = 11 then (some f_x_tablesRead) else (if p1 = 12 then (some f_x_plansDone) else (if p1 = 13 then (some f_x_safesDone) else (some (-102))))))))))))))))
def b_X11_digestOfBalls_L23 (f_x_tablesRead : Int32) (f_xG_seen : Int32) (f_xGT_taken : Int64) (f_xGT_size : Int32) (f_xGT_spot : Int32) (v_xGTc : Nat → Int32) (v_xGTk : Nat → Int32) (v_xGTw : Nat → Int32) (v_xGb : Nat → Int32) (v_xGd : Nat → Int32) (v_xGe : Nat → Int32) (v_xGf : Nat → Int32) (n : Nat) (x5_21 : Int32) (j51_54 : Int64 → Int32 → Int32 → Int32 → Int32 → Int32 → Int32 → Int32 → Int64 → Int32 → Int32 → (Nat → Int32) → (Nat → Int32) → (Nat → Int32) → (Nat → Int32) → Option (Int64 × Int32 × Int32 × Int32 × Int32 × Int32 × Int32 × Int32 × Int64 × Int32 × Int32 × (Nat → Int32) × (Nat → Int32) × (Nat → Int32) × (Nat → Int32))) (go_72 : Int64 → Int32 → Int32 → Int32 → Int32 → Int32 → Int32 → Int32 → Int32 → Int64 → Int32 → Int32 → (Nat → Int32) → (Nat → Int32) → (Nat → Int32) → (Nat → Int32) → Option (Int64 × Int32 × Int32 × Int32 × Int32 × Int32 × Int32 × Int32 × Int64 × Int32 × Int32 × (Nat → Int32) × (Nat → Int32) × (Nat → Int32) × (Nat → Int32))) (x3_56 : Int64) (x6_57 : Int32) (f_xR_moves_58 : Int32) (f_xR_bounces_59 : Int32) (f_xR_potted_60 : Int32) (f_xR_brings_61 : Int32) (f_xR_firstHitDirection_62 : Int32) (f_xR_firstHitPower_63 : Int32) (f_xR_foul_64 : Int32) (f_xRT_taken_65 : Int64) (f_xRT_size_66 : Int32) (f_xRT_spot_67 : Int32) (v_xRTc_68 : Nat → Int32) (v_xRTk_69 : Nat → Int32) (v_xRTw_70 : Nat → Int32) (v_xUn_71 : Nat → Int32) : Option (Int64 × Int32 × Int32 × Int32 × Int32 × Int32 × Int32 × Int32 × Int64 × Int32 × Int32 × (Nat → Int32) × (Nat → Int32) × (Nat → Int32) × (Nat → Int32)) :=
  (if 2 < x6_57 then (j51_54 x3_56 f_xR_moves_58 f_xR_bounces_59 f_xR_potted_60 f_xR_brings_61 f_xR_firstHitDirection_62 f_xR_firstHitPower_63 f_xR_foul_64 f_xRT_taken_65 f_xRT_size_66 f_xRT_spot_67 v_xRTc_68 v_xRTk_69 v_xRTw_70 v_xUn_71) else ((f_X11_ball n f_x_tablesRead f_xG_seen f_xGT_taken f_xGT_size f_xGT_spot v_xGTc v_xGTk v_xGTw v_xGb v_xGd v_xGe v_xGf f_xR_moves_58 f_xR_bounces_59 f_xR_potted_60 f_xR_brings_61 f_xR_firstHitDirection_62 f_xR_firstHitPower_63 f_xR_foul_64 f_xRT_taken_65 f_xRT_size_66 f_xRT_spot_67 v_xRTc_68 v_xRTk_69 v_xRTw_70 v_xUn_71 x5_21 x6_57).bind (fun u_75 => (bnd ((31 * x3_56) + u_75.1.toInt64) (fun x3_76 => (bnd (x6_57 + 1) (fun x6_77 => (go_72 x3_76 x6_77 u_75.2.1 u_75.2.2.1 u_75.2.2.2.1 u_75.2.2.2.2.1 u_75.2.2.2.2.2.1 u_75.2.2.2.2.2.2.1 u_75.2.2.2.2.2.2.2.1 u_75.2.2.2.2.2.2.2.2.1 u_75.2.2.2.2.2.2.2.2.2.1 u_75.2.2.2.2.2.2.2.2.2.2.1 u_75.2.2.2.2.2.2.2.2.2.2.2.1 u_75.2.2.2.2.2.2.2.2.2.2.2.2.1 u_75.2.2.2.2.2.2.2.2.2.2.2.2.2.1 u_75.2.2.2.2.2.2.2.2.2.2.2.2.2.2))))))))
def f_X11_digestOfBalls_L23 (f_x_tablesRead : Int32) (f_xG_seen : Int32) (f_xGT_taken : Int64) (f_xGT_size : Int32) (f_xGT_spot : Int32) (v_xGTc : Nat → Int32) (v_xGTk : Nat → Int32) (v_xGTw : Nat → Int32) (v_xGb : Nat → Int32) (v_xGd : Nat → Int32) (v_xGe : Nat → Int32) (v_xGf : Nat → Int32) (n : Nat) (x5_21 : Int32) (j51_54 : Int64 → Int32 → Int32 → Int32 → Int32 → Int32 → Int32 → Int32 → Int64 → Int32 → Int32 → (Nat → Int32) → (Nat → Int32) → (Nat → Int32) → (Nat → Int32) → Option (Int64 × Int32 × Int32 × Int32 × Int32 × Int32 × Int32 × Int32 × Int64 × Int32 × Int32 × (Nat → Int32) × (Nat → Int32) × (Nat → Int32) × (Nat → Int32))) (k : Nat) (x3_56 : Int64) (x6_57 : Int32) (f_xR_moves_58 : Int32) (f_xR_bounces_59 : Int32) (f_xR_potted_60 : Int32) (f_xR_brings_61 : Int32) (f_xR_firstHitDirection_62 : Int32) (f_xR_firstHitPower_63 : Int32) (f_xR_foul_64 : Int32) (f_xRT_taken_65 : Int64) (f_xRT_size_66 : Int32) (f_xRT_spot_67 : Int32) (v_xRTc_68 : Nat → Int32) (v_xRTk_69 : Nat → Int32) (v_xRTw_70 : Nat → Int32) (v_xUn_71 : Nat → Int32) : Option (Int64 × Int32 × Int32 × Int32 × Int32 × Int32 × Int32 × Int32 × Int64 × Int32 × Int32 × (Nat → Int32) × (Nat → Int32) × (Nat → Int32) × (Nat → Int32)) :=
  lpF (fun (self : (Int64 × Int32 × Int32 × Int32 × Int32 × Int32 × Int32 × Int32 × Int32 × Int64 × Int32 × Int32 × (Nat → Int32) × (Nat → Int32) × (Nat → Int32) × (Nat → Int32)) → Option (Int64 × Int32 × Int32 × Int32 × Int32 × Int32 × Int32 × Int32 × Int64 × Int32 × Int32 × (Nat → Int32) × (Nat → Int32) × (Nat → Int32) × (Nat → Int32))) (a : Int64 × Int32 × Int32 × Int32 × Int32 × Int32 × Int32 × Int32 × Int32 × Int64 × Int32 × Int32 × (Nat → Int32) × (Nat → Int32) × (Nat → Int32) × (Nat → Int32)) => b_X11_digestOfBalls_L23 f_x_tablesRead f_xG_seen f_xGT_taken f_xGT_size f_xGT_spot v_xGTc v_xGTk v_xGTw v_xGb v_xGd v_xGe v_xGf n x5_21 j51_54 (fun x3_56 x6_57 f_xR_moves_58 f_xR_bounces_59 f_xR_potted_60 f_xR_brings_61 f_xR_firstHitDirection_62 f_xR_firstHitPower_63 f_xR_foul_64 f_xRT_taken_65 f_xRT_size_66 f_xRT_spot_67 v_xRTc_68 v_xRTk_69 v_xRTw_70 v_xUn_71 => self (x3_56, x6_57, f_xR_moves_58, f_xR_bounces_59, f_xR_potted_60, f_xR_brings_61, f_xR_firstHitDirection_62, f_xR_firstHitPower_63, f_xR_foul_64, f_xRT_taken_65, f_xRT_size_66, f_xRT_spot_67, v_xRTc_68, v_xRTk_69, v_xRTw_70, v_xUn_71)) a.1 a.2.1 a.2.2.1 a.2.2.2.1 a.2.2.2.2.1 a.2.2.2.2.2.1 a.2.2.2.2.2.2.1 a.2.2.2.2.2.2.2.1 a.2.2.2.2.2.2.2.2.1 a.2.2.2.2.2.2.2.2.2.1 a.2.2.2.2.2.2.2.2.2.2.1 a.2.2.2.2.2.2.2.2.2.2.2.1 a.2.2.2.2.2.2.2.2.2.2.2.2.1 a.2.2.2.2.2.2.2.2.2.2.2.2.2.1 a.2.2.2.2.2.2.2.2.2.2.2.2.2.2.1 a.2.2.2.2.2.2.2.2.2.2.2.2.2.2.2) k (x3_56, x6_57, f_xR_moves_58, f_xR_bounces_59, f_xR_potted_60, f_xR_brings_61, f_xR_firstHitDirection_62, f_xR_firstHitPower_63, f_xR_foul_64, f_xRT_taken_65, f_xRT_size_66, f_xRT_spot_67, v_xRTc_68, v_xRTk_69, v_xRTw_70, v_xUn_71)
def b_X11_digestOfBalls_L5 (f_x_tablesRead : Int32) (f_xG_seen : Int32) (f_xGT_taken : Int64) (f_xGT_size : Int32) (f_xGT_spot : Int32) (v_xGTc : Nat → Int32) (v_xGTk : Nat → Int32) (v_xGTw : Nat → Int32) (v_xGb : Nat → Int32) (v_xGd : Nat → Int32) (v_xGe : Nat → Int32) (v_xGf : Nat → Int32) (n : Nat) (j57_16 : Int64 → Int32 → Int32 → Int32 → Int32 → Int32 → Int32 → Int32 → Int64 → Int32 → Int32 → (Nat → Int32) → (Nat → Int32) → (Nat → Int32) → (Nat → Int32) → Option (Int64 × Int32 × Int32 × Int32 × Int32 × Int32 × Int32 × Int32 × Int64 × Int32 × Int32 × (Nat → Int32) × (Nat → Int32) × (Nat → Int32) × (Nat → Int32))) (go_36 : Int64 → Int32 → Int32 → Int32 → Int32 → Int32 → Int32 → Int32 → Int32 → Int64 → Int32 → Int32 → (Nat → Int32) → (Nat → Int32) → (Nat → Int32) → (Nat → Int32) → Option (Int64 × Int32 × Int32 × Int32 × Int32 × Int32 × Int32 × Int32 × Int64 × Int32 × Int32 × (Nat → Int32) × (Nat → Int32) × (Nat → Int32) × (Nat → Int32))) (x3_20 : Int64) (x5_21 : Int32) (f_xR_moves_22 : Int32) (f_xR_bounces_23 : Int32) (f_xR_potted_24 : Int32) (f_xR_brings_25 : Int32) (f_xR_firstHitDirection_26 : Int32) (f_xR_firstHitPower_27 : Int32) (f_xR_foul_28 : Int32) (f_xRT_taken_29 : Int64) (f_xRT_size_30 : Int32) (f_xRT_spot_31 : Int32) (v_xRTc_32 : Nat → Int32) (v_xRTk_33 : Nat → Int32) (v_xRTw_34 : Nat → Int32) (v_xUn_35 : Nat → Int32) : Option (Int64 × Int32 × Int32 × Int32 × Int32 × Int32 × Int32 × Int32 × Int64 × Int32 × Int32 × (Nat → Int32) × (Nat → Int32) × (Nat → Int32) × (Nat → Int32)) :=
  (if f_xGT_size < x5_21 then (j57_16 x3_20 f_xR_moves_22 f_xR_bounces_23 f_xR_potted_24 f_xR_brings_25 f_xR_firstHitDirection_26 f_xR_firstHitPower_27 f_xR_foul_28 f_xRT_taken_29 f_xRT_size_30 f_xRT_spot_31 v_xRTc_32 v_xRTk_33 v_xRTw_34 v_xUn_35) else (jn (fun (x3_39 : Int64) (f_xR_moves_40 : Int32) (f_xR_bounces_41 : Int32) (f_xR_potted_42 : Int32) (f_xR_brings_43 : Int32) (f_xR_firstHitDirection_44 : Int32) (f_xR_firstHitPower_45 : Int32) (f_xR_foul_46 : Int32) (f_xRT_taken_47 : Int64) (f_xRT_size_48 : Int32) (f_xRT_spot_49 : Int32) (v_xRTc_50 : Nat → Int32) (v_xRTk_51 : Nat → Int32) (v_xRTw_52 : Nat → Int32) (v_xUn_53 : Nat → Int32) => (bnd (x5_21 + 1) (fun x5_55 => (go_36 x3_39 x5_55 f_xR_moves_40 f_xR_bounces_41 f_xR_potted_42 f_xR_brings_43 f_xR_firstHitDirection_44 f_xR_firstHitPower_45 f_xR_foul_46 f_xRT_taken_47 f_xRT_size_48 f_xRT_spot_49 v_xRTc_50 v_xRTk_51 v_xRTw_52 v_xUn_53)))) (fun (j51_54 : Int64 → Int32 → Int32 → Int32 → Int32 → Int32 → Int32 → Int32 → Int64 → Int32 → Int32 → (Nat → Int32) → (Nat → Int32) → (Nat → Int32) → (Nat → Int32) → Option (Int64 × Int32 × Int32 × Int32 × Int32 × Int32 × Int32 × Int32 × Int64 × Int32 × Int32 × (Nat → Int32) × (Nat → Int32) × (Nat → Int32) × (Nat → Int32))) => (f_X11_digestOfBalls_L23 f_x_tablesRead f_xG_seen f_xGT_taken f_xGT_size f_xGT_spot v_xGTc v_xGTk v_xGTw v_xGb v_xGd v_xGe v_xGf n x5_21 j51_54 n x3_20 0 f_xR_moves_22 f_xR_bounces_23 f_xR_potted_24 f_xR_brings_25 f_xR_firstHitDirection_26 f_xR_firstHitPower_27 f_xR_foul_28 f_xRT_taken_29 f_xRT_size_30 f_xRT_spot_31 v_xRTc_32 v_xRTk_33 v_xRTw_34 v_xUn_35))))
def f_X11_digestOfBalls_L5 (f_x_tablesRead : Int32) (f_xG_seen : Int32) (f_xGT_taken : Int64) (f_xGT_size : Int32) (f_xGT_spot : Int32) (v_xGTc : Nat → Int32) (v_xGTk : Nat → Int32) (v_xGTw : Nat → Int32) (v_xGb : Nat → Int32) (v_xGd : Nat → Int32) (v_xGe : Nat → Int32) (v_xGf : Nat → Int32) (n : Nat) (j57_16 : Int64 → Int32 → Int32 → Int32 → Int32 → Int32 → Int32 → Int32 → Int64 → Int32 → Int32 → (Nat → Int32) → (Nat → Int32) → (Nat → Int32) → (Nat → Int32) → Option (Int64 × Int32 × Int32 × Int32 × Int32 × Int32 × Int32 × Int32 × Int64 × Int32 × Int32 × (Nat → Int32) × (Nat → Int32) × (Nat → Int32) × (Nat → Int32))) (k : Nat) (x3_20 : Int64) (x5_21 : Int32) (f_xR_moves_22 : Int32) (f_xR_bounces_23 : Int32) (f_xR_potted_24 : Int32) (f_xR_brings_25 : Int32) (f_xR_firstHitDirection_26 : Int32) (f_xR_firstHitPower_27 : Int32) (f_xR_foul_28 : Int32) (f_xRT_taken_29 : Int64) (f_xRT_size_30 : Int32) (f_xRT_spot_31 : Int32) (v_xRTc_32 : Nat → Int32) (v_xRTk_33 : Nat → Int32) (v_xRTw_34 : Nat → Int32) (v_xUn_35 : Nat → Int32) : Option (Int64 × Int32 × Int32 × Int32 × Int32 × Int32 × Int32 × Int32 × Int64 × Int32 × Int32 × (Nat → Int32) × (Nat → Int32) × (Nat → Int32) × (Nat → Int32)) :=
  lpF (fun (self : (Int64 × Int32 × Int32 × Int32 × Int32 × Int32 × Int32 × Int32 × Int32 × Int64 × Int32 × Int32 × (Nat → Int32) × (Nat → Int32) × (Nat → Int32) × (Nat → Int32)) → Option (Int64 × Int32 × Int32 × Int32 × Int32 × Int32 × Int32 × Int32 × Int64 × Int32 × Int32 × (Nat → Int32) × (Nat → Int32) × (Nat → Int32) × (Nat → Int32))) (a : Int64 × Int32 × Int32 × Int32 × Int32 × Int32 × Int32 × Int32 × Int32 × Int64 × Int32 × Int32 × (Nat → Int32) × (Nat → Int32) × (Nat → Int32) × (Nat → Int32)) => b_X11_digestOfBalls_L5 f_x_tablesRead f_xG_seen f_xGT_taken f_xGT_size f_xGT_spot v_xGTc v_xGTk v_xGTw v_xGb v_xGd v_xGe v_xGf n j57_16 (fun x3_20 x5_21 f_xR_moves_22 f_xR_bounces_23 f_xR_potted_24 f_xR_brings_25 f_xR_firstHitDirection_26 f_xR_firstHitPower_27 f_xR_foul_28 f_xRT_taken_29 f_xRT_size_30 f_xRT_spot_31 v_xRTc_32 v_xRTk_33 v_xRTw_34 v_xUn_35 => self (x3_20, x5_21, f_xR_moves_22, f_xR_bounces_23, f_xR_potted_24, f_xR_brings_25, f_xR_firstHitDirection_26, f_xR_firstHitPower_27, f_xR_foul_28, f_xRT_taken_29, f_xRT_size_30, f_xRT_spot_31, v_xRTc_32, v_xRTk_33, v_xRTw_34, v_xUn_35)) a.1 a.2.1 a.2.2.1 a.2.2.2.1 a.2.2.2.2.1 a.2.2.2.2.2.1 a.2.2.2.2.2.2.1 a.2.2.2.2.2.2.2.1 a.2.2.2.2.2.2.2.2.1 a.2.2.2.2.2.2.2.2.2.1 a.2.2.2.2.2.2.2.2.2.2.1 a.2.2.2.2.2.2.2.2.2.2.2.1 a.2.2.2.2.2.2.2.2.2.2.2.2.1 a.2.2.2.2.2.2.2.2.2.2.2.2.2.1 a.2.2.2.2.2.2.2.2.2.2.2.2.2.2.1 a.2.2.2.2.2.2.2.2.2.2.2.2.2.2.2) k (x3_20, x5_21, f_xR_moves_22, f_xR_bounces_23, f_xR_potted_24, f_xR_brings_25, f_xR_firstHitDirection_26, f_xR_firstHitPower_27, f_xR_foul_28, f_xRT_taken_29, f_xRT_size_30, f_xRT_spot_31, v_xRTc_32, v_xRTk_33, v_xRTw_34, v_xUn_35)
def f_X11_digestOfBalls (n : Nat) (f_x_tablesRead : Int32) (f_xG_seen : Int32) (f_xGT_taken : Int64) (f_xGT_size : Int32) (f_xGT_spot : Int32) (v_xGTc : Nat → Int32) (v_xGTk : Nat → Int32) (v_xGTw : Nat → Int32) (v_xGb : Nat → Int32) (v_xGd : Nat → Int32) (v_xGe : Nat → Int32) (v_xGf : Nat → Int32) (f_xR_moves : Int32) (f_xR_bounces : Int32) (f_xR_potted : Int32) (f_xR_brings : Int32) (f_xR_firstHitDirection : Int32) (f_xR_firstHitPower : Int32) (f_xR_foul : Int32) (f_xRT_taken : Int64) (f_xRT_size : Int32) (f_xRT_spot : Int32) (v_xRTc : Nat → Int32) (v_xRTk : Nat → Int32) (v_xRTw : Nat → Int32) (v_xUn : Nat → Int32) (p1 : Int64) : Option (Int64 × Int32 × Int32 × Int32 × Int32 × Int32 × Int32 × Int32 × Int64 × Int32 × Int32 × (Nat → Int32) × (Nat → Int32) × (Nat → Int32) × (Nat → Int32)) :=
  (jn (fun (x3_1 : Int64) (f_xR_moves_2 : Int32) (f_xR_bounces_3 : Int32) (f_xR_potted_4 : Int32) (f_xR_brings_5 : Int32) (f_xR_firstHitDirection_6 : Int32) (f_xR_firstHitPower_7 : Int32) (f_xR_foul_8 : Int32) (f_xRT_taken_9 : Int64) (f_xRT_size_10 : Int32) (f_xRT_spot_11 : Int32) (v_xRTc_12 : Nat → Int32) (v_xRTk_13 : Nat → Int32) (v_xRTw_14 : Nat → Int32) (v_xUn_15 : Nat → Int32) => ((f_X4_possibleKinds n f_xR_moves_2 f_xR_bounces_3 f_xR_potted_4 f_xR_brings_5 f_xR_firstHitDirection_6 f_xR_firstHitPower_7 f_xR_foul_8 f_xRT_taken_9 f_xRT_size_10 f_xRT_spot_11 v_xRTc_12 v_xRTk_13 v_xRTw_14 f_xG_seen f_xGT_taken f_xGT_size f_xGT_spot v_xGTc v_xGTk v_xGTw v_xGb v_xGd v_xGe v_xGf 1).bind (fun u_17 => (bnd ((31 * x3_1) + u_17.1.toInt64) (fun x3_18 => ((f_X4_tellingDirection n u_17.2.1 u_17.2.2.1 u_17.2.2.2.1 u_17.2.2.2.2.1 u_17.2.2.2.2.2.1 u_17.2.2.2.2.2.2.1 u_17.2.2.2.2.2.2.2.1 u_17.2.2.2.2.2.2.2.2.1 u_17.2.2.2.2.2.2.2.2.2.1 u_17.2.2.2.2.2.2.2.2.2.2.1 u_17.2.2.2.2.2.2.2.2.2.2.2.1 u_17.2.2.2.2.2.2.2.2.2.2.2.2.1 u_17.2.2.2.2.2.2.2.2.2.2.2.2.2 v_xUn_15 f_xG_seen f_xGT_taken f_xGT_size f_xGT_spot v_xGTc v_xGTk v_xGTw v_xGb v_xGd v_xGe v_xGf 1).bind (fun u_19 => (some (((31 * x3_18) + u_19.1.toInt64), u_19.2.1, u_19.2.2.1, u_19.2.2.2.1, u_19.2.2.2.2.1, u_19.2.2.2.2.2.1, u_19.2.2.2.2.2.2.1, u_19.2.2.2.2.2.2.2.1, u_19.2.2.2.2.2.2.2.2.1, u_19.2.2.2.2.2.2.2.2.2.1, u_19.2.2.2.2.2.2.2.2.2.2.1, u_19.2.2.2.2.2.2.2.2.2.2.2.1, u_19.2.2.2.2.2.2.2.2.2.2.2.2.1, u_19.2.2.2.2.2.2.2.2.2.2.2.2.2.1, u_19.2.2.2.2.2.2.2.2.2.2.2.2.2.2))))))))) (fun (j57_16 : Int64 → Int32 → Int32 → Int32 → Int32 → Int32 → Int32 → Int32 → Int64 → Int32 → Int32 → (Nat → Int32) → (Nat → Int32) → (Nat → Int32) → (Nat → Int32) → Option (Int64 × Int32 × Int32 × Int32 × Int32 × Int32 × Int32 × Int32 × Int64 × Int32 × Int32 × (Nat → Int32) × (Nat → Int32) × (Nat → Int32) × (Nat → Int32))) => (f_X11_digestOfBalls_L5 f_x_tablesRead f_xG_seen f_xGT_taken f_xGT_size f_xGT_spot v_xGTc v_xGTk v_xGTw v_xGb v_xGd v_xGe v_xGf n j57_16 n p1 0 f_xR_moves f_xR_bounces f_xR_potted f_xR_brings f_xR_firstHitDirection f_xR_firstHitPower f_xR_foul f_xRT_taken f_xRT_size f_xRT_spot v_xRTc v_xRTk v_xRTw v_xUn)))
def b_X11_digestOfStrokes_L76 (u_1 : Int32 × Int32 × Int32 × Int32 × Int32 × Int32 × Int32 × Int32 × Int32 × Int64 × Int32 × Int32 × (Nat → Int32) × (Nat → Int32) × (Nat → Int32)) (u_4 : Int64 × Int32 × Int32 × (Nat → Int32) × (Nat → Int32) × (Nat → Int32)) (u_5 : Int32 × Int32 × Int32 × Int32 × Int32 × Int32 × Int32 × Int64 × (Nat → Int32)) (go_8 : Int64 → Int32 → Option (Int64 × Int32 × Int32 × Int32 × Int32 × Int32 × Int32 × Int32 × Int64 × Int32 × Int32 × (Nat → Int32) × (Nat → Int32) × (Nat → Int32) × Int32 × Int32)) (x3_6 : Int64) (x5_7 : Int32) : Option (Int64 × Int32 × Int32 × Int32 × Int32 × Int32 × Int32 × Int32 × Int64 × Int32 × Int32 × (Nat → Int32) × (Nat → Int32) × (Nat → Int32) × Int32 × Int32) :=
  (if 5 < x5_7 then (some (x3_6, u_5.1, u_5.2.1, u_5.2.2.1, u_5.2.2.2.1, u_5.2.2.2.2.1, u_5.2.2.2.2.2.1, u_5.2.2.2.2.2.2.1, u_5.2.2.2.2.2.2.2.1, u_4.2.1, u_4.2.2.1, u_5.2.2.2.2.2.2.2.2, u_4.2.2.2.2.1, u_4.2.2.2.2.2, u_1.1, u_1.2.1)) else ((f_X9_tell u_5.1 u_5.2.1 u_5.2.2.1 u_5.2.2.2.1 u_5.2.2.2.2.2.2.1 u_5.2.2.2.2.2.2.2.2 x5_7).bind (fun u_11 => (bnd ((31 * x3_6) + u_11.toInt64) (fun x3_12 => (bnd (x5_7 + 1) (fun x5_13 => (go_8 x3_12 x5_13))))))))
def f_X11_digestOfStrokes_L76 (u_1 : Int32 × Int32 × Int32 × Int32 × Int32 × Int32 × Int32 × Int32 × Int32 × Int64 × Int32 × Int32 × (Nat → Int32) × (Nat → Int32) × (Nat → Int32)) (u_4 : Int64 × Int32 × Int32 × (Nat → Int32) × (Nat → Int32) × (Nat → Int32)) (u_5 : Int32 × Int32 × Int32 × Int32 × Int32 × Int32 × Int32 × Int64 × (Nat → Int32)) (k : Nat) (x3_6 : Int64) (x5_7 : Int32) : Option (Int64 × Int32 × Int32 × Int32 × Int32 × Int32 × Int32 × Int32 × Int64 × Int32 × Int32 × (Nat → Int32) × (Nat → Int32) × (Nat → Int32) × Int32 × Int32) :=
  lpF (fun (self : (Int64 × Int32) → Option (Int64 × Int32 × Int32 × Int32 × Int32 × Int32 × Int32 × Int32 × Int64 × Int32 × Int32 × (Nat → Int32) × (Nat → Int32) × (Nat → Int32) × Int32 × Int32)) (a : Int64 × Int32) => b_X11_digestOfStrokes_L76 u_1 u_4 u_5 (fun x3_6 x5_7 => self (x3_6, x5_7)) a.1 a.2) k (x3_6, x5_7)
def b_X11_digestOfStrokes_L19 (u_1 : Int32 × Int32 × Int32 × Int32 × Int32 × Int32 × Int32 × Int32 × Int32 × Int64 × Int32 × Int32 × (Nat → Int32) × (Nat → Int32) × (Nat → Int32)) (j48_3 : Int64 → Option (Int64 × Int32 × Int32 × Int32 × Int32 × Int32 × Int32 × Int32 × Int64 × Int32 × Int32 × (Nat → Int32) × (Nat → Int32) × (Nat → Int32) × Int32 × Int32)) (go_16 : Int64 → Int32 → Option (Int64 × Int32 × Int32 × Int32 × Int32 × Int32 × Int32 × Int32 × Int64 × Int32 × Int32 × (Nat → Int32) × (Nat → Int32) × (Nat → Int32) × Int32 × Int32)) (x3_14 : Int64) (x5_15 : Int32) : Option (Int64 × Int32 × Int32 × Int32 × Int32 × Int32 × Int32 × Int32 × Int64 × Int32 × Int32 × (Nat → Int32) × (Nat → Int32) × (Nat → Int32) × Int32 × Int32) :=
  (if 3 < x5_15 then (j48_3 x3_14) else ((f_X0_tell u_1.1 u_1.2.1 x5_15).bind (fun u_19 => (bnd ((31 * x3_14) + u_19.toInt64) (fun x3_20 => (bnd (x5_15 + 1) (fun x5_21 => (go_16 x3_20 x5_21))))))))
def f_X11_digestOfStrokes_L19 (u_1 : Int32 × Int32 × Int32 × Int32 × Int32 × Int32 × Int32 × Int32 × Int32 × Int64 × Int32 × Int32 × (Nat → Int32) × (Nat → Int32) × (Nat → Int32)) (j48_3 : Int64 → Option (Int64 × Int32 × Int32 × Int32 × Int32 × Int32 × Int32 × Int32 × Int64 × Int32 × Int32 × (Nat → Int32) × (Nat → Int32) × (Nat → Int32) × Int32 × Int32)) (k : Nat) (x3_14 : Int64) (x5_15 : Int32) : Option (Int64 × Int32 × Int32 × Int32 × Int32 × Int32 × Int32 × Int32 × Int64 × Int32 × Int32 × (Nat → Int32) × (Nat → Int32) × (Nat → Int32) × Int32 × Int32) :=
  lpF (fun (self : (Int64 × Int32) → Option (Int64 × Int32 × Int32 × Int32 × Int32 × Int32 × Int32 × Int32 × Int64 × Int32 × Int32 × (Nat → Int32) × (Nat → Int32) × (Nat → Int32) × Int32 × Int32)) (a : Int64 × Int32) => b_X11_digestOfStrokes_L19 u_1 j48_3 (fun x3_14 x5_15 => self (x3_14, x5_15)) a.1 a.2) k (x3_14, x5_15)
def f_X11_digestOfStrokes (n : Nat) (f_xGT_taken : Int64) (f_xGT_size : Int32) (f_xGT_spot : Int32) (v_xGTc : Nat → Int32) (v_xGTk : Nat → Int32) (v_xGTw : Nat → Int32) (f_xR_moves : Int32) (f_xR_bounces : Int32) (f_xR_potted : Int32) (f_xR_brings : Int32) (f_xR_firstHitDirection : Int32) (f_xR_firstHitPower : Int32) (f_xR_foul : Int32) (f_xRT_taken : Int64) (f_xRT_size : Int32) (f_xRT_spot : Int32) (v_xRTc : Nat → Int32) (v_xRTk : Nat → Int32) (v_xRTw : Nat → Int32) (f_xA_chosen : Int32) (f_xA_value : Int32) (p1 : Int64) : Option (Int64 × Int32 × Int32 × Int32 × Int32 × Int32 × Int32 × Int32 × Int64 × Int32 × Int32 × (Nat → Int32) × (Nat → Int32) × (Nat → Int32) × Int32 × Int32) :=
  ((f_X0_chooseBest n f_xA_chosen f_xA_value f_xR_moves f_xR_bounces f_xR_potted f_xR_brings f_xR_firstHitDirection f_xR_firstHitPower f_xR_foul f_xRT_taken f_xRT_size f_xRT_spot v_xRTc v_xRTk v_xRTw f_xGT_taken f_xGT_size f_xGT_spot v_xGTc v_xGTk v_xGTw).bind (fun u_1 => (jn (fun (x3_2 : Int64) => ((f_X9_begin u_1.2.2.2.2.2.2.2.2.2.1 u_1.2.2.2.2.2.2.2.2.2.2.1 u_1.2.2.2.2.2.2.2.2.2.2.2.1 u_1.2.2.2.2.2.2.2.2.2.2.2.2.1 u_1.2.2.2.2.2.2.2.2.2.2.2.2.2.1 u_1.2.2.2.2.2.2.2.2.2.2.2.2.2.2 f_xGT_taken f_xGT_size f_xGT_spot v_xGTc v_xGTk v_xGTw).bind (fun u_4 => ((f_X9_shoot n u_1.2.2.1 u_1.2.2.2.1 u_1.2.2.2.2.1 u_1.2.2.2.2.2.1 u_1.2.2.2.2.2.2.1 u_1.2.2.2.2.2.2.2.1 u_1.2.2.2.2.2.2.2.2.1 u_4.1 u_4.2.2.1 u_4.2.2.2.1 u_4.2.2.2.2.1 u_4.2.2.2.2.2 3 9 1).bind (fun u_5 => (f_X11_digestOfStrokes_L76 u_1 u_4 u_5 n x3_2 0)))))) (fun (j48_3 : Int64 → Option (Int64 × Int32 × Int32 × Int32 × Int32 × Int32 × Int32 × Int32 × Int64 × Int32 × Int32 × (Nat → Int32) × (Nat → Int32) × (Nat → Int32) × Int32 × Int32)) => (f_X11_digestOfStrokes_L19 u_1 j48_3 n p1 0)))))
def b_X11_digest_L61 (f_x_tablesRead : Int32) (f_x_plansDone : Int32) (f_x_safesDone : Int32) (f_xP_size : Int32) (f_xG_seen : Int32) (f_xG_score : Int32) (f_xG_strokes : Int32) (f_xG_fouls : Int32) (f_xGT_taken : Int64) (f_xGT_size : Int32) (f_xGT_spot : Int32) (v_xGTc : Nat → Int32) (v_xGTw : Nat → Int32) (n : Nat) (f_xR_moves_3 : Int32) (f_xR_bounces_4 : Int32) (f_xR_potted_5 : Int32) (f_xR_brings_6 : Int32) (f_xR_firstHitDirection_7 : Int32) (f_xR_firstHitPower_8 : Int32) (f_xR_foul_9 : Int32) (f_xRT_taken_10 : Int64) (f_xRT_size_11 : Int32) (f_xRT_spot_12 : Int32) (v_xRTc_13 : Nat → Int32) (v_xRTk_14 : Nat → Int32) (v_xRTw_15 : Nat → Int32) (f_xA_chosen_16 : Int32) (f_xA_value_17 : Int32) (v_xUn_18 : Nat → Int32) (go_23 : Int64 → Int32 → Option (Int64 × Int32 × Int32 × Int32 × Int32 × Int32 × Int32 × Int32 × Int64 × Int32 × Int32 × (Nat → Int32) × (Nat → Int32) × (Nat → Int32) × Int32 × Int32 × (Nat → Int32))) (x1_21 : Int64) (x3_22 : Int32) : Option (Int64 × Int32 × Int32 × Int32 × Int32 × Int32 × Int32 × Int32 × Int64 × Int32 × Int32 × (Nat → Int32) × (Nat → Int32) × (Nat → Int32) × Int32 × Int32 × (Nat → Int32)) :=
  (if 13 < x3_22 then (some (x1_21, f_xR_moves_3, f_xR_bounces_4, f_xR_potted_5, f_xR_brings_6, f_xR_firstHitDirection_7, f_xR_firstHitPower_8, f_xR_foul_9, f_xRT_taken_10, f_xRT_size_11, f_xRT_spot_12, v_xRTc_13, v_xRTk_14, v_xRTw_15, f_xA_chosen_16, f_xA_value_17, v_xUn_18)) else ((f_X11_count n f_x_tablesRead f_x_plansDone f_x_safesDone f_xP_size f_xG_seen f_xG_score f_xG_strokes f_xG_fouls f_xGT_taken f_xGT_size f_xGT_spot v_xGTc v_xGTw x3_22).bind (fun u_26 => (bnd ((31 * x1_21) + u_26.toInt64) (fun x1_27 => (bnd (x3_22 + 1) (fun x3_28 => (go_23 x1_27 x3_28))))))))
def f_X11_digest_L61 (f_x_tablesRead : Int32) (f_x_plansDone : Int32) (f_x_safesDone : Int32) (f_xP_size : Int32) (f_xG_seen : Int32) (f_xG_score : Int32) (f_xG_strokes : Int32) (f_xG_fouls : Int32) (f_xGT_taken : Int64) (f_xGT_size : Int32) (f_xGT_spot : Int32) (v_xGTc : Nat → Int32) (v_xGTw : Nat → Int32) (n : Nat) (f_xR_moves_3 : Int32) (f_xR_bounces_4 : Int32) (f_xR_potted_5 : Int32) (f_xR_brings_6 : Int32) (f_xR_firstHitDirection_7 : Int32) (f_xR_firstHitPower_8 : Int32) (f_xR_foul_9 : Int32) (f_xRT_taken_10 : Int64) (f_xRT_size_11 : Int32) (f_xRT_spot_12 : Int32) (v_xRTc_13 : Nat → Int32) (v_xRTk_14 : Nat → Int32) (v_xRTw_15 : Nat → Int32) (f_xA_chosen_16 : Int32) (f_xA_value_17 : Int32) (v_xUn_18 : Nat → Int32) (k : Nat) (x1_21 : Int64) (x3_22 : Int32) : Option (Int64 × Int32 × Int32 × Int32 × Int32 × Int32 × Int32 × Int32 × Int64 × Int32 × Int32 × (Nat → Int32) × (Nat → Int32) × (Nat → Int32) × Int32 × Int32 × (Nat → Int32)) :=
  lpF (fun (self : (Int64 × Int32) → Option (Int64 × Int32 × Int32 × Int32 × Int32 × Int32 × Int32 × Int32 × Int64 × Int32 × Int32 × (Nat → Int32) × (Nat → Int32) × (Nat → Int32) × Int32 × Int32 × (Nat → Int32))) (a : Int64 × Int32) => b_X11_digest_L61 f_x_tablesRead f_x_plansDone f_x_safesDone f_xP_size f_xG_seen f_xG_score f_xG_strokes f_xG_fouls f_xGT_taken f_xGT_size f_xGT_spot v_xGTc v_xGTw n f_xR_moves_3 f_xR_bounces_4 f_xR_potted_5 f_xR_brings_6 f_xR_firstHitDirection_7 f_xR_firstHitPower_8 f_xR_foul_9 f_xRT_taken_10 f_xRT_size_11 f_xRT_spot_12 v_xRTc_13 v_xRTk_14 v_xRTw_15 f_xA_chosen_16 f_xA_value_17 v_xUn_18 (fun x1_21 x3_22 => self (x1_21, x3_22)) a.1 a.2) k (x1_21, x3_22)
def b_X11_digest_L19 (f_x_tablesRead : Int32) (f_xGT_taken : Int64) (v_xGTc : Nat → Int32) (n : Nat) (j44_32 : Int64 → Option (Int64 × Int32 × Int32 × Int32 × Int32 × Int32 × Int32 × Int32 × Int64 × Int32 × Int32 × (Nat → Int32) × (Nat → Int32) × (Nat → Int32) × Int32 × Int32 × (Nat → Int32))) (go_36 : Int64 → Int32 → Option (Int64 × Int32 × Int32 × Int32 × Int32 × Int32 × Int32 × Int32 × Int64 × Int32 × Int32 × (Nat → Int32) × (Nat → Int32) × (Nat → Int32) × Int32 × Int32 × (Nat → Int32))) (x1_34 : Int64) (x3_35 : Int32) : Option (Int64 × Int32 × Int32 × Int32 × Int32 × Int32 × Int32 × Int32 × Int64 × Int32 × Int32 × (Nat → Int32) × (Nat → Int32) × (Nat → Int32) × Int32 × Int32 × (Nat → Int32)) :=
  (if 8 ≤ x3_35 then (j44_32 x1_34) else ((f_X11_sees n f_x_tablesRead f_xGT_taken v_xGTc x3_35).bind (fun u_39 => (bnd ((31 * x1_34) + u_39.toInt64) (fun x1_40 => (bnd (x3_35 + 1) (fun x3_41 => (go_36 x1_40 x3_41))))))))
def f_X11_digest_L19 (f_x_tablesRead : Int32) (f_xGT_taken : Int64) (v_xGTc : Nat → Int32) (n : Nat) (j44_32 : Int64 → Option (Int64 × Int32 × Int32 × Int32 × Int32 × Int32 × Int32 × Int32 × Int64 × Int32 × Int32 × (Nat → Int32) × (Nat → Int32) × (Nat → Int32) × Int32 × Int32 × (Nat → Int32))) (k : Nat) (x1_34 : Int64) (x3_35 : Int32) : Option (Int64 × Int32 × Int32 × Int32 × Int32 × Int32 × Int32 × Int32 × Int64 × Int32 × Int32 × (Nat → Int32) × (Nat → Int32) × (Nat → Int32) × Int32 × Int32 × (Nat → Int32)) :=
  lpF (fun (self : (Int64 × Int32) → Option (Int64 × Int32 × Int32 × Int32 × Int32 × Int32 × Int32 × Int32 × Int64 × Int32 × Int32 × (Nat → Int32) × (Nat → Int32) × (Nat → Int32) × Int32 × Int32 × (Nat → Int32))) (a : Int64 × Int32) => b_X11_digest_L19 f_x_tablesRead f_xGT_taken v_xGTc n j44_32 (fun x1_34 x3_35 => self (x1_34, x3_35)) a.1 a.2) k (x1_34, x3_35)
def f_X11_digest (n : Nat) (f_x_tablesRead : Int32) (f_x_plansDone : Int32) (f_x_safesDone : Int32) (f_xP_size : Int32) (v_xPl : Nat → Int32) (f_xG_seen : Int32) (f_xG_score : Int32) (f_xG_strokes : Int32) (f_xG_fouls : Int32) (f_xGT_taken : Int64) (f_xGT_size : Int32) (f_xGT_spot : Int32) (v_xGTc : Nat → Int32) (v_xGTk : Nat → Int32) (v_xGTw : Nat → Int32) (v_xGb : Nat → Int32) (v_xGd : Nat → Int32) (v_xGe : Nat → Int32) (v_xGf : Nat → Int32) (f_xR_moves : Int32) (f_xR_bounces : Int32) (f_xR_potted : Int32) (f_xR_brings : Int32) (f_xR_firstHitDirection : Int32) (f_xR_firstHitPower : Int32) (f_xR_foul : Int32) (f_xRT_taken : Int64) (f_xRT_size : Int32) (f_xRT_spot : Int32) (v_xRTc : Nat → Int32) (v_xRTk : Nat → Int32) (v_xRTw : Nat → Int32) (f_xA_chosen : Int32) (f_xA_value : Int32) (v_xUn : Nat → Int32) : Option (Int64 × Int32 × Int32 × Int32 × Int32 × Int32 × Int32 × Int32 × Int64 × Int32 × Int32 × (Nat → Int32) × (Nat → Int32) × (Nat → Int32) × Int32 × Int32 × (Nat → Int32)) :=
  ((f_X11_hasTable f_x_tablesRead).bind (fun u_1 => (jn (fun (x1_2 : Int64) (f_xR_moves_3 : Int32) (f_xR_bounces_4 : Int32) (f_xR_potted_5 : Int32) (f_xR_brings_6 : Int32) (f_xR_firstHitDirection_7 : Int32) (f_xR_firstHitPower_8 : Int32) (f_xR_foul_9 : Int32) (f_xRT_taken_10 : Int64) (f_xRT_size_11 : Int32) (f_xRT_spot_12 : Int32) (v_xRTc_13 : Nat → Int32) (v_xRTk_14 : Nat → Int32) (v_xRTw_15 : Nat → Int32) (f_xA_chosen_16 : Int32) (f_xA_value_17 : Int32) (v_xUn_18 : Nat → Int32) => ((f_X7_digestOn n f_xP_size v_xPl x1_2).bind (fun u_20 => (f_X11_digest_L61 f_x_tablesRead f_x_plansDone f_x_safesDone f_xP_size f_xG_seen f_xG_score f_xG_strokes f_xG_fouls f_xGT_taken f_xGT_size f_xGT_spot v_xGTc v_xGTw n f_xR_moves_3 f_xR_bounces_4 f_xR_potted_5 f_xR_brings_6 f_xR_firstHitDirection_7 f_xR_firstHitPower_8 f_xR_foul_9 f_xRT_taken_10 f_xRT_size_11 f_xRT_spot_12 v_xRTc_13 v_xRTk_14 v_xRTw_15 f_xA_chosen_16 f_xA_value_17 v_xUn_18 n u_20 0)))) (fun (j50_19 : Int64 → Int32 → Int32 → Int32 → Int32 → Int32 → Int32 → Int32 → Int64 → Int32 → Int32 → (Nat → Int32) → (Nat → Int32) → (Nat → Int32) → Int32 → Int32 → (Nat → Int32) → Option (Int64 × Int32 × Int32 × Int32 × Int32 × Int32 × Int32 × Int32 × Int64 × Int32 × Int32 × (Nat → Int32) × (Nat → Int32) × (Nat → Int32) × Int32 × Int32 × (Nat → Int32))) => (if u_1 = 0 then (j50_19 1097 f_xR_moves f_xR_bounces f_xR_potted f_xR_brings f_xR_firstHitDirection f_xR_firstHitPower f_xR_foul f_xRT_taken f_xRT_size f_xRT_spot v_xRTc v_xRTk v_xRTw f_xA_chosen f_xA_value v_xUn) else ((f_X11_digestOfBalls n f_x_tablesRead f_xG_seen f_xGT_taken f_xGT_size f_xGT_spot v_xGTc v_xGTk v_xGTw v_xGb v_xGd v_xGe v_xGf f_xR_moves f_xR_bounces f_xR_potted f_xR_brings f_xR_firstHitDirection f_xR_firstHitPower f_xR_foul f_xRT_taken f_xRT_size f_xRT_spot v_xRTc v_xRTk v_xRTw v_xUn 1097).bind (fun u_30 => (jn (fun (x1_31 : Int64) => ((f_X11_digestOfStrokes n f_xGT_taken f_xGT_size f_xGT_spot v_xGTc v_xGTk v_xGTw u_30.2.1 u_30.2.2.1 u_30.2.2.2.1 u_30.2.2.2.2.1 u_30.2.2.2.2.2.1 u_30.2.2.2.2.2.2.1 u_30.2.2.2.2.2.2.2.1 u_30.2.2.2.2.2.2.2.2.1 u_30.2.2.2.2.2.2.2.2.2.1 u_30.2.2.2.2.2.2.2.2.2.2.1 u_30.2.2.2.2.2.2.2.2.2.2.2.1 u_30.2.2.2.2.2.2.2.2.2.2.2.2.1 u_30.2.2.2.2.2.2.2.2.2.2.2.2.2.1 f_xA_chosen f_xA_value x1_31).bind (fun u_33 => (j50_19 u_33.1 u_33.2.1 u_33.2.2.1 u_33.2.2.2.1 u_33.2.2.2.2.1 u_33.2.2.2.2.2.1 u_33.2.2.2.2.2.2.1 u_33.2.2.2.2.2.2.2.1 u_33.2.2.2.2.2.2.2.2.1 u_33.2.2.2.2.2.2.2.2.2.1 u_33.2.2.2.2.2.2.2.2.2.2.1 u_33.2.2.2.2.2.2.2.2.2.2.2.1 u_33.2.2.2.2.2.2.2.2.2.2.2.2.1 u_33.2.2.2.2.2.2.2.2.2.2.2.2.2.1 u_33.2.2.2.2.2.2.2.2.2.2.2.2.2.2.1 u_33.2.2.2.2.2.2.2.2.2.2.2.2.2.2.2 u_30.2.2.2.2.2.2.2.2.2.2.2.2.2.2)))) (fun (j44_32 : Int64 → Option (Int64 × Int32 × Int32 × Int32 × Int32 × Int32 × Int32 × Int32 × Int64 × Int32 × Int32 × (Nat → Int32) × (Nat → Int32) × (Nat → Int32) × Int32 × Int32 × (Nat → Int32))) => (f_X11_digest_L19 f_x_tablesRead f_xGT_taken v_xGTc n j44_32 n u_30.1 0))))))))))
def b_L_law_L18 (n : Nat) (L : Nat) (xs : Nat → Int32) (go_103 : Int32 → Int32 → Int32 → Int32 → Int32 → Int32 → (Nat → Int32) → Int32 → Int32 → Int32 → Int32 → Int64 → Int32 → Int32 → (Nat → Int32) → (Nat → Int32) → (Nat → Int32) → (Nat → Int32) → (Nat → Int32) → (Nat → Int32) → (Nat → Int32) → Int32 → Int32 → Int32 → Int32 → Int64 → Int32 → Int32 → (Nat → Int32) → (Nat → Int32) → (Nat → Int32) → (Nat → Int32) → (Nat → Int32) → (Nat → Int32) → (Nat → Int32) → Int32 → Int32 → Int32 → Int32 → Int32 → Int32 → Int32 → Int64 → Int32 → Int32 → (Nat → Int32) → (Nat → Int32) → (Nat → Int32) → Int32 → Int32 → Int32 → Int32 → Int32 → Int32 → Int32 → Int32 → Int32 → Int64 → Int32 → Int32 → (Nat → Int32) → (Nat → Int32) → (Nat → Int32) → (Nat → Int32) → Int32 → Int32 → Int32 → Int32 → Int32 → Int32 → Int32 → Int32 → Int32 → Int32 → Int32 → Int32 → Int32 → Int32 → Int32 → Int32 → Int32 → Int32 → Int32 → Int32 → Int32 → Int32 → Int32 → Int32 → Int32 → Int32 → Int64 → (Nat → Int32) → (Nat → Int32) → (Nat → Int32) → (Nat → Int32) → (Nat → Int32) → (Nat → Int32) → (Nat → Int32) → (Nat → Int32) → (Nat → Int32) → (Nat → Int32) → (Nat → Int32) → Option (Int32)) (x3_1 : Int32) (f_x_imageKept_2 : Int32) (f_x_tablesRead_3 : Int32) (f_x_plansDone_4 : Int32) (f_x_safesDone_5 : Int32) (f_xP_size_6 : Int32) (v_xPl_7 : Nat → Int32) (f_xG_seen_8 : Int32) (f_xG_score_9 : Int32) (f_xG_strokes_10 : Int32) (f_xG_fouls_11 : Int32) (f_xGT_taken_12 : Int64) (f_xGT_size_13 : Int32) (f_xGT_spot_14 : Int32) (v_xGTc_15 : Nat → Int32) (v_xGTk_16 : Nat → Int32) (v_xGTw_17 : Nat → Int32) (v_xGb_18 : Nat → Int32) (v_xGd_19 : Nat → Int32) (v_xGe_20 : Nat → Int32) (v_xGf_21 : Nat → Int32) (f_xK_seen_22 : Int32) (f_xK_score_23 : Int32) (f_xK_strokes_24 : Int32) (f_xK_fouls_25 : Int32) (f_xKT_taken_26 : Int64) (f_xKT_size_27 : Int32) (f_xKT_spot_28 : Int32) (v_xKTc_29 : Nat → Int32) (v_xKTk_30 : Nat → Int32) (v_xKTw_31 : Nat → Int32) (v_xKb_32 : Nat → Int32) (v_xKd_33 : Nat → Int32) (v_xKe_34 : Nat → Int32) (v_xKf_35 : Nat → Int32) (f_xR_moves_36 : Int32) (f_xR_bounces_37 : Int32) (f_xR_potted_38 : Int32) (f_xR_brings_39 : Int32) (f_xR_firstHitDirection_40 : Int32) (f_xR_firstHitPower_41 : Int32) (f_xR_foul_42 : Int32) (f_xRT_taken_43 : Int64) (f_xRT_size_44 : Int32) (f_xRT_spot_45 : Int32) (v_xRTc_46 : Nat → Int32) (v_xRTk_47 : Nat → Int32) (v_xRTw_48 : Nat → Int32) (f_xA_chosen_49 : Int32) (f_xA_value_50 : Int32) (f_xAS_moves_51 : Int32) (f_xAS_bounces_52 : Int32) (f_xAS_potted_53 : Int32) (f_xAS_brings_54 : Int32) (f_xAS_firstHitDirection_55 : Int32) (f_xAS_firstHitPower_56 : Int32) (f_xAS_foul_57 : Int32) (f_xAST_taken_58 : Int64) (f_xAST_size_59 : Int32) (f_xAST_spot_60 : Int32) (v_xASTc_61 : Nat → Int32) (v_xASTk_62 : Nat → Int32) (v_xASTw_63 : Nat → Int32) (v_xUn_64 : Nat → Int32) (f_m_pageMany_65 : Int32) (f_m_balls_66 : Int32) (f_m_spot_67 : Int32) (f_m_score_68 : Int32) (f_m_strokesNow_69 : Int32) (f_m_fouls_70 : Int32) (f_m_tablesRead_71 : Int32) (f_m_potted_72 : Int32) (f_m_moves_73 : Int32) (f_m_bounces_74 : Int32) (f_m_hitFirst_75 : Int32) (f_m_hitPower_76 : Int32) (f_m_hitDown_77 : Int32) (f_m_hitRight_78 : Int32) (f_m_isFoul_79 : Int32) (f_m_bestCode_80 : Int32) (f_m_bestBrings_81 : Int32) (f_m_plansDone_82 : Int32) (f_m_safesDone_83 : Int32) (f_m_seenMany_84 : Int32) (f_m_seedNow_85 : Int32) (f_m_keptTable_86 : Int32) (f_m_keptScore_87 : Int32) (f_m_keptStrokes_88 : Int32) (f_m_keptFouls_89 : Int32) (f_m_keptSeen_90 : Int32) (f_m_hash_91 : Int64) (v_mP_92 : Nat → Int32) (v_mk_93 : Nat → Int32) (v_mw_94 : Nat → Int32) (v_mc_95 : Nat → Int32) (v_mo_96 : Nat → Int32) (v_mt_97 : Nat → Int32) (v_ms_98 : Nat → Int32) (v_mb_99 : Nat → Int32) (v_mK_100 : Nat → Int32) (v_mC_101 : Nat → Int32) (v_mS_102 : Nat → Int32) : Option (Int32) :=
  (if ((Int32.ofNat L) - 5) < x3_1 then (some 1) else (gd (inb x3_1 L) (bnd ((xs x3_1.toNatClampNeg) &&& 31) (fun w_107 => (jn (fun (f_x_imageKept_108 : Int32) (f_x_tablesRead_109 : Int32) (f_x_plansDone_110 : Int32) (f_x_safesDone_111 : Int32) (f_xP_size_112 : Int32) (v_xPl_113 : Nat → Int32) (f_xG_seen_114 : Int32) (f_xG_score_115 : Int32) (f_xG_strokes_116 : Int32) (f_xG_fouls_117 : Int32) (f_xGT_taken_118 : Int64) (f_xGT_size_119 : Int32) (f_xGT_spot_120 : Int32) (v_xGTc_121 : Nat → Int32) (v_xGTk_122 : Nat → Int32) (v_xGTw_123 : Nat → Int32) (v_xGb_124 : Nat → Int32) (v_xGd_125 : Nat → Int32) (v_xGe_126 : Nat → Int32) (v_xGf_127 : Nat → Int32) (f_xK_seen_128 : Int32) (f_xK_score_129 : Int32) (f_xK_strokes_130 : Int32) (f_xK_fouls_131 : Int32) (f_xKT_taken_132 : Int64) (f_xKT_size_133 : Int32) (f_xKT_spot_134 : Int32) (v_xKTc_135 : Nat → Int32) (v_xKTk_136 : Nat → Int32) (v_xKTw_137 : Nat → Int32) (v_xKb_138 : Nat → Int32) (v_xKd_139 : Nat → Int32) (v_xKe_140 : Nat → Int32) (v_xKf_141 : Nat → Int32) (f_xR_moves_142 : Int32) (f_xR_bounces_143 : Int32) (f_xR_potted_144 : Int32) (f_xR_brings_145 : Int32) (f_xR_firstHitDirection_146 : Int32) (f_xR_firstHitPower_147 : Int32) (f_xR_foul_148 : Int32) (f_xRT_taken_149 : Int64) (f_xRT_size_150 : Int32) (f_xRT_spot_151 : Int32) (v_xRTc_152 : Nat → Int32) (v_xRTk_153 : Nat → Int32) (v_xRTw_154 : Nat → Int32) (f_xA_chosen_155 : Int32) (f_xA_value_156 : Int32) (f_xAS_moves_157 : Int32) (f_xAS_bounces_158 : Int32) (f_xAS_potted_159 : Int32) (f_xAS_brings_160 : Int32) (f_xAS_firstHitDirection_161 : Int32) (f_xAS_firstHitPower_162 : Int32) (f_xAS_foul_163 : Int32) (f_xAST_taken_164 : Int64) (f_xAST_size_165 : Int32) (f_xAST_spot_166 : Int32) (v_xASTc_167 : Nat → Int32) (v_xASTk_168 : Nat → Int32) (v_xASTw_169 : Nat → Int32) (v_xUn_170 : Nat → Int32) (f_m_pageMany_171 : Int32) (f_m_balls_172 : Int32) (f_m_spot_173 : Int32) (f_m_score_174 : Int32) (f_m_strokesNow_175 : Int32) (f_m_fouls_176 : Int32) (f_m_tablesRead_177 : Int32) (f_m_potted_178 : Int32) (f_m_moves_179 : Int32) (f_m_bounces_180 : Int32) (f_m_hitFirst_181 : Int32) (f_m_hitPower_182 : Int32) (f_m_hitDown_183 : Int32) (f_m_hitRight_184 : Int32) (f_m_isFoul_185 : Int32) (f_m_bestCode_186 : Int32) (f_m_bestBrings_187 : Int32) (f_m_plansDone_188 : Int32) (f_m_safesDone_189 : Int32) (f_m_seenMany_190 : Int32) (f_m_seedNow_191 : Int32) (f_m_keptTable_192 : Int32) (f_m_keptScore_193 : Int32) (f_m_keptStrokes_194 : Int32) (f_m_keptFouls_195 : Int32) (f_m_keptSeen_196 : Int32) (f_m_hash_197 : Int64) (v_mP_198 : Nat → Int32) (v_mk_199 : Nat → Int32) (v_mw_200 : Nat → Int32) (v_mc_201 : Nat → Int32) (v_mo_202 : Nat → Int32) (v_mt_203 : Nat → Int32) (v_ms_204 : Nat → Int32) (v_mb_205 : Nat → Int32) (v_mK_206 : Nat → Int32) (v_mC_207 : Nat → Int32) (v_mS_208 : Nat → Int32) => (bnd (x3_1 + 5) (fun x3_210 => (go_103 x3_210 f_x_imageKept_108 f_x_tablesRead_109 f_x_plansDone_110 f_x_safesDone_111 f_xP_size_112 v_xPl_113 f_xG_seen_114 f_xG_score_115 f_xG_strokes_116 f_xG_fouls_117 f_xGT_taken_118 f_xGT_size_119 f_xGT_spot_120 v_xGTc_121 v_xGTk_122 v_xGTw_123 v_xGb_124 v_xGd_125 v_xGe_126 v_xGf_127 f_xK_seen_128 f_xK_score_129 f_xK_strokes_130 f_xK_fouls_131 f_xKT_taken_132 f_xKT_size_133 f_xKT_spot_134 v_xKTc_135 v_xKTk_136 v_xKTw_137 v_xKb_138 v_xKd_139 v_xKe_140 v_xKf_141 f_xR_moves_142 f_xR_bounces_143 f_xR_potted_144 f_xR_brings_145 f_xR_firstHitDirection_146 f_xR_firstHitPower_147 f_xR_foul_148 f_xRT_taken_149 f_xRT_size_150 f_xRT_spot_151 v_xRTc_152 v_xRTk_153 v_xRTw_154 f_xA_chosen_155 f_xA_value_156 f_xAS_moves_157 f_xAS_bounces_158 f_xAS_potted_159 f_xAS_brings_160 f_xAS_firstHitDirection_161 f_xAS_firstHitPower_162 f_xAS_foul_163 f_xAST_taken_164 f_xAST_size_165 f_xAST_spot_166 v_xASTc_167 v_xASTk_168 v_xASTw_169 v_xUn_170 f_m_pageMany_171 f_m_balls_172 f_m_spot_173 f_m_score_174 f_m_strokesNow_175 f_m_fouls_176 f_m_tablesRead_177 f_m_potted_178 f_m_moves_179 f_m_bounces_180 f_m_hitFirst_181 f_m_hitPower_182 f_m_hitDown_183 f_m_hitRight_184 f_m_isFoul_185 f_m_bestCode_186 f_m_bestBrings_187 f_m_plansDone_188 f_m_safesDone_189 f_m_seenMany_190 f_m_seedNow_191 f_m_keptTable_192 f_m_keptScore_193 f_m_keptStrokes_194 f_m_keptFouls_195 f_m_keptSeen_196 f_m_hash_197 v_mP_198 v_mk_199 v_mw_200 v_mc_201 v_mo_202 v_mt_203 v_ms_204 v_mb_205 v_mK_206 v_mC_207 v_mS_208)))) (fun (j768_209 : Int32 → Int32 → Int32 → Int32 → Int32 → (Nat → Int32) → Int32 → Int32 → Int32 → Int32 → Int64 → Int32 → Int32 → (Nat → Int32) → (Nat → Int32) → (Nat → Int32) → (Nat → Int32) → (Nat → Int32) → (Nat → Int32) → (Nat → Int32) → Int32 → Int32 → Int32 → Int32 → Int64 → Int32 → Int32 → (Nat → Int32) → (Nat → Int32) → (Nat → Int32) → (Nat → Int32) → (Nat → Int32) → (Nat → Int32) → (Nat → Int32) → Int32 → Int32 → Int32 → Int32 → Int32 → Int32 → Int32 → Int64 → Int32 → Int32 → (Nat → Int32) → (Nat → Int32) → (Nat → Int32) → Int32 → Int32 → Int32 → Int32 → Int32 → Int32 → Int32 → Int32 → Int32 → Int64 → Int32 → Int32 → (Nat → Int32) → (Nat → Int32) → (Nat → Int32) → (Nat → Int32) → Int32 → Int32 → Int32 → Int32 → Int32 → Int32 → Int32 → Int32 → Int32 → Int32 → Int32 → Int32 → Int32 → Int32 → Int32 → Int32 → Int32 → Int32 → Int32 → Int32 → Int32 → Int32 → Int32 → Int32 → Int32 → Int32 → Int64 → (Nat → Int32) → (Nat → Int32) → (Nat → Int32) → (Nat → Int32) → (Nat → Int32) → (Nat → Int32) → (Nat → Int32) → (Nat → Int32) → (Nat → Int32) → (Nat → Int32) → (Nat → Int32) → Option (Int32)) => (if w_107 = 0 then (gd (inb (x3_1 + 1) L) ((f_X11_letter f_xP_size_6 v_xPl_7 (xs (x3_1 + 1).toNatClampNeg)).bind (fun u_213 => (gd (inb (x3_1 + 1) L) ((f_X12_letter f_m_pageMany_65 v_mP_92 (xs (x3_1 + 1).toNatClampNeg)).bind (fun u_215 => (if u_213.1 = u_215.1 then (j768_209 f_x_imageKept_2 f_x_tablesRead_3 f_x_plansDone_4 f_x_safesDone_5 u_213.2.1 u_213.2.2 f_xG_seen_8 f_xG_score_9 f_xG_strokes_10 f_xG_fouls_11 f_xGT_taken_12 f_xGT_size_13 f_xGT_spot_14 v_xGTc_15 v_xGTk_16 v_xGTw_17 v_xGb_18 v_xGd_19 v_xGe_20 v_xGf_21 f_xK_seen_22 f_xK_score_23 f_xK_strokes_24 f_xK_fouls_25 f_xKT_taken_26 f_xKT_size_27 f_xKT_spot_28 v_xKTc_29 v_xKTk_30 v_xKTw_31 v_xKb_32 v_xKd_33 v_xKe_34 v_xKf_35 f_xR_moves_36 f_xR_bounces_37 f_xR_potted_38 f_xR_brings_39 f_xR_firstHitDirection_40 f_xR_firstHitPower_41 f_xR_foul_42 f_xRT_taken_43 f_xRT_size_44 f_xRT_spot_45 v_xRTc_46 v_xRTk_47 v_xRTw_48 f_xA_chosen_49 f_xA_value_50 f_xAS_moves_51 f_xAS_bounces_52 f_xAS_potted_53 f_xAS_brings_54 f_xAS_firstHitDirection_55 f_xAS_firstHitPower_56 f_xAS_foul_57 f_xAST_taken_58 f_xAST_size_59 f_xAST_spot_60 v_xASTc_61 v_xASTk_62 v_xASTw_63 v_xUn_64 u_215.2.1 f_m_balls_66 f_m_spot_67 f_m_score_68 f_m_strokesNow_69 f_m_fouls_70 f_m_tablesRead_71 f_m_potted_72 f_m_moves_73 f_m_bounces_74 f_m_hitFirst_75 f_m_hitPower_76 f_m_hitDown_77 f_m_hitRight_78 f_m_isFoul_79 f_m_bestCode_80 f_m_bestBrings_81 f_m_plansDone_82 f_m_safesDone_83 f_m_seenMany_84 f_m_seedNow_85 f_m_keptTable_86 f_m_keptScore_87 f_m_keptStrokes_88 f_m_keptFouls_89 f_m_keptSeen_90 f_m_hash_91 u_215.2.2 v_mk_93 v_mw_94 v_mc_95 v_mo_96 v_mt_97 v_ms_98 v_mb_99 v_mK_100 v_mC_101 v_mS_102) else (some 0)))))))) else (if w_107 = 1 then ((f_X11_blank f_xP_size_6).bind (fun u_218 => ((f_X12_blank f_m_pageMany_65).bind (fun u_219 => (if u_218.1 = u_219.1 then (j768_209 f_x_imageKept_2 f_x_tablesRead_3 f_x_plansDone_4 f_x_safesDone_5 u_218.2 v_xPl_7 f_xG_seen_8 f_xG_score_9 f_xG_strokes_10 f_xG_fouls_11 f_xGT_taken_12 f_xGT_size_13 f_xGT_spot_14 v_xGTc_15 v_xGTk_16 v_xGTw_17 v_xGb_18 v_xGd_19 v_xGe_20 v_xGf_21 f_xK_seen_22 f_xK_score_23 f_xK_strokes_24 f_xK_fouls_25 f_xKT_taken_26 f_xKT_size_27 f_xKT_spot_28 v_xKTc_29 v_xKTk_30 v_xKTw_31 v_xKb_32 v_xKd_33 v_xKe_34 v_xKf_35 f_xR_moves_36 f_xR_bounces_37 f_xR_potted_38 f_xR_brings_39 f_xR_firstHitDirection_40 f_xR_firstHitPower_41 f_xR_foul_42 f_xRT_taken_43 f_xRT_size_44 f_xRT_spot_45 v_xRTc_46 v_xRTk_47 v_xRTw_48 f_xA_chosen_49 f_xA_value_50 f_xAS_moves_51 f_xAS_bounces_52 f_xAS_potted_53 f_xAS_brings_54 f_xAS_firstHitDirection_55 f_xAS_firstHitPower_56 f_xAS_foul_57 f_xAST_taken_58 f_xAST_size_59 f_xAST_spot_60 v_xASTc_61 v_xASTk_62 v_xASTw_63 v_xUn_64 u_219.2 f_m_balls_66 f_m_spot_67 f_m_score_68 f_m_strokesNow_69 f_m_fouls_70 f_m_tablesRead_71 f_m_potted_72 f_m_moves_73 f_m_bounces_74 f_m_hitFirst_75 f_m_hitPower_76 f_m_hitDown_77 f_m_hitRight_78 f_m_isFoul_79 f_m_bestCode_80 f_m_bestBrings_81 f_m_plansDone_82 f_m_safesDone_83 f_m_seenMany_84 f_m_seedNow_85 f_m_keptTable_86 f_m_keptScore_87 f_m_keptStrokes_88 f_m_keptFouls_89 f_m_keptSeen_90 f_m_hash_91 v_mP_92 v_mk_93 v_mw_94 v_mc_95 v_mo_96 v_mt_97 v_ms_98 v_mb_99 v_mK_100 v_mC_101 v_mS_102) else (some 0)))))) else (if w_107 = 2 then ((f_X11_fault n f_xP_size_6 v_xPl_7).bind (fun u_222 => ((f_X12_fault n f_m_pageMany_65 v_mP_92).bind (fun u_223 => (if u_222 = u_223 then (j768_209 f_x_imageKept_2 f_x_tablesRead_3 f_x_plansDone_4 f_x_safesDone_5 f_xP_size_6 v_xPl_7 f_xG_seen_8 f_xG_score_9 f_xG_strokes_10 f_xG_fouls_11 f_xGT_taken_12 f_xGT_size_13 f_xGT_spot_14 v_xGTc_15 v_xGTk_16 v_xGTw_17 v_xGb_18 v_xGd_19 v_xGe_20 v_xGf_21 f_xK_seen_22 f_xK_score_23 f_xK_strokes_24 f_xK_fouls_25 f_xKT_taken_26 f_xKT_size_27 f_xKT_spot_28 v_xKTc_29 v_xKTk_30 v_xKTw_31 v_xKb_32 v_xKd_33 v_xKe_34 v_xKf_35 f_xR_moves_36 f_xR_bounces_37 f_xR_potted_38 f_xR_brings_39 f_xR_firstHitDirection_40 f_xR_firstHitPower_41 f_xR_foul_42 f_xRT_taken_43 f_xRT_size_44 f_xRT_spot_45 v_xRTc_46 v_xRTk_47 v_xRTw_48 f_xA_chosen_49 f_xA_value_50 f_xAS_moves_51 f_xAS_bounces_52 f_xAS_potted_53 f_xAS_brings_54 f_xAS_firstHitDirection_55 f_xAS_firstHitPower_56 f_xAS_foul_57 f_xAST_taken_58 f_xAST_size_59 f_xAST_spot_60 v_xASTc_61 v_xASTk_62 v_xASTw_63 v_xUn_64 f_m_pageMany_65 f_m_balls_66 f_m_spot_67 f_m_score_68 f_m_strokesNow_69 f_m_fouls_70 f_m_tablesRead_71 f_m_potted_72 f_m_moves_73 f_m_bounces_74 f_m_hitFirst_75 f_m_hitPower_76 f_m_hitDown_77 f_m_hitRight_78 f_m_isFoul_79 f_m_bestCode_80 f_m_bestBrings_81 f_m_plansDone_82 f_m_safesDone_83 f_m_seenMany_84 f_m_seedNow_85 f_m_keptTable_86 f_m_keptScore_87 f_m_keptStrokes_88 f_m_keptFouls_89 f_m_keptSeen_90 f_m_hash_91 v_mP_92 v_mk_93 v_mw_94 v_mc_95 v_mo_96 v_mt_97 v_ms_98 v_mb_99 v_mK_100 v_mC_101 v_mS_102) else (some 0)))))) else (if w_107 = 3 then ((f_X11_table n f_x_imageKept_2 f_x_tablesRead_3 f_xP_size_6 v_xPl_7 f_xG_seen_8 f_xG_score_9 f_xG_strokes_10 f_xG_fouls_11 f_xGT_taken_12 f_xGT_size_13 f_xGT_spot_14 v_xGTc_15 v_xGTk_16 v_xGTw_17).bind (fun u_226 => ((f_X12_table n f_m_pageMany_65 f_m_balls_66 f_m_spot_67 f_m_score_68 f_m_strokesNow_69 f_m_fouls_70 f_m_tablesRead_71 f_m_seenMany_84 v_mP_92 v_mk_93 v_mw_94 v_mc_95).bind (fun u_227 => (if u_226.1 = u_227.1 then (j768_209 u_226.2.1 u_226.2.2.1 f_x_plansDone_4 f_x_safesDone_5 u_226.2.2.2.1 v_xPl_7 u_226.2.2.2.2.1 u_226.2.2.2.2.2.1 u_226.2.2.2.2.2.2.1 u_226.2.2.2.2.2.2.2.1 u_226.2.2.2.2.2.2.2.2.1 u_226.2.2.2.2.2.2.2.2.2.1 u_226.2.2.2.2.2.2.2.2.2.2.1 u_226.2.2.2.2.2.2.2.2.2.2.2.1 u_226.2.2.2.2.2.2.2.2.2.2.2.2.1 u_226.2.2.2.2.2.2.2.2.2.2.2.2.2 v_xGb_18 v_xGd_19 v_xGe_20 v_xGf_21 f_xK_seen_22 f_xK_score_23 f_xK_strokes_24 f_xK_fouls_25 f_xKT_taken_26 f_xKT_size_27 f_xKT_spot_28 v_xKTc_29 v_xKTk_30 v_xKTw_31 v_xKb_32 v_xKd_33 v_xKe_34 v_xKf_35 f_xR_moves_36 f_xR_bounces_37 f_xR_potted_38 f_xR_brings_39 f_xR_firstHitDirection_40 f_xR_firstHitPower_41 f_xR_foul_42 f_xRT_taken_43 f_xRT_size_44 f_xRT_spot_45 v_xRTc_46 v_xRTk_47 v_xRTw_48 f_xA_chosen_49 f_xA_value_50 f_xAS_moves_51 f_xAS_bounces_52 f_xAS_potted_53 f_xAS_brings_54 f_xAS_firstHitDirection_55 f_xAS_firstHitPower_56 f_xAS_foul_57 f_xAST_taken_58 f_xAST_size_59 f_xAST_spot_60 v_xASTc_61 v_xASTk_62 v_xASTw_63 v_xUn_64 u_227.2.1 u_227.2.2.1 u_227.2.2.2.1 u_227.2.2.2.2.1 u_227.2.2.2.2.2.1 u_227.2.2.2.2.2.2.1 u_227.2.2.2.2.2.2.2.1 f_m_potted_72 f_m_moves_73 f_m_bounces_74 f_m_hitFirst_75 f_m_hitPower_76 f_m_hitDown_77 f_m_hitRight_78 f_m_isFoul_79 f_m_bestCode_80 f_m_bestBrings_81 f_m_plansDone_82 f_m_safesDone_83 u_227.2.2.2.2.2.2.2.2.1 f_m_seedNow_85 f_m_keptTable_86 f_m_keptScore_87 f_m_keptStrokes_88 f_m_keptFouls_89 f_m_keptSeen_90 f_m_hash_91 v_mP_92 u_227.2.2.2.2.2.2.2.2.2.1 u_227.2.2.2.2.2.2.2.2.2.2.1 u_227.2.2.2.2.2.2.2.2.2.2.2 v_mo_96 v_mt_97 v_ms_98 v_mb_99 v_mK_100 v_mC_101 v_mS_102) else (some 0)))))) else (if w_107 = 4 then (gd (inb (x3_1 + 1) L) (gd (inb (x3_1 + 2) L) ((f_X11_ball n f_x_tablesRead_3 f_xG_seen_8 f_xGT_taken_12 f_xGT_size_13 f_xGT_spot_14 v_xGTc_15 v_xGTk_16 v_xGTw_17 v_xGb_18 v_xGd_19 v_xGe_20 v_xGf_21 f_xR_moves_36 f_xR_bounces_37 f_xR_potted_38 f_xR_brings_39 f_xR_firstHitDirection_40 f_xR_firstHitPower_41 f_xR_foul_42 f_xRT_taken_43 f_xRT_size_44 f_xRT_spot_45 v_xRTc_46 v_xRTk_47 v_xRTw_48 v_xUn_64 (xs (x3_1 + 1).toNatClampNeg) (xs (x3_1 + 2).toNatClampNeg)).bind (fun u_232 => (gd (inb (x3_1 + 1) L) (gd (inb (x3_1 + 2) L) ((f_X12_ball n f_m_balls_66 f_m_spot_67 f_m_potted_72 f_m_moves_73 f_m_bounces_74 f_m_hitFirst_75 f_m_hitPower_76 f_m_hitDown_77 f_m_hitRight_78 f_m_isFoul_79 f_m_seenMany_84 v_mk_93 v_mw_94 v_mc_95 v_mo_96 v_ms_98 v_mb_99 (xs (x3_1 + 1).toNatClampNeg) (xs (x3_1 + 2).toNatClampNeg)).bind (fun u_235 => (if u_232.1 = u_235.1 then (j768_209 f_x_imageKept_2 f_x_tablesRead_3 f_x_plansDone_4 f_x_safesDone_5 f_xP_size_6 v_xPl_7 f_xG_seen_8 f_xG_score_9 f_xG_strokes_10 f_xG_fouls_11 f_xGT_taken_12 f_xGT_size_13 f_xGT_spot_14 v_xGTc_15 v_xGTk_16 v_xGTw_17 v_xGb_18 v_xGd_19 v_xGe_20 v_xGf_21 f_xK_seen_22 f_xK_score_23 f_xK_strokes_24 f_xK_fouls_25 f_xKT_taken_26 f_xKT_size_27 f_xKT_spot_28 v_xKTc_29 v_xKTk_30 v_xKTw_31 v_xKb_32 v_xKd_33 v_xKe_34 v_xKf_35 u_232.2.1 u_232.2.2.1 u_232.2.2.2.1 u_232.2.2.2.2.1 u_232.2.2.2.2.2.1 u_232.2.2.2.2.2.2.1 u_232.2.2.2.2.2.2.2.1 u_232.2.2.2.2.2.2.2.2.1 u_232.2.2.2.2.2.2.2.2.2.1 u_232.2.2.2.2.2.2.2.2.2.2.1 u_232.2.2.2.2.2.2.2.2.2.2.2.1 u_232.2.2.2.2.2.2.2.2.2.2.2.2.1 u_232.2.2.2.2.2.2.2.2.2.2.2.2.2.1 f_xA_chosen_49 f_xA_value_50 f_xAS_moves_51 f_xAS_bounces_52 f_xAS_potted_53 f_xAS_brings_54 f_xAS_firstHitDirection_55 f_xAS_firstHitPower_56 f_xAS_foul_57 f_xAST_taken_58 f_xAST_size_59 f_xAST_spot_60 v_xASTc_61 v_xASTk_62 v_xASTw_63 u_232.2.2.2.2.2.2.2.2.2.2.2.2.2.2 f_m_pageMany_65 f_m_balls_66 f_m_spot_67 f_m_score_68 f_m_strokesNow_69 f_m_fouls_70 f_m_tablesRead_71 u_235.2.1 u_235.2.2.1 u_235.2.2.2.1 u_235.2.2.2.2.1 u_235.2.2.2.2.2.1 u_235.2.2.2.2.2.2.1 u_235.2.2.2.2.2.2.2.1 u_235.2.2.2.2.2.2.2.2.1 f_m_bestCode_80 f_m_bestBrings_81 f_m_plansDone_82 f_m_safesDone_83 f_m_seenMany_84 f_m_seedNow_85 f_m_keptTable_86 f_m_keptScore_87 f_m_keptStrokes_88 f_m_keptFouls_89 f_m_keptSeen_90 f_m_hash_91 v_mP_92 u_235.2.2.2.2.2.2.2.2.2.1 v_mw_94 v_mc_95 u_235.2.2.2.2.2.2.2.2.2.2.1 v_mt_97 v_ms_98 u_235.2.2.2.2.2.2.2.2.2.2.2 v_mK_100 v_mC_101 v_mS_102) else (some 0)))))))))) else (if w_107 = 5 then (gd (inb (x3_1 + 1) L) (gd (inb (x3_1 + 2) L) ((f_X11_as f_x_tablesRead_3 f_xGT_size_13 v_xGTk_16 (xs (x3_1 + 1).toNatClampNeg) (xs (x3_1 + 2).toNatClampNeg)).bind (fun u_240 => (gd (inb (x3_1 + 1) L) (gd (inb (x3_1 + 2) L) ((f_X12_as f_m_balls_66 v_mk_93 (xs (x3_1 + 1).toNatClampNeg) (xs (x3_1 + 2).toNatClampNeg)).bind (fun u_243 => (if u_240 = u_243 then (j768_209 f_x_imageKept_2 f_x_tablesRead_3 f_x_plansDone_4 f_x_safesDone_5 f_xP_size_6 v_xPl_7 f_xG_seen_8 f_xG_score_9 f_xG_strokes_10 f_xG_fouls_11 f_xGT_taken_12 f_xGT_size_13 f_xGT_spot_14 v_xGTc_15 v_xGTk_16 v_xGTw_17 v_xGb_18 v_xGd_19 v_xGe_20 v_xGf_21 f_xK_seen_22 f_xK_score_23 f_xK_strokes_24 f_xK_fouls_25 f_xKT_taken_26 f_xKT_size_27 f_xKT_spot_28 v_xKTc_29 v_xKTk_30 v_xKTw_31 v_xKb_32 v_xKd_33 v_xKe_34 v_xKf_35 f_xR_moves_36 f_xR_bounces_37 f_xR_potted_38 f_xR_brings_39 f_xR_firstHitDirection_40 f_xR_firstHitPower_41 f_xR_foul_42 f_xRT_taken_43 f_xRT_size_44 f_xRT_spot_45 v_xRTc_46 v_xRTk_47 v_xRTw_48 f_xA_chosen_49 f_xA_value_50 f_xAS_moves_51 f_xAS_bounces_52 f_xAS_potted_53 f_xAS_brings_54 f_xAS_firstHitDirection_55 f_xAS_firstHitPower_56 f_xAS_foul_57 f_xAST_taken_58 f_xAST_size_59 f_xAST_spot_60 v_xASTc_61 v_xASTk_62 v_xASTw_63 v_xUn_64 f_m_pageMany_65 f_m_balls_66 f_m_spot_67 f_m_score_68 f_m_strokesNow_69 f_m_fouls_70 f_m_tablesRead_71 f_m_potted_72 f_m_moves_73 f_m_bounces_74 f_m_hitFirst_75 f_m_hitPower_76 f_m_hitDown_77 f_m_hitRight_78 f_m_isFoul_79 f_m_bestCode_80 f_m_bestBrings_81 f_m_plansDone_82 f_m_safesDone_83 f_m_seenMany_84 f_m_seedNow_85 f_m_keptTable_86 f_m_keptScore_87 f_m_keptStrokes_88 f_m_keptFouls_89 f_m_keptSeen_90 f_m_hash_91 v_mP_92 v_mk_93 v_mw_94 v_mc_95 v_mo_96 v_mt_97 v_ms_98 v_mb_99 v_mK_100 v_mC_101 v_mS_102) else (some 0)))))))))) else (if w_107 = 6 then (gd (inb (x3_1 + 1) L) ((f_X11_cell n f_x_tablesRead_3 f_xGT_taken_12 v_xGTc_15 (xs (x3_1 + 1).toNatClampNeg)).bind (fun u_247 => (gd (inb (x3_1 + 1) L) ((f_X12_cell n f_m_balls_66 v_mc_95 (xs (x3_1 + 1).toNatClampNeg)).bind (fun u_249 => (if u_247 = u_249 then (j768_209 f_x_imageKept_2 f_x_tablesRead_3 f_x_plansDone_4 f_x_safesDone_5 f_xP_size_6 v_xPl_7 f_xG_seen_8 f_xG_score_9 f_xG_strokes_10 f_xG_fouls_11 f_xGT_taken_12 f_xGT_size_13 f_xGT_spot_14 v_xGTc_15 v_xGTk_16 v_xGTw_17 v_xGb_18 v_xGd_19 v_xGe_20 v_xGf_21 f_xK_seen_22 f_xK_score_23 f_xK_strokes_24 f_xK_fouls_25 f_xKT_taken_26 f_xKT_size_27 f_xKT_spot_28 v_xKTc_29 v_xKTk_30 v_xKTw_31 v_xKb_32 v_xKd_33 v_xKe_34 v_xKf_35 f_xR_moves_36 f_xR_bounces_37 f_xR_potted_38 f_xR_brings_39 f_xR_firstHitDirection_40 f_xR_firstHitPower_41 f_xR_foul_42 f_xRT_taken_43 f_xRT_size_44 f_xRT_spot_45 v_xRTc_46 v_xRTk_47 v_xRTw_48 f_xA_chosen_49 f_xA_value_50 f_xAS_moves_51 f_xAS_bounces_52 f_xAS_potted_53 f_xAS_brings_54 f_xAS_firstHitDirection_55 f_xAS_firstHitPower_56 f_xAS_foul_57 f_xAST_taken_58 f_xAST_size_59 f_xAST_spot_60 v_xASTc_61 v_xASTk_62 v_xASTw_63 v_xUn_64 f_m_pageMany_65 f_m_balls_66 f_m_spot_67 f_m_score_68 f_m_strokesNow_69 f_m_fouls_70 f_m_tablesRead_71 f_m_potted_72 f_m_moves_73 f_m_bounces_74 f_m_hitFirst_75 f_m_hitPower_76 f_m_hitDown_77 f_m_hitRight_78 f_m_isFoul_79 f_m_bestCode_80 f_m_bestBrings_81 f_m_plansDone_82 f_m_safesDone_83 f_m_seenMany_84 f_m_seedNow_85 f_m_keptTable_86 f_m_keptScore_87 f_m_keptStrokes_88 f_m_keptFouls_89 f_m_keptSeen_90 f_m_hash_91 v_mP_92 v_mk_93 v_mw_94 v_mc_95 v_mo_96 v_mt_97 v_ms_98 v_mb_99 v_mK_100 v_mC_101 v_mS_102) else (some 0)))))))) else (if w_107 = 7 then (gd (inb (x3_1 + 1) L) ((f_X11_sees n f_x_tablesRead_3 f_xGT_taken_12 v_xGTc_15 (xs (x3_1 + 1).toNatClampNeg)).bind (fun u_253 => (gd (inb (x3_1 + 1) L) ((f_X12_sees n f_m_balls_66 v_mc_95 (xs (x3_1 + 1).toNatClampNeg)).bind (fun u_255 => (if u_253 = u_255 then (j768_209 f_x_imageKept_2 f_x_tablesRead_3 f_x_plansDone_4 f_x_safesDone_5 f_xP_size_6 v_xPl_7 f_xG_seen_8 f_xG_score_9 f_xG_strokes_10 f_xG_fouls_11 f_xGT_taken_12 f_xGT_size_13 f_xGT_spot_14 v_xGTc_15 v_xGTk_16 v_xGTw_17 v_xGb_18 v_xGd_19 v_xGe_20 v_xGf_21 f_xK_seen_22 f_xK_score_23 f_xK_strokes_24 f_xK_fouls_25 f_xKT_taken_26 f_xKT_size_27 f_xKT_spot_28 v_xKTc_29 v_xKTk_30 v_xKTw_31 v_xKb_32 v_xKd_33 v_xKe_34 v_xKf_35 f_xR_moves_36 f_xR_bounces_37 f_xR_potted_38 f_xR_brings_39 f_xR_firstHitDirection_40 f_xR_firstHitPower_41 f_xR_foul_42 f_xRT_taken_43 f_xRT_size_44 f_xRT_spot_45 v_xRTc_46 v_xRTk_47 v_xRTw_48 f_xA_chosen_49 f_xA_value_50 f_xAS_moves_51 f_xAS_bounces_52 f_xAS_potted_53 f_xAS_brings_54 f_xAS_firstHitDirection_55 f_xAS_firstHitPower_56 f_xAS_foul_57 f_xAST_taken_58 f_xAST_size_59 f_xAST_spot_60 v_xASTc_61 v_xASTk_62 v_xASTw_63 v_xUn_64 f_m_pageMany_65 f_m_balls_66 f_m_spot_67 f_m_score_68 f_m_strokesNow_69 f_m_fouls_70 f_m_tablesRead_71 f_m_potted_72 f_m_moves_73 f_m_bounces_74 f_m_hitFirst_75 f_m_hitPower_76 f_m_hitDown_77 f_m_hitRight_78 f_m_isFoul_79 f_m_bestCode_80 f_m_bestBrings_81 f_m_plansDone_82 f_m_safesDone_83 f_m_seenMany_84 f_m_seedNow_85 f_m_keptTable_86 f_m_keptScore_87 f_m_keptStrokes_88 f_m_keptFouls_89 f_m_keptSeen_90 f_m_hash_91 v_mP_92 v_mk_93 v_mw_94 v_mc_95 v_mo_96 v_mt_97 v_ms_98 v_mb_99 v_mK_100 v_mC_101 v_mS_102) else (some 0)))))))) else (if w_107 = 8 then (gd (inb (x3_1 + 1) L) (gd (inb (x3_1 + 2) L) ((f_X11_put n f_x_tablesRead_3 f_xGT_taken_12 f_xGT_size_13 v_xGTc_15 (xs (x3_1 + 1).toNatClampNeg) (xs (x3_1 + 2).toNatClampNeg)).bind (fun u_260 => (gd (inb (x3_1 + 1) L) (gd (inb (x3_1 + 2) L) ((f_X12_put n f_m_balls_66 v_mc_95 (xs (x3_1 + 1).toNatClampNeg) (xs (x3_1 + 2).toNatClampNeg)).bind (fun u_263 => (if u_260.1 = u_263.1 then (j768_209 f_x_imageKept_2 f_x_tablesRead_3 f_x_plansDone_4 f_x_safesDone_5 f_xP_size_6 v_xPl_7 f_xG_seen_8 f_xG_score_9 f_xG_strokes_10 f_xG_fouls_11 u_260.2.1 f_xGT_size_13 f_xGT_spot_14 u_260.2.2 v_xGTk_16 v_xGTw_17 v_xGb_18 v_xGd_19 v_xGe_20 v_xGf_21 f_xK_seen_22 f_xK_score_23 f_xK_strokes_24 f_xK_fouls_25 f_xKT_taken_26 f_xKT_size_27 f_xKT_spot_28 v_xKTc_29 v_xKTk_30 v_xKTw_31 v_xKb_32 v_xKd_33 v_xKe_34 v_xKf_35 f_xR_moves_36 f_xR_bounces_37 f_xR_potted_38 f_xR_brings_39 f_xR_firstHitDirection_40 f_xR_firstHitPower_41 f_xR_foul_42 f_xRT_taken_43 f_xRT_size_44 f_xRT_spot_45 v_xRTc_46 v_xRTk_47 v_xRTw_48 f_xA_chosen_49 f_xA_value_50 f_xAS_moves_51 f_xAS_bounces_52 f_xAS_potted_53 f_xAS_brings_54 f_xAS_firstHitDirection_55 f_xAS_firstHitPower_56 f_xAS_foul_57 f_xAST_taken_58 f_xAST_size_59 f_xAST_spot_60 v_xASTc_61 v_xASTk_62 v_xASTw_63 v_xUn_64 f_m_pageMany_65 f_m_balls_66 f_m_spot_67 f_m_score_68 f_m_strokesNow_69 f_m_fouls_70 f_m_tablesRead_71 f_m_potted_72 f_m_moves_73 f_m_bounces_74 f_m_hitFirst_75 f_m_hitPower_76 f_m_hitDown_77 f_m_hitRight_78 f_m_isFoul_79 f_m_bestCode_80 f_m_bestBrings_81 f_m_plansDone_82 f_m_safesDone_83 f_m_seenMany_84 f_m_seedNow_85 f_m_keptTable_86 f_m_keptScore_87 f_m_keptStrokes_88 f_m_keptFouls_89 f_m_keptSeen_90 f_m_hash_91 v_mP_92 v_mk_93 v_mw_94 u_263.2 v_mo_96 v_mt_97 v_ms_98 v_mb_99 v_mK_100 v_mC_101 v_mS_102) else (some 0)))))))))) else (if w_107 = 9 then (gd (inb (x3_1 + 1) L) ((f_X11_lift f_x_tablesRead_3 f_xGT_taken_12 f_xGT_size_13 v_xGTc_15 (xs (x3_1 + 1).toNatClampNeg)).bind (fun u_267 => (gd (inb (x3_1 + 1) L) ((f_X12_lift f_m_balls_66 v_mc_95 (xs (x3_1 + 1).toNatClampNeg)).bind (fun u_269 => (if u_267.1 = u_269.1 then (j768_209 f_x_imageKept_2 f_x_tablesRead_3 f_x_plansDone_4 f_x_safesDone_5 f_xP_size_6 v_xPl_7 f_xG_seen_8 f_xG_score_9 f_xG_strokes_10 f_xG_fouls_11 u_267.2.1 f_xGT_size_13 f_xGT_spot_14 u_267.2.2 v_xGTk_16 v_xGTw_17 v_xGb_18 v_xGd_19 v_xGe_20 v_xGf_21 f_xK_seen_22 f_xK_score_23 f_xK_strokes_24 f_xK_fouls_25 f_xKT_taken_26 f_xKT_size_27 f_xKT_spot_28 v_xKTc_29 v_xKTk_30 v_xKTw_31 v_xKb_32 v_xKd_33 v_xKe_34 v_xKf_35 f_xR_moves_36 f_xR_bounces_37 f_xR_potted_38 f_xR_brings_39 f_xR_firstHitDirection_40 f_xR_firstHitPower_41 f_xR_foul_42 f_xRT_taken_43 f_xRT_size_44 f_xRT_spot_45 v_xRTc_46 v_xRTk_47 v_xRTw_48 f_xA_chosen_49 f_xA_value_50 f_xAS_moves_51 f_xAS_bounces_52 f_xAS_potted_53 f_xAS_brings_54 f_xAS_firstHitDirection_55 f_xAS_firstHitPower_56 f_xAS_foul_57 f_xAST_taken_58 f_xAST_size_59 f_xAST_spot_60 v_xASTc_61 v_xASTk_62 v_xASTw_63 v_xUn_64 f_m_pageMany_65 f_m_balls_66 f_m_spot_67 f_m_score_68 f_m_strokesNow_69 f_m_fouls_70 f_m_tablesRead_71 f_m_potted_72 f_m_moves_73 f_m_bounces_74 f_m_hitFirst_75 f_m_hitPower_76 f_m_hitDown_77 f_m_hitRight_78 f_m_isFoul_79 f_m_bestCode_80 f_m_bestBrings_81 f_m_plansDone_82 f_m_safesDone_83 f_m_seenMany_84 f_m_seedNow_85 f_m_keptTable_86 f_m_keptScore_87 f_m_keptStrokes_88 f_m_keptFouls_89 f_m_keptSeen_90 f_m_hash_91 v_mP_92 v_mk_93 v_mw_94 u_269.2 v_mo_96 v_mt_97 v_ms_98 v_mb_99 v_mK_100 v_mC_101 v_mS_102) else (some 0)))))))) else (if w_107 = 10 then (gd (inb (x3_1 + 1) L) (gd (inb (x3_1 + 2) L) ((f_X11_change f_x_tablesRead_3 f_xGT_size_13 v_xGTk_16 (xs (x3_1 + 1).toNatClampNeg) (xs (x3_1 + 2).toNatClampNeg)).bind (fun u_274 => (gd (inb (x3_1 + 1) L) (gd (inb (x3_1 + 2) L) ((f_X12_change f_m_balls_66 v_mk_93 (xs (x3_1 + 1).toNatClampNeg) (xs (x3_1 + 2).toNatClampNeg)).bind (fun u_277 => (if u_274.1 = u_277.1 then (j768_209 f_x_imageKept_2 f_x_tablesRead_3 f_x_plansDone_4 f_x_safesDone_5 f_xP_size_6 v_xPl_7 f_xG_seen_8 f_xG_score_9 f_xG_strokes_10 f_xG_fouls_11 f_xGT_taken_12 f_xGT_size_13 f_xGT_spot_14 v_xGTc_15 u_274.2 v_xGTw_17 v_xGb_18 v_xGd_19 v_xGe_20 v_xGf_21 f_xK_seen_22 f_xK_score_23 f_xK_strokes_24 f_xK_fouls_25 f_xKT_taken_26 f_xKT_size_27 f_xKT_spot_28 v_xKTc_29 v_xKTk_30 v_xKTw_31 v_xKb_32 v_xKd_33 v_xKe_34 v_xKf_35 f_xR_moves_36 f_xR_bounces_37 f_xR_potted_38 f_xR_brings_39 f_xR_firstHitDirection_40 f_xR_firstHitPower_41 f_xR_foul_42 f_xRT_taken_43 f_xRT_size_44 f_xRT_spot_45 v_xRTc_46 v_xRTk_47 v_xRTw_48 f_xA_chosen_49 f_xA_value_50 f_xAS_moves_51 f_xAS_bounces_52 f_xAS_potted_53 f_xAS_brings_54 f_xAS_firstHitDirection_55 f_xAS_firstHitPower_56 f_xAS_foul_57 f_xAST_taken_58 f_xAST_size_59 f_xAST_spot_60 v_xASTc_61 v_xASTk_62 v_xASTw_63 v_xUn_64 f_m_pageMany_65 f_m_balls_66 f_m_spot_67 f_m_score_68 f_m_strokesNow_69 f_m_fouls_70 f_m_tablesRead_71 f_m_potted_72 f_m_moves_73 f_m_bounces_74 f_m_hitFirst_75 f_m_hitPower_76 f_m_hitDown_77 f_m_hitRight_78 f_m_isFoul_79 f_m_bestCode_80 f_m_bestBrings_81 f_m_plansDone_82 f_m_safesDone_83 f_m_seenMany_84 f_m_seedNow_85 f_m_keptTable_86 f_m_keptScore_87 f_m_keptStrokes_88 f_m_keptFouls_89 f_m_keptSeen_90 f_m_hash_91 v_mP_92 u_277.2 v_mw_94 v_mc_95 v_mo_96 v_mt_97 v_ms_98 v_mb_99 v_mK_100 v_mC_101 v_mS_102) else (some 0)))))))))) else (if w_107 = 11 then (gd (inb (x3_1 + 1) L) (gd (inb (x3_1 + 2) L) (gd (inb (x3_1 + 3) L) ((f_X11_stroke n f_x_tablesRead_3 f_xG_score_9 f_xG_strokes_10 f_xG_fouls_11 f_xGT_taken_12 f_xGT_size_13 f_xGT_spot_14 v_xGTc_15 v_xGTk_16 v_xGTw_17 f_xR_moves_36 f_xR_bounces_37 f_xR_potted_38 f_xR_brings_39 f_xR_firstHitDirection_40 f_xR_firstHitPower_41 f_xR_foul_42 f_xRT_taken_43 f_xRT_size_44 f_xRT_spot_45 v_xRTc_46 v_xRTk_47 v_xRTw_48 (xs (x3_1 + 1).toNatClampNeg) (xs (x3_1 + 2).toNatClampNeg) (xs (x3_1 + 3).toNatClampNeg)).bind (fun u_283 => (gd (inb (x3_1 + 1) L) (gd (inb (x3_1 + 2) L) (gd (inb (x3_1 + 3) L) ((f_X12_stroke n f_m_balls_66 f_m_spot_67 f_m_score_68 f_m_strokesNow_69 f_m_fouls_70 f_m_potted_72 f_m_moves_73 f_m_bounces_74 f_m_hitFirst_75 f_m_hitPower_76 f_m_hitDown_77 f_m_hitRight_78 f_m_isFoul_79 v_mk_93 v_mw_94 v_mc_95 (xs (x3_1 + 1).toNatClampNeg) (xs (x3_1 + 2).toNatClampNeg) (xs (x3_1 + 3).toNatClampNeg)).bind (fun u_287 => (if u_283.1 = u_287.1 then (j768_209 f_x_imageKept_2 f_x_tablesRead_3 f_x_plansDone_4 f_x_safesDone_5 f_xP_size_6 v_xPl_7 f_xG_seen_8 u_283.2.1 u_283.2.2.1 u_283.2.2.2.1 u_283.2.2.2.2.1 u_283.2.2.2.2.2.1 u_283.2.2.2.2.2.2.1 u_283.2.2.2.2.2.2.2.1 u_283.2.2.2.2.2.2.2.2.1 u_283.2.2.2.2.2.2.2.2.2.1 v_xGb_18 v_xGd_19 v_xGe_20 v_xGf_21 f_xK_seen_22 f_xK_score_23 f_xK_strokes_24 f_xK_fouls_25 f_xKT_taken_26 f_xKT_size_27 f_xKT_spot_28 v_xKTc_29 v_xKTk_30 v_xKTw_31 v_xKb_32 v_xKd_33 v_xKe_34 v_xKf_35 u_283.2.2.2.2.2.2.2.2.2.2.1 u_283.2.2.2.2.2.2.2.2.2.2.2.1 u_283.2.2.2.2.2.2.2.2.2.2.2.2.1 u_283.2.2.2.2.2.2.2.2.2.2.2.2.2.1 u_283.2.2.2.2.2.2.2.2.2.2.2.2.2.2.1 u_283.2.2.2.2.2.2.2.2.2.2.2.2.2.2.2.1 u_283.2.2.2.2.2.2.2.2.2.2.2.2.2.2.2.2.1 u_283.2.2.2.2.2.2.2.2.2.2.2.2.2.2.2.2.2.1 u_283.2.2.2.2.2.2.2.2.2.2.2.2.2.2.2.2.2.2.1 u_283.2.2.2.2.2.2.2.2.2.2.2.2.2.2.2.2.2.2.2.1 u_283.2.2.2.2.2.2.2.2.2.2.2.2.2.2.2.2.2.2.2.2.1 u_283.2.2.2.2.2.2.2.2.2.2.2.2.2.2.2.2.2.2.2.2.2.1 u_283.2.2.2.2.2.2.2.2.2.2.2.2.2.2.2.2.2.2.2.2.2.2 f_xA_chosen_49 f_xA_value_50 f_xAS_moves_51 f_xAS_bounces_52 f_xAS_potted_53 f_xAS_brings_54 f_xAS_firstHitDirection_55 f_xAS_firstHitPower_56 f_xAS_foul_57 f_xAST_taken_58 f_xAST_size_59 f_xAST_spot_60 v_xASTc_61 v_xASTk_62 v_xASTw_63 v_xUn_64 f_m_pageMany_65 f_m_balls_66 f_m_spot_67 u_287.2.1 u_287.2.2.1 u_287.2.2.2.1 f_m_tablesRead_71 u_287.2.2.2.2.1 u_287.2.2.2.2.2.1 u_287.2.2.2.2.2.2.1 u_287.2.2.2.2.2.2.2.1 u_287.2.2.2.2.2.2.2.2.1 u_287.2.2.2.2.2.2.2.2.2.1 u_287.2.2.2.2.2.2.2.2.2.2.1 u_287.2.2.2.2.2.2.2.2.2.2.2.1 f_m_bestCode_80 f_m_bestBrings_81 f_m_plansDone_82 f_m_safesDone_83 f_m_seenMany_84 f_m_seedNow_85 f_m_keptTable_86 f_m_keptScore_87 f_m_keptStrokes_88 f_m_keptFouls_89 f_m_keptSeen_90 f_m_hash_91 v_mP_92 v_mk_93 v_mw_94 u_287.2.2.2.2.2.2.2.2.2.2.2.2 v_mo_96 v_mt_97 v_ms_98 v_mb_99 v_mK_100 v_mC_101 v_mS_102) else (some 0)))))))))))) else (if w_107 = 12 then (gd (inb (x3_1 + 1) L) (gd (inb (x3_1 + 2) L) (gd (inb (x3_1 + 3) L) (gd (inb (x3_1 + 4) L) ((f_X11_would n f_x_tablesRead_3 f_xGT_taken_12 f_xGT_size_13 f_xGT_spot_14 v_xGTc_15 v_xGTk_16 v_xGTw_17 f_xR_moves_36 f_xR_bounces_37 f_xR_potted_38 f_xR_brings_39 f_xR_firstHitDirection_40 f_xR_firstHitPower_41 f_xR_foul_42 f_xRT_taken_43 f_xRT_size_44 f_xRT_spot_45 v_xRTc_46 v_xRTk_47 v_xRTw_48 (xs (x3_1 + 1).toNatClampNeg) (xs (x3_1 + 2).toNatClampNeg) (xs (x3_1 + 3).toNatClampNeg) (xs (x3_1 + 4).toNatClampNeg)).bind (fun u_294 => (gd (inb (x3_1 + 1) L) (gd (inb (x3_1 + 2) L) (gd (inb (x3_1 + 3) L) (gd (inb (x3_1 + 4) L) ((f_X12_would n f_m_balls_66 f_m_spot_67 f_m_potted_72 f_m_moves_73 f_m_bounces_74 f_m_hitFirst_75 f_m_hitPower_76 f_m_hitDown_77 f_m_hitRight_78 f_m_isFoul_79 v_mk_93 v_mw_94 v_mc_95 v_mo_96 (xs (x3_1 + 1).toNatClampNeg) (xs (x3_1 + 2).toNatClampNeg) (xs (x3_1 + 3).toNatClampNeg) (xs (x3_1 + 4).toNatClampNeg)).bind (fun u_299 => (if u_294.1 = u_299.1 then (j768_209 f_x_imageKept_2 f_x_tablesRead_3 f_x_plansDone_4 f_x_safesDone_5 f_xP_size_6 v_xPl_7 f_xG_seen_8 f_xG_score_9 f_xG_strokes_10 f_xG_fouls_11 f_xGT_taken_12 f_xGT_size_13 f_xGT_spot_14 v_xGTc_15 v_xGTk_16 v_xGTw_17 v_xGb_18 v_xGd_19 v_xGe_20 v_xGf_21 f_xK_seen_22 f_xK_score_23 f_xK_strokes_24 f_xK_fouls_25 f_xKT_taken_26 f_xKT_size_27 f_xKT_spot_28 v_xKTc_29 v_xKTk_30 v_xKTw_31 v_xKb_32 v_xKd_33 v_xKe_34 v_xKf_35 u_294.2.1 u_294.2.2.1 u_294.2.2.2.1 u_294.2.2.2.2.1 u_294.2.2.2.2.2.1 u_294.2.2.2.2.2.2.1 u_294.2.2.2.2.2.2.2.1 u_294.2.2.2.2.2.2.2.2.1 u_294.2.2.2.2.2.2.2.2.2.1 u_294.2.2.2.2.2.2.2.2.2.2.1 u_294.2.2.2.2.2.2.2.2.2.2.2.1 u_294.2.2.2.2.2.2.2.2.2.2.2.2.1 u_294.2.2.2.2.2.2.2.2.2.2.2.2.2 f_xA_chosen_49 f_xA_value_50 f_xAS_moves_51 f_xAS_bounces_52 f_xAS_potted_53 f_xAS_brings_54 f_xAS_firstHitDirection_55 f_xAS_firstHitPower_56 f_xAS_foul_57 f_xAST_taken_58 f_xAST_size_59 f_xAST_spot_60 v_xASTc_61 v_xASTk_62 v_xASTw_63 v_xUn_64 f_m_pageMany_65 f_m_balls_66 f_m_spot_67 f_m_score_68 f_m_strokesNow_69 f_m_fouls_70 f_m_tablesRead_71 u_299.2.1 u_299.2.2.1 u_299.2.2.2.1 u_299.2.2.2.2.1 u_299.2.2.2.2.2.1 u_299.2.2.2.2.2.2.1 u_299.2.2.2.2.2.2.2.1 u_299.2.2.2.2.2.2.2.2.1 f_m_bestCode_80 f_m_bestBrings_81 f_m_plansDone_82 f_m_safesDone_83 f_m_seenMany_84 f_m_seedNow_85 f_m_keptTable_86 f_m_keptScore_87 f_m_keptStrokes_88 f_m_keptFouls_89 f_m_keptSeen_90 f_m_hash_91 v_mP_92 v_mk_93 v_mw_94 v_mc_95 u_299.2.2.2.2.2.2.2.2.2 v_mt_97 v_ms_98 v_mb_99 v_mK_100 v_mC_101 v_mS_102) else (some 0)))))))))))))) else (if w_107 = 13 then (gd (inb (x3_1 + 1) L) ((f_X11_best n f_x_tablesRead_3 f_xGT_taken_12 f_xGT_size_13 f_xGT_spot_14 v_xGTc_15 v_xGTk_16 v_xGTw_17 f_xR_moves_36 f_xR_bounces_37 f_xR_potted_38 f_xR_brings_39 f_xR_firstHitDirection_40 f_xR_firstHitPower_41 f_xR_foul_42 f_xRT_taken_43 f_xRT_size_44 f_xRT_spot_45 v_xRTc_46 v_xRTk_47 v_xRTw_48 f_xA_chosen_49 f_xA_value_50 (xs (x3_1 + 1).toNatClampNeg)).bind (fun u_303 => (gd (inb (x3_1 + 1) L) ((f_X12_best n f_m_balls_66 f_m_spot_67 f_m_potted_72 f_m_moves_73 f_m_bounces_74 f_m_hitFirst_75 f_m_hitPower_76 f_m_hitDown_77 f_m_hitRight_78 f_m_isFoul_79 f_m_bestCode_80 f_m_bestBrings_81 v_mk_93 v_mw_94 v_mc_95 v_mo_96 (xs (x3_1 + 1).toNatClampNeg)).bind (fun u_305 => (if u_303.1 = u_305.1 then (j768_209 f_x_imageKept_2 f_x_tablesRead_3 f_x_plansDone_4 f_x_safesDone_5 f_xP_size_6 v_xPl_7 f_xG_seen_8 f_xG_score_9 f_xG_strokes_10 f_xG_fouls_11 f_xGT_taken_12 f_xGT_size_13 f_xGT_spot_14 v_xGTc_15 v_xGTk_16 v_xGTw_17 v_xGb_18 v_xGd_19 v_xGe_20 v_xGf_21 f_xK_seen_22 f_xK_score_23 f_xK_strokes_24 f_xK_fouls_25 f_xKT_taken_26 f_xKT_size_27 f_xKT_spot_28 v_xKTc_29 v_xKTk_30 v_xKTw_31 v_xKb_32 v_xKd_33 v_xKe_34 v_xKf_35 u_303.2.1 u_303.2.2.1 u_303.2.2.2.1 u_303.2.2.2.2.1 u_303.2.2.2.2.2.1 u_303.2.2.2.2.2.2.1 u_303.2.2.2.2.2.2.2.1 u_303.2.2.2.2.2.2.2.2.1 u_303.2.2.2.2.2.2.2.2.2.1 u_303.2.2.2.2.2.2.2.2.2.2.1 u_303.2.2.2.2.2.2.2.2.2.2.2.1 u_303.2.2.2.2.2.2.2.2.2.2.2.2.1 u_303.2.2.2.2.2.2.2.2.2.2.2.2.2.1 u_303.2.2.2.2.2.2.2.2.2.2.2.2.2.2.1 u_303.2.2.2.2.2.2.2.2.2.2.2.2.2.2.2 f_xAS_moves_51 f_xAS_bounces_52 f_xAS_potted_53 f_xAS_brings_54 f_xAS_firstHitDirection_55 f_xAS_firstHitPower_56 f_xAS_foul_57 f_xAST_taken_58 f_xAST_size_59 f_xAST_spot_60 v_xASTc_61 v_xASTk_62 v_xASTw_63 v_xUn_64 f_m_pageMany_65 f_m_balls_66 f_m_spot_67 f_m_score_68 f_m_strokesNow_69 f_m_fouls_70 f_m_tablesRead_71 u_305.2.1 u_305.2.2.1 u_305.2.2.2.1 u_305.2.2.2.2.1 u_305.2.2.2.2.2.1 u_305.2.2.2.2.2.2.1 u_305.2.2.2.2.2.2.2.1 u_305.2.2.2.2.2.2.2.2.1 u_305.2.2.2.2.2.2.2.2.2.1 u_305.2.2.2.2.2.2.2.2.2.2.1 f_m_plansDone_82 f_m_safesDone_83 f_m_seenMany_84 f_m_seedNow_85 f_m_keptTable_86 f_m_keptScore_87 f_m_keptStrokes_88 f_m_keptFouls_89 f_m_keptSeen_90 f_m_hash_91 v_mP_92 v_mk_93 v_mw_94 v_mc_95 u_305.2.2.2.2.2.2.2.2.2.2.2 v_mt_97 v_ms_98 v_mb_99 v_mK_100 v_mC_101 v_mS_102) else (some 0)))))))) else (if w_107 = 14 then (gd (inb (x3_1 + 1) L) ((f_X11_plan n f_x_tablesRead_3 f_x_plansDone_4 f_xGT_taken_12 f_xGT_size_13 f_xGT_spot_14 v_xGTc_15 v_xGTk_16 v_xGTw_17 f_xR_moves_36 f_xR_bounces_37 f_xR_potted_38 f_xR_brings_39 f_xR_firstHitDirection_40 f_xR_firstHitPower_41 f_xR_foul_42 f_xRT_taken_43 f_xRT_size_44 f_xRT_spot_45 v_xRTc_46 v_xRTk_47 v_xRTw_48 f_xA_chosen_49 f_xA_value_50 f_xAS_moves_51 f_xAS_bounces_52 f_xAS_potted_53 f_xAS_brings_54 f_xAS_firstHitDirection_55 f_xAS_firstHitPower_56 f_xAS_foul_57 f_xAST_taken_58 f_xAST_size_59 f_xAST_spot_60 v_xASTc_61 v_xASTk_62 v_xASTw_63 (xs (x3_1 + 1).toNatClampNeg)).bind (fun u_309 => (gd (inb (x3_1 + 1) L) ((f_X12_plan n f_m_balls_66 f_m_spot_67 f_m_potted_72 f_m_moves_73 f_m_bounces_74 f_m_hitFirst_75 f_m_hitPower_76 f_m_hitDown_77 f_m_hitRight_78 f_m_isFoul_79 f_m_bestCode_80 f_m_bestBrings_81 f_m_plansDone_82 v_mk_93 v_mw_94 v_mc_95 v_mo_96 v_mt_97 (xs (x3_1 + 1).toNatClampNeg)).bind (fun u_311 => (if u_309.1 = u_311.1 then (j768_209 f_x_imageKept_2 f_x_tablesRead_3 u_309.2.1 f_x_safesDone_5 f_xP_size_6 v_xPl_7 f_xG_seen_8 f_xG_score_9 f_xG_strokes_10 f_xG_fouls_11 f_xGT_taken_12 f_xGT_size_13 f_xGT_spot_14 v_xGTc_15 v_xGTk_16 v_xGTw_17 v_xGb_18 v_xGd_19 v_xGe_20 v_xGf_21 f_xK_seen_22 f_xK_score_23 f_xK_strokes_24 f_xK_fouls_25 f_xKT_taken_26 f_xKT_size_27 f_xKT_spot_28 v_xKTc_29 v_xKTk_30 v_xKTw_31 v_xKb_32 v_xKd_33 v_xKe_34 v_xKf_35 u_309.2.2.1 u_309.2.2.2.1 u_309.2.2.2.2.1 u_309.2.2.2.2.2.1 u_309.2.2.2.2.2.2.1 u_309.2.2.2.2.2.2.2.1 u_309.2.2.2.2.2.2.2.2.1 u_309.2.2.2.2.2.2.2.2.2.1 u_309.2.2.2.2.2.2.2.2.2.2.1 u_309.2.2.2.2.2.2.2.2.2.2.2.1 u_309.2.2.2.2.2.2.2.2.2.2.2.2.1 u_309.2.2.2.2.2.2.2.2.2.2.2.2.2.1 u_309.2.2.2.2.2.2.2.2.2.2.2.2.2.2.1 u_309.2.2.2.2.2.2.2.2.2.2.2.2.2.2.2.1 u_309.2.2.2.2.2.2.2.2.2.2.2.2.2.2.2.2.1 u_309.2.2.2.2.2.2.2.2.2.2.2.2.2.2.2.2.2.1 u_309.2.2.2.2.2.2.2.2.2.2.2.2.2.2.2.2.2.2.1 u_309.2.2.2.2.2.2.2.2.2.2.2.2.2.2.2.2.2.2.2.1 u_309.2.2.2.2.2.2.2.2.2.2.2.2.2.2.2.2.2.2.2.2.1 u_309.2.2.2.2.2.2.2.2.2.2.2.2.2.2.2.2.2.2.2.2.2.1 u_309.2.2.2.2.2.2.2.2.2.2.2.2.2.2.2.2.2.2.2.2.2.2.1 u_309.2.2.2.2.2.2.2.2.2.2.2.2.2.2.2.2.2.2.2.2.2.2.2.1 u_309.2.2.2.2.2.2.2.2.2.2.2.2.2.2.2.2.2.2.2.2.2.2.2.2.1 u_309.2.2.2.2.2.2.2.2.2.2.2.2.2.2.2.2.2.2.2.2.2.2.2.2.2.1 u_309.2.2.2.2.2.2.2.2.2.2.2.2.2.2.2.2.2.2.2.2.2.2.2.2.2.2.1 u_309.2.2.2.2.2.2.2.2.2.2.2.2.2.2.2.2.2.2.2.2.2.2.2.2.2.2.2.1 u_309.2.2.2.2.2.2.2.2.2.2.2.2.2.2.2.2.2.2.2.2.2.2.2.2.2.2.2.2.1 u_309.2.2.2.2.2.2.2.2.2.2.2.2.2.2.2.2.2.2.2.2.2.2.2.2.2.2.2.2.2 v_xUn_64 f_m_pageMany_65 f_m_balls_66 f_m_spot_67 f_m_score_68 f_m_strokesNow_69 f_m_fouls_70 f_m_tablesRead_71 u_311.2.1 u_311.2.2.1 u_311.2.2.2.1 u_311.2.2.2.2.1 u_311.2.2.2.2.2.1 u_311.2.2.2.2.2.2.1 u_311.2.2.2.2.2.2.2.1 u_311.2.2.2.2.2.2.2.2.1 u_311.2.2.2.2.2.2.2.2.2.1 u_311.2.2.2.2.2.2.2.2.2.2.1 u_311.2.2.2.2.2.2.2.2.2.2.2.1 f_m_safesDone_83 f_m_seenMany_84 f_m_seedNow_85 f_m_keptTable_86 f_m_keptScore_87 f_m_keptStrokes_88 f_m_keptFouls_89 f_m_keptSeen_90 f_m_hash_91 v_mP_92 v_mk_93 v_mw_94 v_mc_95 u_311.2.2.2.2.2.2.2.2.2.2.2.2.1 u_311.2.2.2.2.2.2.2.2.2.2.2.2.2 v_ms_98 v_mb_99 v_mK_100 v_mC_101 v_mS_102) else (some 0)))))))) else (if w_107 = 15 then (gd (inb (x3_1 + 1) L) ((f_X11_safe n f_x_tablesRead_3 f_x_safesDone_5 f_xGT_taken_12 f_xGT_size_13 f_xGT_spot_14 v_xGTc_15 v_xGTk_16 v_xGTw_17 f_xR_moves_36 f_xR_bounces_37 f_xR_potted_38 f_xR_brings_39 f_xR_firstHitDirection_40 f_xR_firstHitPower_41 f_xR_foul_42 f_xRT_taken_43 f_xRT_size_44 f_xRT_spot_45 v_xRTc_46 v_xRTk_47 v_xRTw_48 f_xA_chosen_49 f_xA_value_50 f_xAS_moves_51 f_xAS_bounces_52 f_xAS_potted_53 f_xAS_brings_54 f_xAS_firstHitDirection_55 f_xAS_firstHitPower_56 f_xAS_foul_57 f_xAST_taken_58 f_xAST_size_59 f_xAST_spot_60 v_xASTc_61 v_xASTk_62 v_xASTw_63 (xs (x3_1 + 1).toNatClampNeg)).bind (fun u_315 => (gd (inb (x3_1 + 1) L) ((f_X12_safe n f_m_balls_66 f_m_spot_67 f_m_potted_72 f_m_moves_73 f_m_bounces_74 f_m_hitFirst_75 f_m_hitPower_76 f_m_hitDown_77 f_m_hitRight_78 f_m_isFoul_79 f_m_bestCode_80 f_m_bestBrings_81 f_m_safesDone_83 v_mk_93 v_mw_94 v_mc_95 v_mo_96 v_mt_97 (xs (x3_1 + 1).toNatClampNeg)).bind (fun u_317 => (if u_315.1 = u_317.1 then (j768_209 f_x_imageKept_2 f_x_tablesRead_3 f_x_plansDone_4 u_315.2.1 f_xP_size_6 v_xPl_7 f_xG_seen_8 f_xG_score_9 f_xG_strokes_10 f_xG_fouls_11 f_xGT_taken_12 f_xGT_size_13 f_xGT_spot_14 v_xGTc_15 v_xGTk_16 v_xGTw_17 v_xGb_18 v_xGd_19 v_xGe_20 v_xGf_21 f_xK_seen_22 f_xK_score_23 f_xK_strokes_24 f_xK_fouls_25 f_xKT_taken_26 f_xKT_size_27 f_xKT_spot_28 v_xKTc_29 v_xKTk_30 v_xKTw_31 v_xKb_32 v_xKd_33 v_xKe_34 v_xKf_35 u_315.2.2.1 u_315.2.2.2.1 u_315.2.2.2.2.1 u_315.2.2.2.2.2.1 u_315.2.2.2.2.2.2.1 u_315.2.2.2.2.2.2.2.1 u_315.2.2.2.2.2.2.2.2.1 u_315.2.2.2.2.2.2.2.2.2.1 u_315.2.2.2.2.2.2.2.2.2.2.1 u_315.2.2.2.2.2.2.2.2.2.2.2.1 u_315.2.2.2.2.2.2.2.2.2.2.2.2.1 u_315.2.2.2.2.2.2.2.2.2.2.2.2.2.1 u_315.2.2.2.2.2.2.2.2.2.2.2.2.2.2.1 u_315.2.2.2.2.2.2.2.2.2.2.2.2.2.2.2.1 u_315.2.2.2.2.2.2.2.2.2.2.2.2.2.2.2.2.1 u_315.2.2.2.2.2.2.2.2.2.2.2.2.2.2.2.2.2.1 u_315.2.2.2.2.2.2.2.2.2.2.2.2.2.2.2.2.2.2.1 u_315.2.2.2.2.2.2.2.2.2.2.2.2.2.2.2.2.2.2.2.1 u_315.2.2.2.2.2.2.2.2.2.2.2.2.2.2.2.2.2.2.2.2.1 u_315.2.2.2.2.2.2.2.2.2.2.2.2.2.2.2.2.2.2.2.2.2.1 u_315.2.2.2.2.2.2.2.2.2.2.2.2.2.2.2.2.2.2.2.2.2.2.1 u_315.2.2.2.2.2.2.2.2.2.2.2.2.2.2.2.2.2.2.2.2.2.2.2.1 u_315.2.2.2.2.2.2.2.2.2.2.2.2.2.2.2.2.2.2.2.2.2.2.2.2.1 u_315.2.2.2.2.2.2.2.2.2.2.2.2.2.2.2.2.2.2.2.2.2.2.2.2.2.1 u_315.2.2.2.2.2.2.2.2.2.2.2.2.2.2.2.2.2.2.2.2.2.2.2.2.2.2.1 u_315.2.2.2.2.2.2.2.2.2.2.2.2.2.2.2.2.2.2.2.2.2.2.2.2.2.2.2.1 u_315.2.2.2.2.2.2.2.2.2.2.2.2.2.2.2.2.2.2.2.2.2.2.2.2.2.2.2.2.1 u_315.2.2.2.2.2.2.2.2.2.2.2.2.2.2.2.2.2.2.2.2.2.2.2.2.2.2.2.2.2 v_xUn_64 f_m_pageMany_65 f_m_balls_66 f_m_spot_67 f_m_score_68 f_m_strokesNow_69 f_m_fouls_70 f_m_tablesRead_71 u_317.2.1 u_317.2.2.1 u_317.2.2.2.1 u_317.2.2.2.2.1 u_317.2.2.2.2.2.1 u_317.2.2.2.2.2.2.1 u_317.2.2.2.2.2.2.2.1 u_317.2.2.2.2.2.2.2.2.1 u_317.2.2.2.2.2.2.2.2.2.1 u_317.2.2.2.2.2.2.2.2.2.2.1 f_m_plansDone_82 u_317.2.2.2.2.2.2.2.2.2.2.2.1 f_m_seenMany_84 f_m_seedNow_85 f_m_keptTable_86 f_m_keptScore_87 f_m_keptStrokes_88 f_m_keptFouls_89 f_m_keptSeen_90 f_m_hash_91 v_mP_92 v_mk_93 v_mw_94 v_mc_95 u_317.2.2.2.2.2.2.2.2.2.2.2.2.1 u_317.2.2.2.2.2.2.2.2.2.2.2.2.2 v_ms_98 v_mb_99 v_mK_100 v_mC_101 v_mS_102) else (some 0)))))))) else (if w_107 = 16 then (gd (inb (x3_1 + 1) L) ((f_X11_wanted n f_x_tablesRead_3 f_xGT_taken_12 f_xGT_size_13 f_xGT_spot_14 v_xGTc_15 v_xGTk_16 v_xGTw_17 f_xR_moves_36 f_xR_bounces_37 f_xR_potted_38 f_xR_brings_39 f_xR_firstHitDirection_40 f_xR_firstHitPower_41 f_xR_foul_42 f_xRT_taken_43 f_xRT_size_44 f_xRT_spot_45 v_xRTc_46 v_xRTk_47 v_xRTw_48 (xs (x3_1 + 1).toNatClampNeg)).bind (fun u_321 => (gd (inb (x3_1 + 1) L) ((f_X12_wanted n f_m_balls_66 f_m_spot_67 f_m_potted_72 f_m_moves_73 f_m_bounces_74 f_m_hitFirst_75 f_m_hitPower_76 f_m_hitDown_77 f_m_hitRight_78 f_m_isFoul_79 v_mk_93 v_mw_94 v_mc_95 v_mo_96 (xs (x3_1 + 1).toNatClampNeg)).bind (fun u_323 => (if (lg_cmp u_321.1 u_323.1) = 0 then (j768_209 f_x_imageKept_2 f_x_tablesRead_3 f_x_plansDone_4 f_x_safesDone_5 f_xP_size_6 v_xPl_7 f_xG_seen_8 f_xG_score_9 f_xG_strokes_10 f_xG_fouls_11 f_xGT_taken_12 f_xGT_size_13 f_xGT_spot_14 v_xGTc_15 v_xGTk_16 v_xGTw_17 v_xGb_18 v_xGd_19 v_xGe_20 v_xGf_21 f_xK_seen_22 f_xK_score_23 f_xK_strokes_24 f_xK_fouls_25 f_xKT_taken_26 f_xKT_size_27 f_xKT_spot_28 v_xKTc_29 v_xKTk_30 v_xKTw_31 v_xKb_32 v_xKd_33 v_xKe_34 v_xKf_35 u_321.2.1 u_321.2.2.1 u_321.2.2.2.1 u_321.2.2.2.2.1 u_321.2.2.2.2.2.1 u_321.2.2.2.2.2.2.1 u_321.2.2.2.2.2.2.2.1 u_321.2.2.2.2.2.2.2.2.1 u_321.2.2.2.2.2.2.2.2.2.1 u_321.2.2.2.2.2.2.2.2.2.2.1 u_321.2.2.2.2.2.2.2.2.2.2.2.1 u_321.2.2.2.2.2.2.2.2.2.2.2.2.1 u_321.2.2.2.2.2.2.2.2.2.2.2.2.2 f_xA_chosen_49 f_xA_value_50 f_xAS_moves_51 f_xAS_bounces_52 f_xAS_potted_53 f_xAS_brings_54 f_xAS_firstHitDirection_55 f_xAS_firstHitPower_56 f_xAS_foul_57 f_xAST_taken_58 f_xAST_size_59 f_xAST_spot_60 v_xASTc_61 v_xASTk_62 v_xASTw_63 v_xUn_64 f_m_pageMany_65 f_m_balls_66 f_m_spot_67 f_m_score_68 f_m_strokesNow_69 f_m_fouls_70 f_m_tablesRead_71 u_323.2.1 u_323.2.2.1 u_323.2.2.2.1 u_323.2.2.2.2.1 u_323.2.2.2.2.2.1 u_323.2.2.2.2.2.2.1 u_323.2.2.2.2.2.2.2.1 u_323.2.2.2.2.2.2.2.2.1 f_m_bestCode_80 f_m_bestBrings_81 f_m_plansDone_82 f_m_safesDone_83 f_m_seenMany_84 f_m_seedNow_85 f_m_keptTable_86 f_m_keptScore_87 f_m_keptStrokes_88 f_m_keptFouls_89 f_m_keptSeen_90 f_m_hash_91 v_mP_92 v_mk_93 v_mw_94 v_mc_95 u_323.2.2.2.2.2.2.2.2.2 v_mt_97 v_ms_98 v_mb_99 v_mK_100 v_mC_101 v_mS_102) else (some 0)))))))) else (if w_107 = 17 then (gd (inb (x3_1 + 1) L) (gd (inb (x3_1 + 2) L) (gd (inb (x3_1 + 3) L) (gd (inb (x3_1 + 4) L) ((f_X11_see f_x_tablesRead_3 f_xG_seen_8 f_xGT_size_13 v_xGb_18 v_xGd_19 v_xGe_20 v_xGf_21 (xs (x3_1 + 1).toNatClampNeg) (xs (x3_1 + 2).toNatClampNeg) (xs (x3_1 + 3).toNatClampNeg) (xs (x3_1 + 4).toNatClampNeg)).bind (fun u_330 => (gd (inb (x3_1 + 1) L) (gd (inb (x3_1 + 2) L) (gd (inb (x3_1 + 3) L) (gd (inb (x3_1 + 4) L) ((f_X12_see f_m_balls_66 f_m_seenMany_84 v_ms_98 (xs (x3_1 + 1).toNatClampNeg) (xs (x3_1 + 2).toNatClampNeg) (xs (x3_1 + 3).toNatClampNeg) (xs (x3_1 + 4).toNatClampNeg)).bind (fun u_335 => (if u_330.1 = u_335.1 then (j768_209 f_x_imageKept_2 f_x_tablesRead_3 f_x_plansDone_4 f_x_safesDone_5 f_xP_size_6 v_xPl_7 u_330.2.1 f_xG_score_9 f_xG_strokes_10 f_xG_fouls_11 f_xGT_taken_12 f_xGT_size_13 f_xGT_spot_14 v_xGTc_15 v_xGTk_16 v_xGTw_17 u_330.2.2.1 u_330.2.2.2.1 u_330.2.2.2.2.1 u_330.2.2.2.2.2 f_xK_seen_22 f_xK_score_23 f_xK_strokes_24 f_xK_fouls_25 f_xKT_taken_26 f_xKT_size_27 f_xKT_spot_28 v_xKTc_29 v_xKTk_30 v_xKTw_31 v_xKb_32 v_xKd_33 v_xKe_34 v_xKf_35 f_xR_moves_36 f_xR_bounces_37 f_xR_potted_38 f_xR_brings_39 f_xR_firstHitDirection_40 f_xR_firstHitPower_41 f_xR_foul_42 f_xRT_taken_43 f_xRT_size_44 f_xRT_spot_45 v_xRTc_46 v_xRTk_47 v_xRTw_48 f_xA_chosen_49 f_xA_value_50 f_xAS_moves_51 f_xAS_bounces_52 f_xAS_potted_53 f_xAS_brings_54 f_xAS_firstHitDirection_55 f_xAS_firstHitPower_56 f_xAS_foul_57 f_xAST_taken_58 f_xAST_size_59 f_xAST_spot_60 v_xASTc_61 v_xASTk_62 v_xASTw_63 v_xUn_64 f_m_pageMany_65 f_m_balls_66 f_m_spot_67 f_m_score_68 f_m_strokesNow_69 f_m_fouls_70 f_m_tablesRead_71 f_m_potted_72 f_m_moves_73 f_m_bounces_74 f_m_hitFirst_75 f_m_hitPower_76 f_m_hitDown_77 f_m_hitRight_78 f_m_isFoul_79 f_m_bestCode_80 f_m_bestBrings_81 f_m_plansDone_82 f_m_safesDone_83 u_335.2.1 f_m_seedNow_85 f_m_keptTable_86 f_m_keptScore_87 f_m_keptStrokes_88 f_m_keptFouls_89 f_m_keptSeen_90 f_m_hash_91 v_mP_92 v_mk_93 v_mw_94 v_mc_95 v_mo_96 v_mt_97 u_335.2.2 v_mb_99 v_mK_100 v_mC_101 v_mS_102) else (some 0)))))))))))))) else (if w_107 = 18 then ((f_X11_forget f_xG_seen_8).bind (fun u_338 => ((f_X12_forget f_m_seenMany_84).bind (fun u_339 => (if u_338.1 = u_339.1 then (j768_209 f_x_imageKept_2 f_x_tablesRead_3 f_x_plansDone_4 f_x_safesDone_5 f_xP_size_6 v_xPl_7 u_338.2 f_xG_score_9 f_xG_strokes_10 f_xG_fouls_11 f_xGT_taken_12 f_xGT_size_13 f_xGT_spot_14 v_xGTc_15 v_xGTk_16 v_xGTw_17 v_xGb_18 v_xGd_19 v_xGe_20 v_xGf_21 f_xK_seen_22 f_xK_score_23 f_xK_strokes_24 f_xK_fouls_25 f_xKT_taken_26 f_xKT_size_27 f_xKT_spot_28 v_xKTc_29 v_xKTk_30 v_xKTw_31 v_xKb_32 v_xKd_33 v_xKe_34 v_xKf_35 f_xR_moves_36 f_xR_bounces_37 f_xR_potted_38 f_xR_brings_39 f_xR_firstHitDirection_40 f_xR_firstHitPower_41 f_xR_foul_42 f_xRT_taken_43 f_xRT_size_44 f_xRT_spot_45 v_xRTc_46 v_xRTk_47 v_xRTw_48 f_xA_chosen_49 f_xA_value_50 f_xAS_moves_51 f_xAS_bounces_52 f_xAS_potted_53 f_xAS_brings_54 f_xAS_firstHitDirection_55 f_xAS_firstHitPower_56 f_xAS_foul_57 f_xAST_taken_58 f_xAST_size_59 f_xAST_spot_60 v_xASTc_61 v_xASTk_62 v_xASTw_63 v_xUn_64 f_m_pageMany_65 f_m_balls_66 f_m_spot_67 f_m_score_68 f_m_strokesNow_69 f_m_fouls_70 f_m_tablesRead_71 f_m_potted_72 f_m_moves_73 f_m_bounces_74 f_m_hitFirst_75 f_m_hitPower_76 f_m_hitDown_77 f_m_hitRight_78 f_m_isFoul_79 f_m_bestCode_80 f_m_bestBrings_81 f_m_plansDone_82 f_m_safesDone_83 u_339.2 f_m_seedNow_85 f_m_keptTable_86 f_m_keptScore_87 f_m_keptStrokes_88 f_m_keptFouls_89 f_m_keptSeen_90 f_m_hash_91 v_mP_92 v_mk_93 v_mw_94 v_mc_95 v_mo_96 v_mt_97 v_ms_98 v_mb_99 v_mK_100 v_mC_101 v_mS_102) else (some 0)))))) else (if w_107 = 19 then (gd (inb (x3_1 + 1) L) (gd (inb (x3_1 + 2) L) (gd (inb (x3_1 + 3) L) ((f_X11_frames n f_x_tablesRead_3 f_xGT_taken_12 f_xGT_size_13 f_xGT_spot_14 v_xGTc_15 v_xGTk_16 v_xGTw_17 f_xR_moves_36 f_xR_bounces_37 f_xR_potted_38 f_xR_brings_39 f_xR_firstHitDirection_40 f_xR_firstHitPower_41 f_xR_foul_42 f_xRT_taken_43 f_xRT_size_44 f_xRT_spot_45 v_xRTc_46 v_xRTk_47 v_xRTw_48 (xs (x3_1 + 1).toNatClampNeg) (xs (x3_1 + 2).toNatClampNeg) (xs (x3_1 + 3).toNatClampNeg)).bind (fun u_345 => (gd (inb (x3_1 + 1) L) (gd (inb (x3_1 + 2) L) (gd (inb (x3_1 + 3) L) ((f_X12_frames n f_m_balls_66 f_m_spot_67 f_m_potted_72 f_m_moves_73 f_m_bounces_74 f_m_hitFirst_75 f_m_hitPower_76 f_m_hitDown_77 f_m_hitRight_78 f_m_isFoul_79 f_m_seedNow_85 v_mk_93 v_mw_94 v_mc_95 v_mo_96 (xs (x3_1 + 1).toNatClampNeg) (xs (x3_1 + 2).toNatClampNeg) (xs (x3_1 + 3).toNatClampNeg)).bind (fun u_349 => (if u_345.1 = u_349.1 then (j768_209 f_x_imageKept_2 f_x_tablesRead_3 f_x_plansDone_4 f_x_safesDone_5 f_xP_size_6 v_xPl_7 f_xG_seen_8 f_xG_score_9 f_xG_strokes_10 f_xG_fouls_11 f_xGT_taken_12 f_xGT_size_13 f_xGT_spot_14 v_xGTc_15 v_xGTk_16 v_xGTw_17 v_xGb_18 v_xGd_19 v_xGe_20 v_xGf_21 f_xK_seen_22 f_xK_score_23 f_xK_strokes_24 f_xK_fouls_25 f_xKT_taken_26 f_xKT_size_27 f_xKT_spot_28 v_xKTc_29 v_xKTk_30 v_xKTw_31 v_xKb_32 v_xKd_33 v_xKe_34 v_xKf_35 u_345.2.1 u_345.2.2.1 u_345.2.2.2.1 u_345.2.2.2.2.1 u_345.2.2.2.2.2.1 u_345.2.2.2.2.2.2.1 u_345.2.2.2.2.2.2.2.1 u_345.2.2.2.2.2.2.2.2.1 u_345.2.2.2.2.2.2.2.2.2.1 u_345.2.2.2.2.2.2.2.2.2.2.1 u_345.2.2.2.2.2.2.2.2.2.2.2.1 u_345.2.2.2.2.2.2.2.2.2.2.2.2.1 u_345.2.2.2.2.2.2.2.2.2.2.2.2.2 f_xA_chosen_49 f_xA_value_50 f_xAS_moves_51 f_xAS_bounces_52 f_xAS_potted_53 f_xAS_brings_54 f_xAS_firstHitDirection_55 f_xAS_firstHitPower_56 f_xAS_foul_57 f_xAST_taken_58 f_xAST_size_59 f_xAST_spot_60 v_xASTc_61 v_xASTk_62 v_xASTw_63 v_xUn_64 f_m_pageMany_65 f_m_balls_66 f_m_spot_67 f_m_score_68 f_m_strokesNow_69 f_m_fouls_70 f_m_tablesRead_71 u_349.2.1 u_349.2.2.1 u_349.2.2.2.1 u_349.2.2.2.2.1 u_349.2.2.2.2.2.1 u_349.2.2.2.2.2.2.1 u_349.2.2.2.2.2.2.2.1 u_349.2.2.2.2.2.2.2.2.1 f_m_bestCode_80 f_m_bestBrings_81 f_m_plansDone_82 f_m_safesDone_83 f_m_seenMany_84 u_349.2.2.2.2.2.2.2.2.2.1 f_m_keptTable_86 f_m_keptScore_87 f_m_keptStrokes_88 f_m_keptFouls_89 f_m_keptSeen_90 f_m_hash_91 v_mP_92 v_mk_93 v_mw_94 v_mc_95 u_349.2.2.2.2.2.2.2.2.2.2 v_mt_97 v_ms_98 v_mb_99 v_mK_100 v_mC_101 v_mS_102) else (some 0)))))))))))) else (if w_107 = 20 then ((f_X11_image f_x_imageKept_2 f_x_tablesRead_3 f_xG_seen_8 f_xG_score_9 f_xG_strokes_10 f_xG_fouls_11 f_xGT_taken_12 f_xGT_size_13 f_xGT_spot_14 v_xGTc_15 v_xGTk_16 v_xGTw_17 v_xGb_18 v_xGd_19 v_xGe_20 v_xGf_21 f_xK_seen_22 f_xK_score_23 f_xK_strokes_24 f_xK_fouls_25 f_xKT_taken_26 f_xKT_size_27 f_xKT_spot_28 v_xKTc_29 v_xKTk_30 v_xKTw_31 v_xKb_32 v_xKd_33 v_xKe_34 v_xKf_35).bind (fun u_352 => ((f_X12_image n f_m_balls_66 f_m_score_68 f_m_strokesNow_69 f_m_fouls_70 f_m_tablesRead_71 f_m_seenMany_84 f_m_keptTable_86 f_m_keptScore_87 f_m_keptStrokes_88 f_m_keptFouls_89 f_m_keptSeen_90 v_mk_93 v_mc_95 v_ms_98 v_mK_100 v_mC_101 v_mS_102).bind (fun u_353 => (if u_352.1 = u_353.1 then (j768_209 u_352.2.1 f_x_tablesRead_3 f_x_plansDone_4 f_x_safesDone_5 f_xP_size_6 v_xPl_7 f_xG_seen_8 f_xG_score_9 f_xG_strokes_10 f_xG_fouls_11 f_xGT_taken_12 f_xGT_size_13 f_xGT_spot_14 v_xGTc_15 v_xGTk_16 v_xGTw_17 v_xGb_18 v_xGd_19 v_xGe_20 v_xGf_21 u_352.2.2.1 u_352.2.2.2.1 u_352.2.2.2.2.1 u_352.2.2.2.2.2.1 u_352.2.2.2.2.2.2.1 u_352.2.2.2.2.2.2.2.1 u_352.2.2.2.2.2.2.2.2.1 u_352.2.2.2.2.2.2.2.2.2.1 u_352.2.2.2.2.2.2.2.2.2.2.1 u_352.2.2.2.2.2.2.2.2.2.2.2.1 u_352.2.2.2.2.2.2.2.2.2.2.2.2.1 u_352.2.2.2.2.2.2.2.2.2.2.2.2.2.1 u_352.2.2.2.2.2.2.2.2.2.2.2.2.2.2.1 u_352.2.2.2.2.2.2.2.2.2.2.2.2.2.2.2 f_xR_moves_36 f_xR_bounces_37 f_xR_potted_38 f_xR_brings_39 f_xR_firstHitDirection_40 f_xR_firstHitPower_41 f_xR_foul_42 f_xRT_taken_43 f_xRT_size_44 f_xRT_spot_45 v_xRTc_46 v_xRTk_47 v_xRTw_48 f_xA_chosen_49 f_xA_value_50 f_xAS_moves_51 f_xAS_bounces_52 f_xAS_potted_53 f_xAS_brings_54 f_xAS_firstHitDirection_55 f_xAS_firstHitPower_56 f_xAS_foul_57 f_xAST_taken_58 f_xAST_size_59 f_xAST_spot_60 v_xASTc_61 v_xASTk_62 v_xASTw_63 v_xUn_64 f_m_pageMany_65 f_m_balls_66 f_m_spot_67 f_m_score_68 f_m_strokesNow_69 f_m_fouls_70 f_m_tablesRead_71 f_m_potted_72 f_m_moves_73 f_m_bounces_74 f_m_hitFirst_75 f_m_hitPower_76 f_m_hitDown_77 f_m_hitRight_78 f_m_isFoul_79 f_m_bestCode_80 f_m_bestBrings_81 f_m_plansDone_82 f_m_safesDone_83 f_m_seenMany_84 f_m_seedNow_85 u_353.2.1 u_353.2.2.1 u_353.2.2.2.1 u_353.2.2.2.2.1 u_353.2.2.2.2.2.1 f_m_hash_91 v_mP_92 v_mk_93 v_mw_94 v_mc_95 v_mo_96 v_mt_97 v_ms_98 v_mb_99 u_353.2.2.2.2.2.2.1 u_353.2.2.2.2.2.2.2.1 u_353.2.2.2.2.2.2.2.2) else (some 0)))))) else (if w_107 = 21 then ((f_X11_restore f_x_imageKept_2 f_xG_seen_8 f_xG_score_9 f_xG_strokes_10 f_xG_fouls_11 f_xGT_taken_12 f_xGT_size_13 f_xGT_spot_14 v_xGTc_15 v_xGTk_16 v_xGTw_17 v_xGb_18 v_xGd_19 v_xGe_20 v_xGf_21 f_xK_seen_22 f_xK_score_23 f_xK_strokes_24 f_xK_fouls_25 f_xKT_taken_26 f_xKT_size_27 f_xKT_spot_28 v_xKTc_29 v_xKTk_30 v_xKTw_31 v_xKb_32 v_xKd_33 v_xKe_34 v_xKf_35).bind (fun u_356 => ((f_X12_restore n f_m_score_68 f_m_strokesNow_69 f_m_fouls_70 f_m_tablesRead_71 f_m_seenMany_84 f_m_keptTable_86 f_m_keptScore_87 f_m_keptStrokes_88 f_m_keptFouls_89 f_m_keptSeen_90 v_mk_93 v_mc_95 v_ms_98 v_mK_100 v_mC_101 v_mS_102).bind (fun u_357 => (if u_356.1 = u_357.1 then (j768_209 f_x_imageKept_2 f_x_tablesRead_3 f_x_plansDone_4 f_x_safesDone_5 f_xP_size_6 v_xPl_7 u_356.2.1 u_356.2.2.1 u_356.2.2.2.1 u_356.2.2.2.2.1 u_356.2.2.2.2.2.1 u_356.2.2.2.2.2.2.1 u_356.2.2.2.2.2.2.2.1 u_356.2.2.2.2.2.2.2.2.1 u_356.2.2.2.2.2.2.2.2.2.1 u_356.2.2.2.2.2.2.2.2.2.2.1 u_356.2.2.2.2.2.2.2.2.2.2.2.1 u_356.2.2.2.2.2.2.2.2.2.2.2.2.1 u_356.2.2.2.2.2.2.2.2.2.2.2.2.2.1 u_356.2.2.2.2.2.2.2.2.2.2.2.2.2.2 f_xK_seen_22 f_xK_score_23 f_xK_strokes_24 f_xK_fouls_25 f_xKT_taken_26 f_xKT_size_27 f_xKT_spot_28 v_xKTc_29 v_xKTk_30 v_xKTw_31 v_xKb_32 v_xKd_33 v_xKe_34 v_xKf_35 f_xR_moves_36 f_xR_bounces_37 f_xR_potted_38 f_xR_brings_39 f_xR_firstHitDirection_40 f_xR_firstHitPower_41 f_xR_foul_42 f_xRT_taken_43 f_xRT_size_44 f_xRT_spot_45 v_xRTc_46 v_xRTk_47 v_xRTw_48 f_xA_chosen_49 f_xA_value_50 f_xAS_moves_51 f_xAS_bounces_52 f_xAS_potted_53 f_xAS_brings_54 f_xAS_firstHitDirection_55 f_xAS_firstHitPower_56 f_xAS_foul_57 f_xAST_taken_58 f_xAST_size_59 f_xAST_spot_60 v_xASTc_61 v_xASTk_62 v_xASTw_63 v_xUn_64 f_m_pageMany_65 f_m_balls_66 f_m_spot_67 u_357.2.1 u_357.2.2.1 u_357.2.2.2.1 f_m_tablesRead_71 f_m_potted_72 f_m_moves_73 f_m_bounces_74 f_m_hitFirst_75 f_m_hitPower_76 f_m_hitDown_77 f_m_hitRight_78 f_m_isFoul_79 f_m_bestCode_80 f_m_bestBrings_81 f_m_plansDone_82 f_m_safesDone_83 u_357.2.2.2.2.1 f_m_seedNow_85 f_m_keptTable_86 f_m_keptScore_87 f_m_keptStrokes_88 f_m_keptFouls_89 f_m_keptSeen_90 f_m_hash_91 v_mP_92 u_357.2.2.2.2.2.1 v_mw_94 u_357.2.2.2.2.2.2.1 v_mo_96 v_mt_97 u_357.2.2.2.2.2.2.2 v_mb_99 v_mK_100 v_mC_101 v_mS_102) else (some 0)))))) else (if w_107 = 22 then (gd (inb (x3_1 + 1) L) ((f_X11_count n f_x_tablesRead_3 f_x_plansDone_4 f_x_safesDone_5 f_xP_size_6 f_xG_seen_8 f_xG_score_9 f_xG_strokes_10 f_xG_fouls_11 f_xGT_taken_12 f_xGT_size_13 f_xGT_spot_14 v_xGTc_15 v_xGTw_17 (xs (x3_1 + 1).toNatClampNeg)).bind (fun u_361 => (gd (inb (x3_1 + 1) L) ((f_X12_count n f_m_pageMany_65 f_m_balls_66 f_m_spot_67 f_m_score_68 f_m_strokesNow_69 f_m_fouls_70 f_m_tablesRead_71 f_m_plansDone_82 f_m_safesDone_83 f_m_seenMany_84 v_mw_94 v_mc_95 (xs (x3_1 + 1).toNatClampNeg)).bind (fun u_363 => (if u_361 = u_363 then (j768_209 f_x_imageKept_2 f_x_tablesRead_3 f_x_plansDone_4 f_x_safesDone_5 f_xP_size_6 v_xPl_7 f_xG_seen_8 f_xG_score_9 f_xG_strokes_10 f_xG_fouls_11 f_xGT_taken_12 f_xGT_size_13 f_xGT_spot_14 v_xGTc_15 v_xGTk_16 v_xGTw_17 v_xGb_18 v_xGd_19 v_xGe_20 v_xGf_21 f_xK_seen_22 f_xK_score_23 f_xK_strokes_24 f_xK_fouls_25 f_xKT_taken_26 f_xKT_size_27 f_xKT_spot_28 v_xKTc_29 v_xKTk_30 v_xKTw_31 v_xKb_32 v_xKd_33 v_xKe_34 v_xKf_35 f_xR_moves_36 f_xR_bounces_37 f_xR_potted_38 f_xR_brings_39 f_xR_firstHitDirection_40 f_xR_firstHitPower_41 f_xR_foul_42 f_xRT_taken_43 f_xRT_size_44 f_xRT_spot_45 v_xRTc_46 v_xRTk_47 v_xRTw_48 f_xA_chosen_49 f_xA_value_50 f_xAS_moves_51 f_xAS_bounces_52 f_xAS_potted_53 f_xAS_brings_54 f_xAS_firstHitDirection_55 f_xAS_firstHitPower_56 f_xAS_foul_57 f_xAST_taken_58 f_xAST_size_59 f_xAST_spot_60 v_xASTc_61 v_xASTk_62 v_xASTw_63 v_xUn_64 f_m_pageMany_65 f_m_balls_66 f_m_spot_67 f_m_score_68 f_m_strokesNow_69 f_m_fouls_70 f_m_tablesRead_71 f_m_potted_72 f_m_moves_73 f_m_bounces_74 f_m_hitFirst_75 f_m_hitPower_76 f_m_hitDown_77 f_m_hitRight_78 f_m_isFoul_79 f_m_bestCode_80 f_m_bestBrings_81 f_m_plansDone_82 f_m_safesDone_83 f_m_seenMany_84 f_m_seedNow_85 f_m_keptTable_86 f_m_keptScore_87 f_m_keptStrokes_88 f_m_keptFouls_89 f_m_keptSeen_90 f_m_hash_91 v_mP_92 v_mk_93 v_mw_94 v_mc_95 v_mo_96 v_mt_97 v_ms_98 v_mb_99 v_mK_100 v_mC_101 v_mS_102) else (some 0)))))))) else (if w_107 = 23 then ((f_X11_digest n f_x_tablesRead_3 f_x_plansDone_4 f_x_safesDone_5 f_xP_size_6 v_xPl_7 f_xG_seen_8 f_xG_score_9 f_xG_strokes_10 f_xG_fouls_11 f_xGT_taken_12 f_xGT_size_13 f_xGT_spot_14 v_xGTc_15 v_xGTk_16 v_xGTw_17 v_xGb_18 v_xGd_19 v_xGe_20 v_xGf_21 f_xR_moves_36 f_xR_bounces_37 f_xR_potted_38 f_xR_brings_39 f_xR_firstHitDirection_40 f_xR_firstHitPower_41 f_xR_foul_42 f_xRT_taken_43 f_xRT_size_44 f_xRT_spot_45 v_xRTc_46 v_xRTk_47 v_xRTw_48 f_xA_chosen_49 f_xA_value_50 v_xUn_64).bind (fun u_366 => ((f_X12_digest n f_m_pageMany_65 f_m_balls_66 f_m_spot_67 f_m_score_68 f_m_strokesNow_69 f_m_fouls_70 f_m_tablesRead_71 f_m_potted_72 f_m_moves_73 f_m_bounces_74 f_m_hitFirst_75 f_m_hitPower_76 f_m_hitDown_77 f_m_hitRight_78 f_m_isFoul_79 f_m_bestCode_80 f_m_bestBrings_81 f_m_plansDone_82 f_m_safesDone_83 f_m_seenMany_84 f_m_hash_91 v_mP_92 v_mk_93 v_mw_94 v_mc_95 v_mo_96 v_ms_98 v_mb_99).bind (fun u_367 => (if (lg_cmp u_366.1 u_367.1) = 0 then (j768_209 f_x_imageKept_2 f_x_tablesRead_3 f_x_plansDone_4 f_x_safesDone_5 f_xP_size_6 v_xPl_7 f_xG_seen_8 f_xG_score_9 f_xG_strokes_10 f_xG_fouls_11 f_xGT_taken_12 f_xGT_size_13 f_xGT_spot_14 v_xGTc_15 v_xGTk_16 v_xGTw_17 v_xGb_18 v_xGd_19 v_xGe_20 v_xGf_21 f_xK_seen_22 f_xK_score_23 f_xK_strokes_24 f_xK_fouls_25 f_xKT_taken_26 f_xKT_size_27 f_xKT_spot_28 v_xKTc_29 v_xKTk_30 v_xKTw_31 v_xKb_32 v_xKd_33 v_xKe_34 v_xKf_35 u_366.2.1 u_366.2.2.1 u_366.2.2.2.1 u_366.2.2.2.2.1 u_366.2.2.2.2.2.1 u_366.2.2.2.2.2.2.1 u_366.2.2.2.2.2.2.2.1 u_366.2.2.2.2.2.2.2.2.1 u_366.2.2.2.2.2.2.2.2.2.1 u_366.2.2.2.2.2.2.2.2.2.2.1 u_366.2.2.2.2.2.2.2.2.2.2.2.1 u_366.2.2.2.2.2.2.2.2.2.2.2.2.1 u_366.2.2.2.2.2.2.2.2.2.2.2.2.2.1 u_366.2.2.2.2.2.2.2.2.2.2.2.2.2.2.1 u_366.2.2.2.2.2.2.2.2.2.2.2.2.2.2.2.1 f_xAS_moves_51 f_xAS_bounces_52 f_xAS_potted_53 f_xAS_brings_54 f_xAS_firstHitDirection_55 f_xAS_firstHitPower_56 f_xAS_foul_57 f_xAST_taken_58 f_xAST_size_59 f_xAST_spot_60 v_xASTc_61 v_xASTk_62 v_xASTw_63 u_366.2.2.2.2.2.2.2.2.2.2.2.2.2.2.2.2 f_m_pageMany_65 f_m_balls_66 f_m_spot_67 f_m_score_68 f_m_strokesNow_69 f_m_fouls_70 f_m_tablesRead_71 u_367.2.1 u_367.2.2.1 u_367.2.2.2.1 u_367.2.2.2.2.1 u_367.2.2.2.2.2.1 u_367.2.2.2.2.2.2.1 u_367.2.2.2.2.2.2.2.1 u_367.2.2.2.2.2.2.2.2.1 u_367.2.2.2.2.2.2.2.2.2.1 u_367.2.2.2.2.2.2.2.2.2.2.1 f_m_plansDone_82 f_m_safesDone_83 f_m_seenMany_84 f_m_seedNow_85 f_m_keptTable_86 f_m_keptScore_87 f_m_keptStrokes_88 f_m_keptFouls_89 f_m_keptSeen_90 u_367.2.2.2.2.2.2.2.2.2.2.2.1 v_mP_92 u_367.2.2.2.2.2.2.2.2.2.2.2.2.1 v_mw_94 v_mc_95 u_367.2.2.2.2.2.2.2.2.2.2.2.2.2.1 v_mt_97 v_ms_98 u_367.2.2.2.2.2.2.2.2.2.2.2.2.2.2 v_mK_100 v_mC_101 v_mS_102) else (some 0)))))) else (j768_209 f_x_imageKept_2 f_x_tablesRead_3 f_x_plansDone_4 f_x_safesDone_5 f_xP_size_6 v_xPl_7 f_xG_seen_8 f_xG_score_9 f_xG_strokes_10 f_xG_fouls_11 f_xGT_taken_12 f_xGT_size_13 f_xGT_spot_14 v_xGTc_15 v_xGTk_16 v_xGTw_17 v_xGb_18 v_xGd_19 v_xGe_20 v_xGf_21 f_xK_seen_22 f_xK_score_23 f_xK_strokes_24 f_xK_fouls_25 f_xKT_taken_26 f_xKT_size_27 f_xKT_spot_28 v_xKTc_29 v_xKTk_30 v_xKTw_31 v_xKb_32 v_xKd_33 v_xKe_34 v_xKf_35 f_xR_moves_36 f_xR_bounces_37 f_xR_potted_38 f_xR_brings_39 f_xR_firstHitDirection_40 f_xR_firstHitPower_41 f_xR_foul_42 f_xRT_taken_43 f_xRT_size_44 f_xRT_spot_45 v_xRTc_46 v_xRTk_47 v_xRTw_48 f_xA_chosen_49 f_xA_value_50 f_xAS_moves_51 f_xAS_bounces_52 f_xAS_potted_53 f_xAS_brings_54 f_xAS_firstHitDirection_55 f_xAS_firstHitPower_56 f_xAS_foul_57 f_xAST_taken_58 f_xAST_size_59 f_xAST_spot_60 v_xASTc_61 v_xASTk_62 v_xASTw_63 v_xUn_64 f_m_pageMany_65 f_m_balls_66 f_m_spot_67 f_m_score_68 f_m_strokesNow_69 f_m_fouls_70 f_m_tablesRead_71 f_m_potted_72 f_m_moves_73 f_m_bounces_74 f_m_hitFirst_75 f_m_hitPower_76 f_m_hitDown_77 f_m_hitRight_78 f_m_isFoul_79 f_m_bestCode_80 f_m_bestBrings_81 f_m_plansDone_82 f_m_safesDone_83 f_m_seenMany_84 f_m_seedNow_85 f_m_keptTable_86 f_m_keptScore_87 f_m_keptStrokes_88 f_m_keptFouls_89 f_m_keptSeen_90 f_m_hash_91 v_mP_92 v_mk_93 v_mw_94 v_mc_95 v_mo_96 v_mt_97 v_ms_98 v_mb_99 v_mK_100 v_mC_101 v_mS_102)))))))))))))))))))))))))))))))
def f_L_law_L18 (n : Nat) (L : Nat) (xs : Nat → Int32) (k : Nat) (x3_1 : Int32) (f_x_imageKept_2 : Int32) (f_x_tablesRead_3 : Int32) (f_x_plansDone_4 : Int32) (f_x_safesDone_5 : Int32) (f_xP_size_6 : Int32) (v_xPl_7 : Nat → Int32) (f_xG_seen_8 : Int32) (f_xG_score_9 : Int32) (f_xG_strokes_10 : Int32) (f_xG_fouls_11 : Int32) (f_xGT_taken_12 : Int64) (f_xGT_size_13 : Int32) (f_xGT_spot_14 : Int32) (v_xGTc_15 : Nat → Int32) (v_xGTk_16 : Nat → Int32) (v_xGTw_17 : Nat → Int32) (v_xGb_18 : Nat → Int32) (v_xGd_19 : Nat → Int32) (v_xGe_20 : Nat → Int32) (v_xGf_21 : Nat → Int32) (f_xK_seen_22 : Int32) (f_xK_score_23 : Int32) (f_xK_strokes_24 : Int32) (f_xK_fouls_25 : Int32) (f_xKT_taken_26 : Int64) (f_xKT_size_27 : Int32) (f_xKT_spot_28 : Int32) (v_xKTc_29 : Nat → Int32) (v_xKTk_30 : Nat → Int32) (v_xKTw_31 : Nat → Int32) (v_xKb_32 : Nat → Int32) (v_xKd_33 : Nat → Int32) (v_xKe_34 : Nat → Int32) (v_xKf_35 : Nat → Int32) (f_xR_moves_36 : Int32) (f_xR_bounces_37 : Int32) (f_xR_potted_38 : Int32) (f_xR_brings_39 : Int32) (f_xR_firstHitDirection_40 : Int32) (f_xR_firstHitPower_41 : Int32) (f_xR_foul_42 : Int32) (f_xRT_taken_43 : Int64) (f_xRT_size_44 : Int32) (f_xRT_spot_45 : Int32) (v_xRTc_46 : Nat → Int32) (v_xRTk_47 : Nat → Int32) (v_xRTw_48 : Nat → Int32) (f_xA_chosen_49 : Int32) (f_xA_value_50 : Int32) (f_xAS_moves_51 : Int32) (f_xAS_bounces_52 : Int32) (f_xAS_potted_53 : Int32) (f_xAS_brings_54 : Int32) (f_xAS_firstHitDirection_55 : Int32) (f_xAS_firstHitPower_56 : Int32) (f_xAS_foul_57 : Int32) (f_xAST_taken_58 : Int64) (f_xAST_size_59 : Int32) (f_xAST_spot_60 : Int32) (v_xASTc_61 : Nat → Int32) (v_xASTk_62 : Nat → Int32) (v_xASTw_63 : Nat → Int32) (v_xUn_64 : Nat → Int32) (f_m_pageMany_65 : Int32) (f_m_balls_66 : Int32) (f_m_spot_67 : Int32) (f_m_score_68 : Int32) (f_m_strokesNow_69 : Int32) (f_m_fouls_70 : Int32) (f_m_tablesRead_71 : Int32) (f_m_potted_72 : Int32) (f_m_moves_73 : Int32) (f_m_bounces_74 : Int32) (f_m_hitFirst_75 : Int32) (f_m_hitPower_76 : Int32) (f_m_hitDown_77 : Int32) (f_m_hitRight_78 : Int32) (f_m_isFoul_79 : Int32) (f_m_bestCode_80 : Int32) (f_m_bestBrings_81 : Int32) (f_m_plansDone_82 : Int32) (f_m_safesDone_83 : Int32) (f_m_seenMany_84 : Int32) (f_m_seedNow_85 : Int32) (f_m_keptTable_86 : Int32) (f_m_keptScore_87 : Int32) (f_m_keptStrokes_88 : Int32) (f_m_keptFouls_89 : Int32) (f_m_keptSeen_90 : Int32) (f_m_hash_91 : Int64) (v_mP_92 : Nat → Int32) (v_mk_93 : Nat → Int32) (v_mw_94 : Nat → Int32) (v_mc_95 : Nat → Int32) (v_mo_96 : Nat → Int32) (v_mt_97 : Nat → Int32) (v_ms_98 : Nat → Int32) (v_mb_99 : Nat → Int32) (v_mK_100 : Nat → Int32) (v_mC_101 : Nat → Int32) (v_mS_102 : Nat → Int32) : Option (Int32) :=
  lpF (fun (self : (Int32 × Int32 × Int32 × Int32 × Int32 × Int32 × (Nat → Int32) × Int32 × Int32 × Int32 × Int32 × Int64 × Int32 × Int32 × (Nat → Int32) × (Nat → Int32) × (Nat → Int32) × (Nat → Int32) × (Nat → Int32) × (Nat → Int32) × (Nat → Int32) × Int32 × Int32 × Int32 × Int32 × Int64 × Int32 × Int32 × (Nat → Int32) × (Nat → Int32) × (Nat → Int32) × (Nat → Int32) × (Nat → Int32) × (Nat → Int32) × (Nat → Int32) × Int32 × Int32 × Int32 × Int32 × Int32 × Int32 × Int32 × Int64 × Int32 × Int32 × (Nat → Int32) × (Nat → Int32) × (Nat → Int32) × Int32 × Int32 × Int32 × Int32 × Int32 × Int32 × Int32 × Int32 × Int32 × Int64 × Int32 × Int32 × (Nat → Int32) × (Nat → Int32) × (Nat → Int32) × (Nat → Int32) × Int32 × Int32 × Int32 × Int32 × Int32 × Int32 × Int32 × Int32 × Int32 × Int32 × Int32 × Int32 × Int32 × Int32 × Int32 × Int32 × Int32 × Int32 × Int32 × Int32 × Int32 × Int32 × Int32 × Int32 × Int32 × Int32 × Int64 × (Nat → Int32) × (Nat → Int32) × (Nat → Int32) × (Nat → Int32) × (Nat → Int32) × (Nat → Int32) × (Nat → Int32) × (Nat → Int32) × (Nat → Int32) × (Nat → Int32) × (Nat → Int32)) → Option (Int32)) (a : Int32 × Int32 × Int32 × Int32 × Int32 × Int32 × (Nat → Int32) × Int32 × Int32 × Int32 × Int32 × Int64 × Int32 × Int32 × (Nat → Int32) × (Nat → Int32) × (Nat → Int32) × (Nat → Int32) × (Nat → Int32) × (Nat → Int32) × (Nat → Int32) × Int32 × Int32 × Int32 × Int32 × Int64 × Int32 × Int32 × (Nat → Int32) × (Nat → Int32) × (Nat → Int32) × (Nat → Int32) × (Nat → Int32) × (Nat → Int32) × (Nat → Int32) × Int32 × Int32 × Int32 × Int32 × Int32 × Int32 × Int32 × Int64 × Int32 × Int32 × (Nat → Int32) × (Nat → Int32) × (Nat → Int32) × Int32 × Int32 × Int32 × Int32 × Int32 × Int32 × Int32 × Int32 × Int32 × Int64 × Int32 × Int32 × (Nat → Int32) × (Nat → Int32) × (Nat → Int32) × (Nat → Int32) × Int32 × Int32 × Int32 × Int32 × Int32 × Int32 × Int32 × Int32 × Int32 × Int32 × Int32 × Int32 × Int32 × Int32 × Int32 × Int32 × Int32 × Int32 × Int32 × Int32 × Int32 × Int32 × Int32 × Int32 × Int32 × Int32 × Int64 × (Nat → Int32) × (Nat → Int32) × (Nat → Int32) × (Nat → Int32) × (Nat → Int32) × (Nat → Int32) × (Nat → Int32) × (Nat → Int32) × (Nat → Int32) × (Nat → Int32) × (Nat → Int32)) => b_L_law_L18 n L xs (fun x3_1 f_x_imageKept_2 f_x_tablesRead_3 f_x_plansDone_4 f_x_safesDone_5 f_xP_size_6 v_xPl_7 f_xG_seen_8 f_xG_score_9 f_xG_strokes_10 f_xG_fouls_11 f_xGT_taken_12 f_xGT_size_13 f_xGT_spot_14 v_xGTc_15 v_xGTk_16 v_xGTw_17 v_xGb_18 v_xGd_19 v_xGe_20 v_xGf_21 f_xK_seen_22 f_xK_score_23 f_xK_strokes_24 f_xK_fouls_25 f_xKT_taken_26 f_xKT_size_27 f_xKT_spot_28 v_xKTc_29 v_xKTk_30 v_xKTw_31 v_xKb_32 v_xKd_33 v_xKe_34 v_xKf_35 f_xR_moves_36 f_xR_bounces_37 f_xR_potted_38 f_xR_brings_39 f_xR_firstHitDirection_40 f_xR_firstHitPower_41 f_xR_foul_42 f_xRT_taken_43 f_xRT_size_44 f_xRT_spot_45 v_xRTc_46 v_xRTk_47 v_xRTw_48 f_xA_chosen_49 f_xA_value_50 f_xAS_moves_51 f_xAS_bounces_52 f_xAS_potted_53 f_xAS_brings_54 f_xAS_firstHitDirection_55 f_xAS_firstHitPower_56 f_xAS_foul_57 f_xAST_taken_58 f_xAST_size_59 f_xAST_spot_60 v_xASTc_61 v_xASTk_62 v_xASTw_63 v_xUn_64 f_m_pageMany_65 f_m_balls_66 f_m_spot_67 f_m_score_68 f_m_strokesNow_69 f_m_fouls_70 f_m_tablesRead_71 f_m_potted_72 f_m_moves_73 f_m_bounces_74 f_m_hitFirst_75 f_m_hitPower_76 f_m_hitDown_77 f_m_hitRight_78 f_m_isFoul_79 f_m_bestCode_80 f_m_bestBrings_81 f_m_plansDone_82 f_m_safesDone_83 f_m_seenMany_84 f_m_seedNow_85 f_m_keptTable_86 f_m_keptScore_87 f_m_keptStrokes_88 f_m_keptFouls_89 f_m_keptSeen_90 f_m_hash_91 v_mP_92 v_mk_93 v_mw_94 v_mc_95 v_mo_96 v_mt_97 v_ms_98 v_mb_99 v_mK_100 v_mC_101 v_mS_102 => self (x3_1, f_x_imageKept_2, f_x_tablesRead_3, f_x_plansDone_4, f_x_safesDone_5, f_xP_size_6, v_xPl_7, f_xG_seen_8, f_xG_score_9, f_xG_strokes_10, f_xG_fouls_11, f_xGT_taken_12, f_xGT_size_13, f_xGT_spot_14, v_xGTc_15, v_xGTk_16, v_xGTw_17, v_xGb_18, v_xGd_19, v_xGe_20, v_xGf_21, f_xK_seen_22, f_xK_score_23, f_xK_strokes_24, f_xK_fouls_25, f_xKT_taken_26, f_xKT_size_27, f_xKT_spot_28, v_xKTc_29, v_xKTk_30, v_xKTw_31, v_xKb_32, v_xKd_33, v_xKe_34, v_xKf_35, f_xR_moves_36, f_xR_bounces_37, f_xR_potted_38, f_xR_brings_39, f_xR_firstHitDirection_40, f_xR_firstHitPower_41, f_xR_foul_42, f_xRT_taken_43, f_xRT_size_44, f_xRT_spot_45, v_xRTc_46, v_xRTk_47, v_xRTw_48, f_xA_chosen_49, f_xA_value_50, f_xAS_moves_51, f_xAS_bounces_52, f_xAS_potted_53, f_xAS_brings_54, f_xAS_firstHitDirection_55, f_xAS_firstHitPower_56, f_xAS_foul_57, f_xAST_taken_58, f_xAST_size_59, f_xAST_spot_60, v_xASTc_61, v_xASTk_62, v_xASTw_63, v_xUn_64, f_m_pageMany_65, f_m_balls_66, f_m_spot_67, f_m_score_68, f_m_strokesNow_69, f_m_fouls_70, f_m_tablesRead_71, f_m_potted_72, f_m_moves_73, f_m_bounces_74, f_m_hitFirst_75, f_m_hitPower_76, f_m_hitDown_77, f_m_hitRight_78, f_m_isFoul_79, f_m_bestCode_80, f_m_bestBrings_81, f_m_plansDone_82, f_m_safesDone_83, f_m_seenMany_84, f_m_seedNow_85, f_m_keptTable_86, f_m_keptScore_87, f_m_keptStrokes_88, f_m_keptFouls_89, f_m_keptSeen_90, f_m_hash_91, v_mP_92, v_mk_93, v_mw_94, v_mc_95, v_mo_96, v_mt_97, v_ms_98, v_mb_99, v_mK_100, v_mC_101, v_mS_102)) a.1 a.2.1 a.2.2.1 a.2.2.2.1 a.2.2.2.2.1 a.2.2.2.2.2.1 a.2.2.2.2.2.2.1 a.2.2.2.2.2.2.2.1 a.2.2.2.2.2.2.2.2.1 a.2.2.2.2.2.2.2.2.2.1 a.2.2.2.2.2.2.2.2.2.2.1 a.2.2.2.2.2.2.2.2.2.2.2.1 a.2.2.2.2.2.2.2.2.2.2.2.2.1 a.2.2.2.2.2.2.2.2.2.2.2.2.2.1 a.2.2.2.2.2.2.2.2.2.2.2.2.2.2.1 a.2.2.2.2.2.2.2.2.2.2.2.2.2.2.2.1 a.2.2.2.2.2.2.2.2.2.2.2.2.2.2.2.2.1 a.2.2.2.2.2.2.2.2.2.2.2.2.2.2.2.2.2.1 a.2.2.2.2.2.2.2.2.2.2.2.2.2.2.2.2.2.2.1 a.2.2.2.2.2.2.2.2.2.2.2.2.2.2.2.2.2.2.2.1 a.2.2.2.2.2.2.2.2.2.2.2.2.2.2.2.2.2.2.2.2.1 a.2.2.2.2.2.2.2.2.2.2.2.2.2.2.2.2.2.2.2.2.2.1 a.2.2.2.2.2.2.2.2.2.2.2.2.2.2.2.2.2.2.2.2.2.2.1 a.2.2.2.2.2.2.2.2.2.2.2.2.2.2.2.2.2.2.2.2.2.2.2.1 a.2.2.2.2.2.2.2.2.2.2.2.2.2.2.2.2.2.2.2.2.2.2.2.2.1 a.2.2.2.2.2.2.2.2.2.2.2.2.2.2.2.2.2.2.2.2.2.2.2.2.2.1 a.2.2.2.2.2.2.2.2.2.2.2.2.2.2.2.2.2.2.2.2.2.2.2.2.2.2.1 a.2.2.2.2.2.2.2.2.2.2.2.2.2.2.2.2.2.2.2.2.2.2.2.2.2.2.2.1 a.2.2.2.2.2.2.2.2.2.2.2.2.2.2.2.2.2.2.2.2.2.2.2.2.2.2.2.2.1 a.2.2.2.2.2.2.2.2.2.2.2.2.2.2.2.2.2.2.2.2.2.2.2.2.2.2.2.2.2.1 a.2.2.2.2.2.2.2.2.2.2.2.2.2.2.2.2.2.2.2.2.2.2.2.2.2.2.2.2.2.2.1 a.2.2.2.2.2.2.2.2.2.2.2.2.2.2.2.2.2.2.2.2.2.2.2.2.2.2.2.2.2.2.2.1 a.2.2.2.2.2.2.2.2.2.2.2.2.2.2.2.2.2.2.2.2.2.2.2.2.2.2.2.2.2.2.2.2.1 a.2.2.2.2.2.2.2.2.2.2.2.2.2.2.2.2.2.2.2.2.2.2.2.2.2.2.2.2.2.2.2.2.2.1 a.2.2.2.2.2.2.2.2.2.2.2.2.2.2.2.2.2.2.2.2.2.2.2.2.2.2.2.2.2.2.2.2.2.2.1 a.2.2.2.2.2.2.2.2.2.2.2.2.2.2.2.2.2.2.2.2.2.2.2.2.2.2.2.2.2.2.2.2.2.2.2.1 a.2.2.2.2.2.2.2.2.2.2.2.2.2.2.2.2.2.2.2.2.2.2.2.2.2.2.2.2.2.2.2.2.2.2.2.2.1 a.2.2.2.2.2.2.2.2.2.2.2.2.2.2.2.2.2.2.2.2.2.2.2.2.2.2.2.2.2.2.2.2.2.2.2.2.2.1 a.2.2.2.2.2.2.2.2.2.2.2.2.2.2.2.2.2.2.2.2.2.2.2.2.2.2.2.2.2.2.2.2.2.2.2.2.2.2.1 a.2.2.2.2.2.2.2.2.2.2.2.2.2.2.2.2.2.2.2.2.2.2.2.2.2.2.2.2.2.2.2.2.2.2.2.2.2.2.2.1 a.2.2.2.2.2.2.2.2.2.2.2.2.2.2.2.2.2.2.2.2.2.2.2.2.2.2.2.2.2.2.2.2.2.2.2.2.2.2.2.2.1 a.2.2.2.2.2.2.2.2.2.2.2.2.2.2.2.2.2.2.2.2.2.2.2.2.2.2.2.2.2.2.2.2.2.2.2.2.2.2.2.2.2.1 a.2.2.2.2.2.2.2.2.2.2.2.2.2.2.2.2.2.2.2.2.2.2.2.2.2.2.2.2.2.2.2.2.2.2.2.2.2.2.2.2.2.2.1 a.2.2.2.2.2.2.2.2.2.2.2.2.2.2.2.2.2.2.2.2.2.2.2.2.2.2.2.2.2.2.2.2.2.2.2.2.2.2.2.2.2.2.2.1 a.2.2.2.2.2.2.2.2.2.2.2.2.2.2.2.2.2.2.2.2.2.2.2.2.2.2.2.2.2.2.2.2.2.2.2.2.2.2.2.2.2.2.2.2.1 a.2.2.2.2.2.2.2.2.2.2.2.2.2.2.2.2.2.2.2.2.2.2.2.2.2.2.2.2.2.2.2.2.2.2.2.2.2.2.2.2.2.2.2.2.2.1 a.2.2.2.2.2.2.2.2.2.2.2.2.2.2.2.2.2.2.2.2.2.2.2.2.2.2.2.2.2.2.2.2.2.2.2.2.2.2.2.2.2.2.2.2.2.2.1 a.2.2.2.2.2.2.2.2.2.2.2.2.2.2.2.2.2.2.2.2.2.2.2.2.2.2.2.2.2.2.2.2.2.2.2.2.2.2.2.2.2.2.2.2.2.2.2.1 a.2.2.2.2.2.2.2.2.2.2.2.2.2.2.2.2.2.2.2.2.2.2.2.2.2.2.2.2.2.2.2.2.2.2.2.2.2.2.2.2.2.2.2.2.2.2.2.2.1 a.2.2.2.2.2.2.2.2.2.2.2.2.2.2.2.2.2.2.2.2.2.2.2.2.2.2.2.2.2.2.2.2.2.2.2.2.2.2.2.2.2.2.2.2.2.2.2.2.2.1 a.2.2.2.2.2.2.2.2.2.2.2.2.2.2.2.2.2.2.2.2.2.2.2.2.2.2.2.2.2.2.2.2.2.2.2.2.2.2.2.2.2.2.2.2.2.2.2.2.2.2.1 a.2.2.2.2.2.2.2.2.2.2.2.2.2.2.2.2.2.2.2.2.2.2.2.2.2.2.2.2.2.2.2.2.2.2.2.2.2.2.2.2.2.2.2.2.2.2.2.2.2.2.2.1 a.2.2.2.2.2.2.2.2.2.2.2.2.2.2.2.2.2.2.2.2.2.2.2.2.2.2.2.2.2.2.2.2.2.2.2.2.2.2.2.2.2.2.2.2.2.2.2.2.2.2.2.2.1 a.2.2.2.2.2.2.2.2.2.2.2.2.2.2.2.2.2.2.2.2.2.2.2.2.2.2.2.2.2.2.2.2.2.2.2.2.2.2.2.2.2.2.2.2.2.2.2.2.2.2.2.2.2.1 a.2.2.2.2.2.2.2.2.2.2.2.2.2.2.2.2.2.2.2.2.2.2.2.2.2.2.2.2.2.2.2.2.2.2.2.2.2.2.2.2.2.2.2.2.2.2.2.2.2.2.2.2.2.2.1 a.2.2.2.2.2.2.2.2.2.2.2.2.2.2.2.2.2.2.2.2.2.2.2.2.2.2.2.2.2.2.2.2.2.2.2.2.2.2.2.2.2.2.2.2.2.2.2.2.2.2.2.2.2.2.2.1 a.2.2.2.2.2.2.2.2.2.2.2.2.2.2.2.2.2.2.2.2.2.2.2.2.2.2.2.2.2.2.2.2.2.2.2.2.2.2.2.2.2.2.2.2.2.2.2.2.2.2.2.2.2.2.2.2.1 a.2.2.2.2.2.2.2.2.2.2.2.2.2.2.2.2.2.2.2.2.2.2.2.2.2.2.2.2.2.2.2.2.2.2.2.2.2.2.2.2.2.2.2.2.2.2.2.2.2.2.2.2.2.2.2.2.2.1 a.2.2.2.2.2.2.2.2.2.2.2.2.2.2.2.2.2.2.2.2.2.2.2.2.2.2.2.2.2.2.2.2.2.2.2.2.2.2.2.2.2.2.2.2.2.2.2.2.2.2.2.2.2.2.2.2.2.2.1 a.2.2.2.2.2.2.2.2.2.2.2.2.2.2.2.2.2.2.2.2.2.2.2.2.2.2.2.2.2.2.2.2.2.2.2.2.2.2.2.2.2.2.2.2.2.2.2.2.2.2.2.2.2.2.2.2.2.2.2.1 a.2.2.2.2.2.2.2.2.2.2.2.2.2.2.2.2.2.2.2.2.2.2.2.2.2.2.2.2.2.2.2.2.2.2.2.2.2.2.2.2.2.2.2.2.2.2.2.2.2.2.2.2.2.2.2.2.2.2.2.2.1 a.2.2.2.2.2.2.2.2.2.2.2.2.2.2.2.2.2.2.2.2.2.2.2.2.2.2.2.2.2.2.2.2.2.2.2.2.2.2.2.2.2.2.2.2.2.2.2.2.2.2.2.2.2.2.2.2.2.2.2.2.2.1 a.2.2.2.2.2.2.2.2.2.2.2.2.2.2.2.2.2.2.2.2.2.2.2.2.2.2.2.2.2.2.2.2.2.2.2.2.2.2.2.2.2.2.2.2.2.2.2.2.2.2.2.2.2.2.2.2.2.2.2.2.2.2.1 a.2.2.2.2.2.2.2.2.2.2.2.2.2.2.2.2.2.2.2.2.2.2.2.2.2.2.2.2.2.2.2.2.2.2.2.2.2.2.2.2.2.2.2.2.2.2.2.2.2.2.2.2.2.2.2.2.2.2.2.2.2.2.2.1 a.2.2.2.2.2.2.2.2.2.2.2.2.2.2.2.2.2.2.2.2.2.2.2.2.2.2.2.2.2.2.2.2.2.2.2.2.2.2.2.2.2.2.2.2.2.2.2.2.2.2.2.2.2.2.2.2.2.2.2.2.2.2.2.2.1 a.2.2.2.2.2.2.2.2.2.2.2.2.2.2.2.2.2.2.2.2.2.2.2.2.2.2.2.2.2.2.2.2.2.2.2.2.2.2.2.2.2.2.2.2.2.2.2.2.2.2.2.2.2.2.2.2.2.2.2.2.2.2.2.2.2.1 a.2.2.2.2.2.2.2.2.2.2.2.2.2.2.2.2.2.2.2.2.2.2.2.2.2.2.2.2.2.2.2.2.2.2.2.2.2.2.2.2.2.2.2.2.2.2.2.2.2.2.2.2.2.2.2.2.2.2.2.2.2.2.2.2.2.2.1 a.2.2.2.2.2.2.2.2.2.2.2.2.2.2.2.2.2.2.2.2.2.2.2.2.2.2.2.2.2.2.2.2.2.2.2.2.2.2.2.2.2.2.2.2.2.2.2.2.2.2.2.2.2.2.2.2.2.2.2.2.2.2.2.2.2.2.2.1 a.2.2.2.2.2.2.2.2.2.2.2.2.2.2.2.2.2.2.2.2.2.2.2.2.2.2.2.2.2.2.2.2.2.2.2.2.2.2.2.2.2.2.2.2.2.2.2.2.2.2.2.2.2.2.2.2.2.2.2.2.2.2.2.2.2.2.2.2.1 a.2.2.2.2.2.2.2.2.2.2.2.2.2.2.2.2.2.2.2.2.2.2.2.2.2.2.2.2.2.2.2.2.2.2.2.2.2.2.2.2.2.2.2.2.2.2.2.2.2.2.2.2.2.2.2.2.2.2.2.2.2.2.2.2.2.2.2.2.2.1 a.2.2.2.2.2.2.2.2.2.2.2.2.2.2.2.2.2.2.2.2.2.2.2.2.2.2.2.2.2.2.2.2.2.2.2.2.2.2.2.2.2.2.2.2.2.2.2.2.2.2.2.2.2.2.2.2.2.2.2.2.2.2.2.2.2.2.2.2.2.2.1 a.2.2.2.2.2.2.2.2.2.2.2.2.2.2.2.2.2.2.2.2.2.2.2.2.2.2.2.2.2.2.2.2.2.2.2.2.2.2.2.2.2.2.2.2.2.2.2.2.2.2.2.2.2.2.2.2.2.2.2.2.2.2.2.2.2.2.2.2.2.2.2.1 a.2.2.2.2.2.2.2.2.2.2.2.2.2.2.2.2.2.2.2.2.2.2.2.2.2.2.2.2.2.2.2.2.2.2.2.2.2.2.2.2.2.2.2.2.2.2.2.2.2.2.2.2.2.2.2.2.2.2.2.2.2.2.2.2.2.2.2.2.2.2.2.2.1 a.2.2.2.2.2.2.2.2.2.2.2.2.2.2.2.2.2.2.2.2.2.2.2.2.2.2.2.2.2.2.2.2.2.2.2.2.2.2.2.2.2.2.2.2.2.2.2.2.2.2.2.2.2.2.2.2.2.2.2.2.2.2.2.2.2.2.2.2.2.2.2.2.2.1 a.2.2.2.2.2.2.2.2.2.2.2.2.2.2.2.2.2.2.2.2.2.2.2.2.2.2.2.2.2.2.2.2.2.2.2.2.2.2.2.2.2.2.2.2.2.2.2.2.2.2.2.2.2.2.2.2.2.2.2.2.2.2.2.2.2.2.2.2.2.2.2.2.2.2.1 a.2.2.2.2.2.2.2.2.2.2.2.2.2.2.2.2.2.2.2.2.2.2.2.2.2.2.2.2.2.2.2.2.2.2.2.2.2.2.2.2.2.2.2.2.2.2.2.2.2.2.2.2.2.2.2.2.2.2.2.2.2.2.2.2.2.2.2.2.2.2.2.2.2.2.2.1 a.2.2.2.2.2.2.2.2.2.2.2.2.2.2.2.2.2.2.2.2.2.2.2.2.2.2.2.2.2.2.2.2.2.2.2.2.2.2.2.2.2.2.2.2.2.2.2.2.2.2.2.2.2.2.2.2.2.2.2.2.2.2.2.2.2.2.2.2.2.2.2.2.2.2.2.2.1 a.2.2.2.2.2.2.2.2.2.2.2.2.2.2.2.2.2.2.2.2.2.2.2.2.2.2.2.2.2.2.2.2.2.2.2.2.2.2.2.2.2.2.2.2.2.2.2.2.2.2.2.2.2.2.2.2.2.2.2.2.2.2.2.2.2.2.2.2.2.2.2.2.2.2.2.2.2.1 a.2.2.2.2.2.2.2.2.2.2.2.2.2.2.2.2.2.2.2.2.2.2.2.2.2.2.2.2.2.2.2.2.2.2.2.2.2.2.2.2.2.2.2.2.2.2.2.2.2.2.2.2.2.2.2.2.2.2.2.2.2.2.2.2.2.2.2.2.2.2.2.2.2.2.2.2.2.2.1 a.2.2.2.2.2.2.2.2.2.2.2.2.2.2.2.2.2.2.2.2.2.2.2.2.2.2.2.2.2.2.2.2.2.2.2.2.2.2.2.2.2.2.2.2.2.2.2.2.2.2.2.2.2.2.2.2.2.2.2.2.2.2.2.2.2.2.2.2.2.2.2.2.2.2.2.2.2.2.2.1 a.2.2.2.2.2.2.2.2.2.2.2.2.2.2.2.2.2.2.2.2.2.2.2.2.2.2.2.2.2.2.2.2.2.2.2.2.2.2.2.2.2.2.2.2.2.2.2.2.2.2.2.2.2.2.2.2.2.2.2.2.2.2.2.2.2.2.2.2.2.2.2.2.2.2.2.2.2.2.2.2.1 a.2.2.2.2.2.2.2.2.2.2.2.2.2.2.2.2.2.2.2.2.2.2.2.2.2.2.2.2.2.2.2.2.2.2.2.2.2.2.2.2.2.2.2.2.2.2.2.2.2.2.2.2.2.2.2.2.2.2.2.2.2.2.2.2.2.2.2.2.2.2.2.2.2.2.2.2.2.2.2.2.2.1 a.2.2.2.2.2.2.2.2.2.2.2.2.2.2.2.2.2.2.2.2.2.2.2.2.2.2.2.2.2.2.2.2.2.2.2.2.2.2.2.2.2.2.2.2.2.2.2.2.2.2.2.2.2.2.2.2.2.2.2.2.2.2.2.2.2.2.2.2.2.2.2.2.2.2.2.2.2.2.2.2.2.2.1 a.2.2.2.2.2.2.2.2.2.2.2.2.2.2.2.2.2.2.2.2.2.2.2.2.2.2.2.2.2.2.2.2.2.2.2.2.2.2.2.2.2.2.2.2.2.2.2.2.2.2.2.2.2.2.2.2.2.2.2.2.2.2.2.2.2.2.2.2.2.2.2.2.2.2.2.2.2.2.2.2.2.2.2.1 a.2.2.2.2.2.2.2.2.2.2.2.2.2.2.2.2.2.2.2.2.2.2.2.2.2.2.2.2.2.2.2.2.2.2.2.2.2.2.2.2.2.2.2.2.2.2.2.2.2.2.2.2.2.2.2.2.2.2.2.2.2.2.2.2.2.2.2.2.2.2.2.2.2.2.2.2.2.2.2.2.2.2.2.2.1 a.2.2.2.2.2.2.2.2.2.2.2.2.2.2.2.2.2.2.2.2.2.2.2.2.2.2.2.2.2.2.2.2.2.2.2.2.2.2.2.2.2.2.2.2.2.2.2.2.2.2.2.2.2.2.2.2.2.2.2.2.2.2.2.2.2.2.2.2.2.2.2.2.2.2.2.2.2.2.2.2.2.2.2.2.2.1 a.2.2.2.2.2.2.2.2.2.2.2.2.2.2.2.2.2.2.2.2.2.2.2.2.2.2.2.2.2.2.2.2.2.2.2.2.2.2.2.2.2.2.2.2.2.2.2.2.2.2.2.2.2.2.2.2.2.2.2.2.2.2.2.2.2.2.2.2.2.2.2.2.2.2.2.2.2.2.2.2.2.2.2.2.2.2.1 a.2.2.2.2.2.2.2.2.2.2.2.2.2.2.2.2.2.2.2.2.2.2.2.2.2.2.2.2.2.2.2.2.2.2.2.2.2.2.2.2.2.2.2.2.2.2.2.2.2.2.2.2.2.2.2.2.2.2.2.2.2.2.2.2.2.2.2.2.2.2.2.2.2.2.2.2.2.2.2.2.2.2.2.2.2.2.2.1 a.2.2.2.2.2.2.2.2.2.2.2.2.2.2.2.2.2.2.2.2.2.2.2.2.2.2.2.2.2.2.2.2.2.2.2.2.2.2.2.2.2.2.2.2.2.2.2.2.2.2.2.2.2.2.2.2.2.2.2.2.2.2.2.2.2.2.2.2.2.2.2.2.2.2.2.2.2.2.2.2.2.2.2.2.2.2.2.2.1 a.2.2.2.2.2.2.2.2.2.2.2.2.2.2.2.2.2.2.2.2.2.2.2.2.2.2.2.2.2.2.2.2.2.2.2.2.2.2.2.2.2.2.2.2.2.2.2.2.2.2.2.2.2.2.2.2.2.2.2.2.2.2.2.2.2.2.2.2.2.2.2.2.2.2.2.2.2.2.2.2.2.2.2.2.2.2.2.2.2.1 a.2.2.2.2.2.2.2.2.2.2.2.2.2.2.2.2.2.2.2.2.2.2.2.2.2.2.2.2.2.2.2.2.2.2.2.2.2.2.2.2.2.2.2.2.2.2.2.2.2.2.2.2.2.2.2.2.2.2.2.2.2.2.2.2.2.2.2.2.2.2.2.2.2.2.2.2.2.2.2.2.2.2.2.2.2.2.2.2.2.2.1 a.2.2.2.2.2.2.2.2.2.2.2.2.2.2.2.2.2.2.2.2.2.2.2.2.2.2.2.2.2.2.2.2.2.2.2.2.2.2.2.2.2.2.2.2.2.2.2.2.2.2.2.2.2.2.2.2.2.2.2.2.2.2.2.2.2.2.2.2.2.2.2.2.2.2.2.2.2.2.2.2.2.2.2.2.2.2.2.2.2.2.2.1 a.2.2.2.2.2.2.2.2.2.2.2.2.2.2.2.2.2.2.2.2.2.2.2.2.2.2.2.2.2.2.2.2.2.2.2.2.2.2.2.2.2.2.2.2.2.2.2.2.2.2.2.2.2.2.2.2.2.2.2.2.2.2.2.2.2.2.2.2.2.2.2.2.2.2.2.2.2.2.2.2.2.2.2.2.2.2.2.2.2.2.2.2.1 a.2.2.2.2.2.2.2.2.2.2.2.2.2.2.2.2.2.2.2.2.2.2.2.2.2.2.2.2.2.2.2.2.2.2.2.2.2.2.2.2.2.2.2.2.2.2.2.2.2.2.2.2.2.2.2.2.2.2.2.2.2.2.2.2.2.2.2.2.2.2.2.2.2.2.2.2.2.2.2.2.2.2.2.2.2.2.2.2.2.2.2.2.2.1 a.2.2.2.2.2.2.2.2.2.2.2.2.2.2.2.2.2.2.2.2.2.2.2.2.2.2.2.2.2.2.2.2.2.2.2.2.2.2.2.2.2.2.2.2.2.2.2.2.2.2.2.2.2.2.2.2.2.2.2.2.2.2.2.2.2.2.2.2.2.2.2.2.2.2.2.2.2.2.2.2.2.2.2.2.2.2.2.2.2.2.2.2.2.2.1 a.2.2.2.2.2.2.2.2.2.2.2.2.2.2.2.2.2.2.2.2.2.2.2.2.2.2.2.2.2.2.2.2.2.2.2.2.2.2.2.2.2.2.2.2.2.2.2.2.2.2.2.2.2.2.2.2.2.2.2.2.2.2.2.2.2.2.2.2.2.2.2.2.2.2.2.2.2.2.2.2.2.2.2.2.2.2.2.2.2.2.2.2.2.2.2.1 a.2.2.2.2.2.2.2.2.2.2.2.2.2.2.2.2.2.2.2.2.2.2.2.2.2.2.2.2.2.2.2.2.2.2.2.2.2.2.2.2.2.2.2.2.2.2.2.2.2.2.2.2.2.2.2.2.2.2.2.2.2.2.2.2.2.2.2.2.2.2.2.2.2.2.2.2.2.2.2.2.2.2.2.2.2.2.2.2.2.2.2.2.2.2.2.2.1 a.2.2.2.2.2.2.2.2.2.2.2.2.2.2.2.2.2.2.2.2.2.2.2.2.2.2.2.2.2.2.2.2.2.2.2.2.2.2.2.2.2.2.2.2.2.2.2.2.2.2.2.2.2.2.2.2.2.2.2.2.2.2.2.2.2.2.2.2.2.2.2.2.2.2.2.2.2.2.2.2.2.2.2.2.2.2.2.2.2.2.2.2.2.2.2.2.2.1 a.2.2.2.2.2.2.2.2.2.2.2.2.2.2.2.2.2.2.2.2.2.2.2.2.2.2.2.2.2.2.2.2.2.2.2.2.2.2.2.2.2.2.2.2.2.2.2.2.2.2.2.2.2.2.2.2.2.2.2.2.2.2.2.2.2.2.2.2.2.2.2.2.2.2.2.2.2.2.2.2.2.2.2.2.2.2.2.2.2.2.2.2.2.2.2.2.2.2.1 a.2.2.2.2.2.2.2.2.2.2.2.2.2.2.2.2.2.2.2.2.2.2.2.2.2.2.2.2.2.2.2.2.2.2.2.2.2.2.2.2.2.2.2.2.2.2.2.2.2.2.2.2.2.2.2.2.2.2.2.2.2.2.2.2.2.2.2.2.2.2.2.2.2.2.2.2.2.2.2.2.2.2.2.2.2.2.2.2.2.2.2.2.2.2.2.2.2.2.2.1 a.2.2.2.2.2.2.2.2.2.2.2.2.2.2.2.2.2.2.2.2.2.2.2.2.2.2.2.2.2.2.2.2.2.2.2.2.2.2.2.2.2.2.2.2.2.2.2.2.2.2.2.2.2.2.2.2.2.2.2.2.2.2.2.2.2.2.2.2.2.2.2.2.2.2.2.2.2.2.2.2.2.2.2.2.2.2.2.2.2.2.2.2.2.2.2.2.2.2.2.2.1 a.2.2.2.2.2.2.2.2.2.2.2.2.2.2.2.2.2.2.2.2.2.2.2.2.2.2.2.2.2.2.2.2.2.2.2.2.2.2.2.2.2.2.2.2.2.2.2.2.2.2.2.2.2.2.2.2.2.2.2.2.2.2.2.2.2.2.2.2.2.2.2.2.2.2.2.2.2.2.2.2.2.2.2.2.2.2.2.2.2.2.2.2.2.2.2.2.2.2.2.2.2) k (x3_1, f_x_imageKept_2, f_x_tablesRead_3, f_x_plansDone_4, f_x_safesDone_5, f_xP_size_6, v_xPl_7, f_xG_seen_8, f_xG_score_9, f_xG_strokes_10, f_xG_fouls_11, f_xGT_taken_12, f_xGT_size_13, f_xGT_spot_14, v_xGTc_15, v_xGTk_16, v_xGTw_17, v_xGb_18, v_xGd_19, v_xGe_20, v_xGf_21, f_xK_seen_22, f_xK_score_23, f_xK_strokes_24, f_xK_fouls_25, f_xKT_taken_26, f_xKT_size_27, f_xKT_spot_28, v_xKTc_29, v_xKTk_30, v_xKTw_31, v_xKb_32, v_xKd_33, v_xKe_34, v_xKf_35, f_xR_moves_36, f_xR_bounces_37, f_xR_potted_38, f_xR_brings_39, f_xR_firstHitDirection_40, f_xR_firstHitPower_41, f_xR_foul_42, f_xRT_taken_43, f_xRT_size_44, f_xRT_spot_45, v_xRTc_46, v_xRTk_47, v_xRTw_48, f_xA_chosen_49, f_xA_value_50, f_xAS_moves_51, f_xAS_bounces_52, f_xAS_potted_53, f_xAS_brings_54, f_xAS_firstHitDirection_55, f_xAS_firstHitPower_56, f_xAS_foul_57, f_xAST_taken_58, f_xAST_size_59, f_xAST_spot_60, v_xASTc_61, v_xASTk_62, v_xASTw_63, v_xUn_64, f_m_pageMany_65, f_m_balls_66, f_m_spot_67, f_m_score_68, f_m_strokesNow_69, f_m_fouls_70, f_m_tablesRead_71, f_m_potted_72, f_m_moves_73, f_m_bounces_74, f_m_hitFirst_75, f_m_hitPower_76, f_m_hitDown_77, f_m_hitRight_78, f_m_isFoul_79, f_m_bestCode_80, f_m_bestBrings_81, f_m_plansDone_82, f_m_safesDone_83, f_m_seenMany_84, f_m_seedNow_85, f_m_keptTable_86, f_m_keptScore_87, f_m_keptStrokes_88, f_m_keptFouls_89, f_m_keptSeen_90, f_m_hash_91, v_mP_92, v_mk_93, v_mw_94, v_mc_95, v_mo_96, v_mt_97, v_ms_98, v_mb_99, v_mK_100, v_mC_101, v_mS_102)
def f_L_law (n : Nat) (L : Nat) (xs : Nat → Int32) (f_x_imageKept : Int32) (f_x_tablesRead : Int32) (f_x_plansDone : Int32) (f_x_safesDone : Int32) (f_xP_size : Int32) (v_xPl : Nat → Int32) (f_xG_seen : Int32) (f_xG_score : Int32) (f_xG_strokes : Int32) (f_xG_fouls : Int32) (f_xGT_taken : Int64) (f_xGT_size : Int32) (f_xGT_spot : Int32) (v_xGTc : Nat → Int32) (v_xGTk : Nat → Int32) (v_xGTw : Nat → Int32) (v_xGb : Nat → Int32) (v_xGd : Nat → Int32) (v_xGe : Nat → Int32) (v_xGf : Nat → Int32) (f_xK_seen : Int32) (f_xK_score : Int32) (f_xK_strokes : Int32) (f_xK_fouls : Int32) (f_xKT_taken : Int64) (f_xKT_size : Int32) (f_xKT_spot : Int32) (v_xKTc : Nat → Int32) (v_xKTk : Nat → Int32) (v_xKTw : Nat → Int32) (v_xKb : Nat → Int32) (v_xKd : Nat → Int32) (v_xKe : Nat → Int32) (v_xKf : Nat → Int32) (f_xR_moves : Int32) (f_xR_bounces : Int32) (f_xR_potted : Int32) (f_xR_brings : Int32) (f_xR_firstHitDirection : Int32) (f_xR_firstHitPower : Int32) (f_xR_foul : Int32) (f_xRT_taken : Int64) (f_xRT_size : Int32) (f_xRT_spot : Int32) (v_xRTc : Nat → Int32) (v_xRTk : Nat → Int32) (v_xRTw : Nat → Int32) (f_xA_chosen : Int32) (f_xA_value : Int32) (f_xAS_moves : Int32) (f_xAS_bounces : Int32) (f_xAS_potted : Int32) (f_xAS_brings : Int32) (f_xAS_firstHitDirection : Int32) (f_xAS_firstHitPower : Int32) (f_xAS_foul : Int32) (f_xAST_taken : Int64) (f_xAST_size : Int32) (f_xAST_spot : Int32) (v_xASTc : Nat → Int32) (v_xASTk : Nat → Int32) (v_xASTw : Nat → Int32) (v_xUn : Nat → Int32) (f_m_pageMany : Int32) (f_m_balls : Int32) (f_m_spot : Int32) (f_m_score : Int32) (f_m_strokesNow : Int32) (f_m_fouls : Int32) (f_m_tablesRead : Int32) (f_m_potted : Int32) (f_m_moves : Int32) (f_m_bounces : Int32) (f_m_hitFirst : Int32) (f_m_hitPower : Int32) (f_m_hitDown : Int32) (f_m_hitRight : Int32) (f_m_isFoul : Int32) (f_m_bestCode : Int32) (f_m_bestBrings : Int32) (f_m_plansDone : Int32) (f_m_safesDone : Int32) (f_m_seenMany : Int32) (f_m_seedNow : Int32) (f_m_keptTable : Int32) (f_m_keptScore : Int32) (f_m_keptStrokes : Int32) (f_m_keptFouls : Int32) (f_m_keptSeen : Int32) (f_m_hash : Int64) (v_mP : Nat → Int32) (v_mk : Nat → Int32) (v_mw : Nat → Int32) (v_mc : Nat → Int32) (v_mo : Nat → Int32) (v_mt : Nat → Int32) (v_ms : Nat → Int32) (v_mb : Nat → Int32) (v_mK : Nat → Int32) (v_mC : Nat → Int32) (v_mS : Nat → Int32) : Option (Int32) :=
  (f_L_law_L18 n L xs n 0 f_x_imageKept f_x_tablesRead f_x_plansDone f_x_safesDone f_xP_size v_xPl f_xG_seen f_xG_score f_xG_strokes f_xG_fouls f_xGT_taken f_xGT_size f_xGT_spot v_xGTc v_xGTk v_xGTw v_xGb v_xGd v_xGe v_xGf f_xK_seen f_xK_score f_xK_strokes f_xK_fouls f_xKT_taken f_xKT_size f_xKT_spot v_xKTc v_xKTk v_xKTw v_xKb v_xKd v_xKe v_xKf f_xR_moves f_xR_bounces f_xR_potted f_xR_brings f_xR_firstHitDirection f_xR_firstHitPower f_xR_foul f_xRT_taken f_xRT_size f_xRT_spot v_xRTc v_xRTk v_xRTw f_xA_chosen f_xA_value f_xAS_moves f_xAS_bounces f_xAS_potted f_xAS_brings f_xAS_firstHitDirection f_xAS_firstHitPower f_xAS_foul f_xAST_taken f_xAST_size f_xAST_spot v_xASTc v_xASTk v_xASTw v_xUn f_m_pageMany f_m_balls f_m_spot f_m_score f_m_strokesNow f_m_fouls f_m_tablesRead f_m_potted f_m_moves f_m_bounces f_m_hitFirst f_m_hitPower f_m_hitDown f_m_hitRight f_m_isFoul f_m_bestCode f_m_bestBrings f_m_plansDone f_m_safesDone f_m_seenMany f_m_seedNow f_m_keptTable f_m_keptScore f_m_keptStrokes f_m_keptFouls f_m_keptSeen f_m_hash v_mP v_mk v_mw v_mc v_mo v_mt v_ms v_mb v_mK v_mC v_mS)
def law0 (n L : Nat) (xs : Nat → Int32) : Option Int32 := f_L_law n L xs 0 0 0 0 0 (fun _ => 0) 0 0 0 0 0 0 0 (upd (upd (upd (upd (upd (upd (upd (fun _ => 0) 0 (-1)) 1 (-1)) 2 (-1)) 3 (-1)) 4 (-1)) 5 (-1)) 6 (-1)) (fun _ => 0) (fun _ => 0) (fun _ => 0) (fun _ => 0) (fun _ => 0) (fun _ => 0) 0 0 0 0 0 0 0 (upd (upd (upd (upd (upd (upd (upd (fun _ => 0) 0 (-1)) 1 (-1)) 2 (-1)) 3 (-1)) 4 (-1)) 5 (-1)) 6 (-1)) (fun _ => 0) (fun _ => 0) (fun _ => 0) (fun _ => 0) (fun _ => 0) (fun _ => 0) 0 0 0 0 0 0 0 0 0 0 (upd (upd (upd (upd (upd (upd (upd (fun _ => 0) 0 (-1)) 1 (-1)) 2 (-1)) 3 (-1)) 4 (-1)) 5 (-1)) 6 (-1)) (fun _ => 0) (fun _ => 0) (-1) 0 0 0 0 0 0 0 0 0 0 0 (upd (upd (upd (upd (upd (upd (upd (fun _ => 0) 0 (-1)) 1 (-1)) 2 (-1)) 3 (-1)) 4 (-1)) 5 (-1)) 6 (-1)) (fun _ => 0) (fun _ => 0) (fun _ => 0) 0 0 0 0 0 0 0 0 0 0 0 0 0 0 0 0 0 0 0 0 0 (-1) 0 0 0 0 0 (fun _ => 0) (fun _ => 0) (fun _ => 0) (fun _ => 0) (fun _ => 0) (fun _ => 0) (fun _ => 0) (fun _ => 0) (fun _ => 0) (fun _ => 0) (fun _ => 0)
end
section
/-! the table's cells and directions, as numbers -/
def pkt (q : Nat) : Bool := (q / 9 == 0 || q / 9 == 4) && (q % 9 % 4 == 0)
def oR (q w : Nat) : Bool := (rowS w == -1 && q / 9 == 0) || (rowS w == 1 && q / 9 == 4)
def oC (q w : Nat) : Bool := (colS w == -1 && q % 9 == 0) || (colS w == 1 && q % 9 == 8)
def nx (q w : Nat) : Nat := (((q : Int) / 9 + (rowS w).toInt) * 9 + ((q : Int) % 9 + (colS w).toInt)).toNat
def tw (w : Nat) (r c : Bool) : Nat := if c then (8 - (if r then (12 - w) % 8 else w)) % 8 else (if r then (12 - w) % 8 else w)
def ah (q w : Nat) : Nat := Nat.min (if rowS w = -1 then q / 9 else if rowS w = 1 then 4 - q / 9 else 8) (if colS w = -1 then q % 9 else if colS w = 1 then 8 - q % 9 else 8)
def b2 (x : Bool) : Int32 := if x then 1 else 0
theorem t_pocket : ∀ q, q < 45 → f_X11_isPocket (nI q) = some (b2 (pkt q)) ∧ f_X12_isPocket (nI q) = some (b2 (pkt q)) := by decide +kernel
theorem t_row : ∀ q, q < 45 → ∀ w, w < 8 → f_X11_isRow (nI q / 9 + rowS w) = some (b2 (!oR q w)) := by decide +kernel
theorem t_col : ∀ q, q < 45 → ∀ w, w < 8 → f_X11_isColumn (nI q - nI q / 9 * 9 + colS w) = some (b2 (!oC q w)) := by decide +kernel
theorem t_rowM : ∀ q, q < 45 → ∀ w, w < 8 → f_X12_in (nI q / 9 + rowS w).toInt64 0 4 = some (b2 (!oR q w)) := by decide +kernel
theorem t_colM : ∀ q, q < 45 → ∀ w, w < 8 → f_X12_in (nI q - nI q / 9 * 9 + colS w).toInt64 0 8 = some (b2 (!oC q w)) := by decide +kernel
theorem t_next0 : ∀ q, q < 45 → ∀ w, w < 8 → (oR q w = true ∨ oC q w = true ∨ (9 * (nI q / 9 + rowS w) + (nI q - nI q / 9 * 9 + colS w) = nI (nx q w) ∧ nx q w < 45 ∧ ah (nx q w) w + 1 ≤ ah q w ∧ nx q w ≠ q)) := by decide +kernel
theorem t_next {q w : Nat} (hq : q < 45) (hw : w < 8) (h1 : oR q w = false) (h2 : oC q w = false) : 9 * (nI q / 9 + rowS w) + (nI q - nI q / 9 * 9 + colS w) = nI (nx q w) ∧ nx q w < 45 ∧ ah (nx q w) w + 1 ≤ ah q w ∧ nx q w ≠ q := by
  rcases t_next0 q hq w hw with h | h | h
  · rw [h1] at h; cases h
  · rw [h2] at h; cases h
  · exact h
theorem t_ah : ∀ q, q < 45 → ∀ w, w < 8 → ah q w ≤ 8 := by decide +kernel
theorem t_turn : ∀ w, w < 8 → ∀ r c : Bool, f_X9_turned (nI w) (b2 r) (b2 c) = some (nI (tw w r c)) ∧ tw w r c < 8 ∧ rowS (tw w r c) = (if r then - rowS w else rowS w) ∧ colS (tw w r c) = (if c then - colS w else colS w) := by decide +kernel
theorem t_step : ∀ w, w < 8 → f_X10_rowStep (nI w) = some (rowS w) ∧ f_X10_columnStep (nI w) = some (colS w) ∧ f_X12_downBy (nI w) = some (rowS w) ∧ f_X12_rightBy (nI w) = some (colS w) := by decide +kernel
theorem t_back : ∀ w, w < 8 → (nI w + 4) &&& 7 = nI ((w + 4) % 8) ∧ rowS ((w + 4) % 8) = -1 * rowS w ∧ colS ((w + 4) % 8) = -1 * colS w ∧ 1 * rowS w = rowS w ∧ 1 * colS w = colS w := by decide +kernel
def pwN (j p : Nat) : Nat := if j = 1 then p / 2 else if j = 2 then p + 1 else if j = 4 then p / 4 else p
theorem t_pow : ∀ j, j < 5 → ∀ p, p < 11 → powerF j (nI p) = nI (pwN j p) ∧ f_X12_rollsBy (nI j) (nI p) = some (nI (pwN j p)) ∧ pwN j p ≤ p + 1 := by decide +kernel
theorem t_stop : ∀ j, j < 5 → stopsF j = b2 (j == 3) ∧ f_X9_kind (nI j) = some j ∧ (nI j = 3 ↔ j = 3) := by decide +kernel
theorem t_half : ∀ p, p < 11 → nI p / 2 = nI (p / 2) := by decide +kernel
theorem t_cell (c : Nat → Int32) {b : Nat} (hb : b < 7) : f_X10_cellOf c (nI b) = some (c b) ∧ f_X10_kindOf c (nI b) = some (c b) ∧ f_X10_worthOf c (nI b) = some (c b) := by
  have h0 : ¬ nI b < 0 := nI_pos (by omega)
  have h7 : ¬ 7 ≤ nI b := nI_ge hb (by decide)
  have hi : inb (nI b) 7 = true := by
    simp only [inb, Bool.and_eq_true, decide_eq_true_eq, nI_toInt (show b < 2 ^ 31 by omega)]
    omega
  have hc : (nI b).toNatClampNeg = b := nI_clamp (by omega)
  refine ⟨?_, ?_, ?_⟩
  · simp only [f_X10_cellOf, jn, gd, if_neg h0, if_neg h7, hi, if_true, hc]
  · simp only [f_X10_kindOf, jn, gd, if_neg h0, if_neg h7, hi, if_true, hc]
  · simp only [f_X10_worthOf, jn, gd, if_neg h0, if_neg h7, hi, if_true, hc]
end
section
/-! rows on bits, shifts and unsigned numbers, to paste: each family out of a closed proof of our own, whole with what it rests on; each by itself clean at Lean in its own claim (generation 39, form 5). Take a family whole -/
/-! ===== Int32 by its bits: bt x i ===== -/
def bt (x : Int32) (i : Nat) : Bool := x.toBitVec.getLsbD i
theorem b_ext {x y : Int32} (h : ∀ i, i < 32 → bt x i = bt y i) : x = y := Int32.toBitVec_inj.mp (BitVec.eq_of_getLsbD_eq (fun i hi => h i hi))
theorem b_or (x y : Int32) (i : Nat) : bt (x ||| y) i = (bt x i || bt y i) := by unfold bt; rw [Int32.toBitVec_or, BitVec.getLsbD_or]
theorem b_and (x y : Int32) (i : Nat) : bt (x &&& y) i = (bt x i && bt y i) := by unfold bt; rw [Int32.toBitVec_and, BitVec.getLsbD_and]
theorem b_xor (x y : Int32) (i : Nat) : bt (x ^^^ y) i = (bt x i ^^ bt y i) := by unfold bt; rw [Int32.toBitVec_xor, BitVec.getLsbD_xor]
theorem b_big {x : Int32} {i : Nat} (h : 32 ≤ i) : bt x i = false := BitVec.getLsbD_of_ge _ _ h
theorem b_255 (i : Nat) : bt 255 i = decide (i < 8) := by
  rcases Nat.lt_or_ge i 32 with h | h
  · exact (by decide +kernel : ∀ i, i < 32 → bt 255 i = decide (i < 8)) i h
  · rw [b_big h, decide_eq_false (by omega)]
theorem b_65535 (i : Nat) : bt 65535 i = decide (i < 16) := by
  rcases Nat.lt_or_ge i 32 with h | h
  · exact (by decide +kernel : ∀ i, i < 32 → bt 65535 i = decide (i < 16)) i h
  · rw [b_big h, decide_eq_false (by omega)]
theorem b_m1 : ∀ i, i < 32 → bt (-1) i = true := by decide +kernel
theorem b_0 (i : Nat) : bt 0 i = false := BitVec.getLsbD_zero
theorem s_l : ∀ n, n < 32 → ((nI n &&& 31).toBitVec.smod 32).toNat = n := by decide +kernel
theorem s_u : ∀ n, n < 32 → (((nI n).toUInt32 &&& Int32.toUInt32 31).toBitVec % 32).toNat = n := by decide +kernel
theorem b_shl (n : Nat) (hn : n < 32) (x : Int32) {i : Nat} (hi : i < 32) : bt (x <<< (nI n &&& 31)) i = (decide (n ≤ i) && bt x (i - n)) := by
  unfold bt
  rw [Int32.toBitVec_shiftLeft]
  show (x.toBitVec <<< ((nI n &&& 31).toBitVec.smod 32).toNat).getLsbD i = _
  rw [s_l n hn, BitVec.getLsbD_shiftLeft]
  rcases Nat.lt_or_ge i n with h | h
  · simp [h, Nat.not_le.mpr h]
  · simp [hi, h, Nat.not_lt.mpr h]
theorem b_ushr (n : Nat) (hn : n < 32) (x : Int32) (i : Nat) : bt ((x.toUInt32 >>> ((nI n).toUInt32 &&& Int32.toUInt32 31)).toInt32) i = bt x (n + i) := by
  show (x.toUInt32 >>> ((nI n).toUInt32 &&& Int32.toUInt32 31)).toBitVec.getLsbD i = x.toUInt32.toBitVec.getLsbD (n + i)
  rw [UInt32.toBitVec_shiftRight]
  show (x.toUInt32.toBitVec >>> (((nI n).toUInt32 &&& Int32.toUInt32 31).toBitVec % 32).toNat).getLsbD i = _
  rw [s_u n hn, BitVec.getLsbD_ushiftRight]
theorem b_sshr (n : Nat) (hn : n < 32) (x : Int32) {i : Nat} (hi : i < 32) : bt (x >>> (nI n &&& 31)) i = if n + i < 32 then bt x (n + i) else bt x 31 := by
  unfold bt
  rw [Int32.toBitVec_shiftRight]
  show (x.toBitVec.sshiftRight ((nI n &&& 31).toBitVec.smod 32).toNat).getLsbD i = _
  rw [s_l n hn, BitVec.getLsbD_sshiftRight, BitVec.msb_eq_getLsbD_last]
  simp [hi]
theorem b_shl8 (x : Int32) {i : Nat} (hi : i < 32) : bt (x <<< ((8 : Int32) &&& 31)) i = (decide (8 ≤ i) && bt x (i - 8)) := b_shl 8 (by omega) x hi
theorem b_shl16 (x : Int32) {i : Nat} (hi : i < 32) : bt (x <<< ((16 : Int32) &&& 31)) i = (decide (16 ≤ i) && bt x (i - 16)) := b_shl 16 (by omega) x hi
theorem b_shl24 (x : Int32) {i : Nat} (hi : i < 32) : bt (x <<< ((24 : Int32) &&& 31)) i = (decide (24 ≤ i) && bt x (i - 24)) := b_shl 24 (by omega) x hi
theorem b_sshr8 (x : Int32) {i : Nat} (hi : i < 32) : bt (x >>> ((8 : Int32) &&& 31)) i = if 8 + i < 32 then bt x (8 + i) else bt x 31 := b_sshr 8 (by omega) x hi
/-! ===== nI under and, xor, >>>, one bit, 65535 ===== -/
theorem nx_and (a b : Nat) : nI a &&& nI b = nI (a &&& b) := by
  apply Int32.toBitVec_inj.1
  show BitVec.ofNat 32 a &&& BitVec.ofNat 32 b = BitVec.ofNat 32 (a &&& b)
  apply BitVec.eq_of_getLsbD_eq
  intro i hi
  simp [hi]
theorem nx_xor (a b : Nat) : nI a ^^^ nI b = nI (a ^^^ b) := by
  apply Int32.toBitVec_inj.1
  show BitVec.ofNat 32 a ^^^ BitVec.ofNat 32 b = BitVec.ofNat 32 (a ^^^ b)
  apply BitVec.eq_of_getLsbD_eq
  intro i hi
  simp [hi]
theorem nx_cnt : ∀ j : Fin 32, (UInt32.ofNat j.val &&& Int32.toUInt32 31).toNat % 32 = j.val := by decide +kernel
theorem nx_ush {k j : Nat} (hk : k < 65536) (hj : j < 32) : ((nI k).toUInt32 >>> ((nI j).toUInt32 &&& Int32.toUInt32 31)).toInt32 = nI (k >>> j) := by
  have hs : k >>> j ≤ k := by
    rw [Nat.shiftRight_eq_div_pow]
    exact Nat.div_le_self _ _
  have e2 : UInt32.ofNat k >>> (UInt32.ofNat j &&& Int32.toUInt32 31) = UInt32.ofNat (k >>> j) := by
    apply UInt32.toNat_inj.1
    have h1 : (UInt32.ofNat k).toNat = k := Nat.mod_eq_of_lt (by omega)
    have h2 : (UInt32.ofNat (k >>> j)).toNat = k >>> j := Nat.mod_eq_of_lt (by omega)
    rw [UInt32.toNat_shiftRight, nx_cnt ⟨j, hj⟩, h1, h2]
  show (UInt32.ofNat k >>> (UInt32.ofNat j &&& Int32.toUInt32 31)).toInt32 = _
  rw [e2]
  rfl
theorem nx_bit {k j : Nat} (hk : k < 65536) (hj : j < 16) : (((nI k).toUInt32 >>> ((nI j).toUInt32 &&& Int32.toUInt32 31)).toInt32 &&& 1) = 0 ↔ k.testBit j = false := by
  rw [nx_ush hk (by omega)]
  show nI (k >>> j) &&& nI 1 = 0 ↔ _
  rw [nx_and, Nat.and_one_is_mod, ← nI_0, nI_eq (by omega) (by omega), Nat.testBit_eq_decide_div_mod_eq, Nat.shiftRight_eq_div_pow, decide_eq_false_iff_not]
  generalize k / 2 ^ j = z
  omega
theorem nx_mod (k : Nat) : nI k &&& 65535 = nI (k % 65536) := by
  show nI k &&& nI 65535 = _
  rw [nx_and, show (65535 : Nat) = 2 ^ 16 - 1 from rfl, Nat.and_two_pow_sub_one_eq_mod]
theorem nx_m16 {k : Nat} (h : k < 65536) : nI k &&& 65535 = nI k := by rw [nx_mod, Nat.mod_eq_of_lt h]
theorem nx_mask (x : Int32) : ∃ k, k < 65536 ∧ x &&& 65535 = nI k := by
  have e : x = nI x.toBitVec.toNat := by
    apply Int32.toBitVec_inj.1
    show x.toBitVec = BitVec.ofNat 32 x.toBitVec.toNat
    simp
  refine ⟨x.toBitVec.toNat % 65536, Nat.mod_lt _ (by omega), ?_⟩
  rw [← nx_mod, ← e]
/-! ===== Int32 as a set of bits: test, set ===== -/
def nf_M (m : Int32) : Nat := 4294967296 - m.toBitVec.toNat
theorem nf_sh : ∀ l, l < 32 → ((1 : Int32) <<< (nI l &&& 31)).toBitVec = BitVec.twoPow 32 l := by decide +kernel
theorem nf_sl : ∀ l, l < 32 → (((nI l).toUInt32 &&& Int32.toUInt32 31).toBitVec % 32).toNat = l := by decide +kernel
theorem nf_tp : ∀ l, l < 32 → BitVec.twoPow 32 l ≠ 0#32 := by decide +kernel
theorem nf_bit (m : Int32) (l : Nat) (hl : l < 32) : ((m.toUInt32 >>> ((nI l).toUInt32 &&& Int32.toUInt32 31)).toInt32 &&& 1) = 0 ↔ (m &&& ((1 : Int32) <<< (nI l &&& 31))) = 0 := by
  have e : ((m.toUInt32 >>> ((nI l).toUInt32 &&& Int32.toUInt32 31)).toInt32).toBitVec = m.toBitVec >>> l := by
    show m.toBitVec >>> (((nI l).toUInt32 &&& Int32.toUInt32 31).toBitVec % 32) = m.toBitVec >>> l
    rw [BitVec.ushiftRight_eq', nf_sl l hl]
  rw [← Int32.toBitVec_inj, ← Int32.toBitVec_inj, Int32.toBitVec_and, Int32.toBitVec_and, nf_sh l hl, e, BitVec.and_twoPow]
  show (m.toBitVec >>> l &&& 1#32) = 0#32 ↔ _ = 0#32
  rw [BitVec.and_one_eq_setWidth_ofBool_getLsbD, BitVec.getLsbD_ushiftRight, Nat.add_zero]
  cases hb : m.toBitVec.getLsbD l
  · exact ⟨fun _ => by simp, fun _ => by decide⟩
  · exact ⟨fun z => absurd z (by decide), fun z => absurd ((if_pos rfl).symm.trans z) (nf_tp l hl)⟩
theorem nf_gr (m k : Int32) (h : m &&& k = 0) (hk : k ≠ 0) : nf_M (m ||| k) < nf_M m := by
  have hm := m.toBitVec.isLt
  have hm' := (m ||| k).toBitVec.isLt
  have h1 : m.toBitVec.toNat ≤ (m ||| k).toBitVec.toNat := by
    rw [Int32.toBitVec_or, BitVec.toNat_or]
    exact Nat.left_le_or
  have h2 : m.toBitVec.toNat ≠ (m ||| k).toBitVec.toNat := by
    intro e
    have e2 : m = m ||| k := Int32.toBitVec_inj.mp (BitVec.eq_of_toNat_eq e)
    apply hk
    apply Int32.toBitVec_inj.mp
    show k.toBitVec = 0#32
    apply BitVec.eq_of_getLsbD_eq
    intro i hi
    have a : m.toBitVec.getLsbD i = (m.toBitVec.getLsbD i || k.toBitVec.getLsbD i) := by rw [← BitVec.getLsbD_or, ← Int32.toBitVec_or, ← e2]
    have b : (m.toBitVec.getLsbD i && k.toBitVec.getLsbD i) = false := by
      rw [← BitVec.getLsbD_and, ← Int32.toBitVec_and, h]
      exact BitVec.getLsbD_zero
    rw [BitVec.getLsbD_zero]
    revert a b
    cases m.toBitVec.getLsbD i <;> cases k.toBitVec.getLsbD i <;> simp
  unfold nf_M
  omega
/-! ===== a byte read unsigned ===== -/
theorem bp_b (x : Int32) : x.toInt8.toInt32 &&& 255 = x &&& 255 := by
  apply Int32.toBitVec_inj.mp
  rw [Int32.toBitVec_and, Int32.toBitVec_and, Int8.toBitVec_toInt32, Int32.toBitVec_toInt8]
  apply BitVec.eq_of_getLsbD_eq
  intro i hi
  rw [BitVec.getLsbD_and, BitVec.getLsbD_and]
  have hm : ∀ i < 32, 8 ≤ i → (255 : Int32).toBitVec.getLsbD i = false := by decide
  rcases Nat.lt_or_ge i 8 with z | z
  · rw [BitVec.getLsbD_signExtend, BitVec.getLsbD_signExtend, if_pos z, if_pos hi]
    simp only [z, hi, decide_true, Bool.true_and]
  · rw [hm i hi z]; simp
/-! ===== the char cast and 65535 ===== -/
theorem ts_nf {x : Bool} (h : ¬ x = false) : x = true := by cases x <;> first | rfl | exact absurd rfl h
theorem ts_nt {x : Bool} (h : ¬ x = true) : x = false := by cases x <;> first | rfl | exact absurd rfl h
theorem ts_bit {w : Int64} {s : UInt64} {j : Nat} (hj : j < 64) (hs : s.toNat = j) : ((w.toUInt64 >>> s).toInt64 &&& 1) = 0 ↔ w.toBitVec.getLsbD j = false := by
  have e : (w.toUInt64 >>> s).toInt64.toBitVec = w.toBitVec >>> j := by
    apply BitVec.eq_of_toNat_eq
    show (w.toUInt64 >>> s).toNat = _
    rw [UInt64.toNat_shiftRight, hs, Nat.mod_eq_of_lt hj, BitVec.toNat_ushiftRight]
    rfl
  rw [← Int64.toBitVec_inj, Int64.toBitVec_and, e]
  show w.toBitVec >>> j &&& 1#64 = 0#64 ↔ _
  constructor
  · intro h
    have t := congrArg (fun x => x.getLsbD 0) h
    simpa using t
  · intro h
    apply BitVec.eq_of_getLsbD_eq
    intro i hi
    cases i with
    | zero => simp [h]
    | succ i => simp
theorem ts_or {w m : Int64} {j : Nat} (hj : j < 64) (hm : m.toBitVec = BitVec.twoPow 64 j) : (w ||| m) = w ↔ w.toBitVec.getLsbD j = true := by
  rw [← Int64.toBitVec_inj, Int64.toBitVec_or, hm]
  constructor
  · intro h
    have t := congrArg (fun x => x.getLsbD j) h
    simp only [BitVec.getLsbD_or, BitVec.getLsbD_twoPow] at t
    simpa [hj] using t.symm
  · intro h
    apply BitVec.eq_of_getLsbD_eq
    intro i hi
    rw [BitVec.getLsbD_or, BitVec.getLsbD_twoPow]
    by_cases e : j = i
    · subst e; rw [h, Bool.true_or]
    · simp [e]
theorem ts_and {w m : Int64} {j : Nat} (hj : j < 64) (hm : m.toBitVec = BitVec.twoPow 64 j) : (w &&& (m ^^^ (-1))) = w ↔ w.toBitVec.getLsbD j = false := by
  have ha : (-1 : Int64).toBitVec = BitVec.allOnes 64 := by decide
  rw [← Int64.toBitVec_inj, Int64.toBitVec_and, Int64.toBitVec_xor, hm, ha]
  constructor
  · intro h
    have t := congrArg (fun x => x.getLsbD j) h
    simp only [BitVec.getLsbD_and, BitVec.getLsbD_xor, BitVec.getLsbD_twoPow, BitVec.getLsbD_allOnes] at t
    simpa [hj] using t.symm
  · intro h
    apply BitVec.eq_of_getLsbD_eq
    intro i hi
    rw [BitVec.getLsbD_and, BitVec.getLsbD_xor, BitVec.getLsbD_twoPow, BitVec.getLsbD_allOnes]
    by_cases e : j = i
    · subst e; rw [h, Bool.false_and]
    · simp [e, hi]
/-! ===== lN n to 2^64: shifts, and, or, masks, one bit ===== -/
theorem wb_tb (n : Nat) : (lN n).toBitVec = BitVec.ofNat 64 n := rfl
theorem wb_inj {a b : Int64} (h : a.toBitVec = b.toBitVec) : a = b := Int64.toBitVec_inj.mp h
theorem wb_tn {n : Nat} (h : n < 2 ^ 64) : (lN n).toBitVec.toNat = n := by rw [wb_tb, BitVec.toNat_ofNat, Nat.mod_eq_of_lt h]
theorem wb_of (x : Int64) : ∃ n, n < 2 ^ 64 ∧ x = lN n := ⟨x.toBitVec.toNat, x.toBitVec.isLt, wb_inj (by rw [wb_tb]; simp)⟩
theorem wb_of32 (x : Int32) : ∃ n, n < 2 ^ 32 ∧ x = nI n := ⟨x.toBitVec.toNat, x.toBitVec.isLt, Int32.toBitVec_inj.mp (by show _ = BitVec.ofNat 32 _; simp)⟩
theorem wb_c : ∀ k, k < 64 → ((nI k).toInt64 &&& 63) = lN k := by decide +kernel
theorem wb_cu : ∀ k, k < 64 → ((nI k).toInt64.toUInt64 &&& Int64.toUInt64 63) = UInt64.ofNat k := by decide +kernel
theorem wb_sm : ∀ k, k < 64 → (BitVec.ofNat 64 k).smod 64 = BitVec.ofNat 64 k := by decide +kernel
theorem wb_pw {a b : Nat} (h : a ≤ b) : 2 ^ b = 2 ^ a * 2 ^ (b - a) := by rw [← Nat.pow_add]; congr 1; omega
theorem wb_lt2 {a b : Nat} (h : a < b) : 2 ^ a < 2 ^ b := Nat.pow_lt_pow_right (by decide) h
theorem wb_mod (n : Nat) : lN n = lN (n % 2 ^ 64) := wb_inj (by rw [wb_tb, wb_tb]; apply BitVec.eq_of_toNat_eq; rw [BitVec.toNat_ofNat, BitVec.toNat_ofNat, Nat.mod_mod])
theorem wb_shr {n k : Nat} (hn : n < 2 ^ 64) (hk : k < 64) : ((lN n).toUInt64 >>> ((nI k).toInt64.toUInt64 &&& Int64.toUInt64 63)).toInt64 = lN (n / 2 ^ k) := by
  rw [wb_cu k hk]
  apply wb_inj
  apply BitVec.eq_of_toNat_eq
  show ((lN n).toUInt64 >>> UInt64.ofNat k).toNat = (BitVec.ofNat 64 _).toNat
  have h1 : (UInt64.ofNat k).toNat = k := by
    show (BitVec.ofNat 64 k).toNat = k
    rw [BitVec.toNat_ofNat, Nat.mod_eq_of_lt (by omega)]
  have h2 : (lN n).toUInt64.toNat = n := wb_tn hn
  rw [UInt64.toNat_shiftRight, h1, h2, Nat.mod_eq_of_lt hk, Nat.shiftRight_eq_div_pow, BitVec.toNat_ofNat, Nat.mod_eq_of_lt (Nat.lt_of_le_of_lt (Nat.div_le_self _ _) hn)]
theorem wb_shl (n : Nat) {k : Nat} (hk : k < 64) : lN n <<< ((nI k).toInt64 &&& 63) = lN (n * 2 ^ k) := by
  rw [wb_c k hk]
  apply wb_inj
  rw [Int64.toBitVec_shiftLeft, wb_tb, wb_tb, wb_tb, wb_sm k hk]
  apply BitVec.eq_of_toNat_eq
  rw [BitVec.shiftLeft_eq', BitVec.toNat_shiftLeft, BitVec.toNat_ofNat, BitVec.toNat_ofNat, BitVec.toNat_ofNat, Nat.mod_eq_of_lt (show k < 2 ^ 64 by omega), Nat.shiftLeft_eq, Nat.mul_mod, Nat.mod_mod, ← Nat.mul_mod]
theorem wb_and {a b : Nat} (ha : a < 2 ^ 64) (hb : b < 2 ^ 64) : lN a &&& lN b = lN (a &&& b) := by
  apply wb_inj
  rw [Int64.toBitVec_and, wb_tb, wb_tb, wb_tb]
  apply BitVec.eq_of_toNat_eq
  rw [BitVec.toNat_and, BitVec.toNat_ofNat, BitVec.toNat_ofNat, BitVec.toNat_ofNat, Nat.mod_eq_of_lt ha, Nat.mod_eq_of_lt hb, Nat.mod_eq_of_lt (Nat.and_lt_two_pow _ hb)]
theorem wb_or {a b : Nat} (ha : a < 2 ^ 64) (hb : b < 2 ^ 64) : lN a ||| lN b = lN (a ||| b) := by
  apply wb_inj
  rw [Int64.toBitVec_or, wb_tb, wb_tb, wb_tb]
  apply BitVec.eq_of_toNat_eq
  rw [BitVec.toNat_or, BitVec.toNat_ofNat, BitVec.toNat_ofNat, BitVec.toNat_ofNat, Nat.mod_eq_of_lt ha, Nat.mod_eq_of_lt hb, Nat.mod_eq_of_lt (Nat.or_lt_two_pow ha hb)]
theorem wb_mask {n k : Nat} (hn : n < 2 ^ 64) (hk : k < 64) : lN n &&& lN (2 ^ k - 1) = lN (n % 2 ^ k) := by
  rw [wb_and hn (by have := wb_lt2 hk; omega), Nat.and_two_pow_sub_one_eq_mod]
theorem wb_a1 {n : Nat} (hn : n < 2 ^ 64) : lN n &&& 1 = lN (n % 2) := wb_mask (k := 1) hn (by decide)
theorem wb_bit {n k : Nat} (hn : n < 2 ^ 64) (hk : k < 64) : ((lN n).toUInt64 >>> ((nI k).toInt64.toUInt64 &&& Int64.toUInt64 63)).toInt64 &&& 1 = lN (n / 2 ^ k % 2) := by
  rw [wb_shr hn hk, wb_a1 (Nat.lt_of_le_of_lt (Nat.div_le_self _ _) hn)]
theorem wb_xor {q k : Nat} (hk : k < 63) (h : 2 ^ k ≤ q) (h2 : q < 2 ^ (k + 1)) : lN q ^^^ lN (2 ^ k) = lN (q - 2 ^ k) := by
  obtain ⟨r, rfl⟩ : ∃ r, q = 2 ^ k + r := ⟨q - 2 ^ k, by omega⟩
  have hr : r < 2 ^ k := by rw [Nat.pow_succ] at h2; omega
  have hx : (2 ^ k + r) ^^^ 2 ^ k = r := by
    apply Nat.eq_of_testBit_eq
    intro i
    rw [Nat.testBit_xor, Nat.testBit_two_pow]
    rcases Nat.lt_trichotomy i k with h | h | h
    · rw [Nat.testBit_two_pow_add_gt h]
      simp [show ¬ k = i by omega]
    · subst h
      rw [Nat.testBit_two_pow_add_eq]
      simp
    · have a1 : 2 ^ (k + 1) ≤ 2 ^ i := Nat.pow_le_pow_right (by decide) h
      rw [Nat.testBit_lt_two_pow (show 2 ^ k + r < 2 ^ i by omega), Nat.testBit_lt_two_pow (show r < 2 ^ i by omega)]
      simp [show ¬ k = i by omega]
  have b1 := wb_lt2 (show k + 1 < 64 by omega)
  have b2 := wb_lt2 (show k < 64 by omega)
  apply wb_inj
  rw [Int64.toBitVec_xor, wb_tb, wb_tb, wb_tb]
  apply BitVec.eq_of_toNat_eq
  rw [BitVec.toNat_xor, BitVec.toNat_ofNat, BitVec.toNat_ofNat, BitVec.toNat_ofNat, Nat.mod_eq_of_lt (by omega : 2 ^ k + r < 2 ^ 64), Nat.mod_eq_of_lt b2, hx, Nat.add_sub_cancel_left, Nat.mod_eq_of_lt (by omega)]
/-! ===== lN: masks, 'or' of parts that don't overlap is a sum ===== -/
theorem u_tn {n : Nat} (h : n < 2 ^ 64) : (UInt64.ofNat n).toNat = n := Nat.mod_eq_of_lt h
theorem g_and {a b c : Nat} (ha : a < 2 ^ 64) (hb : b < 2 ^ 64) (hc : a &&& b = c) : lN a &&& lN b = lN c := by
  subst hc
  have h : UInt64.ofNat a &&& UInt64.ofNat b = UInt64.ofNat (a &&& b) := UInt64.toNat_inj.mp (by rw [UInt64.toNat_and, u_tn ha, u_tn hb, u_tn (Nat.and_lt_two_pow a hb)])
  have h2 := congrArg UInt64.toInt64 h
  exact h2
theorem g_and1 {a : Nat} (ha : a < 2 ^ 64) : lN a &&& 1 = lN (a % 2) := g_and (b := 1) ha (by decide) (Nat.and_two_pow_sub_one_eq_mod a 1)
theorem g_mask {a s p : Nat} (hp : 2 ^ s = p) (hs : s < 64) (ha : a < 2 ^ 64) : lN a &&& lN (p - 1) = lN (a % p) := by
  subst hp
  have := Nat.pow_lt_pow_right (show 1 < 2 by decide) hs
  exact g_and ha (by omega) (Nat.and_two_pow_sub_one_eq_mod a s)
theorem g_or {k p a b : Nat} (hp : 2 ^ k = p) (ha : a < p) (h : b * p + a < 2 ^ 64) : lN (b * p) ||| lN a = lN (b * p + a) := by
  subst hp
  have h1 : b * 2 ^ k ||| a = b * 2 ^ k + a := by rw [← Nat.shiftLeft_eq, Nat.shiftLeft_add_eq_or_of_lt ha]
  have h3 : UInt64.ofNat (b * 2 ^ k) ||| UInt64.ofNat a = UInt64.ofNat (b * 2 ^ k + a) := UInt64.toNat_inj.mp (by rw [UInt64.toNat_or, u_tn (by omega), u_tn (by omega), u_tn h, h1])
  have h2 := congrArg UInt64.toInt64 h3
  exact h2
theorem g_or' {k p a b : Nat} (hp : 2 ^ k = p) (ha : a < p) (h : a + b * p < 2 ^ 64) : lN a ||| lN (b * p) = lN (a + b * p) := by
  rw [Int64.or_comm, g_or hp ha (by omega), Nat.add_comm]
theorem g_ushr {a k p : Nat} {y : UInt64} (hy : y = UInt64.ofNat k) (hk : k < 64) (hp : 2 ^ k = p) (ha : a < 2 ^ 64) : ((lN a).toUInt64 >>> y).toInt64 = lN (a / p) := by
  subst hy hp
  have h : UInt64.ofNat a >>> UInt64.ofNat k = UInt64.ofNat (a / 2 ^ k) := UInt64.toNat_inj.mp (by rw [UInt64.toNat_shiftRight, u_tn ha, u_tn (by omega), u_tn (Nat.lt_of_le_of_lt (Nat.div_le_self _ _) ha), Nat.mod_eq_of_lt hk, Nat.shiftRight_eq_div_pow])
  have h2 := congrArg UInt64.toInt64 h
  exact h2
theorem g_shl {a k p : Nat} {y : Int64} (hy : y.toBitVec.smod 64 = BitVec.ofNat 64 k) (hk : k < 64) (hp : 2 ^ k = p) (ha : a < 2 ^ 64) : lN a <<< y = lN (a * p) := by
  subst hp
  apply Int64.toBitVec_inj.mp
  rw [Int64.toBitVec_shiftLeft, hy]
  apply BitVec.eq_of_toNat_eq
  have hb : (lN a).toBitVec.toNat = a := Nat.mod_eq_of_lt ha
  have hk' : (BitVec.ofNat 64 k).toNat = k := Nat.mod_eq_of_lt (by omega)
  have h : ((lN a).toBitVec <<< BitVec.ofNat 64 k).toNat = (a * 2 ^ k) % 2 ^ 64 := by simp only [BitVec.shiftLeft_eq', BitVec.toNat_shiftLeft, hb, hk', Nat.shiftLeft_eq]
  exact h
/-! ===== lN to 2^62 under >> and >>> ===== -/
theorem pf_lI {a : Nat} (h : a < 2 ^ 63) : (lN a).toInt = (a : Int) := lg_ofNat_toInt h
theorem pf_shr {a d : Nat} {D : Int64} (hD : (D.toBitVec.smod 64).toNat = d) (h : a < 2 ^ 62) : lN a >>> D = lN (a / 2 ^ d) := by
  have hd : a / 2 ^ d ≤ a := Nat.div_le_self _ _
  apply Int64.toInt_inj.mp
  have e : (lN a >>> D).toInt = (lN a).toInt >>> d := by
    rw [← hD]
    exact BitVec.toInt_sshiftRight ..
  rw [e, Int.shiftRight_eq_div_pow, pf_lI (by omega), pf_lI (by omega)]
  rfl
theorem pf_ushr {a d : Nat} {D : UInt64} (hD : D.toNat % 64 = d) (h : a < 2 ^ 62) : ((lN a).toUInt64 >>> D).toInt64 = lN (a / 2 ^ d) := by
  have hd : a / 2 ^ d ≤ a := Nat.div_le_self _ _
  have e : (lN a).toUInt64 >>> D = UInt64.ofNat (a / 2 ^ d) := UInt64.toNat_inj.mp (by
    rw [UInt64.toNat_shiftRight, hD, Nat.shiftRight_eq_div_pow, UInt64.toNat_ofNat']
    show (UInt64.ofNat a).toNat / 2 ^ d = _
    rw [UInt64.toNat_ofNat', Nat.mod_eq_of_lt (by omega), Nat.mod_eq_of_lt (by omega)])
  rw [e]
  rfl
theorem pf_andw (x : Int64) : ∃ m, m < 2 ^ 32 ∧ x &&& 4294967295 = lN m := ⟨x.toBitVec.toNat % 2 ^ 32, Nat.mod_lt _ (by decide), Int64.toBitVec_inj.mp (BitVec.eq_of_toNat_eq (by
  show (x.toBitVec &&& 4294967295#64).toNat = (BitVec.ofNat 64 (x.toBitVec.toNat % 2 ^ 32)).toNat
  rw [BitVec.toNat_and, show (4294967295#64).toNat = 2 ^ 32 - 1 from by decide, Nat.and_two_pow_sub_one_eq_mod, BitVec.toNat_ofNat]
  omega))⟩
/-! ===== Int64 as an unsigned number: uN x ===== -/
def uN (x : Int64) : Nat := x.toUInt64.toNat
theorem uN_lt (x : Int64) : uN x < 18446744073709551616 := x.toUInt64.toNat_lt
theorem uN_inj {x y : Int64} (h : uN x = uN y) : x = y := congrArg UInt64.toInt64 (UInt64.toNat_inj.mp h)
theorem uN_add (x y : Int64) : uN (x + y) = (uN x + uN y) % 18446744073709551616 := by
  show (x.toUInt64 + y.toUInt64).toNat = _
  exact UInt64.toNat_add _ _
theorem uN_mul (x y : Int64) : uN (x * y) = (uN x * uN y) % 18446744073709551616 := by
  show (x.toUInt64 * y.toUInt64).toNat = _
  exact UInt64.toNat_mul _ _
theorem uN_shl (x : Int64) : uN (x <<< ((1 : Int32).toInt64 &&& 63)) = (2 * uN x) % 18446744073709551616 := by
  have h : (((1 : Int32).toInt64 &&& 63).toBitVec.smod 64).toNat = 1 := by decide
  show (x.toBitVec <<< (((1 : Int32).toInt64 &&& 63).toBitVec.smod 64).toNat).toNat = _
  rw [h, BitVec.toNat_shiftLeft, Nat.shiftLeft_eq, Nat.mul_comm]
  rfl
theorem uN_shr (x : Int64) (s : UInt64) : uN (x.toUInt64 >>> s).toInt64 = uN x / 2 ^ (s.toNat % 64) := by
  show (x.toUInt64 >>> s).toNat = _
  rw [UInt64.toNat_shiftRight, Nat.shiftRight_eq_div_pow]
  rfl
theorem uN_s32 (x : Int64) : uN (x.toUInt64 >>> ((32 : Int32).toInt64.toUInt64 &&& Int64.toUInt64 63)).toInt64 = uN x / 4294967296 := by
  have h : ((32 : Int32).toInt64.toUInt64 &&& Int64.toUInt64 63).toNat % 64 = 32 := by decide
  rw [uN_shr, h]
theorem uN_s63 (x : Int64) : uN (x.toUInt64 >>> ((63 : Int32).toInt64.toUInt64 &&& Int64.toUInt64 63)).toInt64 = uN x / 9223372036854775808 := by
  have h : ((63 : Int32).toInt64.toUInt64 &&& Int64.toUInt64 63).toNat % 64 = 63 := by decide
  rw [uN_shr, h]
theorem uN_lo (x : Int64) : uN (x &&& 4294967295) = uN x % 4294967296 := by
  show (x.toUInt64 &&& Int64.toUInt64 4294967295).toNat = _
  rw [UInt64.toNat_and]
  exact Nat.and_two_pow_sub_one_eq_mod _ 32
theorem uN_bit (x : Int64) : (x &&& 1) = 0 ↔ uN x % 2 = 0 := by
  have h : uN (x &&& 1) = uN x % 2 := by
    show (x.toUInt64 &&& Int64.toUInt64 1).toNat = _
    rw [UInt64.toNat_and]
    exact Nat.and_two_pow_sub_one_eq_mod _ 1
  rw [← h]
  exact ⟨fun z => by rw [z]; rfl, fun z => uN_inj (z.trans rfl)⟩
theorem uN_or {x y : Int64} (hy : uN y < 2) : uN ((x <<< ((1 : Int32).toInt64 &&& 63)) ||| y) = (2 * uN x) % 18446744073709551616 + uN y := by
  have h1 : uN ((x <<< ((1 : Int32).toInt64 &&& 63)) ||| y) = uN (x <<< ((1 : Int32).toInt64 &&& 63)) ||| uN y := UInt64.toNat_or _ _
  have h2 : (2 * uN x) % 18446744073709551616 = 2 ^ 1 * (uN x % 9223372036854775808) := by omega
  rw [h1, uN_shl, h2]
  exact (Nat.two_pow_add_eq_or_of_lt (i := 1) hy _).symm
theorem nat_xor {a : Nat} (h : a < 18446744073709551616) : a ^^^ 2 ^ 63 = (a + 9223372036854775808) % 18446744073709551616 := by
  have h1 : (a ^^^ 2 ^ 63) % 2 ^ 63 = a % 2 ^ 63 := by rw [Nat.xor_mod_two_pow, Nat.mod_self, Nat.xor_zero]
  have h2 : (a ^^^ 2 ^ 63) / 2 ^ 63 = (a / 2 ^ 63) ^^^ 1 := by rw [Nat.xor_div_two_pow, Nat.div_self (Nat.two_pow_pos 63)]
  have h3 : a / 2 ^ 63 = 0 ∨ a / 2 ^ 63 = 1 := by omega
  generalize a ^^^ 2 ^ 63 = t at h1 h2
  rcases h3 with h3 | h3
  · rw [h3] at h2
    have h2 : t / 2 ^ 63 = 1 := h2
    omega
  · rw [h3] at h2
    have h2 : t / 2 ^ 63 = 0 := h2
    omega
theorem uN_xor (x : Int64) : uN (x ^^^ (-9223372036854775808)) = (uN x + 9223372036854775808) % 18446744073709551616 := by
  rw [← nat_xor (uN_lt x)]
  exact UInt64.toNat_xor _ _
theorem uN_int (x : Int64) : x.toInt = if 2 * uN x < 18446744073709551616 then (uN x : Int) else (uN x : Int) - 18446744073709551616 := BitVec.toInt_eq_toNat_cond _
theorem uN_le (x y : Int64) : (x ^^^ (-9223372036854775808)) ≤ (y ^^^ (-9223372036854775808)) ↔ uN x ≤ uN y := by
  have hx := uN_lt x
  have hy := uN_lt y
  rw [Int64.le_iff_toInt_le, uN_int, uN_int, uN_xor, uN_xor]
  omega
theorem uN_sk (x : Int64) {k : Nat} (hk : k < 64) : uN (x.toUInt64 >>> ((nI k).toInt64.toUInt64 &&& Int64.toUInt64 63)).toInt64 = uN x / 2 ^ k := by
  have h : ((nI k).toInt64.toUInt64 &&& Int64.toUInt64 63).toNat % 64 = k := by
    rw [nI_l (by omega), UInt64.toNat_and]
    have e : (lN k).toUInt64.toNat = k % 2 ^ 64 := rfl
    have e2 : (Int64.toUInt64 63).toNat = 2 ^ 6 - 1 := by decide
    rw [e, e2, Nat.and_two_pow_sub_one_eq_mod]
    omega
  rw [uN_shr, h]
/-! ===== unsigned comparison by xor with the least ===== -/
theorem lN_bv (n : Nat) : (lN n).toBitVec = BitVec.ofNat 64 n := rfl
theorem lN_nat {n : Nat} (h : n < 2 ^ 64) : (lN n).toBitVec.toNat = n := by rw [lN_bv, BitVec.toNat_ofNat]; exact Nat.mod_eq_of_lt h
theorem lN_xor (a b : Nat) : lN a ^^^ lN b = lN (a ^^^ b) := by
  apply Int64.toBitVec_inj.mp; rw [Int64.toBitVec_xor, lN_bv, lN_bv, lN_bv]; apply BitVec.eq_of_getLsbD_eq; intro i hi; simp [BitVec.getLsbD_ofNat, Nat.testBit_xor, hi]
theorem lN_ti {m : Nat} (h : m < 2 ^ 64) : (lN m).toInt = if m < 2 ^ 63 then (m : Int) else (m : Int) - 2 ^ 64 := by
  have c := BitVec.toInt_eq_toNat_cond (lN m).toBitVec
  rw [lN_nat h] at c
  show (lN m).toBitVec.toInt = _
  rw [c]
  split <;> split <;> omega
theorem xor63 {x : Nat} (h : x < 2 ^ 63) : x ^^^ 2 ^ 63 = 2 ^ 63 + x := by
  apply Nat.eq_of_testBit_eq
  intro i
  rw [Nat.testBit_xor, Nat.testBit_two_pow]
  rcases Nat.lt_trichotomy i 63 with z | z | z
  · rw [Nat.testBit_two_pow_add_gt z, decide_eq_false (by omega)]; simp
  · subst z; rw [Nat.testBit_two_pow_add_eq]; simp
  · have hp : 2 ^ 64 ≤ 2 ^ i := Nat.pow_le_pow_right (by decide) z
    rw [Nat.testBit_lt_two_pow (show x < 2 ^ i by omega), Nat.testBit_lt_two_pow (show 2 ^ 63 + x < 2 ^ i by omega), decide_eq_false (by omega)]; rfl
theorem xorS {a : Nat} (h : a < 2 ^ 64) : (lN a ^^^ (-9223372036854775808)).toInt = (a : Int) - 2 ^ 63 := by
  rw [show (-9223372036854775808 : Int64) = lN (2 ^ 63) from by decide +kernel, lN_xor]
  rcases Nat.lt_or_ge a (2 ^ 63) with z | z
  · rw [xor63 z, lN_ti (by omega), if_neg (by omega)]; omega
  · obtain ⟨x, rfl⟩ : ∃ x, a = 2 ^ 63 + x := ⟨a - 2 ^ 63, by omega⟩
    rw [← xor63 (by omega), Nat.xor_assoc, Nat.xor_self, Nat.xor_zero, lN_ti (by omega), if_pos (by omega), xor63 (by omega)]; omega
theorem ultL {a b : Nat} (ha : a < 2 ^ 64) (hb : b < 2 ^ 64) : ((lN b ^^^ (-9223372036854775808)) ≤ (lN a ^^^ (-9223372036854775808))) ↔ b ≤ a := by
  rw [Int64.le_iff_toInt_le, xorS ha, xorS hb]; omega
/-! ===== Int64 masks of n low bits ===== -/
theorem cr_bits (W U M : BitVec 64) : ((W &&& U) &&& (U &&& (M ^^^ BitVec.allOnes 64))) = 0#64 ↔ (W &&& U) &&& M = W &&& U := by
  constructor
  · intro h
    apply BitVec.eq_of_getLsbD_eq
    intro i hi
    have e := congrArg (fun x => BitVec.getLsbD x i) h
    simp only [BitVec.getLsbD_and, BitVec.getLsbD_xor, BitVec.getLsbD_allOnes, BitVec.getLsbD_zero, hi, decide_true] at e ⊢
    revert e
    cases W.getLsbD i <;> cases U.getLsbD i <;> cases M.getLsbD i <;> decide
  · intro h
    apply BitVec.eq_of_getLsbD_eq
    intro i hi
    have e := congrArg (fun x => BitVec.getLsbD x i) h
    simp only [BitVec.getLsbD_and, BitVec.getLsbD_xor, BitVec.getLsbD_allOnes, BitVec.getLsbD_zero, hi, decide_true] at e ⊢
    revert e
    cases W.getLsbD i <;> cases U.getLsbD i <;> cases M.getLsbD i <;> decide
theorem cr_mask (w U m : Int64) (n : Nat) (hm : m.toBitVec.toNat = 2 ^ n - 1) : ((w &&& U) &&& (U &&& (m ^^^ (-1)))) = 0 ↔ (w &&& U).toBitVec.toNat < 2 ^ n := by
  have e0 : (-1 : Int64).toBitVec = BitVec.allOnes 64 := by decide
  have z0 : (0 : Int64).toBitVec = 0#64 := by decide
  rw [← Int64.toBitVec_inj, z0, Int64.toBitVec_and, Int64.toBitVec_and, Int64.toBitVec_and, Int64.toBitVec_xor, e0, cr_bits]
  generalize w.toBitVec &&& U.toBitVec = T
  rw [← BitVec.toNat_inj, BitVec.toNat_and, hm, Nat.and_two_pow_sub_one_eq_mod]
  constructor
  · intro h
    have t := Nat.mod_lt T.toNat (Nat.two_pow_pos n)
    rw [h] at t
    exact t
  · exact Nat.mod_eq_of_lt
theorem cr_shr (t : Int64) (x : UInt64) (n : Nat) (hx : x.toNat % 64 = n) : (t.toUInt64 >>> x).toInt64 = 0 ↔ t.toBitVec.toNat < 2 ^ n := by
  rw [← Int64.toBitVec_inj, ← BitVec.toNat_inj]
  show (t.toUInt64 >>> x).toNat = 0 ↔ t.toUInt64.toNat < 2 ^ n
  rw [UInt64.toNat_shiftRight, hx, Nat.shiftRight_eq_div_pow]
  constructor
  · intro h
    have d : t.toUInt64.toNat / 2 ^ n < 1 := by
      rw [h]
      decide
    have e := (Nat.div_lt_iff_lt_mul (Nat.two_pow_pos n)).mp d
    rw [Nat.one_mul] at e
    exact e
  · exact Nat.div_eq_of_lt
theorem cr_amt (s : Int64) : ∃ n, n < 64 ∧ s &&& 63 = lN n ∧ (s.toUInt64 &&& Int64.toUInt64 63).toNat % 64 = n := by
  have e : (s.toUInt64 &&& Int64.toUInt64 63).toNat = s.toUInt64.toNat % 2 ^ 6 := by
    rw [UInt64.toNat_and, show (Int64.toUInt64 63).toNat = 2 ^ 6 - 1 from by decide, Nat.and_two_pow_sub_one_eq_mod]
  refine ⟨s.toUInt64.toNat % 2 ^ 6, by omega, ?_, by omega⟩
  rw [← Int64.toBitVec_inj, ← BitVec.toNat_inj]
  show (s.toUInt64 &&& Int64.toUInt64 63).toNat = (BitVec.ofNat 64 (s.toUInt64.toNat % 2 ^ 6)).toNat
  rw [e, BitVec.toNat_ofNat]
  omega
end
section
/-! plain facts to paste, each family by itself; over the kit's nI, lN and upd -/
/-! ===== drawers: more things than places ===== -/
theorem fb_holes : ∀ (m n : Nat) (f : Nat → Nat), (∀ i, i < n → f i < m) → (∀ i j, i < j → j < n → f i ≠ f j) → n ≤ m := by
  intro m
  induction m with
  | zero =>
    intro n f h1 _
    rcases Nat.eq_zero_or_pos n with h | h
    · omega
    · exact absurd (h1 0 h) (Nat.not_lt_zero _)
  | succ m ih =>
    intro n f h1 h2
    by_cases hx : ∃ i, i < n ∧ f i = m
    · obtain ⟨a, ha, hfa⟩ := hx
      have hg := ih (n - 1) (fun i => if i < a then f i else f (i + 1)) (by
        intro i hi
        by_cases q : i < a
        · simp only [if_pos q]
          have b1 := h1 i (by omega)
          have b2 := h2 i a q ha
          omega
        · simp only [if_neg q]
          have b1 := h1 (i + 1) (by omega)
          have b2 := h2 a (i + 1) (by omega) (by omega)
          omega) (by
        intro i j hij hj
        by_cases q : i < a
        · by_cases r : j < a
          · simp only [if_pos q, if_pos r]
            exact h2 i j hij (by omega)
          · simp only [if_pos q, if_neg r]
            exact h2 i (j + 1) (by omega) (by omega)
        · have r : ¬ j < a := by omega
          simp only [if_neg q, if_neg r]
          exact h2 (i + 1) (j + 1) (by omega) (by omega))
      omega
    · have hg := ih n f (fun i hi => by
        have b1 := h1 i hi
        have b2 : f i ≠ m := fun e => hx ⟨i, hi, e⟩
        omega) h2
      omega
/-- two of them in one place -/
theorem fb_twice {m n : Nat} {f : Nat → Nat} (h : ∀ i, i < n → f i < m) (hm : m < n) : ∃ i j, i < j ∧ j < n ∧ f i = f j := by
  refine Classical.byContradiction fun hx => ?_
  have := fb_holes m n f h (fun i j hij hj e => hx ⟨i, j, hij, hj, e⟩)
  omega
/-- as many as places, none twice: each place is taken -/
theorem fb_onto {n : Nat} {f : Nat → Nat} (h : ∀ i, i < n → f i < n) (h2 : ∀ i j, i < j → j < n → f i ≠ f j) {y : Nat} (hy : y < n) : ∃ i, i < n ∧ f i = y := by
  refine Classical.byContradiction fun hx => ?_
  have hne : ∀ i, i < n → f i ≠ y := fun i hi e => hx ⟨i, hi, e⟩
  have := fb_holes (n - 1) n (fun i => if f i < y then f i else f i - 1) (by
    intro i hi
    have b1 := h i hi
    have b2 := hne i hi
    by_cases q : f i < y
    · simp only [if_pos q]; omega
    · simp only [if_neg q]; omega) (by
    intro i j hij hj
    have b1 := hne i (by omega)
    have b2 := hne j hj
    have b3 := h2 i j hij hj
    by_cases q : f i < y
    · by_cases r : f j < y
      · simp only [if_pos q, if_pos r]; exact b3
      · simp only [if_pos q, if_neg r]; omega
    · by_cases r : f j < y
      · simp only [if_neg q, if_pos r]; omega
      · simp only [if_neg q, if_neg r]; omega)
  omega
/-! ===== how many places have a property ===== -/
def fb_ct (p : Nat → Bool) : Nat → Nat
  | 0 => 0
  | n + 1 => fb_ct p n + (if p n then 1 else 0)
theorem fb_ct_succ (p : Nat → Bool) (n : Nat) : fb_ct p (n + 1) = fb_ct p n + (if p n then 1 else 0) := rfl
theorem fb_ct_le (p : Nat → Bool) : ∀ n, fb_ct p n ≤ n
  | 0 => Nat.le_refl _
  | n + 1 => by
    have h := fb_ct_le p n
    rw [fb_ct_succ]
    split <;> omega
theorem fb_ct_step (p : Nat → Bool) (m : Nat) : ∀ n, fb_ct p m ≤ fb_ct p (m + n)
  | 0 => Nat.le_refl _
  | n + 1 => by
    have h := fb_ct_step p m n
    show fb_ct p m ≤ fb_ct p (m + n + 1)
    rw [fb_ct_succ]
    omega
theorem fb_ct_mono (p : Nat → Bool) {m n : Nat} (h : m ≤ n) : fb_ct p m ≤ fb_ct p n := by
  have := fb_ct_step p m (n - m)
  rwa [Nat.add_sub_cancel' h] at this
theorem fb_ct_cong {p q : Nat → Bool} : ∀ {n : Nat}, (∀ k, k < n → p k = q k) → fb_ct p n = fb_ct q n
  | 0, _ => rfl
  | n + 1, h => by
    rw [fb_ct_succ, fb_ct_succ, fb_ct_cong (fun k hk => h k (by omega)), h n (by omega)]
/-- one place changed -/
theorem fb_ct_out (p : Nat → Bool) (b : Bool) {i n : Nat} (h : n ≤ i) : fb_ct (fun k => if k = i then b else p k) n = fb_ct p n :=
  fb_ct_cong fun k hk => if_neg (by omega)
theorem fb_ct_upd (p : Nat → Bool) (b : Bool) {i : Nat} : ∀ {n : Nat}, i < n → fb_ct (fun k => if k = i then b else p k) n + (if p i then 1 else 0) = fb_ct p n + (if b then 1 else 0)
  | 0, h => absurd h (Nat.not_lt_zero i)
  | n + 1, h => by
    rw [fb_ct_succ, fb_ct_succ]
    rcases Nat.lt_or_ge i n with q | q
    · have := fb_ct_upd p b q
      have e : (if n = i then b else p n) = p n := if_neg (by omega)
      rw [e]
      omega
    · have e : i = n := by omega
      subst e
      rw [fb_ct_out p b (Nat.le_refl _)]
      simp only [if_true]
      omega
theorem fb_ct_sub {p q : Nat → Bool} : ∀ {n : Nat}, (∀ k, k < n → p k = true → q k = true) → fb_ct p n ≤ fb_ct q n
  | 0, _ => Nat.le_refl _
  | n + 1, h => by
    have h1 := fb_ct_sub (n := n) (p := p) (q := q) (fun k hk => h k (by omega))
    have h2 := h n (by omega)
    rw [fb_ct_succ, fb_ct_succ]
    cases hp : p n <;> cases hq : q n <;> simp_all <;> omega
theorem fb_ct_or {p q : Nat → Bool} : ∀ {n : Nat}, (∀ k, k < n → ¬ (p k = true ∧ q k = true)) → fb_ct (fun k => p k || q k) n = fb_ct p n + fb_ct q n
  | 0, _ => rfl
  | n + 1, h => by
    have h1 := fb_ct_or (n := n) (p := p) (q := q) (fun k hk => h k (by omega))
    have h2 := h n (by omega)
    rw [fb_ct_succ, fb_ct_succ, fb_ct_succ, h1]
    cases hp : p n <;> cases hq : q n <;> simp_all <;> omega
theorem fb_ct_not (p : Nat → Bool) : ∀ n, fb_ct p n + fb_ct (fun k => !p k) n = n
  | 0 => rfl
  | n + 1 => by
    have h := fb_ct_not p n
    rw [fb_ct_succ, fb_ct_succ]
    cases p n <;> simp <;> omega
theorem fb_ct_split (p : Nat → Bool) (m : Nat) : ∀ n, fb_ct p (m + n) = fb_ct p m + fb_ct (fun k => p (m + k)) n
  | 0 => rfl
  | n + 1 => by
    have h := fb_ct_split p m n
    show fb_ct p (m + n + 1) = _
    rw [fb_ct_succ, fb_ct_succ, h, Nat.add_assoc]
theorem fb_ct_zero {p : Nat → Bool} : ∀ {n : Nat}, fb_ct p n = 0 ↔ ∀ k, k < n → p k = false
  | 0 => ⟨fun _ k hk => absurd hk (Nat.not_lt_zero k), fun _ => rfl⟩
  | n + 1 => by
    have h := fb_ct_zero (p := p) (n := n)
    rw [fb_ct_succ]
    constructor
    · intro e k hk
      have e1 : fb_ct p n = 0 := by omega
      rcases Nat.lt_or_ge k n with q | q
      · exact h.mp e1 k q
      · have ek : k = n := by omega
        subst ek
        cases hp : p k
        · rfl
        · simp [hp] at e
    · intro a
      rw [h.mpr (fun k hk => a k (by omega)), a n (by omega)]
      rfl
theorem fb_ct_pos {p : Nat → Bool} {n : Nat} : 0 < fb_ct p n ↔ ∃ k, k < n ∧ p k = true := by
  constructor
  · intro h
    refine Classical.byContradiction fun hx => ?_
    have := fb_ct_zero.mpr (fun k hk => by
      cases hp : p k
      · rfl
      · exact absurd ⟨k, hk, hp⟩ hx : ∀ k, k < n → p k = false)
    omega
  · rintro ⟨k, hk, hp⟩
    rcases Nat.eq_zero_or_pos (fb_ct p n) with e | e
    · have := fb_ct_zero.mp e k hk
      rw [this] at hp
      cases hp
    · exact e
theorem fb_ct_all {p : Nat → Bool} {n : Nat} : fb_ct p n = n ↔ ∀ k, k < n → p k = true := by
  have h := fb_ct_not p n
  constructor
  · intro e k hk
    have z : fb_ct (fun k => !p k) n = 0 := by omega
    have := fb_ct_zero.mp z k hk
    cases hp : p k
    · simp [hp] at this
    · rfl
  · intro a
    have z : fb_ct (fun k => !p k) n = 0 := fb_ct_zero.mpr (fun k hk => by simp [a k hk])
    omega
/-- the k-th place with the property -/
theorem fb_ct_kth {p : Nat → Bool} {k : Nat} : ∀ {n : Nat}, k < fb_ct p n → ∃ i, i < n ∧ p i = true ∧ fb_ct p i = k
  | 0, h => absurd h (Nat.not_lt_zero k)
  | n + 1, h => by
    rcases Nat.lt_or_ge k (fb_ct p n) with q | q
    · obtain ⟨i, h1, h2⟩ := fb_ct_kth q
      exact ⟨i, by omega, h2⟩
    · rw [fb_ct_succ] at h
      cases hp : p n
      · simp [hp] at h; omega
      · simp [hp] at h
        exact ⟨n, by omega, hp, by omega⟩
theorem fb_ct_kth_one {p : Nat → Bool} {i j : Nat} (hi : p i = true) (hj : p j = true) (e : fb_ct p i = fb_ct p j) : i = j := by
  have key : ∀ a b : Nat, a < b → p a = true → fb_ct p a < fb_ct p b := by
    intro a b hab ha
    have h := fb_ct_mono p (show a + 1 ≤ b from hab)
    rw [fb_ct_succ, ha] at h
    simp at h
    omega
  rcases Nat.lt_trichotomy i j with q | q | q
  · have := key i j q hi; omega
  · exact q
  · have := key j i q hj; omega
/-! ===== sums over a range: one place changed, parts, bounds ===== -/
def fb_sm (f : Nat → Nat) : Nat → Nat
  | 0 => 0
  | n + 1 => fb_sm f n + f n
theorem fb_sm_succ (f : Nat → Nat) (n : Nat) : fb_sm f (n + 1) = fb_sm f n + f n := rfl
theorem fb_sm_cong {f g : Nat → Nat} : ∀ {n : Nat}, (∀ k, k < n → f k = g k) → fb_sm f n = fb_sm g n
  | 0, _ => rfl
  | n + 1, h => by rw [fb_sm_succ, fb_sm_succ, fb_sm_cong (fun k hk => h k (by omega)), h n (by omega)]
theorem fb_sm_out (f : Nat → Nat) (v : Nat) {i n : Nat} (h : n ≤ i) : fb_sm (fun k => if k = i then v else f k) n = fb_sm f n :=
  fb_sm_cong fun k hk => if_neg (by omega)
theorem fb_sm_upd (f : Nat → Nat) (v : Nat) {i : Nat} : ∀ {n : Nat}, i < n → fb_sm (fun k => if k = i then v else f k) n + f i = fb_sm f n + v
  | 0, h => absurd h (Nat.not_lt_zero i)
  | n + 1, h => by
    rw [fb_sm_succ, fb_sm_succ]
    rcases Nat.lt_or_ge i n with q | q
    · have := fb_sm_upd f v q
      have e : (if n = i then v else f n) = f n := if_neg (by omega)
      rw [e]
      omega
    · have e : i = n := by omega
      subst e
      rw [fb_sm_out f v (Nat.le_refl _)]
      simp only [if_true]
      omega
theorem fb_sm_add (f g : Nat → Nat) : ∀ n, fb_sm (fun k => f k + g k) n = fb_sm f n + fb_sm g n
  | 0 => rfl
  | n + 1 => by
    have h := fb_sm_add f g n
    rw [fb_sm_succ, fb_sm_succ, fb_sm_succ, h]
    omega
theorem fb_sm_le {f g : Nat → Nat} : ∀ {n : Nat}, (∀ k, k < n → f k ≤ g k) → fb_sm f n ≤ fb_sm g n
  | 0, _ => Nat.le_refl _
  | n + 1, h => by
    have h1 := fb_sm_le (n := n) (f := f) (g := g) (fun k hk => h k (by omega))
    have h2 := h n (by omega)
    rw [fb_sm_succ, fb_sm_succ]
    omega
theorem fb_sm_const (c : Nat) : ∀ n, fb_sm (fun _ => c) n = n * c
  | 0 => by rw [Nat.zero_mul]; rfl
  | n + 1 => by rw [fb_sm_succ, fb_sm_const c n, Nat.succ_mul]
theorem fb_sm_bound {f : Nat → Nat} {c n : Nat} (h : ∀ k, k < n → f k ≤ c) : fb_sm f n ≤ n * c := by
  rw [← fb_sm_const c n]
  exact fb_sm_le h
theorem fb_sm_mono (f : Nat → Nat) (m : Nat) : ∀ n, fb_sm f m ≤ fb_sm f (m + n)
  | 0 => Nat.le_refl _
  | n + 1 => by
    have h := fb_sm_mono f m n
    show fb_sm f m ≤ fb_sm f (m + n + 1)
    rw [fb_sm_succ]
    omega
theorem fb_sm_part (f : Nat → Nat) {i n : Nat} (h : i < n) : fb_sm f i + f i ≤ fb_sm f n := by
  have := fb_sm_mono f (i + 1) (n - (i + 1))
  rw [fb_sm_succ, show i + 1 + (n - (i + 1)) = n by omega] at this
  exact this
theorem fb_sm_split (f : Nat → Nat) (m : Nat) : ∀ n, fb_sm f (m + n) = fb_sm f m + fb_sm (fun k => f (m + k)) n
  | 0 => rfl
  | n + 1 => by
    have h := fb_sm_split f m n
    show fb_sm f (m + n + 1) = _
    rw [fb_sm_succ, fb_sm_succ, h, Nat.add_assoc]
theorem fb_sm_zero {f : Nat → Nat} {n : Nat} (h : fb_sm f n = 0) : ∀ k, k < n → f k = 0 := fun k hk => by
  have := fb_sm_part f hk
  omega
/-- the same over whole numbers -/
def fb_si (f : Nat → Int) : Nat → Int
  | 0 => 0
  | n + 1 => fb_si f n + f n
theorem fb_si_succ (f : Nat → Int) (n : Nat) : fb_si f (n + 1) = fb_si f n + f n := rfl
theorem fb_si_cong {f g : Nat → Int} : ∀ {n : Nat}, (∀ k, k < n → f k = g k) → fb_si f n = fb_si g n
  | 0, _ => rfl
  | n + 1, h => by rw [fb_si_succ, fb_si_succ, fb_si_cong (fun k hk => h k (by omega)), h n (by omega)]
theorem fb_si_out (f : Nat → Int) (v : Int) {i n : Nat} (h : n ≤ i) : fb_si (fun k => if k = i then v else f k) n = fb_si f n :=
  fb_si_cong fun k hk => if_neg (by omega)
theorem fb_si_upd (f : Nat → Int) (v : Int) {i : Nat} : ∀ {n : Nat}, i < n → fb_si (fun k => if k = i then v else f k) n = fb_si f n - f i + v
  | 0, h => absurd h (Nat.not_lt_zero i)
  | n + 1, h => by
    rw [fb_si_succ, fb_si_succ]
    rcases Nat.lt_or_ge i n with q | q
    · have := fb_si_upd f v q
      have e : (if n = i then v else f n) = f n := if_neg (by omega)
      rw [e]
      omega
    · have e : i = n := by omega
      subst e
      rw [fb_si_out f v (Nat.le_refl _)]
      simp only [if_true]
      omega
theorem fb_si_add (f g : Nat → Int) : ∀ n, fb_si (fun k => f k + g k) n = fb_si f n + fb_si g n
  | 0 => rfl
  | n + 1 => by
    have h := fb_si_add f g n
    rw [fb_si_succ, fb_si_succ, fb_si_succ, h]
    omega
theorem fb_si_sub (f g : Nat → Int) : ∀ n, fb_si (fun k => f k - g k) n = fb_si f n - fb_si g n
  | 0 => rfl
  | n + 1 => by
    have h := fb_si_sub f g n
    rw [fb_si_succ, fb_si_succ, fb_si_succ, h]
    omega
theorem fb_si_mul (c : Int) (f : Nat → Int) : ∀ n, fb_si (fun k => c * f k) n = c * fb_si f n
  | 0 => (Int.mul_zero c).symm
  | n + 1 => by
    have h := fb_si_mul c f n
    rw [fb_si_succ, fb_si_succ, h, Int.mul_add]
theorem fb_si_split (f : Nat → Int) (m : Nat) : ∀ n, fb_si f (m + n) = fb_si f m + fb_si (fun k => f (m + k)) n
  | 0 => (Int.add_zero _).symm
  | n + 1 => by
    have h := fb_si_split f m n
    show fb_si f (m + n + 1) = _
    rw [fb_si_succ, fb_si_succ, h, Int.add_assoc]
theorem fb_si_nat (f : Nat → Nat) : ∀ n, fb_si (fun k => (f k : Int)) n = (fb_sm f n : Int)
  | 0 => rfl
  | n + 1 => by
    have h := fb_si_nat f n
    rw [fb_si_succ, fb_sm_succ, h]
    omega
theorem fb_si_bound {f : Nat → Int} {c : Int} (hc : 0 ≤ c) : ∀ {n : Nat}, (∀ k, k < n → -c ≤ f k ∧ f k ≤ c) → -(n * c) ≤ fb_si f n ∧ fb_si f n ≤ n * c
  | 0, _ => by simp [fb_si]
  | n + 1, h => by
    have h1 := fb_si_bound (n := n) (f := f) hc (fun k hk => h k (by omega))
    have h2 := h n (by omega)
    have e : ((n + 1 : Nat) : Int) * c = n * c + c := by rw [Int.natCast_add, Int.add_mul]; simp
    rw [fb_si_succ, e]
    omega
/-! ===== bits of a long that isn't negative ===== -/
theorem fb_andL (a b : Nat) : lN a &&& lN b = lN (a &&& b) := by
  apply Int64.toBitVec_inj.1
  show BitVec.ofNat 64 a &&& BitVec.ofNat 64 b = BitVec.ofNat 64 (a &&& b)
  apply BitVec.eq_of_getLsbD_eq
  intro i hi
  simp [hi]
theorem fb_orL (a b : Nat) : lN a ||| lN b = lN (a ||| b) := by
  apply Int64.toBitVec_inj.1
  show BitVec.ofNat 64 a ||| BitVec.ofNat 64 b = BitVec.ofNat 64 (a ||| b)
  apply BitVec.eq_of_getLsbD_eq
  intro i hi
  simp [hi]
theorem fb_xorL (a b : Nat) : lN a ^^^ lN b = lN (a ^^^ b) := by
  apply Int64.toBitVec_inj.1
  show BitVec.ofNat 64 a ^^^ BitVec.ofNat 64 b = BitVec.ofNat 64 (a ^^^ b)
  apply BitVec.eq_of_getLsbD_eq
  intro i hi
  simp [hi]
theorem fb_xorI (a b : Nat) : nI a ^^^ nI b = nI (a ^^^ b) := by
  apply Int32.toBitVec_inj.1
  show BitVec.ofNat 32 a ^^^ BitVec.ofNat 32 b = BitVec.ofNat 32 (a ^^^ b)
  apply BitVec.eq_of_getLsbD_eq
  intro i hi
  simp [hi]
theorem fb_maskL (n k : Nat) : lN n &&& lN (2 ^ k - 1) = lN (n % 2 ^ k) := by rw [fb_andL, Nat.and_two_pow_sub_one_eq_mod]
theorem fb_or_sumL {a k : Nat} (b : Nat) (h : a < 2 ^ k) : lN (2 ^ k * b) ||| lN a = lN (2 ^ k * b + a) := by rw [fb_orL, Nat.two_pow_add_eq_or_of_lt h]
theorem fb_lN_inj {a b : Nat} (ha : a < 2 ^ 63) (hb : b < 2 ^ 63) : lN a = lN b ↔ a = b := by
  constructor
  · intro h
    have h1 : (BitVec.ofNat 64 a).toNat = (BitVec.ofNat 64 b).toNat := congrArg (fun x : Int64 => x.toBitVec.toNat) h
    rw [BitVec.toNat_ofNat, BitVec.toNat_ofNat, Nat.mod_eq_of_lt (by omega), Nat.mod_eq_of_lt (by omega)] at h1
    exact h1
  · rintro rfl; rfl
theorem fb_bit_nat (n j : Nat) : n &&& 2 ^ j = 0 ↔ n.testBit j = false := by
  constructor
  · intro h
    have h1 : (n &&& 2 ^ j).testBit j = false := by rw [h]; simp
    rw [Nat.testBit_and] at h1
    simpa using h1
  · intro h
    apply Nat.eq_of_testBit_eq
    intro i
    rw [Nat.testBit_and]
    by_cases hi : j = i
    · subst hi; simp [h]
    · first | (simp [Nat.testBit_two_pow, hi]; done) | (simp [Nat.testBit_two_pow_of_ne hi]; done)
/-- one bit of a long -/
theorem fb_bitL {n j : Nat} (hj : j < 63) : lN n &&& lN (2 ^ j) = 0 ↔ n.testBit j = false := by
  have h2 : (2 : Nat) ^ j < 2 ^ 63 := Nat.pow_lt_pow_right (by decide) hj
  have hle : n &&& 2 ^ j ≤ 2 ^ j := Nat.and_le_right
  rw [fb_andL, ← fb_bit_nat, show (0 : Int64) = lN 0 from rfl]
  exact fb_lN_inj (by omega) (by decide)
/-- a bit set, a bit taken off -/
theorem fb_bit_set (n j i : Nat) : (n ||| 2 ^ j).testBit i = (n.testBit i || decide (i = j)) := by
  rw [Nat.testBit_or]
  by_cases h : j = i
  · subst h; simp
  · have h2 : ¬ i = j := fun e => h e.symm
    first | (simp [Nat.testBit_two_pow, h, h2]; done) | (simp [Nat.testBit_two_pow_of_ne h, h2]; done)
theorem fb_bit_flip (n j i : Nat) : (n ^^^ 2 ^ j).testBit i = (n.testBit i ^^ decide (i = j)) := by
  rw [Nat.testBit_xor]
  by_cases h : j = i
  · subst h; simp
  · have h2 : ¬ i = j := fun e => h e.symm
    first | (simp [Nat.testBit_two_pow, h, h2]; done) | (simp [Nat.testBit_two_pow_of_ne h, h2]; done)
/-! ===== a stretch of an array written over by a function ===== -/
def fb_put {α : Type} (f g : Nat → α) (a n : Nat) : Nat → α := fun k => if a ≤ k ∧ k < a + n then g (k - a) else f k
theorem fb_put_0 {α : Type} (f g : Nat → α) (a : Nat) : fb_put f g a 0 = f := funext fun k => if_neg (by omega)
theorem fb_put_in {α : Type} {f g : Nat → α} {a n k : Nat} (h1 : a ≤ k) (h2 : k < a + n) : fb_put f g a n k = g (k - a) := if_pos ⟨h1, h2⟩
theorem fb_put_out {α : Type} {f g : Nat → α} {a n k : Nat} (h : k < a ∨ a + n ≤ k) : fb_put f g a n k = f k := if_neg (by omega)
theorem fb_put_succ (f g : Nat → Int32) (a n : Nat) : upd (fb_put f g a n) (a + n) (g n) = fb_put f g a (n + 1) := by
  funext k
  by_cases h : k = a + n
  · subst h
    simp [upd, fb_put]
  · by_cases h1 : a ≤ k ∧ k < a + n
    · have h2 : a ≤ k ∧ k < a + (n + 1) := by omega
      simp only [upd, fb_put, if_neg h, if_pos h1, if_pos h2]
    · have h2 : ¬ (a ≤ k ∧ k < a + (n + 1)) := by omega
      simp only [upd, fb_put, if_neg h, if_neg h1, if_neg h2]
/-- .. from the far end down -/
theorem fb_put_down (f g : Nat → Int32) {a n m : Nat} (h : m < n) : upd (fb_put f (fun k => g (k + (m + 1))) (a + (m + 1)) (n - (m + 1))) (a + m) (g m) = fb_put f (fun k => g (k + m)) (a + m) (n - m) := by
  funext k
  by_cases h0 : k = a + m
  · subst h0
    simp only [upd, if_true]
    rw [fb_put_in (by omega) (by omega)]
    exact congrArg g (by omega)
  · simp only [upd, if_neg h0]
    by_cases h1 : a + (m + 1) ≤ k ∧ k < a + (m + 1) + (n - (m + 1))
    · rw [fb_put_in h1.1 h1.2, fb_put_in (by omega) (by omega)]
      exact congrArg g (by omega)
    · rw [fb_put_out (by omega), fb_put_out (by omega)]
theorem fb_put_cong {α : Type} {f f2 g g2 : Nat → α} {a n : Nat} (hf : ∀ k, (k < a ∨ a + n ≤ k) → f k = f2 k) (hg : ∀ k, k < n → g k = g2 k) : fb_put f g a n = fb_put f2 g2 a n := by
  funext k
  by_cases h : a ≤ k ∧ k < a + n
  · rw [fb_put_in h.1 h.2, fb_put_in h.1 h.2, hg _ (by omega)]
  · rw [fb_put_out (by omega), fb_put_out (by omega), hf _ (by omega)]
/-! ===== the least, the first, the best so far; that there is one alone ===== -/
theorem fb_first {p : Nat → Prop} [DecidablePred p] : ∀ {n : Nat}, (∃ i, i < n ∧ p i) → ∃ i, i < n ∧ p i ∧ ∀ j, j < i → ¬ p j
  | 0, h => by obtain ⟨i, hi, -⟩ := h; exact absurd hi (Nat.not_lt_zero i)
  | n + 1, h => by
    by_cases q : ∃ i, i < n ∧ p i
    · obtain ⟨i, h1, h2⟩ := fb_first q
      exact ⟨i, by omega, h2⟩
    · obtain ⟨i, h1, h2⟩ := h
      have e : i = n := by
        rcases Nat.lt_or_ge i n with r | r
        · exact absurd ⟨i, r, h2⟩ q
        · omega
      subst e
      exact ⟨i, by omega, h2, fun j hj hp => q ⟨j, hj, hp⟩⟩
theorem fb_first_one {p : Nat → Prop} {i j : Nat} (hi : p i) (hi2 : ∀ k, k < i → ¬ p k) (hj : p j) (hj2 : ∀ k, k < j → ¬ p k) : i = j := by
  rcases Nat.lt_trichotomy i j with q | q | q
  · exact absurd hi (hj2 i q)
  · exact q
  · exact absurd hj (hi2 j q)
theorem fb_last {p : Nat → Prop} [DecidablePred p] : ∀ {n : Nat}, (∃ i, i < n ∧ p i) → ∃ i, i < n ∧ p i ∧ ∀ j, i < j → j < n → ¬ p j
  | 0, h => by obtain ⟨i, hi, -⟩ := h; exact absurd hi (Nat.not_lt_zero i)
  | n + 1, h => by
    by_cases q : p n
    · exact ⟨n, by omega, q, fun j h1 h2 => by omega⟩
    · obtain ⟨i, h1, h2⟩ := h
      have hi : i < n := by
        rcases Nat.lt_or_ge i n with r | r
        · exact r
        · have e : i = n := by omega
          subst e
          exact absurd h2 q
      obtain ⟨i2, a1, a2, a3⟩ := fb_last (n := n) ⟨i, hi, h2⟩
      refine ⟨i2, by omega, a2, fun j b1 b2 => ?_⟩
      rcases Nat.lt_or_ge j n with r | r
      · exact a3 j b1 r
      · have e : j = n := by omega
        subst e
        exact q
/-- the first greatest -/
theorem fb_best (f : Nat → Int) : ∀ {n : Nat}, 0 < n → ∃ i, i < n ∧ (∀ j, j < n → f j ≤ f i) ∧ ∀ j, j < i → f j < f i
  | 0, h => absurd h (Nat.lt_irrefl 0)
  | 1, _ => ⟨0, by omega, fun j hj => by have e : j = 0 := by omega
                                         subst e; exact Int.le_refl _, fun j hj => absurd hj (Nat.not_lt_zero j)⟩
  | n + 2, _ => by
    obtain ⟨i, h1, h2, h3⟩ := fb_best f (n := n + 1) (by omega)
    by_cases q : f i < f (n + 1)
    · refine ⟨n + 1, by omega, fun j hj => ?_, fun j hj => ?_⟩
      · rcases Nat.lt_or_ge j (n + 1) with r | r
        · have := h2 j r; omega
        · have e : j = n + 1 := by omega
          subst e; exact Int.le_refl _
      · have := h2 j hj; omega
    · refine ⟨i, by omega, fun j hj => ?_, h3⟩
      rcases Nat.lt_or_ge j (n + 1) with r | r
      · exact h2 j r
      · have e : j = n + 1 := by omega
        subst e; omega
theorem fb_best_one {f : Nat → Int} {n i j : Nat} (hi : i < n) (hi2 : ∀ k, k < n → f k ≤ f i) (hi3 : ∀ k, k < i → f k < f i) (hj : j < n) (hj2 : ∀ k, k < n → f k ≤ f j) (hj3 : ∀ k, k < j → f k < f j) : i = j := by
  rcases Nat.lt_trichotomy i j with q | q | q
  · have a := hj3 i q
    have b := hi2 j hj
    omega
  · exact q
  · have a := hi3 j q
    have b := hj2 i hi
    omega
/-- the first least -/
theorem fb_low (f : Nat → Int) {n : Nat} (h : 0 < n) : ∃ i, i < n ∧ (∀ j, j < n → f i ≤ f j) ∧ ∀ j, j < i → f i < f j := by
  obtain ⟨i, h1, h2, h3⟩ := fb_best (fun k => -f k) h
  exact ⟨i, h1, fun j hj => by have := h2 j hj; omega, fun j hj => by have := h3 j hj; omega⟩
/-! ===== signed ints as whole numbers, within bounds ===== -/
theorem fb_rng (x : Int32) : -2147483648 ≤ x.toInt ∧ x.toInt < 2147483648 := by
  have h1 := Int32.le_toInt x
  have h2 := Int32.toInt_lt x
  omega
theorem fb_bmod {z : Int} (h1 : -2147483648 ≤ z) (h2 : z < 2147483648) : z.bmod (2 ^ 32) = z := by
  rw [Int.bmod_eq_of_le (by omega) (by omega)]
theorem fb_addI {x y : Int32} (h1 : -2147483648 ≤ x.toInt + y.toInt) (h2 : x.toInt + y.toInt < 2147483648) : (x + y).toInt = x.toInt + y.toInt := by
  rw [Int32.toInt_add, fb_bmod h1 h2]
theorem fb_subI {x y : Int32} (h1 : -2147483648 ≤ x.toInt - y.toInt) (h2 : x.toInt - y.toInt < 2147483648) : (x - y).toInt = x.toInt - y.toInt := by
  rw [Int32.toInt_sub, fb_bmod h1 h2]
theorem fb_mulI {x y : Int32} (h1 : -2147483648 ≤ x.toInt * y.toInt) (h2 : x.toInt * y.toInt < 2147483648) : (x * y).toInt = x.toInt * y.toInt := by
  rw [Int32.toInt_mul, fb_bmod h1 h2]
theorem fb_negI {x : Int32} (h : x.toInt ≠ -2147483648) : (-x).toInt = -x.toInt := by
  have := fb_rng x
  rw [Int32.toInt_neg, fb_bmod (by omega) (by omega)]
theorem fb_ofI {z : Int} (h1 : -2147483648 ≤ z) (h2 : z < 2147483648) : (Int32.ofInt z).toInt = z := by
  rw [Int32.toInt_ofInt, fb_bmod h1 h2]
theorem fb_asI (x : Int32) : Int32.ofInt x.toInt = x := Int32.ofInt_toInt x
theorem fb_rngL (x : Int64) : -9223372036854775808 ≤ x.toInt ∧ x.toInt < 9223372036854775808 := by
  have h1 := Int64.le_toInt x
  have h2 := Int64.toInt_lt x
  omega
theorem fb_bmodL {z : Int} (h1 : -9223372036854775808 ≤ z) (h2 : z < 9223372036854775808) : z.bmod (2 ^ 64) = z := by
  rw [Int.bmod_eq_of_le (by omega) (by omega)]
theorem fb_addL {x y : Int64} (h1 : -9223372036854775808 ≤ x.toInt + y.toInt) (h2 : x.toInt + y.toInt < 9223372036854775808) : (x + y).toInt = x.toInt + y.toInt := by
  rw [Int64.toInt_add, fb_bmodL h1 h2]
theorem fb_subL {x y : Int64} (h1 : -9223372036854775808 ≤ x.toInt - y.toInt) (h2 : x.toInt - y.toInt < 9223372036854775808) : (x - y).toInt = x.toInt - y.toInt := by
  rw [Int64.toInt_sub, fb_bmodL h1 h2]
theorem fb_mulL {x y : Int64} (h1 : -9223372036854775808 ≤ x.toInt * y.toInt) (h2 : x.toInt * y.toInt < 9223372036854775808) : (x * y).toInt = x.toInt * y.toInt := by
  rw [Int64.toInt_mul, fb_bmodL h1 h2]
/-! ===== cuts of what is narrow already ===== -/
theorem fb_byte {x : Int32} (h1 : -128 ≤ x.toInt) (h2 : x.toInt < 128) : x.toInt8.toInt32 = x := by
  apply Int32.toInt_inj.1
  rw [Int8.toInt_toInt32, Int32.toInt_toInt8, Int.bmod_eq_of_le (by omega) (by omega)]
theorem fb_short {x : Int32} (h1 : -32768 ≤ x.toInt) (h2 : x.toInt < 32768) : x.toInt16.toInt32 = x := by
  apply Int32.toInt_inj.1
  rw [Int16.toInt_toInt32, Int32.toInt_toInt16, Int.bmod_eq_of_le (by omega) (by omega)]
theorem fb_byte_rng (x : Int32) : -128 ≤ x.toInt8.toInt32.toInt ∧ x.toInt8.toInt32.toInt < 128 := by
  rw [Int8.toInt_toInt32]
  have h1 := Int8.le_toInt x.toInt8
  have h2 := Int8.toInt_lt x.toInt8
  omega
theorem fb_short_rng (x : Int32) : -32768 ≤ x.toInt16.toInt32.toInt ∧ x.toInt16.toInt32.toInt < 32768 := by
  rw [Int16.toInt_toInt32]
  have h1 := Int16.le_toInt x.toInt16
  have h2 := Int16.toInt_lt x.toInt16
  omega
theorem fb_byte_twice (x : Int32) : x.toInt8.toInt32.toInt8.toInt32 = x.toInt8.toInt32 := fb_byte (fb_byte_rng x).1 (fb_byte_rng x).2
theorem fb_short_twice (x : Int32) : x.toInt16.toInt32.toInt16.toInt32 = x.toInt16.toInt32 := fb_short (fb_short_rng x).1 (fb_short_rng x).2
theorem fb_char {n : Nat} (h : n < 65536) : (nI n).toUInt32.toUInt16.toUInt32.toInt32 = nI n := by
  apply Int32.toBitVec_inj.1
  apply BitVec.eq_of_toNat_eq
  have e1 : (nI n).toBitVec.toNat = n := by
    show (BitVec.ofNat 32 n).toNat = n
    rw [BitVec.toNat_ofNat, Nat.mod_eq_of_lt (by omega)]
  have e2 : ((nI n).toUInt32.toUInt16.toUInt32).toNat = n := by
    rw [UInt16.toNat_toUInt32, UInt32.toNat_toUInt16]
    show (nI n).toBitVec.toNat % 2 ^ 16 = n
    rw [e1, Nat.mod_eq_of_lt (by omega)]
  rw [e1]
  exact e2
end
section
/-! the taken cells as bits; a ball's cell -/
def tb (tk : Int64) (q : Nat) : Bool := tk.toBitVec.getLsbD q
theorem tb_test (tk : Int64) {q : Nat} (hq : q < 45) : (lg_cmp (((tk.toUInt64 >>> ((nI q).toInt64.toUInt64 &&& Int64.toUInt64 63)).toInt64) &&& 1) 0) = 0 ↔ tb tk q = false := by
  rw [lg_cmp_eq]
  exact ts_bit (by omega) (by rw [wb_cu q (by omega)]; exact u_tn (by omega))
theorem sh_bits {q : Nat} (hq : q < 64) (j : Nat) (hj : j < 64) : ((1 : Int64) <<< ((nI q).toInt64 &&& 63)).toBitVec.getLsbD j = decide (j = q) := by
  have e : (1 : Int64) <<< ((nI q).toInt64 &&& 63) = lN (1 * 2 ^ q) := wb_shl 1 hq
  rw [e, wb_tb, BitVec.getLsbD_ofNat, Nat.one_mul, Nat.testBit_two_pow]
  by_cases h : q = j
  · subst h; simp [hj]
  · have h' : ¬ j = q := fun z => h z.symm
    simp [h, h']
theorem tb_or (tk : Int64) {q j : Nat} (hq : q < 45) (hj : j < 64) : tb (tk ||| (1 <<< ((nI q).toInt64 &&& 63))) j = (tb tk j || decide (j = q)) := by
  unfold tb
  rw [Int64.toBitVec_or, BitVec.getLsbD_or, sh_bits (by omega) j hj]
theorem tb_clr (tk : Int64) {q j : Nat} (hq : q < 45) (hj : j < 64) : tb (tk &&& ((1 <<< ((nI q).toInt64 &&& 63)) ^^^ (-1))) j = (tb tk j && !decide (j = q)) := by
  unfold tb
  rw [Int64.toBitVec_and, BitVec.getLsbD_and, Int64.toBitVec_xor, BitVec.getLsbD_xor, sh_bits (by omega) j hj]
  have hm : ((-1 : Int64).toBitVec).getLsbD j = true := by
    have : (-1 : Int64).toBitVec = BitVec.allOnes 64 := by decide
    rw [this, BitVec.getLsbD_allOnes]
    simp [hj]
  rw [hm]
  cases decide (j = q) <;> rfl
/-- a ball's place: off the table or a cell that is no pocket -/
def okc (x : Int32) : Prop := x = -1 ∨ ∃ q, q < 45 ∧ pkt q = false ∧ x = nI q
/-- the class's table: every ball's place, apart, the bits -/
def TabC (tk : Int64) (c : Nat → Int32) : Prop :=
  (∀ b, b < 7 → okc (c b)) ∧ (∀ b, b < 7 → ∀ d, d < 7 → c b = c d → c b ≠ -1 → b = d) ∧ (∀ q, q < 45 → (tb tk q = true ↔ ∃ b, b < 7 ∧ c b = nI q))
theorem nI_ne_m1 {q : Nat} (hq : q < 45) : ¬ nI q = -1 := by
  have h : ∀ q, q < 45 → ¬ nI q = -1 := by decide +kernel
  exact h q hq
theorem nI_inj45 {a b : Nat} (ha : a < 45) (hb : b < 45) (h : nI a = nI b) : a = b := (nI_eq (by omega) (by omega)).mp h
end
section
/-! which ball lies in a cell -/
def whoF (c : Nat → Int32) (x : Int32) : Nat → Int32
  | 0 => -1
  | n + 1 => if c n = x then nI n else whoF c x n
theorem who_none {c : Nat → Int32} {x : Int32} : ∀ {n : Nat}, (∀ b, b < n → ¬ c b = x) → whoF c x n = -1
  | 0, _ => rfl
  | n + 1, h => by
    rw [whoF, if_neg (h n (Nat.lt_succ_self n))]
    exact who_none (fun b hb => h b (Nat.lt_succ_of_lt hb))
theorem who_some {c : Nat → Int32} {x : Int32} : ∀ {n : Nat} {b : Nat}, b < n → c b = x → (∀ d, d < n → c d = x → d = b) → whoF c x n = nI b
  | 0, _, h, _, _ => absurd h (Nat.not_lt_zero _)
  | n + 1, b, h, hb, hu => by
    by_cases hn : c n = x
    · rw [whoF, if_pos hn, hu n (Nat.lt_succ_self n) hn]
    · rw [whoF, if_neg hn]
      have hbn : b ≠ n := fun e => hn (e ▸ hb)
      exact who_some (by omega) hb (fun d hd => hu d (Nat.lt_succ_of_lt hd))
theorem who_cases (c : Nat → Int32) (x : Int32) : ∀ n : Nat, (whoF c x n = -1 ∧ ∀ b, b < n → ¬ c b = x) ∨ ∃ b, b < n ∧ whoF c x n = nI b ∧ c b = x
  | 0 => Or.inl ⟨rfl, fun _ h => absurd h (Nat.not_lt_zero _)⟩
  | n + 1 => by
    by_cases hn : c n = x
    · exact Or.inr ⟨n, Nat.lt_succ_self n, by rw [whoF, if_pos hn], hn⟩
    · rcases who_cases c x n with ⟨h1, h2⟩ | ⟨b, h1, h2, h3⟩
      · refine Or.inl ⟨by rw [whoF, if_neg hn]; exact h1, fun b hb => ?_⟩
        by_cases e : b = n
        · rw [e]; exact hn
        · exact h2 b (by omega)
      · exact Or.inr ⟨b, by omega, by rw [whoF, if_neg hn]; exact h2, h3⟩
theorem who_congr {c d : Nat → Int32} {x : Int32} : ∀ {n : Nat}, (∀ b, b < n → c b = d b) → whoF c x n = whoF d x n
  | 0, _ => rfl
  | n + 1, h => by
    rw [whoF, whoF, h n (Nat.lt_succ_self n), who_congr (fun b hb => h b (Nat.lt_succ_of_lt hb))]
theorem inb_nI {b N : Nat} (h : b < N) (hN : N < 2 ^ 31) : inb (nI b) N = true := by
  simp only [inb, Bool.and_eq_true, decide_eq_true_eq, nI_toInt (show b < 2 ^ 31 by omega)]
  omega
theorem ballIn_loop {c : Nat → Int32} {x : Int32} (hu : ∀ b, b < 7 → ∀ d, d < 7 → c b = x → c d = x → b = d) : ∀ (j b k : Nat), j + b = 7 → j < k → (∀ d, d < b → ¬ c d = x) → f_X10_ballIn_L17 c x k (nI b) = some (whoF c x 7) := by
  intro j
  induction j with
  | zero =>
    intro b k hb hk hd
    obtain ⟨k, rfl⟩ : ∃ k', k = k' + 1 := ⟨k - 1, by omega⟩
    have hb : b = 7 := by omega
    subst hb
    show b_X10_ballIn_L17 c x (fun y => f_X10_ballIn_L17 c x k y) (nI 7) = _
    unfold b_X10_ballIn_L17
    rw [if_pos (show (7 : Int32) ≤ nI 7 by decide), who_none hd]
  | succ j ih =>
    intro b k hb hk hd
    obtain ⟨k, rfl⟩ : ∃ k', k = k' + 1 := ⟨k - 1, by omega⟩
    have hb7 : b < 7 := by omega
    show b_X10_ballIn_L17 c x (fun y => f_X10_ballIn_L17 c x k y) (nI b) = _
    unfold b_X10_ballIn_L17
    rw [if_neg (show ¬ (7 : Int32) ≤ nI b from nI_ge hb7 (by decide))]
    simp only [gd, inb_nI hb7 (by decide), if_true, bnd, nI_clamp (show b < 2 ^ 31 by omega)]
    by_cases h : c b = x
    · rw [if_pos h, who_some hb7 h (fun d hd7 hx => hu d hd7 b hb7 hx h)]
    · rw [if_neg h, nI_1]
      refine ih (b + 1) k (by omega) (by omega) (fun d hdb => ?_)
      by_cases e : d = b
      · rw [e]; exact h
      · exact hd d (by omega)
theorem ballIn_ok {tk : Int64} {c : Nat → Int32} (hT : TabC tk c) {q n : Nat} (hq : q < 45) (hn : 8 ≤ n) : f_X10_ballIn n tk c (nI q) = some (whoF c (nI q) 7) := by
  unfold f_X10_ballIn
  by_cases h : tb tk q = true
  · rw [if_neg (fun z => by rw [(tb_test tk hq).mp z] at h; cases h)]
    exact ballIn_loop (fun b hb d hd h1 h2 => hT.2.1 b hb d hd (h1.trans h2.symm) (by rw [h1]; exact nI_ne_m1 hq)) 7 0 n rfl (by omega) (fun d hd => absurd hd (Nat.not_lt_zero _))
  · have hf : tb tk q = false := by cases hx : tb tk q <;> simp_all
    rw [if_pos ((tb_test tk hq).mpr hf), who_none]
    intro b hb hc
    exact h ((hT.2.2 q hq).mpr ⟨b, hb, hc⟩)
theorem lies_loop {v : Nat → Int32} {x : Int32} {bl : Nat} (h1 : 1 ≤ bl) (h6 : bl ≤ 6) : ∀ (j b k : Nat), j + b = bl + 1 → j < k → f_X12_liesIn_L5 (nI bl) v x k (whoF v x b) (nI b) = some (whoF v x (bl + 1)) := by
  intro j
  induction j with
  | zero =>
    intro b k hb hk
    obtain ⟨k, rfl⟩ : ∃ k', k = k' + 1 := ⟨k - 1, by omega⟩
    have hb : b = bl + 1 := by omega
    subst hb
    show b_X12_liesIn_L5 (nI bl) v x (fun y z => f_X12_liesIn_L5 (nI bl) v x k y z) (whoF v x (bl + 1)) (nI (bl + 1)) = _
    unfold b_X12_liesIn_L5
    rw [if_pos (nI_lt (by omega) (by omega))]
  | succ j ih =>
    intro b k hb hk
    obtain ⟨k, rfl⟩ : ∃ k', k = k' + 1 := ⟨k - 1, by omega⟩
    have hb7 : b < 7 := by omega
    show b_X12_liesIn_L5 (nI bl) v x (fun y z => f_X12_liesIn_L5 (nI bl) v x k y z) (whoF v x b) (nI b) = _
    unfold b_X12_liesIn_L5 f_X12_lacks
    rw [if_neg (nI_nlt (show b ≤ bl by omega) (by omega)), if_neg (nI_ne0 (by omega) (by omega))]
    simp only [Option.bind_some, if_true, gd, inb_nI hb7 (by decide), bnd, jn, nI_clamp (show b < 2 ^ 31 by omega), nI_1]
    have e : whoF v x (b + 1) = if v b = x then nI b else whoF v x b := rfl
    have h2 := ih (b + 1) k (by omega) (by omega)
    rw [e] at h2
    by_cases h : v b = x
    · rw [if_pos h] at h2 ⊢; exact h2
    · rw [if_neg h] at h2 ⊢; exact h2
theorem lies_ok {v : Nat → Int32} {x : Int32} {bl n : Nat} (h1 : 1 ≤ bl) (h6 : bl ≤ 6) (hn : 9 ≤ n) : f_X12_liesIn n (nI bl) v x = some (whoF v x (bl + 1)) := by
  unfold f_X12_liesIn
  have h := lies_loop (v := v) (x := x) h1 h6 (bl + 1) 0 n rfl (by omega)
  exact h
theorem upd_s (f : Nat → Int32) (k : Nat) (x : Int32) : upd f k x k = x := by simp [upd]
theorem upd_n {f : Nat → Int32} {k j : Nat} {x : Int32} (h : j ≠ k) : upd f k x j = f j := by simp [upd, h]
/-- a ball is laid in a free cell, or taken off -/
theorem lay_ok {tk : Int64} {c : Nat → Int32} (hT : TabC tk c) {b : Nat} (hb : b < 7) {y : Int32} (hy : okc y) (hfree : ∀ d, d < 7 → d ≠ b → y ≠ -1 → c d ≠ y) : ∃ tk', f_X10_lay tk c (nI b) y = some (tk', upd c b y) ∧ TabC tk' (upd c b y) := by
  have h0 : ¬ nI b < 0 := nI_pos (by omega)
  have h7 : nI b < 7 := nI_lt (b := 7) hb (by decide)
  have hcl : (nI b).toNatClampNeg = b := nI_clamp (by omega)
  obtain ⟨t1, e1, ht1⟩ : ∃ t1, (if c b = -1 then tk else tk &&& ((1 <<< ((c b).toInt64 &&& 63)) ^^^ (-1))) = t1 ∧ ∀ q, q < 45 → (tb t1 q = true ↔ ∃ d, d < 7 ∧ d ≠ b ∧ c d = nI q) := by
    refine ⟨_, rfl, fun q hq => ?_⟩
    rcases hT.1 b hb with hm | ⟨q0, hq0, -, hm⟩
    · rw [if_pos hm, hT.2.2 q hq]
      constructor
      · rintro ⟨d, hd, hc⟩
        exact ⟨d, hd, fun e => nI_ne_m1 hq (by rw [← hc, e, hm]), hc⟩
      · rintro ⟨d, hd, -, hc⟩
        exact ⟨d, hd, hc⟩
    · rw [if_neg (by rw [hm]; exact nI_ne_m1 hq0), hm, tb_clr tk hq0 (show q < 64 by omega), Bool.and_eq_true, hT.2.2 q hq]
      constructor
      · rintro ⟨⟨d, hd, hc⟩, hne⟩
        refine ⟨d, hd, fun e => ?_, hc⟩
        have : q = q0 := nI_inj45 hq hq0 (by rw [← hc, e, hm])
        simp [this] at hne
      · rintro ⟨d, hd, hdb, hc⟩
        refine ⟨⟨d, hd, hc⟩, ?_⟩
        have : q ≠ q0 := fun e => hdb (hT.2.1 d hd b hb (by rw [hc, hm, e]) (by rw [hc]; exact nI_ne_m1 hq))
        simp [this]
  obtain ⟨t2, e2, ht2⟩ : ∃ t2, (if y = -1 then t1 else t1 ||| (1 <<< (y.toInt64 &&& 63))) = t2 ∧ ∀ q, q < 45 → (tb t2 q = true ↔ ∃ d, d < 7 ∧ upd c b y d = nI q) := by
    refine ⟨_, rfl, fun q hq => ?_⟩
    rcases hy with hm | ⟨q0, hq0, -, hm⟩
    · rw [if_pos hm, ht1 q hq]
      constructor
      · rintro ⟨d, hd, hdb, hc⟩
        exact ⟨d, hd, by rw [upd_n hdb]; exact hc⟩
      · rintro ⟨d, hd, hc⟩
        have hdb : d ≠ b := fun e => nI_ne_m1 hq (by rw [← hc, e, upd_s, hm])
        exact ⟨d, hd, hdb, by rw [upd_n hdb] at hc; exact hc⟩
    · rw [if_neg (by rw [hm]; exact nI_ne_m1 hq0), hm, tb_or t1 hq0 (show q < 64 by omega), Bool.or_eq_true, ht1 q hq]
      constructor
      · rintro (⟨d, hd, hdb, hc⟩ | h)
        · exact ⟨d, hd, by rw [upd_n hdb]; exact hc⟩
        · have : q = q0 := by simpa using h
          exact ⟨b, hb, by rw [upd_s, this]⟩
      · rintro ⟨d, hd, hc⟩
        by_cases hdb : d = b
        · right
          rw [hdb, upd_s] at hc
          have : q = q0 := (nI_inj45 hq0 hq hc).symm
          simp [this]
        · left
          exact ⟨d, hd, hdb, by rw [upd_n hdb] at hc; exact hc⟩
  refine ⟨t2, ?_, ?_, ?_, ht2⟩
  · unfold f_X10_lay
    rw [if_neg h0, if_pos h7]
    simp only [gd, inb_nI hb (by decide), if_true, jn, hcl]
    subst e2; subst e1
    by_cases hm : c b = -1 <;> by_cases hy1 : y = -1 <;> simp [hm, hy1]
  · intro d hd
    by_cases hdb : d = b
    · rw [hdb, upd_s]; exact hy
    · rw [upd_n hdb]; exact hT.1 d hd
  · intro d hd e he h1 h2
    by_cases hdb : d = b <;> by_cases heb : e = b
    · rw [hdb, heb]
    · rw [hdb, upd_s] at h1 h2
      rw [upd_n heb] at h1
      exact absurd h1.symm (hfree e he heb h2)
    · rw [heb, upd_s] at h1
      rw [upd_n hdb] at h1 h2
      exact absurd h1 (hfree d hd hdb (fun z => h2 (h1.trans z)))
    · rw [upd_n hdb] at h1 h2
      rw [upd_n heb] at h1
      exact hT.2.1 d hd e he h1 h2
end
section
/-! what rolls: one description for both -/
def rollP (kd : Nat → Nat) (bl : Nat) : Nat → (Nat → Int32) → Nat → Nat → Nat → Int32 → Int32 → Int32 → Int32 → Nat → ((Nat → Int32) × Int32 × Int32 × Int32 × Int32 × Nat)
  | 0, c, _, _, _, mv, bo, po, hd, hp => (c, mv, bo, po, hd, hp)
  | F + 1, c, b, w, pw, mv, bo, po, hd, hp =>
    if pw = 0 then (c, mv, bo, po, hd, hp)
    else if (oR (c b).toNatClampNeg w || oC (c b).toNatClampNeg w) = true then
      (if kd b = 3 then rollP kd bl F c b (tw w (oR (c b).toNatClampNeg w) (oC (c b).toNatClampNeg w)) 0 mv bo po hd hp
       else rollP kd bl F c b (tw w (oR (c b).toNatClampNeg w) (oC (c b).toNatClampNeg w)) (pw - 1) mv (bo + 1) po hd hp)
    else if whoF c (nI (nx (c b).toNatClampNeg w)) (bl + 1) = -1 then
      (if pkt (nx (c b).toNatClampNeg w) = true then rollP kd bl F (upd c b (-1)) b w 0 (mv + 1) bo (po ||| (1 <<< (nI b &&& 31))) hd hp
       else rollP kd bl F (upd c b (nI (nx (c b).toNatClampNeg w))) b w (pw - 1) (mv + 1) bo po hd hp)
    else rollP kd bl F c (whoF c (nI (nx (c b).toNatClampNeg w)) (bl + 1)).toNatClampNeg w (pwN (kd (whoF c (nI (nx (c b).toNatClampNeg w)) (bl + 1)).toNatClampNeg) (pw - 1)) mv bo po (if b = 0 ∧ hd = -1 then nI w else hd) (if b = 0 ∧ hd = -1 then pw - 1 else hp)
theorem roll_0 (kd : Nat → Nat) (bl F : Nat) (c : Nat → Int32) (b w : Nat) (mv bo po hd : Int32) (hp : Nat) : rollP kd bl F c b w 0 mv bo po hd hp = (c, mv, bo, po, hd, hp) := by
  cases F <;> simp [rollP]
theorem who_short {c : Nat → Int32} {x : Int32} {bl : Nat} (h6 : bl ≤ 6) (hx : ¬ x = -1) (hc : ∀ d, bl < d → d < 7 → c d = -1) : whoF c x 7 = whoF c x (bl + 1) := by
  have key : ∀ j, bl + 1 + j ≤ 7 → whoF c x (bl + 1 + j) = whoF c x (bl + 1) := by
    intro j
    induction j with
    | zero => intro _; rfl
    | succ j ih =>
      intro hj
      show whoF c x (bl + 1 + j + 1) = _
      rw [whoF, if_neg (by rw [hc (bl + 1 + j) (by omega) (by omega)]; exact fun z => hx z.symm)]
      exact ih (by omega)
  have h := key (7 - (bl + 1)) (by omega)
  rw [show bl + 1 + (7 - (bl + 1)) = 7 by omega] at h
  exact h
theorem nI_le0 {p : Nat} (h : p < 11) : (nI p ≤ 0) ↔ p = 0 := by
  have : ∀ p, p < 11 → ((nI p ≤ 0) ↔ p = 0) := by decide +kernel
  exact this p h
theorem nI_m1 {p : Nat} (h : p < 11) (h0 : p ≠ 0) : nI p - 1 = nI (p - 1) ∧ nI p + (-1) = nI (p - 1) := by
  have : ∀ p, p < 11 → p ≠ 0 → (nI p - 1 = nI (p - 1) ∧ nI p + (-1) = nI (p - 1)) := by decide +kernel
  exact this p h h0
theorem b2_0 (x : Bool) : (b2 x = 0) ↔ x = false := by cases x <;> decide
theorem nI_is0 {b : Nat} (h : b < 7) : (nI b = 0) ↔ b = 0 := by
  have : ∀ b, b < 7 → ((nI b = 0) ↔ b = 0) := by decide +kernel
  exact this b h
end
section
theorem b2_nt : (b2 !true) = 0 := rfl
theorem b2_nf : (b2 !false) = 1 := rfl
theorem b2_t : b2 true = 1 := rfl
theorem b2_f : b2 false = 0 := rfl
theorem one_ne : ((1 : Int32) = 0) = False := by decide
theorem rollC {kv : Nat → Int32} {kd : Nat → Nat} {bl n : Nat} (h6 : bl ≤ 6) (hn : 8 ≤ n) (hk : ∀ d, d < 7 → kd d < 5 ∧ kv d = nI (kd d)) :
    ∀ (F k t b w pw hp : Nat) (c : Nat → Int32) (tk : Int64) (mv bo po hd : Int32), TabC tk c → (∀ d, bl < d → d < 7 → c d = -1) → b ≤ bl → w < 8 → pw ≤ 9 → (pw ≠ 0 → ∃ q, q < 45 ∧ pkt q = false ∧ c b = nI q ∧ pw * 10 + ah q w < F) → F < k → t + F < 1000 →
    ∃ tk', f_X9_roll_L12 kv n k (nI b) (nI w) (nI pw) (nI t) mv bo po hd (nI hp) tk c = some ((rollP kd bl F c b w pw mv bo po hd hp).2.1, (rollP kd bl F c b w pw mv bo po hd hp).2.2.1, (rollP kd bl F c b w pw mv bo po hd hp).2.2.2.1, (rollP kd bl F c b w pw mv bo po hd hp).2.2.2.2.1, nI (rollP kd bl F c b w pw mv bo po hd hp).2.2.2.2.2, tk', (rollP kd bl F c b w pw mv bo po hd hp).1) ∧ TabC tk' (rollP kd bl F c b w pw mv bo po hd hp).1 ∧ ∀ d, bl < d → d < 7 → (rollP kd bl F c b w pw mv bo po hd hp).1 d = -1 := by
  intro F
  induction F with
  | zero =>
    intro k t b w pw hp c tk mv bo po hd hT hoff hb hw hpw hq hk1 ht
    have h0 : pw = 0 := by
      by_cases h : pw = 0
      · exact h
      · obtain ⟨q, -, -, -, h⟩ := hq h; omega
    subst h0
    obtain ⟨k, rfl⟩ : ∃ k', k = k' + 1 := ⟨k - 1, by omega⟩
    refine ⟨tk, ?_, hT, hoff⟩
    show b_X9_roll_L12 kv n (fun a1 a2 a3 a4 a5 a6 a7 a8 a9 a10 a11 => f_X9_roll_L12 kv n k a1 a2 a3 a4 a5 a6 a7 a8 a9 a10 a11) (nI b) (nI w) (nI 0) (nI t) mv bo po hd (nI hp) tk c = _
    unfold b_X9_roll_L12
    rw [if_neg (show ¬ (1000 : Int32) ≤ nI t from nI_ge (a := t) (b := 1000) (by omega) (by decide)), if_pos (show nI 0 ≤ 0 by decide)]
    rfl
  | succ F ih =>
    intro k t b w pw hp c tk mv bo po hd hT hoff hb hw hpw hq hk1 ht
    obtain ⟨k, rfl⟩ : ∃ k', k = k' + 1 := ⟨k - 1, by omega⟩
    have hge : ¬ (1000 : Int32) ≤ nI t := nI_ge (a := t) (b := 1000) (by omega) (by decide)
    by_cases hp0 : pw = 0
    · subst hp0
      refine ⟨tk, ?_, by rw [roll_0]; exact hT, by rw [roll_0]; exact hoff⟩
      show b_X9_roll_L12 kv n (fun a1 a2 a3 a4 a5 a6 a7 a8 a9 a10 a11 => f_X9_roll_L12 kv n k a1 a2 a3 a4 a5 a6 a7 a8 a9 a10 a11) (nI b) (nI w) (nI 0) (nI t) mv bo po hd (nI hp) tk c = _
      unfold b_X9_roll_L12
      rw [if_neg hge, if_pos (show nI 0 ≤ 0 by decide), roll_0]
    · obtain ⟨q, hq45, hqp, hcb, hmu⟩ := hq hp0
      have hb7 : b < 7 := by omega
      have hcl : (nI q).toNatClampNeg = q := nI_clamp (by omega)
      have hstep := t_step w hw
      have hle : ¬ nI pw ≤ 0 := fun z => hp0 ((nI_le0 (by omega)).mp z)
      show ∃ tk', b_X9_roll_L12 kv n (fun a1 a2 a3 a4 a5 a6 a7 a8 a9 a10 a11 => f_X9_roll_L12 kv n k a1 a2 a3 a4 a5 a6 a7 a8 a9 a10 a11) (nI b) (nI w) (nI pw) (nI t) mv bo po hd (nI hp) tk c = _ ∧ _
      unfold b_X9_roll_L12
      simp only [if_neg hge, if_neg hle, (t_cell c hb7).1, hcb, Option.bind_some, hstep.1, hstep.2.1, bnd, jn, t_row q hq45 w hw, t_col q hq45 w hw, nI_1]
      cases hr : oR q w <;> cases hc : oC q w
      · obtain ⟨e1, hx45, hah, hne⟩ := t_next hq45 hw hr hc
        simp only [e1, ballIn_ok hT hx45 hn, Option.bind_some, who_short h6 (nI_ne_m1 hx45) hoff, b2_nf, one_ne, if_false]
        rcases who_cases c (nI (nx q w)) (bl + 1) with ⟨hx, hno⟩ | ⟨j, hj, hx, hcj⟩
        · have hfr : ∀ d, d < 7 → d ≠ b → nI (nx q w) ≠ -1 → c d ≠ nI (nx q w) := fun d hd _ _ => by
            by_cases hdb : d < bl + 1
            · exact hno d hdb
            · rw [hoff d (by omega) hd]; exact fun z => nI_ne_m1 hx45 z.symm
          cases hpk : pkt (nx q w)
          · obtain ⟨tk1, hl1, hT1⟩ := lay_ok hT hb7 (Or.inr ⟨nx q w, hx45, hpk, rfl⟩) hfr
            have e : rollP kd bl (F + 1) c b w pw mv bo po hd hp = rollP kd bl F (upd c b (nI (nx q w))) b w (pw - 1) (mv + 1) bo po hd hp := by
              simp [rollP, hp0, hcb, hcl, hr, hc, hx, hpk]
            have hih := ih k (t + 1) b w (pw - 1) hp (upd c b (nI (nx q w))) tk1 (mv + 1) bo po hd hT1 (fun d h1 h2 => by rw [upd_n (by omega)]; exact hoff d h1 h2) hb hw (by omega) (fun hz => ⟨nx q w, hx45, hpk, upd_s _ _ _, by
              have h8 := t_ah (nx q w) hx45 w hw
              omega⟩) (by omega) (by omega)
            rw [← e] at hih
            obtain ⟨tk', hi1, hi2⟩ := hih
            refine ⟨tk', ?_, hi2⟩
            rw [← hi1]
            simp only [hx, if_true, (t_pocket _ hx45).1, Option.bind_some, hpk, b2_f, hl1, (nI_m1 (show pw < 11 by omega) hp0).1]
          · obtain ⟨tk1, hl1, hT1⟩ := lay_ok hT hb7 (Or.inl rfl) (fun d _ _ h => absurd rfl h)
            have e : rollP kd bl (F + 1) c b w pw mv bo po hd hp = rollP kd bl F (upd c b (-1)) b w 0 (mv + 1) bo (po ||| (1 <<< (nI b &&& 31))) hd hp := by
              simp [rollP, hp0, hcb, hcl, hr, hc, hx, hpk]
            have hih := ih k (t + 1) b w 0 hp (upd c b (-1)) tk1 (mv + 1) bo (po ||| (1 <<< (nI b &&& 31))) hd hT1 (fun d h1 h2 => by rw [upd_n (by omega)]; exact hoff d h1 h2) hb hw (by omega) (fun hz => absurd rfl hz) (by omega) (by omega)
            rw [← e] at hih
            obtain ⟨tk', hi1, hi2⟩ := hih
            refine ⟨tk', ?_, hi2⟩
            rw [← hi1]
            simp only [hx, if_true, (t_pocket _ hx45).1, Option.bind_some, hpk, b2_t, one_ne, if_false, hl1, f_X9_notePotted]
            rfl
        · have hjl : ¬ whoF c (nI (nx q w)) (bl + 1) = -1 := by rw [hx]; exact nI_ne_m1 (by omega)
          have hj7 : j < 7 := by omega
          have hjc : (nI j).toNatClampNeg = j := nI_clamp (by omega)
          have hpj := t_pow (kd j) (hk j hj7).1 (pw - 1) (by omega)
          have e : rollP kd bl (F + 1) c b w pw mv bo po hd hp = rollP kd bl F c j w (pwN (kd j) (pw - 1)) mv bo po (if b = 0 ∧ hd = -1 then nI w else hd) (if b = 0 ∧ hd = -1 then pw - 1 else hp) := by
            have hj1 : ¬ nI j = -1 := nI_ne_m1 (by omega)
            simp [rollP, hp0, hcb, hcl, hr, hc, hx, hjc, hj1]
          have hpk : pkt (nx q w) = false := by
            rcases hT.1 j hj7 with h | ⟨q2, hq2, hpk2, h⟩
            · exact absurd (hcj.symm.trans h) (nI_ne_m1 hx45)
            · rw [nI_inj45 hx45 hq2 (hcj.symm.trans h)]; exact hpk2
          have hih := ih k (t + 1) j w (pwN (kd j) (pw - 1)) (if b = 0 ∧ hd = -1 then pw - 1 else hp) c tk mv bo po (if b = 0 ∧ hd = -1 then nI w else hd) hT hoff (by omega) hw (by omega) (fun hz => ⟨nx q w, hx45, hpk, hcj, by omega⟩) (by omega) (by omega)
          rw [← e] at hih
          obtain ⟨tk', hi1, hi2⟩ := hih
          refine ⟨tk', ?_, hi2⟩
          rw [← hi1]
          have hs3 := t_stop (kd j) (hk j hj7).1
          rw [if_neg hjl]
          simp only [hx, (t_cell kv hj7).2.1, (hk j hj7).2, Option.bind_some, hs3.2.1, gd, (hk j hj7).1, decide_true, if_true, (nI_m1 (show pw < 11 by omega) hp0).2, hpj.1]
          by_cases hb0 : b = 0
          · rw [if_pos ((nI_is0 hb7).mpr hb0)]
            unfold f_X9_noteWhiteHit
            by_cases hh : hd = -1
            · rw [if_pos hh, if_pos ⟨hb0, hh⟩, if_pos ⟨hb0, hh⟩]; rfl
            · rw [if_neg hh, if_neg (fun z => hh z.2), if_neg (fun z => hh z.2)]; rfl
          · rw [if_neg (fun z => hb0 ((nI_is0 hb7).mp z)), if_neg (fun z => hb0 z.1), if_neg (fun z => hb0 z.1)]
      · have ht9 := t_turn w hw false true
        have hs3 := t_stop (kd b) (hk b hb7).1
        have e0 : ∀ z : Nat, (if (b2 (kd b == 3)) = 0 then nI pw - 1 else 0) = nI (if kd b = 3 then 0 else pw - 1) := by
          intro _
          by_cases h3 : kd b = 3
          · simp [h3, b2]; rfl
          · simp [h3, b2]; exact (nI_m1 (by omega) hp0).1
        have e : rollP kd bl (F + 1) c b w pw mv bo po hd hp = rollP kd bl F c b (tw w false true) (if kd b = 3 then 0 else pw - 1) mv (if kd b = 3 then bo else bo + 1) po hd hp := by
          by_cases h3 : kd b = 3 <;> simp [rollP, hp0, hcb, hcl, hr, hc, h3]
        have hih := ih k (t + 1) b (tw w false true) (if kd b = 3 then 0 else pw - 1) hp c tk mv (if kd b = 3 then bo else bo + 1) po hd hT hoff hb ht9.2.1 (by split <;> omega) (fun hz => ⟨q, hq45, hqp, hcb, by
          have h8 := t_ah q hq45 _ ht9.2.1
          split at hz
          · exact absurd rfl hz
          · rename_i h3
            rw [if_neg h3]; omega⟩) (by omega) (by omega)
        rw [← e] at hih
        obtain ⟨tk', hi1, hi2⟩ := hih
        refine ⟨tk', ?_, hi2⟩
        rw [← hi1]
        have ht1 : f_X9_turned (nI w) 0 1 = some (nI (tw w false true)) := ht9.1
        simp only [b2_nt, b2_nf, one_ne, if_true, if_false, (t_cell kv hb7).2.1, (hk b hb7).2, Option.bind_some, hs3.2.1, hs3.1, gd, (hk b hb7).1, decide_true, ht1]
        by_cases h3 : kd b = 3
        · simp only [h3, if_true, beq_self_eq_true, b2_t, one_ne, if_false]; rfl
        · have h3' : (kd b == 3) = false := by simp [h3]
          simp only [h3, h3', b2_f, if_true, if_false, (nI_m1 (show pw < 11 by omega) hp0).1]
      · have ht9 := t_turn w hw true false
        have hs3 := t_stop (kd b) (hk b hb7).1
        have e0 : ∀ z : Nat, (if (b2 (kd b == 3)) = 0 then nI pw - 1 else 0) = nI (if kd b = 3 then 0 else pw - 1) := by
          intro _
          by_cases h3 : kd b = 3
          · simp [h3, b2]; rfl
          · simp [h3, b2]; exact (nI_m1 (by omega) hp0).1
        have e : rollP kd bl (F + 1) c b w pw mv bo po hd hp = rollP kd bl F c b (tw w true false) (if kd b = 3 then 0 else pw - 1) mv (if kd b = 3 then bo else bo + 1) po hd hp := by
          by_cases h3 : kd b = 3 <;> simp [rollP, hp0, hcb, hcl, hr, hc, h3]
        have hih := ih k (t + 1) b (tw w true false) (if kd b = 3 then 0 else pw - 1) hp c tk mv (if kd b = 3 then bo else bo + 1) po hd hT hoff hb ht9.2.1 (by split <;> omega) (fun hz => ⟨q, hq45, hqp, hcb, by
          have h8 := t_ah q hq45 _ ht9.2.1
          split at hz
          · exact absurd rfl hz
          · rename_i h3
            rw [if_neg h3]; omega⟩) (by omega) (by omega)
        rw [← e] at hih
        obtain ⟨tk', hi1, hi2⟩ := hih
        refine ⟨tk', ?_, hi2⟩
        rw [← hi1]
        have ht1 : f_X9_turned (nI w) 1 0 = some (nI (tw w true false)) := ht9.1
        simp only [b2_nt, b2_nf, one_ne, if_true, if_false, (t_cell kv hb7).2.1, (hk b hb7).2, Option.bind_some, hs3.2.1, hs3.1, gd, (hk b hb7).1, decide_true, ht1]
        by_cases h3 : kd b = 3
        · simp only [h3, if_true, beq_self_eq_true, b2_t, one_ne, if_false]; rfl
        · have h3' : (kd b == 3) = false := by simp [h3]
          simp only [h3, h3', b2_f, if_true, if_false, (nI_m1 (show pw < 11 by omega) hp0).1]
      · have ht9 := t_turn w hw true true
        have hs3 := t_stop (kd b) (hk b hb7).1
        have e0 : ∀ z : Nat, (if (b2 (kd b == 3)) = 0 then nI pw - 1 else 0) = nI (if kd b = 3 then 0 else pw - 1) := by
          intro _
          by_cases h3 : kd b = 3
          · simp [h3, b2]; rfl
          · simp [h3, b2]; exact (nI_m1 (by omega) hp0).1
        have e : rollP kd bl (F + 1) c b w pw mv bo po hd hp = rollP kd bl F c b (tw w true true) (if kd b = 3 then 0 else pw - 1) mv (if kd b = 3 then bo else bo + 1) po hd hp := by
          by_cases h3 : kd b = 3 <;> simp [rollP, hp0, hcb, hcl, hr, hc, h3]
        have hih := ih k (t + 1) b (tw w true true) (if kd b = 3 then 0 else pw - 1) hp c tk mv (if kd b = 3 then bo else bo + 1) po hd hT hoff hb ht9.2.1 (by split <;> omega) (fun hz => ⟨q, hq45, hqp, hcb, by
          have h8 := t_ah q hq45 _ ht9.2.1
          split at hz
          · exact absurd rfl hz
          · rename_i h3
            rw [if_neg h3]; omega⟩) (by omega) (by omega)
        rw [← e] at hih
        obtain ⟨tk', hi1, hi2⟩ := hih
        refine ⟨tk', ?_, hi2⟩
        rw [← hi1]
        have ht1 : f_X9_turned (nI w) 1 1 = some (nI (tw w true true)) := ht9.1
        simp only [b2_nt, b2_nf, one_ne, if_true, if_false, (t_cell kv hb7).2.1, (hk b hb7).2, Option.bind_some, hs3.2.1, hs3.1, gd, (hk b hb7).1, decide_true, ht1]
        by_cases h3 : kd b = 3
        · simp only [h3, if_true, beq_self_eq_true, b2_t, one_ne, if_false]; rfl
        · have h3' : (kd b == 3) = false := by simp [h3]
          simp only [h3, h3', b2_f, if_true, if_false, (nI_m1 (show pw < 11 by omega) hp0).1]
end
section
def HitR (hd : Int32) (hp : Nat) (hf hpm dn rt : Int32) : Prop := (hd = -1 ∧ hf = -1) ∨ (hf ≠ -1 ∧ ∃ w0, w0 < 8 ∧ hd = nI w0 ∧ dn = rowS w0 ∧ rt = colS w0 ∧ hpm = nI hp)
theorem upd_uu (f : Nat → Int32) (k : Nat) (x y : Int32) : upd (upd f k x) k y = upd f k y := by
  funext j
  by_cases h : j = k <;> simp [upd, h]
theorem rollM {mk : Nat → Int32} {kd : Nat → Nat} {bl n : Nat} (h1 : 1 ≤ bl) (h6 : bl ≤ 6) (hn : 9 ≤ n) (hk : ∀ d, d ≤ bl → kd d < 5 ∧ mk d = nI (kd d)) :
    ∀ (F k b w pw hp : Nat) (c v : Nat → Int32) (mv bo po hd hf hpm dn rt : Int32), (∀ d, d ≤ bl → okc (c d)) → (∀ d, d ≤ bl → v d = c d) → b ≤ bl → w < 8 → pw ≤ 9 → (pw ≠ 0 → ∃ q, q < 45 ∧ c b = nI q ∧ pw * 10 + ah q w < F) → F < k → HitR hd hp hf hpm dn rt →
    ∃ (v' : Nat → Int32) (hf' hpm' dn' rt' : Int32), f_X12_roll_L14 (nI bl) mk n k (nI b) (rowS w) (colS w) (nI pw) po mv bo hf hpm dn rt v = some ((rollP kd bl F c b w pw mv bo po hd hp).2.2.2.1, (rollP kd bl F c b w pw mv bo po hd hp).2.1, (rollP kd bl F c b w pw mv bo po hd hp).2.2.1, hf', hpm', dn', rt', v') ∧ (∀ d, d ≤ bl → v' d = (rollP kd bl F c b w pw mv bo po hd hp).1 d) ∧ HitR (rollP kd bl F c b w pw mv bo po hd hp).2.2.2.2.1 (rollP kd bl F c b w pw mv bo po hd hp).2.2.2.2.2 hf' hpm' dn' rt' := by
  intro F
  induction F with
  | zero =>
    intro k b w pw hp c v mv bo po hd hf hpm dn rt hT hv hb hw hpw hq hk1 hH
    have h0 : pw = 0 := by
      by_cases h : pw = 0
      · exact h
      · obtain ⟨q, -, -, h⟩ := hq h; omega
    subst h0
    obtain ⟨k, rfl⟩ : ∃ k', k = k' + 1 := ⟨k - 1, by omega⟩
    refine ⟨v, hf, hpm, dn, rt, ?_, hv, hH⟩
    show b_X12_roll_L14 (nI bl) mk n (fun a1 a2 a3 a4 a5 a6 a7 a8 a9 a10 a11 a12 => f_X12_roll_L14 (nI bl) mk n k a1 a2 a3 a4 a5 a6 a7 a8 a9 a10 a11 a12) (nI b) (rowS w) (colS w) (nI 0) po mv bo hf hpm dn rt v = _
    unfold b_X12_roll_L14
    rw [if_pos (show nI 0 ≤ 0 by decide)]
    rfl
  | succ F ih =>
    intro k b w pw hp c v mv bo po hd hf hpm dn rt hT hv hb hw hpw hq hk1 hH
    obtain ⟨k, rfl⟩ : ∃ k', k = k' + 1 := ⟨k - 1, by omega⟩
    by_cases hp0 : pw = 0
    · subst hp0
      refine ⟨v, hf, hpm, dn, rt, ?_, by rw [roll_0]; exact hv, by rw [roll_0]; exact hH⟩
      show b_X12_roll_L14 (nI bl) mk n (fun a1 a2 a3 a4 a5 a6 a7 a8 a9 a10 a11 a12 => f_X12_roll_L14 (nI bl) mk n k a1 a2 a3 a4 a5 a6 a7 a8 a9 a10 a11 a12) (nI b) (rowS w) (colS w) (nI 0) po mv bo hf hpm dn rt v = _
      unfold b_X12_roll_L14
      rw [if_pos (show nI 0 ≤ 0 by decide), roll_0]
    · obtain ⟨q, hq45, hcb, hmu⟩ := hq hp0
      have hb7 : b < 7 := by omega
      have hcl : (nI q).toNatClampNeg = q := nI_clamp (by omega)
      have hbc : (nI b).toNatClampNeg = b := nI_clamp (by omega)
      have hvb : v b = nI q := (hv b hb).trans hcb
      have hle : ¬ nI pw ≤ 0 := fun z => hp0 ((nI_le0 (by omega)).mp z)
      have hib : inb (nI b) 7 = true := inb_nI hb7 (by decide)
      show ∃ (v' : Nat → Int32) (hf' hpm' dn' rt' : Int32), b_X12_roll_L14 (nI bl) mk n (fun a1 a2 a3 a4 a5 a6 a7 a8 a9 a10 a11 a12 => f_X12_roll_L14 (nI bl) mk n k a1 a2 a3 a4 a5 a6 a7 a8 a9 a10 a11 a12) (nI b) (rowS w) (colS w) (nI pw) po mv bo hf hpm dn rt v = _ ∧ _
      unfold b_X12_roll_L14
      simp only [if_neg hle, gd, hib, if_true, hbc, hvb, bnd, jn, t_rowM q hq45 w hw, t_colM q hq45 w hw, Option.bind_some, (nI_m1 (show pw < 11 by omega) hp0).2, (nI_m1 (show pw < 11 by omega) hp0).1]
      cases hr : oR q w <;> cases hc : oC q w
      · obtain ⟨e1, hx45, hah, hne⟩ := t_next hq45 hw hr hc
        have hn1 : ¬ nI (nx q w) = -1 := nI_ne_m1 hx45
        simp only [e1, b2_nf, one_ne, if_false, if_true, lies_ok h1 h6 hn, Option.bind_some, hn1, who_congr (fun d hd => hv d (by omega) : ∀ d, d < bl + 1 → v d = c d)]
        rcases who_cases c (nI (nx q w)) (bl + 1) with ⟨hx, hno⟩ | ⟨j, hj, hx, hcj⟩
        · rw [if_pos hx, (t_pocket _ hx45).2]
          simp only [Option.bind_some]
          cases hpk : pkt (nx q w)
          · rw [if_pos b2_f]
            have e : rollP kd bl (F + 1) c b w pw mv bo po hd hp = rollP kd bl F (upd c b (nI (nx q w))) b w (pw - 1) (mv + 1) bo po hd hp := by
              simp [rollP, hp0, hcb, hcl, hr, hc, hx, hpk]
            rw [e]
            refine ih k b w (pw - 1) hp (upd c b (nI (nx q w))) (upd v b (nI (nx q w))) (mv + 1) bo po hd hf hpm dn rt (fun d hd => ?_) (fun d hd => ?_) hb hw (by omega) (fun hz => ⟨nx q w, hx45, upd_s _ _ _, ?_⟩) (by omega) hH
            · by_cases hdb : d = b
              · rw [hdb, upd_s]; exact Or.inr ⟨nx q w, hx45, hpk, rfl⟩
              · rw [upd_n hdb]; exact hT d hd
            · by_cases hdb : d = b
              · rw [hdb, upd_s, upd_s]
              · rw [upd_n hdb, upd_n hdb]; exact hv d hd
            · have h8 := t_ah (nx q w) hx45 w hw
              omega
          · rw [if_neg (fun z => by simp [b2] at z), upd_uu]
            have e : rollP kd bl (F + 1) c b w pw mv bo po hd hp = rollP kd bl F (upd c b (-1)) b w 0 (mv + 1) bo (po ||| (1 <<< (nI b &&& 31))) hd hp := by
              simp [rollP, hp0, hcb, hcl, hr, hc, hx, hpk]
            rw [e]
            refine ih k b w 0 hp (upd c b (-1)) (upd v b (-1)) (mv + 1) bo (po ||| (1 <<< (nI b &&& 31))) hd hf hpm dn rt (fun d hd => ?_) (fun d hd => ?_) hb hw (by omega) (fun hz => absurd rfl hz) (by omega) hH
            · by_cases hdb : d = b
              · rw [hdb, upd_s]; exact Or.inl rfl
              · rw [upd_n hdb]; exact hT d hd
            · by_cases hdb : d = b
              · rw [hdb, upd_s, upd_s]
              · rw [upd_n hdb, upd_n hdb]; exact hv d hd
        · have hj1 : ¬ nI j = -1 := nI_ne_m1 (by omega)
          have hjc : (nI j).toNatClampNeg = j := nI_clamp (by omega)
          have hpj := t_pow (kd j) (hk j (by omega)).1 (pw - 1) (by omega)
          have e : rollP kd bl (F + 1) c b w pw mv bo po hd hp = rollP kd bl F c j w (pwN (kd j) (pw - 1)) mv bo po (if b = 0 ∧ hd = -1 then nI w else hd) (if b = 0 ∧ hd = -1 then pw - 1 else hp) := by
            simp [rollP, hp0, hcb, hcl, hr, hc, hx, hjc, hj1]
          rw [e]
          have hij : inb (nI j) 7 = true := inb_nI (by omega) (by decide)
          simp only [hx, hj1, if_false, hij, if_true, hjc, (hk j (by omega)).2, hpj.2.1, Option.bind_some]
          by_cases hb0 : b = 0
          · rw [if_pos ((nI_is0 hb7).mpr hb0)]
            rcases hH with ⟨g1, g2⟩ | ⟨g1, w0, g2, g3, g4, g5, g6⟩
            · rw [if_pos g2, if_pos ⟨hb0, g1⟩, if_pos ⟨hb0, g1⟩]
              exact ih k j w (pwN (kd j) (pw - 1)) (pw - 1) c v mv bo po (nI w) (nI j) (nI (pw - 1)) (rowS w) (colS w) hT hv (by omega) hw (by omega) (fun hz => ⟨nx q w, hx45, hcj, by omega⟩) (by omega) (Or.inr ⟨hj1, w, hw, rfl, rfl, rfl, rfl⟩)
            · have hne1 : ¬ hd = -1 := by rw [g3]; exact nI_ne_m1 (by omega)
              rw [if_neg g1, if_neg (fun z => hne1 z.2), if_neg (fun z => hne1 z.2)]
              exact ih k j w (pwN (kd j) (pw - 1)) hp c v mv bo po hd hf hpm dn rt hT hv (by omega) hw (by omega) (fun hz => ⟨nx q w, hx45, hcj, by omega⟩) (by omega) (Or.inr ⟨g1, w0, g2, g3, g4, g5, g6⟩)
          · rw [if_neg (fun z => hb0 ((nI_is0 hb7).mp z)), if_neg (fun z => hb0 z.1), if_neg (fun z => hb0 z.1)]
            exact ih k j w (pwN (kd j) (pw - 1)) hp c v mv bo po hd hf hpm dn rt hT hv (by omega) hw (by omega) (fun hz => ⟨nx q w, hx45, hcj, by omega⟩) (by omega) hH
      · simp only [b2_nf, b2_nt, one_ne, if_false, if_true]
        have ht9 := t_turn w hw false true
        have hs3 := t_stop (kd b) (hk b hb).1
        have er : rowS (tw w false true) = rowS w := ht9.2.2.1
        have ec : colS (tw w false true) = -colS w := ht9.2.2.2
        rw [(hk b hb).2]
        by_cases h3 : kd b = 3
        · rw [if_pos (hs3.2.2.mpr h3)]
          have e : rollP kd bl (F + 1) c b w pw mv bo po hd hp = rollP kd bl F c b w 0 mv bo po hd hp := by
            simp [rollP, hp0, hcb, hcl, hr, hc, h3, roll_0]
          rw [e]
          exact ih k b w 0 hp c v mv bo po hd hf hpm dn rt hT hv hb hw (by omega) (fun hz => absurd rfl hz) (by omega) hH
        · rw [if_neg (fun z => h3 (hs3.2.2.mp z))]
          have e : rollP kd bl (F + 1) c b w pw mv bo po hd hp = rollP kd bl F c b (tw w false true) (pw - 1) mv (bo + 1) po hd hp := by
            simp [rollP, hp0, hcb, hcl, hr, hc, h3]
          rw [e, ← er, ← ec]
          exact ih k b (tw w false true) (pw - 1) hp c v mv (bo + 1) po hd hf hpm dn rt hT hv hb ht9.2.1 (by omega) (fun hz => ⟨q, hq45, hcb, by
            have h8 := t_ah q hq45 _ ht9.2.1
            omega⟩) (by omega) hH
      · simp only [b2_nf, b2_nt, one_ne, if_false, if_true]
        have ht9 := t_turn w hw true false
        have hs3 := t_stop (kd b) (hk b hb).1
        have er : rowS (tw w true false) = -rowS w := ht9.2.2.1
        have ec : colS (tw w true false) = colS w := ht9.2.2.2
        rw [(hk b hb).2]
        by_cases h3 : kd b = 3
        · rw [if_pos (hs3.2.2.mpr h3)]
          have e : rollP kd bl (F + 1) c b w pw mv bo po hd hp = rollP kd bl F c b w 0 mv bo po hd hp := by
            simp [rollP, hp0, hcb, hcl, hr, hc, h3, roll_0]
          rw [e]
          exact ih k b w 0 hp c v mv bo po hd hf hpm dn rt hT hv hb hw (by omega) (fun hz => absurd rfl hz) (by omega) hH
        · rw [if_neg (fun z => h3 (hs3.2.2.mp z))]
          have e : rollP kd bl (F + 1) c b w pw mv bo po hd hp = rollP kd bl F c b (tw w true false) (pw - 1) mv (bo + 1) po hd hp := by
            simp [rollP, hp0, hcb, hcl, hr, hc, h3]
          rw [e, ← er, ← ec]
          exact ih k b (tw w true false) (pw - 1) hp c v mv (bo + 1) po hd hf hpm dn rt hT hv hb ht9.2.1 (by omega) (fun hz => ⟨q, hq45, hcb, by
            have h8 := t_ah q hq45 _ ht9.2.1
            omega⟩) (by omega) hH
      · simp only [b2_nf, b2_nt, one_ne, if_false, if_true]
        have ht9 := t_turn w hw true true
        have hs3 := t_stop (kd b) (hk b hb).1
        have er : rowS (tw w true true) = -rowS w := ht9.2.2.1
        have ec : colS (tw w true true) = -colS w := ht9.2.2.2
        rw [(hk b hb).2]
        by_cases h3 : kd b = 3
        · rw [if_pos (hs3.2.2.mpr h3)]
          have e : rollP kd bl (F + 1) c b w pw mv bo po hd hp = rollP kd bl F c b w 0 mv bo po hd hp := by
            simp [rollP, hp0, hcb, hcl, hr, hc, h3, roll_0]
          rw [e]
          exact ih k b w 0 hp c v mv bo po hd hf hpm dn rt hT hv hb hw (by omega) (fun hz => absurd rfl hz) (by omega) hH
        · rw [if_neg (fun z => h3 (hs3.2.2.mp z))]
          have e : rollP kd bl (F + 1) c b w pw mv bo po hd hp = rollP kd bl F c b (tw w true true) (pw - 1) mv (bo + 1) po hd hp := by
            simp [rollP, hp0, hcb, hcl, hr, hc, h3]
          rw [e, ← er, ← ec]
          exact ih k b (tw w true true) (pw - 1) hp c v mv (bo + 1) po hd hf hpm dn rt hT hv hb ht9.2.1 (by omega) (fun hz => ⟨q, hq45, hcb, by
            have h8 := t_ah q hq45 _ ht9.2.1
            omega⟩) (by omega) hH
end
section
/-- the potted bits tell of the white, and of no ball beyond the last -/
def PotI (bl : Nat) (c : Nat → Int32) (po : Int32) : Prop := (bt po 0 = true ↔ c 0 = -1) ∧ ∀ d, bl < d → d < 32 → bt po d = false
theorem bt_pot (po : Int32) {b d : Nat} (hb : b < 7) (hd : d < 32) : bt (po ||| (1 <<< (nI b &&& 31))) d = (bt po d || decide (d = b)) := by
  rw [b_or, b_shl b (by omega) 1 hd]
  have h1 : ∀ i, i < 32 → bt 1 i = decide (i = 0) := by decide +kernel
  by_cases h : b ≤ d
  · rw [h1 (d - b) (by omega)]
    by_cases e : d = b
    · subst e; simp
    · have : ¬ d - b = 0 := by omega
      simp [h, e, this]
  · have e : ¬ d = b := by omega
    simp [h, e]
theorem roll_inv {kd : Nat → Nat} {bl : Nat} (h6 : bl ≤ 6) : ∀ (F b w pw hp : Nat) (c : Nat → Int32) (mv bo po hd : Int32), (∀ d, d ≤ bl → okc (c d)) → b ≤ bl → w < 8 → (pw ≠ 0 → c b ≠ -1) → PotI bl c po →
    PotI bl (rollP kd bl F c b w pw mv bo po hd hp).1 (rollP kd bl F c b w pw mv bo po hd hp).2.2.2.1 := by
  intro F
  induction F with
  | zero => intro b w pw hp c mv bo po hd _ _ _ _ hI; exact hI
  | succ F ih =>
    intro b w pw hp c mv bo po hd hT hb hw hon hI
    by_cases hp0 : pw = 0
    · rw [hp0, roll_0]; exact hI
    · rcases hT b hb with hm | ⟨q, hq45, hqp, hcb⟩
      · exact absurd hm (hon hp0)
      · have hcl : (nI q).toNatClampNeg = q := nI_clamp (by omega)
        by_cases hoff : (oR q w || oC q w) = true
        · have ht8 : tw w (oR q w) (oC q w) < 8 := (t_turn w hw _ _).2.1
          by_cases h3 : kd b = 3
          · have e : rollP kd bl (F + 1) c b w pw mv bo po hd hp = rollP kd bl F c b (tw w (oR q w) (oC q w)) 0 mv bo po hd hp := by
              rw [rollP, if_neg hp0, hcb, hcl, if_pos hoff, if_pos h3]
            rw [e]; exact ih _ _ _ _ _ _ _ _ _ hT hb ht8 (fun z => absurd rfl z) hI
          · have e : rollP kd bl (F + 1) c b w pw mv bo po hd hp = rollP kd bl F c b (tw w (oR q w) (oC q w)) (pw - 1) mv (bo + 1) po hd hp := by
              rw [rollP, if_neg hp0, hcb, hcl, if_pos hoff, if_neg h3]
            rw [e]; exact ih _ _ _ _ _ _ _ _ _ hT hb ht8 (fun _ => hon hp0) hI
        · have h1 : oR q w = false := by cases h : oR q w <;> simp_all
          have h2 : oC q w = false := by cases h : oC q w <;> simp_all
          obtain ⟨-, hx45, -, -⟩ := t_next hq45 hw h1 h2
          rcases who_cases c (nI (nx q w)) (bl + 1) with ⟨hx, hno⟩ | ⟨j, hj, hx, hcj⟩
          · have hT' : ∀ y, okc y → ∀ d, d ≤ bl → okc (upd c b y d) := fun y hy d hd => by
              by_cases hdb : d = b
              · rw [hdb, upd_s]; exact hy
              · rw [upd_n hdb]; exact hT d hd
            cases hpk : pkt (nx q w)
            · have e : rollP kd bl (F + 1) c b w pw mv bo po hd hp = rollP kd bl F (upd c b (nI (nx q w))) b w (pw - 1) (mv + 1) bo po hd hp := by
                rw [rollP, if_neg hp0, hcb, hcl, if_neg hoff, if_pos hx, if_neg (by rw [hpk]; decide)]
              rw [e]
              refine ih _ _ _ _ _ _ _ _ _ (hT' _ (Or.inr ⟨nx q w, hx45, hpk, rfl⟩)) hb hw (fun _ => by rw [upd_s]; exact nI_ne_m1 hx45) ⟨?_, hI.2⟩
              by_cases hb0 : b = 0
              · subst hb0
                rw [upd_s]
                constructor
                · intro z; rw [hI.1, hcb] at z; exact absurd z (nI_ne_m1 hq45)
                · intro z; exact absurd z (nI_ne_m1 hx45)
              · rw [upd_n (fun z => hb0 z.symm)]; exact hI.1
            · have e : rollP kd bl (F + 1) c b w pw mv bo po hd hp = rollP kd bl F (upd c b (-1)) b w 0 (mv + 1) bo (po ||| (1 <<< (nI b &&& 31))) hd hp := by
                rw [rollP, if_neg hp0, hcb, hcl, if_neg hoff, if_pos hx, if_pos hpk]
              rw [e]
              refine ih _ _ _ _ _ _ _ _ _ (hT' _ (Or.inl rfl)) hb hw (fun z => absurd rfl z) ⟨?_, fun d h1 h2 => ?_⟩
              · rw [bt_pot po (by omega) (by decide)]
                by_cases hb0 : b = 0
                · subst hb0; rw [upd_s]; simp
                · rw [upd_n (fun z => hb0 z.symm)]
                  have : ¬ 0 = b := fun z => hb0 z.symm
                  simp [this, hI.1]
              · rw [bt_pot po (by omega) h2, hI.2 d h1 h2]
                have : ¬ d = b := by omega
                simp [this]
          · have hj1 : ¬ nI j = -1 := nI_ne_m1 (by omega)
            have hjc : (nI j).toNatClampNeg = j := nI_clamp (by omega)
            have e : rollP kd bl (F + 1) c b w pw mv bo po hd hp = rollP kd bl F c j w (pwN (kd j) (pw - 1)) mv bo po (if b = 0 ∧ hd = -1 then nI w else hd) (if b = 0 ∧ hd = -1 then pw - 1 else hp) := by
              rw [rollP, if_neg hp0, hcb, hcl, if_neg hoff, hx, if_neg hj1, hjc]
            rw [e]; exact ih _ _ _ _ _ _ _ _ _ hT (by omega) hw (fun _ => by rw [hcj]; exact nI_ne_m1 hx45) hI
end
section
/-! the white's new cell -/
def gdc (bl : Nat) (c : Nat → Int32) (q : Nat) : Bool := !pkt q && decide (whoF c (nI q) (bl + 1) = -1)
def lgF (bl : Nat) (c : Nat → Int32) : Nat → Nat → Nat
  | 0, i => i
  | m + 1, i => if gdc bl c i = true then i else lgF bl c m (i + 1)
def spotP (bl : Nat) (c : Nat → Int32) (sp : Nat) : Nat := if whoF c (nI sp) (bl + 1) = -1 then sp else lgF bl c 45 0
def sevC (i : Nat) : Nat := [1, 2, 3, 5, 6, 7, 10].getD i 0
theorem sev_ok : ∀ i, i < 7 → sevC i < 45 ∧ pkt (sevC i) = false := by decide +kernel
theorem sev_ne : ∀ i, i < 7 → ∀ j, j < 7 → (sevC i = sevC j → i = j) := by decide +kernel
theorem good_ex {bl : Nat} {c : Nat → Int32} (h6 : bl ≤ 6) (h0 : c 0 = -1) : ∃ q, q < 45 ∧ gdc bl c q = true := by
  by_cases h : ∃ i, i < 7 ∧ gdc bl c (sevC i) = true
  · obtain ⟨i, hi, hg⟩ := h
    exact ⟨sevC i, (sev_ok i hi).1, hg⟩
  · exfalso
    have key : ∀ i, i < 7 → ∃ b, b < 6 ∧ c (b + 1) = nI (sevC i) := by
      intro i hi
      have hng : ¬ gdc bl c (sevC i) = true := fun z => h ⟨i, hi, z⟩
      unfold gdc at hng
      rw [(sev_ok i hi).2] at hng
      rcases who_cases c (nI (sevC i)) (bl + 1) with ⟨hx, -⟩ | ⟨b, hb, hx, hc⟩
      · exact absurd (by simp [hx]) hng
      · have hb0 : b ≠ 0 := fun e => nI_ne_m1 (sev_ok i hi).1 (by rw [← hc, e, h0])
        exact ⟨b - 1, by omega, by rw [show b - 1 + 1 = b by omega]; exact hc⟩
    obtain ⟨f, hf⟩ : ∃ f : Nat → Nat, ∀ i, i < 7 → f i < 6 ∧ c (f i + 1) = nI (sevC i) :=
      ⟨fun i => if hi : i < 7 then (key i hi).choose else 0, fun i hi => by
        simp only [dif_pos hi]
        exact (key i hi).choose_spec⟩
    obtain ⟨i, j, hij, hj, he⟩ := fb_twice (m := 6) (n := 7) (f := f) (fun i hi => (hf i hi).1) (by decide)
    have h1 := (hf i (by omega)).2
    have h2 := (hf j hj).2
    rw [he, h2] at h1
    have := sev_ne j hj i (by omega) (nI_inj45 (sev_ok j hj).1 (sev_ok i (by omega)).1 h1)
    omega
theorem lg_good {bl : Nat} {c : Nat → Int32} : ∀ (m i q0 : Nat), i ≤ q0 → q0 < i + m → gdc bl c q0 = true → gdc bl c (lgF bl c m i) = true ∧ lgF bl c m i ≤ q0 := by
  intro m
  induction m with
  | zero => intro i q0 h1 h2 _; omega
  | succ m ih =>
    intro i q0 h1 h2 hg
    unfold lgF
    by_cases h : gdc bl c i = true
    · rw [if_pos h]; exact ⟨h, h1⟩
    · rw [if_neg h]
      refine ih (i + 1) q0 ?_ (by omega) hg
      rcases Nat.lt_or_ge i q0 with h3 | h3
      · exact h3
      · have : i = q0 := by omega
        exact absurd (this ▸ hg) h
end
section
theorem ret_loop {tk : Int64} {c : Nat → Int32} {bl n : Nat} (hT : TabC tk c) (h6 : bl ≤ 6) (hn : 8 ≤ n) (hoff : ∀ d, bl < d → d < 7 → c d = -1) (J : Int32 → Option (Int64 × (Nat → Int32))) :
    ∀ (m k i home : Nat), m + i = 45 → m < k → home < 45 →
    (whoF c (nI home) (bl + 1) = -1 → f_X10_returnWhite_L7 tk c n J k (nI home) (nI i) = J (nI home)) ∧
    (¬ whoF c (nI home) (bl + 1) = -1 → (∃ q0, i ≤ q0 ∧ q0 < 45 ∧ gdc bl c q0 = true) → f_X10_returnWhite_L7 tk c n J k (nI home) (nI i) = J (nI (lgF bl c m i))) := by
  intro m
  induction m with
  | zero =>
    intro k i home hi hk hh
    obtain ⟨k, rfl⟩ : ∃ k', k = k' + 1 := ⟨k - 1, by omega⟩
    have hi : i = 45 := by omega
    subst hi
    refine ⟨fun _ => ?_, fun _ ⟨q0, a, b, _⟩ => by omega⟩
    show b_X10_returnWhite_L7 tk c n J (fun y z => f_X10_returnWhite_L7 tk c n J k y z) (nI home) (nI 45) = _
    unfold b_X10_returnWhite_L7
    rw [if_pos (show (45 : Int32) ≤ nI 45 by decide)]
  | succ m ih =>
    intro k i home hi hk hh
    obtain ⟨k, rfl⟩ : ∃ k', k = k' + 1 := ⟨k - 1, by omega⟩
    have hi45 : i < 45 := by omega
    have hge : ¬ (45 : Int32) ≤ nI i := nI_ge (a := i) (b := 45) hi45 (by decide)
    have hbi := ballIn_ok hT hh hn
    rw [who_short h6 (nI_ne_m1 hh) hoff] at hbi
    refine ⟨fun hf => ?_, fun hf ⟨q0, hq1, hq2, hq3⟩ => ?_⟩
    · show b_X10_returnWhite_L7 tk c n J (fun y z => f_X10_returnWhite_L7 tk c n J k y z) (nI home) (nI i) = _
      unfold b_X10_returnWhite_L7
      rw [if_neg hge, hbi]
      simp only [Option.bind_some, hf, if_true]
    · show b_X10_returnWhite_L7 tk c n J (fun y z => f_X10_returnWhite_L7 tk c n J k y z) (nI home) (nI i) = _
      unfold b_X10_returnWhite_L7
      rw [if_neg hge, hbi]
      simp only [Option.bind_some, hf, if_false, (t_pocket i hi45).1, jn, bnd, nI_1]
      cases hpk : pkt i
      · rw [if_pos b2_f]
        by_cases hfi : whoF c (nI i) (bl + 1) = -1
        · have hg : gdc bl c i = true := by simp [gdc, hpk, hfi]
          rw [(ih k (i + 1) i (by omega) (by omega) hi45).1 hfi, lgF, if_pos hg]
        · have hg : ¬ gdc bl c i = true := by simp [gdc, hpk, hfi]
          have hq : i + 1 ≤ q0 := by
            rcases Nat.lt_or_ge i q0 with h | h
            · exact h
            · exact absurd ((show i = q0 by omega) ▸ hq3) hg
          rw [(ih k (i + 1) i (by omega) (by omega) hi45).2 hfi ⟨q0, hq, hq2, hq3⟩, lgF, if_neg hg]
      · rw [if_neg (fun z => by simp [b2] at z)]
        have hg : ¬ gdc bl c i = true := by simp [gdc, hpk]
        have hq : i + 1 ≤ q0 := by
          rcases Nat.lt_or_ge i q0 with h | h
          · exact h
          · exact absurd ((show i = q0 by omega) ▸ hq3) hg
        rw [(ih k (i + 1) home (by omega) (by omega) hh).2 hf ⟨q0, hq, hq2, hq3⟩, lgF, if_neg hg]
theorem ret_ok {tk : Int64} {c : Nat → Int32} {bl n sp : Nat} (hT : TabC tk c) (h6 : bl ≤ 6) (hn : 46 ≤ n) (hoff : ∀ d, bl < d → d < 7 → c d = -1) (h0 : c 0 = -1) (hsp : sp < 45) (hspk : pkt sp = false) :
    ∃ tk', f_X10_returnWhite n tk (nI sp) c = some (tk', upd c 0 (nI (spotP bl c sp))) ∧ TabC tk' (upd c 0 (nI (spotP bl c sp))) ∧ spotP bl c sp < 45 ∧ pkt (spotP bl c sp) = false := by
  have key : f_X10_returnWhite n tk (nI sp) c = ((f_X10_lay tk c 0 (nI (spotP bl c sp))).bind (fun u => some (u.1, u.2))) ∧ spotP bl c sp < 45 ∧ pkt (spotP bl c sp) = false ∧ whoF c (nI (spotP bl c sp)) (bl + 1) = -1 := by
    unfold f_X10_returnWhite spotP
    simp only [jn]
    by_cases hf : whoF c (nI sp) (bl + 1) = -1
    · rw [if_pos hf]
      refine ⟨?_, hsp, hspk, hf⟩
      have h := (ret_loop (n := n) hT h6 (by omega) hoff (fun x1 => (f_X10_lay tk c 0 x1).bind (fun u => some (u.1, u.2))) 45 n 0 sp rfl (by omega) hsp).1 hf
      exact h
    · rw [if_neg hf]
      obtain ⟨q0, hq0, hg0⟩ := good_ex h6 h0
      have hlg := lg_good (bl := bl) (c := c) 45 0 q0 (Nat.zero_le _) (by omega) hg0
      have hg := hlg.1
      unfold gdc at hg
      rw [Bool.and_eq_true, decide_eq_true_eq] at hg
      refine ⟨?_, by omega, by simpa using hg.1, hg.2⟩
      exact (ret_loop (n := n) hT h6 (by omega) hoff (fun x1 => (f_X10_lay tk c 0 x1).bind (fun u => some (u.1, u.2))) 45 n 0 sp rfl (by omega) hsp).2 hf ⟨q0, Nat.zero_le _, hq0, hg0⟩
  obtain ⟨e, hs45, hspk2, hfree⟩ := key
  obtain ⟨tk', hl, hT'⟩ := lay_ok hT (b := 0) (by decide) (Or.inr ⟨_, hs45, hspk2, rfl⟩) (fun d hd _ _ hc => by
    rcases who_cases c (nI (spotP bl c sp)) (bl + 1) with ⟨-, hno⟩ | ⟨j, hj, hx, -⟩
    · by_cases hdb : d < bl + 1
      · exact hno d hdb hc
      · rw [hoff d (by omega) hd] at hc; exact nI_ne_m1 hs45 hc.symm
    · rw [hx] at hfree; exact nI_ne_m1 (by omega) hfree)
  refine ⟨tk', ?_, hT', hs45, hspk2⟩
  rw [e, show (0 : Int32) = nI 0 from rfl, hl]
  rfl
end
section
theorem upd_same {v : Nat → Int32} {k : Nat} {x : Int32} (h : v k = x) : upd v k x = v := by
  funext j
  by_cases e : j = k
  · rw [e, upd_s, h]
  · rw [upd_n e]
theorem gdc_congr {bl : Nat} {c v : Nat → Int32} (hv : ∀ d, d ≤ bl → v d = c d) (q : Nat) : gdc bl v q = gdc bl c q := by
  unfold gdc
  rw [who_congr (fun d hd => hv d (by omega) : ∀ d, d < bl + 1 → v d = c d)]
theorem spot_done {v : Nat → Int32} {bl n k i : Nat} {y : Int32} (hi : i ≤ 45) (hy : ¬ y = -1) (hv : v 0 = y) : f_X12_spotWhite_L22 (nI bl) n (k + 1) (nI i) v = some v := by
  show b_X12_spotWhite_L22 (nI bl) n (fun a b => f_X12_spotWhite_L22 (nI bl) n k a b) (nI i) v = _
  unfold b_X12_spotWhite_L22
  have h0 : (0 : Int32).toNatClampNeg = 0 := rfl
  have hi0 : inb 0 7 = true := by decide
  simp only [gd, hi0, if_true, h0, hv, hy, if_false]
  split <;> rfl
theorem spot_loop {v : Nat → Int32} {bl n : Nat} (h1 : 1 ≤ bl) (h6 : bl ≤ 6) (hn : 9 ≤ n) (hv0 : v 0 = -1) : ∀ (m k i : Nat), m + i = 45 → m + 1 < k → (∃ q0, i ≤ q0 ∧ q0 < 45 ∧ gdc bl v q0 = true) → f_X12_spotWhite_L22 (nI bl) n k (nI i) v = some (upd v 0 (nI (lgF bl v m i))) := by
  intro m
  induction m with
  | zero => intro k i hi hk ⟨q0, a, b, _⟩; omega
  | succ m ih =>
    intro k i hi hk ⟨q0, hq1, hq2, hq3⟩
    obtain ⟨k, rfl⟩ : ∃ k', k = k' + 1 := ⟨k - 1, by omega⟩
    have hi45 : i < 45 := by omega
    have hge : ¬ (45 : Int32) ≤ nI i := nI_ge (a := i) (b := 45) hi45 (by decide)
    have h0 : (0 : Int32).toNatClampNeg = 0 := rfl
    have hi0 : inb 0 7 = true := by decide
    show b_X12_spotWhite_L22 (nI bl) n (fun a b => f_X12_spotWhite_L22 (nI bl) n k a b) (nI i) v = _
    unfold b_X12_spotWhite_L22
    simp only [if_neg hge, gd, hi0, if_true, h0, hv0, (t_pocket i hi45).2, Option.bind_some, jn, bnd, nI_1, lies_ok h1 h6 hn, upd_same hv0]
    have hih : ¬ gdc bl v i = true → f_X12_spotWhite_L22 (nI bl) n k (nI (i + 1)) v = some (upd v 0 (nI (lgF bl v (m + 1) i))) := fun hg => by
      have hq : i + 1 ≤ q0 := by
        rcases Nat.lt_or_ge i q0 with h | h
        · exact h
        · exact absurd ((show i = q0 by omega) ▸ hq3) hg
      rw [lgF, if_neg hg]
      exact ih k (i + 1) (by omega) (by omega) ⟨q0, hq, hq2, hq3⟩
    cases hpk : pkt i
    · simp only [b2_f, if_true]
      by_cases hfi : whoF v (nI i) (bl + 1) = -1
      · have hg : gdc bl v i = true := by simp [gdc, hpk, hfi]
        simp only [hfi, if_true]
        obtain ⟨k, rfl⟩ : ∃ k', k = k' + 1 := ⟨k - 1, by omega⟩
        rw [spot_done (y := nI i) (by omega) (nI_ne_m1 hi45) (upd_s _ _ _), lgF, if_pos hg]
      · simp only [hfi, if_false]
        exact hih (by simp [gdc, hpk, hfi])
    · simp only [b2_t, one_ne, if_false]
      exact hih (by simp [gdc, hpk])
theorem lg_congr {bl : Nat} {c v : Nat → Int32} (hv : ∀ d, d ≤ bl → v d = c d) : ∀ m i, lgF bl v m i = lgF bl c m i := by
  intro m
  induction m with
  | zero => intro i; rfl
  | succ m ih => intro i; rw [lgF, lgF, gdc_congr hv, ih]
theorem spot_ok {c v : Nat → Int32} {bl n sp : Nat} (h1 : 1 ≤ bl) (h6 : bl ≤ 6) (hn : 48 ≤ n) (hv : ∀ d, d ≤ bl → v d = c d) (h0 : c 0 = -1) (hsp : sp < 45) : f_X12_spotWhite n (nI bl) (nI sp) v = some (upd v 0 (nI (spotP bl c sp))) := by
  have hv0 : v 0 = -1 := (hv 0 (by omega)).trans h0
  have hw : whoF v (nI sp) (bl + 1) = whoF c (nI sp) (bl + 1) := who_congr (fun d hd => hv d (by omega))
  have hz : (0 : Int32).toNatClampNeg = 0 := rfl
  have hi0 : inb 0 7 = true := by decide
  unfold f_X12_spotWhite spotP
  rw [lies_ok h1 h6 (by omega), hw]
  simp only [Option.bind_some, jn, gd, hi0, if_true, hz]
  obtain ⟨n, rfl⟩ : ∃ n', n = n' + 1 := ⟨n - 1, by omega⟩
  by_cases hf : whoF c (nI sp) (bl + 1) = -1
  · rw [if_pos hf, if_pos hf]
    exact spot_done (i := 0) (y := nI sp) (by omega) (nI_ne_m1 hsp) (upd_s _ _ _)
  · rw [if_neg hf, if_neg hf]
    obtain ⟨q0, hq0, hg0⟩ := good_ex h6 h0
    rw [← lg_congr hv]
    exact spot_loop h1 h6 (by omega) hv0 45 (n + 1) 0 rfl (by omega) ⟨q0, Nat.zero_le _, hq0, by rw [gdc_congr hv]; exact hg0⟩
end
section
/-! a whole stroke: one description for both -/
theorem jn_of {α β : Type} {b : α} {f : α → β} {r : β} (h : ∀ b', b' = b → f b' = r) : jn b f = r := h b rfl
theorem bt_one : ∀ i, i < 32 → bt 1 i = decide (i = 0) := by decide +kernel
theorem bt_b2 (x : Bool) {i : Nat} (hi : i < 32) : bt (b2 x) i = (x && decide (i = 0)) := by
  cases x
  · rw [b2_f, b_0]; rfl
  · rw [b2_t, bt_one i hi]; rfl
theorem bit_at (po : Int32) {b : Nat} (hb : b < 31) : ((po >>> (nI b &&& 31)) &&& 1) = b2 (bt po b) := by
  apply b_ext
  intro i hi
  rw [b_and, b_sshr b (by omega) po hi, bt_one i hi, bt_b2 _ hi]
  by_cases h : i = 0
  · subst h; rw [if_pos (by omega)]; rfl
  · simp [h]
theorem bit_0 (po : Int32) : (po &&& 1) = b2 (bt po 0) := by
  apply b_ext
  intro i hi
  rw [b_and, bt_one i hi, bt_b2 _ hi]
  by_cases h : i = 0
  · subst h; rfl
  · simp [h]
theorem shr_0 {po : Int32} {b : Nat} (hb : b < 31) (h : (po >>> (nI b &&& 31)) = 0) : ∀ i, b ≤ i → i < 32 → bt po i = false := by
  intro i h1 h2
  have h3 := b_sshr b (by omega) po (i := i - b) (by omega)
  rw [h, b_0, if_pos (by omega), show b + (i - b) = i by omega] at h3
  exact h3.symm
def wS (po : Int32) (wd : Nat → Nat) : Nat → Nat
  | 0 => 0
  | m + 1 => wS po wd m + (if bt po (m + 1) = true then wd (m + 1) else 0)
theorem wS_stop {po : Int32} {wd : Nat → Nat} {m : Nat} (h : ∀ i, m < i → i < 32 → bt po i = false) : ∀ j, m + j < 32 → wS po wd (m + j) = wS po wd m
  | 0, _ => rfl
  | j + 1, hj => by
    show wS po wd (m + j + 1) = _
    rw [wS, h (m + j + 1) (by omega) (by omega), wS_stop h j (by omega)]
    rfl
theorem wS_le {po : Int32} {wd : Nat → Nat} : ∀ m, (∀ d, d ≤ m → wd d ≤ 7) → wS po wd m ≤ 7 * m
  | 0, _ => Nat.le_refl _
  | m + 1, h => by
    have h1 := wS_le (po := po) (wd := wd) m (fun d hd => h d (by omega))
    have h2 := h (m + 1) (Nat.le_refl _)
    rw [wS]
    split <;> omega
theorem wp_loop {po : Int32} {wv : Nat → Int32} {wd : Nat → Nat} (hw : ∀ d, d < 7 → wd d ≤ 7 ∧ wv d = nI (wd d)) : ∀ (j b k : Nat), j + b = 7 → 1 ≤ b → j < k → f_X9_worthPotted_L4 po wv k (nI (wS po wd (b - 1))) (nI b) = some (nI (wS po wd 6)) := by
  intro j
  induction j with
  | zero =>
    intro b k hb h1 hk
    obtain ⟨k, rfl⟩ : ∃ k', k = k' + 1 := ⟨k - 1, by omega⟩
    have hb : b = 7 := by omega
    subst hb
    show b_X9_worthPotted_L4 po wv (fun x y => f_X9_worthPotted_L4 po wv k x y) (nI (wS po wd 6)) (nI 7) = _
    unfold b_X9_worthPotted_L4
    rw [if_pos (show (6 : Int32) < nI 7 by decide)]
  | succ j ih =>
    intro b k hb h1 hk
    obtain ⟨k, rfl⟩ : ∃ k', k = k' + 1 := ⟨k - 1, by omega⟩
    obtain ⟨m, rfl⟩ : ∃ m, b = m + 1 := ⟨b - 1, by omega⟩
    show b_X9_worthPotted_L4 po wv (fun x y => f_X9_worthPotted_L4 po wv k x y) (nI (wS po wd m)) (nI (m + 1)) = _
    unfold b_X9_worthPotted_L4
    rw [if_neg (show ¬ (6 : Int32) < nI (m + 1) from nI_nlt (a := 6) (by omega) (by decide))]
    by_cases hz : (po >>> (nI (m + 1) &&& 31)) = 0
    · rw [if_pos hz]
      have h2 := wS_stop (wd := wd) (m := m) (fun i h3 h4 => shr_0 (by omega) hz i h3 h4) (6 - m) (by omega)
      rw [show m + (6 - m) = 6 by omega] at h2
      rw [h2]
    · rw [if_neg hz, bit_at po (by omega)]
      simp only [jn, bnd, nI_1]
      have hih := ih (m + 1 + 1) k (by omega) (by omega) (by omega)
      rw [show m + 1 + 1 - 1 = m + 1 by omega, wS] at hih
      cases hbt : bt po (m + 1)
      · rw [if_pos b2_f]
        rw [hbt, if_neg (by decide)] at hih
        exact hih
      · rw [if_neg (by rw [b2_t]; decide), (t_cell wv (show m + 1 < 7 by omega)).2.2]
        rw [hbt, if_pos rfl] at hih
        simp only [Option.bind_some]
        rw [(hw (m + 1) (by omega)).2, nI_add]
        exact hih
theorem sw_loop {bl : Nat} {po : Int32} {mw : Nat → Int32} {wd : Nat → Nat} (h6 : bl ≤ 6) (hw : ∀ d, d ≤ bl → mw d = nI (wd d)) (J : Int32 → Option (Int32 × Int32 × Int32 × Int32 × Int32 × Int32 × Int32 × Int32 × Int32 × (Nat → Int32))) (x : Int32) : ∀ (j b k : Nat), j + b = bl + 1 → 1 ≤ b → j < k → f_X12_strike_L154 (nI bl) mw po J k (x + nI (wS po wd (b - 1))) (nI b) = J (x + nI (wS po wd bl)) := by
  intro j
  induction j with
  | zero =>
    intro b k hb h1 hk
    obtain ⟨k, rfl⟩ : ∃ k', k = k' + 1 := ⟨k - 1, by omega⟩
    have hb : b = bl + 1 := by omega
    subst hb
    show b_X12_strike_L154 (nI bl) mw po J (fun x y => f_X12_strike_L154 (nI bl) mw po J k x y) (x + nI (wS po wd bl)) (nI (bl + 1)) = _
    unfold b_X12_strike_L154
    rw [if_pos (nI_lt (by omega) (by omega))]
  | succ j ih =>
    intro b k hb h1 hk
    obtain ⟨k, rfl⟩ : ∃ k', k = k' + 1 := ⟨k - 1, by omega⟩
    obtain ⟨m, rfl⟩ : ∃ m, b = m + 1 := ⟨b - 1, by omega⟩
    show b_X12_strike_L154 (nI bl) mw po J (fun x y => f_X12_strike_L154 (nI bl) mw po J k x y) (x + nI (wS po wd m)) (nI (m + 1)) = _
    unfold b_X12_strike_L154
    rw [if_neg (nI_nlt (by omega) (by omega)), bit_at po (by omega)]
    simp only [gd, inb_nI (show m + 1 < 7 by omega) (by decide), if_true, bnd, nI_1, nI_clamp (show m + 1 < 2 ^ 31 by omega), hw (m + 1) (by omega)]
    have hih := ih (m + 1 + 1) k (by omega) (by omega) (by omega)
    rw [show m + 1 + 1 - 1 = m + 1 by omega, wS, ← nI_add, ← Int32.add_assoc] at hih
    cases hbt : bt po (m + 1)
    · rw [b2_f, Int32.zero_mul]
      rw [hbt, if_neg (by decide)] at hih
      exact hih
    · rw [b2_t, Int32.one_mul]
      rw [hbt, if_pos rfl] at hih
      exact hih
theorem roll_hit {kd : Nat → Nat} {bl : Nat} (h6 : bl ≤ 6) (hk : ∀ d, d ≤ bl → kd d < 5) : ∀ (F b w pw hp : Nat) (c : Nat → Int32) (mv bo po hd : Int32), w < 8 → pw ≤ 9 → hp ≤ 9 → (hd = -1 ∨ ∃ w0, w0 < 8 ∧ hd = nI w0) → (rollP kd bl F c b w pw mv bo po hd hp).2.2.2.2.2 ≤ 9 ∧ ((rollP kd bl F c b w pw mv bo po hd hp).2.2.2.2.1 = -1 ∨ ∃ w0, w0 < 8 ∧ (rollP kd bl F c b w pw mv bo po hd hp).2.2.2.2.1 = nI w0) := by
  intro F
  induction F with
  | zero => intro b w pw hp c mv bo po hd _ _ h1 h2; exact ⟨h1, h2⟩
  | succ F ih =>
    intro b w pw hp c mv bo po hd hw hpw h1 h2
    have ht := fun r c => (t_turn w hw r c).2.1
    unfold rollP
    by_cases hp0 : pw = 0
    · rw [if_pos hp0]; exact ⟨h1, h2⟩
    · rw [if_neg hp0]
      split
      · split
        · exact ih _ _ _ _ _ _ _ _ _ (ht _ _) (by omega) h1 h2
        · exact ih _ _ _ _ _ _ _ _ _ (ht _ _) (by omega) h1 h2
      · rcases who_cases c (nI (nx (c b).toNatClampNeg w)) (bl + 1) with ⟨hx, -⟩ | ⟨j, hj, hx, -⟩
        · rw [if_pos hx]
          split
          · exact ih _ _ _ _ _ _ _ _ _ hw (by omega) h1 h2
          · exact ih _ _ _ _ _ _ _ _ _ hw (by omega) h1 h2
        · rw [hx, if_neg (nI_ne_m1 (by omega)), nI_clamp (show j < 2 ^ 31 by omega)]
          have hpj := (t_pow (kd j) (hk j (by omega)) (pw - 1) (by omega)).2.2
          refine ih _ _ _ _ _ _ _ _ _ hw (by omega) (by split <;> omega) ?_
          split
          · exact Or.inr ⟨w, hw, rfl⟩
          · exact h2
/-- what both leave behind a stroke: cells, moves, bounces, potted, the first hit -/
def r1P (kd : Nat → Nat) (bl : Nat) (c : Nat → Int32) (w st : Nat) : (Nat → Int32) × Int32 × Int32 × Int32 × Int32 × Nat := rollP kd bl 99 c 0 w st 0 0 0 (-1) 0
def r2P (kd : Nat → Nat) (bl : Nat) (c : Nat → Int32) (w st s : Nat) : (Nat → Int32) × Int32 × Int32 × Int32 × Int32 × Nat :=
  if s = 0 ∨ (r1P kd bl c w st).2.2.2.2.1 = -1 ∨ (r1P kd bl c w st).1 0 = -1 then r1P kd bl c w st
  else rollP kd bl 99 (r1P kd bl c w st).1 0 (if s = 1 then (r1P kd bl c w st).2.2.2.2.1.toNatClampNeg else ((r1P kd bl c w st).2.2.2.2.1.toNatClampNeg + 4) % 8) ((r1P kd bl c w st).2.2.2.2.2 / 2) (r1P kd bl c w st).2.1 (r1P kd bl c w st).2.2.1 (r1P kd bl c w st).2.2.2.1 (r1P kd bl c w st).2.2.2.2.1 (r1P kd bl c w st).2.2.2.2.2
def sFo (kd : Nat → Nat) (bl : Nat) (c : Nat → Int32) (w st s : Nat) : Bool := decide ((r1P kd bl c w st).2.2.2.2.1 = -1) || decide ((r2P kd bl c w st s).1 0 = -1)
def sC (kd : Nat → Nat) (bl sp : Nat) (c : Nat → Int32) (w st s : Nat) : Nat → Int32 := if (r2P kd bl c w st s).1 0 = -1 then upd (r2P kd bl c w st s).1 0 (nI (spotP bl (r2P kd bl c w st s).1 sp)) else (r2P kd bl c w st s).1
def sMv (kd : Nat → Nat) (bl : Nat) (c : Nat → Int32) (w st s : Nat) : Int32 := (r2P kd bl c w st s).2.1
def sBo (kd : Nat → Nat) (bl : Nat) (c : Nat → Int32) (w st s : Nat) : Int32 := (r2P kd bl c w st s).2.2.1
def sPo (kd : Nat → Nat) (bl : Nat) (c : Nat → Int32) (w st s : Nat) : Int32 := (r2P kd bl c w st s).2.2.2.1
def sBr (kd wd : Nat → Nat) (bl : Nat) (c : Nat → Int32) (w st s : Nat) : Int32 := nI (wS (sPo kd bl c w st s) wd bl) - (if sFo kd bl c w st s = true then 4 else 0)
/-- the class's table with a white on it -/
def TW (bl : Nat) (tk : Int64) (c : Nat → Int32) : Prop := TabC tk c ∧ (∀ d, bl < d → d < 7 → c d = -1) ∧ c 0 ≠ -1
/-- a table's fixed numbers -/
def TF (bl sp : Nat) (kd wd : Nat → Nat) (kv wv : Nat → Int32) : Prop := 1 ≤ bl ∧ bl ≤ 6 ∧ sp < 45 ∧ pkt sp = false ∧ (∀ d, d < 7 → kd d < 5 ∧ kv d = nI (kd d)) ∧ (∀ d, d < 7 → wd d ≤ 7 ∧ wv d = nI (wd d))
theorem r1_ok {bl sp : Nat} {kd wd : Nat → Nat} {kv wv : Nat → Int32} (hF : TF bl sp kd wd kv wv) {tk : Int64} {c : Nat → Int32} (hT : TW bl tk c) {w st n : Nat} (hw : w < 8) (hst : st ≤ 9) (hn : 100 ≤ n) :
    ∃ tk', f_X9_roll n 0 0 0 (-1) 0 tk c kv 0 (nI w) (nI st) = some ((r1P kd bl c w st).2.1, (r1P kd bl c w st).2.2.1, (r1P kd bl c w st).2.2.2.1, (r1P kd bl c w st).2.2.2.2.1, nI (r1P kd bl c w st).2.2.2.2.2, tk', (r1P kd bl c w st).1) ∧ TabC tk' (r1P kd bl c w st).1 ∧ (∀ d, bl < d → d < 7 → (r1P kd bl c w st).1 d = -1) := by
  obtain ⟨h1, h6, -, -, hk, -⟩ := hF
  obtain ⟨hT, hoff, h0⟩ := hT
  rcases hT.1 0 (by decide) with hm | ⟨q, hq, hqp, hc⟩
  · exact absurd hm h0
  · exact rollC (kv := kv) (kd := kd) (bl := bl) (n := n) h6 (by omega) hk 99 n 0 0 w st 0 c tk 0 0 0 (-1) hT hoff (by omega) hw hst (fun _ => ⟨q, hq, hqp, hc, by have := t_ah q hq w hw; omega⟩) (by omega) (by decide)
theorem r1_pot {bl sp : Nat} {kd wd : Nat → Nat} {kv wv : Nat → Int32} (hF : TF bl sp kd wd kv wv) {tk : Int64} {c : Nat → Int32} (hT : TW bl tk c) {w st : Nat} (hw : w < 8) (hst : st ≤ 9) :
    PotI bl (r1P kd bl c w st).1 (r1P kd bl c w st).2.2.2.1 ∧ (r1P kd bl c w st).2.2.2.2.2 ≤ 9 ∧ ((r1P kd bl c w st).2.2.2.2.1 = -1 ∨ ∃ w0, w0 < 8 ∧ (r1P kd bl c w st).2.2.2.2.1 = nI w0) := by
  obtain ⟨h1, h6, -, -, hk, -⟩ := hF
  obtain ⟨hT, hoff, h0⟩ := hT
  refine ⟨roll_inv h6 99 0 w st 0 c 0 0 0 (-1) (fun d hd => hT.1 d (by omega)) (by omega) hw (fun _ => h0) ⟨?_, fun d _ _ => b_0 d⟩, roll_hit h6 (fun d hd => (hk d (by omega)).1) 99 0 w st 0 c 0 0 0 (-1) hw hst (by omega) (Or.inl rfl)⟩
  rw [b_0]
  constructor
  · intro h; cases h
  · intro h; exact absurd h h0
theorem r2_ok {bl sp : Nat} {kd wd : Nat → Nat} {kv wv : Nat → Int32} (hF : TF bl sp kd wd kv wv) {tk : Int64} {c : Nat → Int32} (hT : TW bl tk c) {w st s n : Nat} (hw : w < 8) (hst : st ≤ 9) (hs : s < 3) (hn : 100 ≤ n) {tk1 : Int64} (hT1 : TabC tk1 (r1P kd bl c w st).1) (hoff1 : ∀ d, bl < d → d < 7 → (r1P kd bl c w st).1 d = -1) :
    PotI bl (r2P kd bl c w st s).1 (r2P kd bl c w st s).2.2.2.1 ∧ ∃ tk', TabC tk' (r2P kd bl c w st s).1 ∧ (∀ d, bl < d → d < 7 → (r2P kd bl c w st s).1 d = -1) ∧
    ((s = 0 ∨ (r1P kd bl c w st).2.2.2.2.1 = -1 ∨ (r1P kd bl c w st).1 0 = -1) → tk' = tk1 ∧ r2P kd bl c w st s = r1P kd bl c w st) ∧
    (¬ (s = 0 ∨ (r1P kd bl c w st).2.2.2.2.1 = -1 ∨ (r1P kd bl c w st).1 0 = -1) → f_X9_roll n (r1P kd bl c w st).2.1 (r1P kd bl c w st).2.2.1 (r1P kd bl c w st).2.2.2.1 (r1P kd bl c w st).2.2.2.2.1 (nI (r1P kd bl c w st).2.2.2.2.2) tk1 (r1P kd bl c w st).1 kv 0 (if nI s = 1 then (r1P kd bl c w st).2.2.2.2.1 else ((r1P kd bl c w st).2.2.2.2.1 + 4) &&& 7) (nI (r1P kd bl c w st).2.2.2.2.2 / 2) = some ((r2P kd bl c w st s).2.1, (r2P kd bl c w st s).2.2.1, (r2P kd bl c w st s).2.2.2.1, (r2P kd bl c w st s).2.2.2.2.1, nI (r2P kd bl c w st s).2.2.2.2.2, tk', (r2P kd bl c w st s).1)) := by
  have hp := r1_pot hF hT hw hst
  obtain ⟨h1, h6, -, -, hk, -⟩ := hF
  obtain ⟨hp1, hp2, hp3⟩ := hp
  by_cases hz : s = 0 ∨ (r1P kd bl c w st).2.2.2.2.1 = -1 ∨ (r1P kd bl c w st).1 0 = -1
  · have e : r2P kd bl c w st s = r1P kd bl c w st := by rw [r2P, if_pos hz]
    rw [e]
    exact ⟨hp1, tk1, hT1, hoff1, fun _ => ⟨rfl, rfl⟩, fun h => absurd hz h⟩
  · have hs0 : ¬ s = 0 := fun h => hz (Or.inl h)
    have hd1 : ¬ (r1P kd bl c w st).2.2.2.2.1 = -1 := fun h => hz (Or.inr (Or.inl h))
    have hc0 : ¬ (r1P kd bl c w st).1 0 = -1 := fun h => hz (Or.inr (Or.inr h))
    obtain ⟨w0, hw0, hd⟩ : ∃ w0, w0 < 8 ∧ (r1P kd bl c w st).2.2.2.2.1 = nI w0 := hp3.resolve_left hd1
    have hcl : (nI w0).toNatClampNeg = w0 := nI_clamp (by omega)
    obtain ⟨q, hq, hqp, hc⟩ := (hT1.1 0 (by decide)).resolve_left hc0
    obtain ⟨w2, hw2, hwe, hwc⟩ : ∃ w2, w2 < 8 ∧ (if s = 1 then (r1P kd bl c w st).2.2.2.2.1.toNatClampNeg else ((r1P kd bl c w st).2.2.2.2.1.toNatClampNeg + 4) % 8) = w2 ∧ (if nI s = 1 then (r1P kd bl c w st).2.2.2.2.1 else ((r1P kd bl c w st).2.2.2.2.1 + 4) &&& 7) = nI w2 := by
      rw [hd, hcl]
      by_cases h : s = 1
      · subst h
        exact ⟨w0, hw0, by simp, by rw [if_pos (show nI 1 = 1 by decide)]⟩
      · refine ⟨(w0 + 4) % 8, by omega, by rw [if_neg h], ?_⟩
        by_cases h2 : nI s = 1
        · exact absurd ((nI_eq (by omega) (by decide)).mp (h2.trans (show (1 : Int32) = nI 1 by decide))) h
        · rw [if_neg h2]; exact (t_back w0 hw0).1
    have e : r2P kd bl c w st s = rollP kd bl 99 (r1P kd bl c w st).1 0 w2 ((r1P kd bl c w st).2.2.2.2.2 / 2) (r1P kd bl c w st).2.1 (r1P kd bl c w st).2.2.1 (r1P kd bl c w st).2.2.2.1 (r1P kd bl c w st).2.2.2.2.1 (r1P kd bl c w st).2.2.2.2.2 := by
      rw [r2P, if_neg hz, hwe]
    have hI := roll_inv (kd := kd) h6 99 0 w2 ((r1P kd bl c w st).2.2.2.2.2 / 2) (r1P kd bl c w st).2.2.2.2.2 (r1P kd bl c w st).1 (r1P kd bl c w st).2.1 (r1P kd bl c w st).2.2.1 (r1P kd bl c w st).2.2.2.1 (r1P kd bl c w st).2.2.2.2.1 (fun d hd => hT1.1 d (by omega)) (by omega) hw2 (fun _ => hc0) hp1
    rw [← e] at hI
    refine ⟨hI, ?_⟩
    obtain ⟨tk', hr, hT2, ho2⟩ := rollC (kv := kv) (kd := kd) (bl := bl) (n := n) h6 (by omega) hk 99 n 0 0 w2 ((r1P kd bl c w st).2.2.2.2.2 / 2) (r1P kd bl c w st).2.2.2.2.2 (r1P kd bl c w st).1 tk1 (r1P kd bl c w st).2.1 (r1P kd bl c w st).2.2.1 (r1P kd bl c w st).2.2.2.1 (r1P kd bl c w st).2.2.2.2.1 hT1 hoff1 (by omega) hw2 (by omega) (fun _ => ⟨q, hq, hqp, hc, by have := t_ah q hq w2 hw2; omega⟩) (by omega) (by decide)
    rw [← e] at hr hT2 ho2
    refine ⟨tk', hT2, ho2, fun h => absurd h hz, fun _ => ?_⟩
    rw [hwc, t_half _ (by omega)]
    exact hr
end
section
theorem isb_b2 (x : Bool) : isb (b2 x) = true := by cases x <;> decide
theorem shoot_ok {bl sp : Nat} {kd wd : Nat → Nat} {kv wv : Nat → Int32} (hF : TF bl sp kd wd kv wv) {tk : Int64} {c : Nat → Int32} (hT : TW bl tk c) {w st s n : Nat} (hw : w < 8) (hst : st ≤ 9) (hs : s < 3) (hn : 100 ≤ n) (m0 b0 p0 br0 h0 hp0 fo0 : Int32) :
    ∃ hd' hp' tk', f_X9_shoot n m0 b0 p0 br0 h0 hp0 fo0 tk (nI sp) c kv wv (nI w) (nI st) (nI s) = some (sMv kd bl c w st s, sBo kd bl c w st s, sPo kd bl c w st s, sBr kd wd bl c w st s, hd', hp', b2 (sFo kd bl c w st s), tk', sC kd bl sp c w st s) ∧ TW bl tk' (sC kd bl sp c w st s) := by
  obtain ⟨tk1, e1, hT1, ho1⟩ := r1_ok hF hT hw hst hn
  obtain ⟨hI, tk2, hT2, ho2, hA, hB⟩ := r2_ok hF hT hw hst hs hn hT1 ho1
  obtain ⟨hP1, -, -⟩ := r1_pot hF hT hw hst
  obtain ⟨h1, h6, hsp, hspk, hk, hW⟩ := hF
  have hz : bt (r2P kd bl c w st s).2.2.2.1 0 = decide ((r2P kd bl c w st s).1 0 = -1) := by
    by_cases h : (r2P kd bl c w st s).1 0 = -1
    · rw [hI.1.mpr h]; simp [h]
    · have : ¬ bt (r2P kd bl c w st s).2.2.2.1 0 = true := fun z => h (hI.1.mp z)
      simp only [h, decide_false]
      simpa using this
  obtain ⟨tk3, hr, hn3, hT3⟩ : ∃ tk3, ((r2P kd bl c w st s).1 0 = -1 → f_X10_returnWhite n tk2 (nI sp) (r2P kd bl c w st s).1 = some (tk3, sC kd bl sp c w st s)) ∧ (¬ (r2P kd bl c w st s).1 0 = -1 → tk3 = tk2 ∧ sC kd bl sp c w st s = (r2P kd bl c w st s).1) ∧ TW bl tk3 (sC kd bl sp c w st s) := by
    by_cases h : (r2P kd bl c w st s).1 0 = -1
    · obtain ⟨tk3, g1, g2, g3, g4⟩ := ret_ok (n := n) hT2 h6 (by omega) ho2 h hsp hspk
      have e : sC kd bl sp c w st s = upd (r2P kd bl c w st s).1 0 (nI (spotP bl (r2P kd bl c w st s).1 sp)) := by rw [sC, if_pos h]
      rw [← e] at g1 g2
      refine ⟨tk3, fun _ => g1, fun z => absurd h z, g2, fun d hd hd7 => ?_, ?_⟩
      · rw [e, upd_n (by omega)]; exact ho2 d hd hd7
      · rw [e, upd_s]; exact nI_ne_m1 g3
    · have e : sC kd bl sp c w st s = (r2P kd bl c w st s).1 := by rw [sC, if_neg h]
      refine ⟨tk2, fun z => absurd z h, fun _ => ⟨rfl, e⟩, ?_⟩
      rw [e]; exact ⟨hT2, ho2, h⟩
  refine ⟨(r2P kd bl c w st s).2.2.2.2.1, nI (r2P kd bl c w st s).2.2.2.2.2, tk3, ?_, hT3⟩
  unfold f_X9_shoot
  rw [e1, Option.bind_some]
  refine jn_of (fun T1 hT1' => ?_)
  have key : T1 (b2 (decide ((r1P kd bl c w st).2.2.2.2.1 = -1))) = some (sMv kd bl c w st s, sBo kd bl c w st s, sPo kd bl c w st s, sBr kd wd bl c w st s, (r2P kd bl c w st s).2.2.2.2.1, nI (r2P kd bl c w st s).2.2.2.2.2, b2 (sFo kd bl c w st s), tk3, sC kd bl sp c w st s) := by
    rw [hT1']
    refine jn_of (fun T2 hT2' => ?_)
    have key2 : T2 (r2P kd bl c w st s).2.1 (r2P kd bl c w st s).2.2.1 (r2P kd bl c w st s).2.2.2.1 (r2P kd bl c w st s).2.2.2.2.1 (nI (r2P kd bl c w st s).2.2.2.2.2) tk2 (r2P kd bl c w st s).1 = some (sMv kd bl c w st s, sBo kd bl c w st s, sPo kd bl c w st s, sBr kd wd bl c w st s, (r2P kd bl c w st s).2.2.2.2.1, nI (r2P kd bl c w st s).2.2.2.2.2, b2 (sFo kd bl c w st s), tk3, sC kd bl sp c w st s) := by
      rw [hT2']
      refine jn_of (fun T3 hT3' => ?_)
      have key3 : T3 (b2 (sFo kd bl c w st s)) = some (sMv kd bl c w st s, sBo kd bl c w st s, sPo kd bl c w st s, sBr kd wd bl c w st s, (r2P kd bl c w st s).2.2.2.2.1, nI (r2P kd bl c w st s).2.2.2.2.2, b2 (sFo kd bl c w st s), tk3, sC kd bl sp c w st s) := by
        rw [hT3']
        have hwp : f_X9_worthPotted n (r2P kd bl c w st s).2.2.2.1 wv = some (nI (wS (r2P kd bl c w st s).2.2.2.1 wd bl)) := by
          unfold f_X9_worthPotted
          have h := wp_loop (po := (r2P kd bl c w st s).2.2.2.1) hW 6 1 n (by omega) (by omega) (by omega)
          rw [← (by simpa [show bl + (6 - bl) = 6 by omega] using wS_stop (wd := wd) (m := bl) (po := (r2P kd bl c w st s).2.2.2.1) (fun i h3 h4 => hI.2 i h3 h4) (6 - bl) (by omega) : wS (r2P kd bl c w st s).2.2.2.1 wd 6 = wS (r2P kd bl c w st s).2.2.2.1 wd bl)]
          exact h
        simp only [gd, isb_b2, if_true, hwp, Option.bind_some, jn, f_X9_isWhitePotted, bit_0, hz]
        by_cases h : (r2P kd bl c w st s).1 0 = -1
        · have e3 : b2 (decide ((r2P kd bl c w st s).1 0 = -1)) = 1 := by simp [h, b2]
          have ef : sFo kd bl c w st s = true := by simp [sFo, h]
          simp only [e3, one_ne, if_false, Option.bind_some, hr h, ef, b2_t, sBr, if_true]
          rfl
        · have e3 : b2 (decide ((r2P kd bl c w st s).1 0 = -1)) = 0 := by simp [h, b2]
          simp only [e3, if_true, Option.bind_some, (hn3 h).1, (hn3 h).2, sBr]
          cases ef : sFo kd bl c w st s
          · simp only [b2_f, if_true, if_false]; rfl
          · simp only [b2_t, one_ne, if_true, if_false]; rfl
      simp only [jn, f_X9_isWhitePotted, bit_0, hz]
      by_cases h1' : (r1P kd bl c w st).2.2.2.2.1 = -1
      · have ef : sFo kd bl c w st s = true := by simp [sFo, h1']
        rw [ef] at key3 ⊢
        simp only [h1', decide_true, b2_t, one_ne, if_false] at key3 ⊢
        exact key3
      · by_cases h : (r2P kd bl c w st s).1 0 = -1
        · have ef : sFo kd bl c w st s = true := by simp [sFo, h]
          rw [ef] at key3 ⊢
          simp only [h1', h, decide_true, decide_false, b2_t, b2_f, one_ne, if_true, if_false, Option.bind_some] at key3 ⊢
          exact key3
        · have ef : sFo kd bl c w st s = false := by simp [sFo, h, h1']
          rw [ef] at key3 ⊢
          simp only [h1', h, decide_false, b2_f, if_true, Option.bind_some] at key3 ⊢
          exact key3
    have hz1 : bt (r1P kd bl c w st).2.2.2.1 0 = decide ((r1P kd bl c w st).1 0 = -1) := by
      have hI1 := hP1.1
      by_cases h : (r1P kd bl c w st).1 0 = -1
      · rw [hI1.mpr h]; simp [h]
      · have : ¬ bt (r1P kd bl c w st).2.2.2.1 0 = true := fun z => h (hI1.mp z)
        simp only [h, decide_false]
        simpa using this
    by_cases hzz : s = 0 ∨ (r1P kd bl c w st).2.2.2.2.1 = -1 ∨ (r1P kd bl c w st).1 0 = -1
    · obtain ⟨ea, eb⟩ := hA hzz
      have key4 : T2 (r1P kd bl c w st).2.1 (r1P kd bl c w st).2.2.1 (r1P kd bl c w st).2.2.2.1 (r1P kd bl c w st).2.2.2.2.1 (nI (r1P kd bl c w st).2.2.2.2.2) tk1 (r1P kd bl c w st).1 = some (sMv kd bl c w st s, sBo kd bl c w st s, sPo kd bl c w st s, sBr kd wd bl c w st s, (r2P kd bl c w st s).2.2.2.2.1, nI (r2P kd bl c w st s).2.2.2.2.2, b2 (sFo kd bl c w st s), tk3, sC kd bl sp c w st s) := by
        rw [← ea, ← eb]; exact key2
      simp only [jn, f_X9_isWhitePotted, bit_0, hz1]
      by_cases hs0 : s = 0
      · rw [if_pos (by rw [hs0]; decide)]; exact key4
      · rw [if_neg (nI_ne0 (by omega) (by omega))]
        by_cases hd1 : (r1P kd bl c w st).2.2.2.2.1 = -1
        · rw [if_neg (by simp [hd1, b2])]; exact key4
        · have hc1 : (r1P kd bl c w st).1 0 = -1 := (hzz.resolve_left hs0).resolve_left hd1
          rw [if_pos (by simp [hd1, b2])]
          simp only [hc1, decide_true, b2_t, one_ne, if_false, Option.bind_some]
          exact key4
    · have hs0 : ¬ s = 0 := fun h => hzz (Or.inl h)
      have hd1 : ¬ (r1P kd bl c w st).2.2.2.2.1 = -1 := fun h => hzz (Or.inr (Or.inl h))
      have hc0 : ¬ (r1P kd bl c w st).1 0 = -1 := fun h => hzz (Or.inr (Or.inr h))
      have hB' := hB hzz
      simp only [jn, f_X9_isWhitePotted, bit_0, hz1]
      rw [if_neg (nI_ne0 (by omega) (by omega)), if_pos (by simp [hd1, b2])]
      simp only [hc0, decide_false, b2_f, if_true, Option.bind_some]
      by_cases hs1 : nI s = 1
      · rw [if_pos hs1] at hB' ⊢
        rw [hB', Option.bind_some]
        exact key2
      · rw [if_neg hs1] at hB' ⊢
        rw [hB', Option.bind_some]
        exact key2
  by_cases h : (r1P kd bl c w st).2.2.2.2.1 = -1
  · rw [if_pos h]
    simpa [h, b2] using key
  · rw [if_neg h]
    simpa [h, b2] using key
end
section
/-- what the reference's table shares with the class's -/
def MF (bl : Nat) (kv wv mk mw : Nat → Int32) : Prop := ∀ d, d ≤ bl → mk d = kv d ∧ mw d = wv d
theorem m4_add (x : Int32) : -4 + x = x - 4 := by rw [Int32.add_comm, Int32.sub_eq_add_neg]
theorem strike_ok {bl sp : Nat} {kd wd : Nat → Nat} {kv wv : Nat → Int32} (hF : TF bl sp kd wd kv wv) {tk : Int64} {c : Nat → Int32} (hT : TW bl tk c) {w st s n : Nat} (hw : w < 8) (hst : st ≤ 9) (hs : s < 3) (hn : 100 ≤ n) {mk mw v : Nat → Int32} (hM : MF bl kv wv mk mw) (hv : ∀ d, d ≤ bl → v d = c d) (a1 a2 a3 a4 a5 a6 a7 a8 : Int32) :
    ∃ hf2 hpm2 dn2 rt2 v3, f_X12_strike n (nI bl) (nI sp) a1 a2 a3 a4 a5 a6 a7 a8 mk mw v (nI w) (nI st) (nI s) = some (sBr kd wd bl c w st s, sPo kd bl c w st s, sMv kd bl c w st s, sBo kd bl c w st s, hf2, hpm2, dn2, rt2, b2 (sFo kd bl c w st s), v3) ∧ ∀ d, d ≤ bl → v3 d = sC kd bl sp c w st s d := by
  obtain ⟨tk1, -, hT1, ho1⟩ := r1_ok hF hT hw hst hn
  obtain ⟨hI, tk2, hT2, ho2, -, -⟩ := r2_ok hF hT hw hst hs hn hT1 ho1
  obtain ⟨hP1, hP2, -⟩ := r1_pot hF hT hw hst
  obtain ⟨h1, h6, hsp, hspk, hk, hW⟩ := hF
  obtain ⟨hTc, hoff, h0⟩ := hT
  have hkm : ∀ d, d ≤ bl → kd d < 5 ∧ mk d = nI (kd d) := fun d hd => ⟨(hk d (by omega)).1, (hM d hd).1.trans (hk d (by omega)).2⟩
  have hwm : ∀ d, d ≤ bl → mw d = nI (wd d) := fun d hd => (hM d hd).2.trans (hW d (by omega)).2
  obtain ⟨q, hq, -, hc⟩ := (hTc.1 0 (by decide)).resolve_left h0
  obtain ⟨v1, hf1, hpm1, dn1, rt1, e1, hv1, hH1⟩ := rollM (mk := mk) (kd := kd) (bl := bl) (n := n) h1 h6 (by omega) hkm 99 n 0 w st 0 c v 0 0 0 (-1) (-1) a5 a6 a7 (fun d hd => hTc.1 d (by omega)) hv (by omega) hw hst (fun _ => ⟨q, hq, hc, by have := t_ah q hq w hw; omega⟩) (by omega) (Or.inl ⟨rfl, rfl⟩)
  change f_X12_roll n (nI bl) 0 0 0 (-1) a5 a6 a7 mk v 0 (rowS w) (colS w) (nI st) = some ((r1P kd bl c w st).2.2.2.1, (r1P kd bl c w st).2.1, (r1P kd bl c w st).2.2.1, hf1, hpm1, dn1, rt1, v1) at e1
  change ∀ d, d ≤ bl → v1 d = (r1P kd bl c w st).1 d at hv1
  change HitR (r1P kd bl c w st).2.2.2.2.1 (r1P kd bl c w st).2.2.2.2.2 hf1 hpm1 dn1 rt1 at hH1
  have hfd : (hf1 = -1) ↔ ((r1P kd bl c w st).2.2.2.2.1 = -1) := by
    rcases hH1 with ⟨g1, g2⟩ | ⟨g1, w0, g2, g3, -⟩
    · exact ⟨fun _ => g1, fun _ => g2⟩
    · exact ⟨fun z => absurd z g1, fun z => absurd (g3.symm.trans z) (nI_ne_m1 (by omega))⟩
  obtain ⟨v2, hf2, hpm2, dn2, rt2, hv2, hA, hB⟩ : ∃ (v2 : Nat → Int32) (hf2 hpm2 dn2 rt2 : Int32), (∀ d, d ≤ bl → v2 d = (r2P kd bl c w st s).1 d) ∧
      ((s = 0 ∨ (r1P kd bl c w st).2.2.2.2.1 = -1 ∨ (r1P kd bl c w st).1 0 = -1) → v2 = v1 ∧ hf2 = hf1 ∧ hpm2 = hpm1 ∧ dn2 = dn1 ∧ rt2 = rt1 ∧ (r2P kd bl c w st s) = (r1P kd bl c w st)) ∧
      (¬ (s = 0 ∨ (r1P kd bl c w st).2.2.2.2.1 = -1 ∨ (r1P kd bl c w st).1 0 = -1) → f_X12_roll n (nI bl) (r1P kd bl c w st).2.2.2.1 (r1P kd bl c w st).2.1 (r1P kd bl c w st).2.2.1 hf1 hpm1 dn1 rt1 mk v1 0 ((if nI s = 1 then 1 else -1) * dn1) ((if nI s = 1 then 1 else -1) * rt1) (hpm1 / 2) = some ((r2P kd bl c w st s).2.2.2.1, (r2P kd bl c w st s).2.1, (r2P kd bl c w st s).2.2.1, hf2, hpm2, dn2, rt2, v2)) := by
    by_cases hz : s = 0 ∨ (r1P kd bl c w st).2.2.2.2.1 = -1 ∨ (r1P kd bl c w st).1 0 = -1
    · have e : (r2P kd bl c w st s) = (r1P kd bl c w st) := by rw [r2P, if_pos hz]
      exact ⟨v1, hf1, hpm1, dn1, rt1, by rw [e]; exact hv1, fun _ => ⟨rfl, rfl, rfl, rfl, rfl, e⟩, fun h => absurd hz h⟩
    · have hs0 : ¬ s = 0 := fun h => hz (Or.inl h)
      have hd1 : ¬ (r1P kd bl c w st).2.2.2.2.1 = -1 := fun h => hz (Or.inr (Or.inl h))
      have hc0 : ¬ (r1P kd bl c w st).1 0 = -1 := fun h => hz (Or.inr (Or.inr h))
      have hH := hH1
      obtain ⟨g1, w0, hw0, g3, g4, g5, g6⟩ := hH1.resolve_left (fun z => hd1 z.1)
      have hcl : (nI w0).toNatClampNeg = w0 := nI_clamp (by omega)
      obtain ⟨q1, hq1, -, hc1⟩ := (hT1.1 0 (by decide)).resolve_left hc0
      have htb := t_back w0 hw0
      obtain ⟨w2, hw2, hwe, hwr, hwc⟩ : ∃ w2, w2 < 8 ∧ (if s = 1 then (r1P kd bl c w st).2.2.2.2.1.toNatClampNeg else ((r1P kd bl c w st).2.2.2.2.1.toNatClampNeg + 4) % 8) = w2 ∧ (if nI s = 1 then 1 else -1) * dn1 = rowS w2 ∧ (if nI s = 1 then 1 else -1) * rt1 = colS w2 := by
        rw [g3, hcl, g4, g5]
        by_cases h : s = 1
        · subst h
          exact ⟨w0, hw0, by simp, by rw [if_pos (show nI 1 = 1 by decide)]; exact htb.2.2.2.1, by rw [if_pos (show nI 1 = 1 by decide)]; exact htb.2.2.2.2⟩
        · have h2 : ¬ nI s = 1 := fun z => h ((nI_eq (by omega) (by decide)).mp (z.trans (show (1 : Int32) = nI 1 by decide)))
          refine ⟨(w0 + 4) % 8, by omega, by rw [if_neg h], ?_, ?_⟩
          · rw [if_neg h2]; exact htb.2.1.symm
          · rw [if_neg h2]; exact htb.2.2.1.symm
      have e : (r2P kd bl c w st s) = rollP kd bl 99 (r1P kd bl c w st).1 0 w2 ((r1P kd bl c w st).2.2.2.2.2 / 2) (r1P kd bl c w st).2.1 (r1P kd bl c w st).2.2.1 (r1P kd bl c w st).2.2.2.1 (r1P kd bl c w st).2.2.2.2.1 (r1P kd bl c w st).2.2.2.2.2 := by
        rw [r2P, if_neg hz, hwe]
      obtain ⟨v2, hf2, hpm2, dn2, rt2, e2, hv2, hH2⟩ := rollM (mk := mk) (kd := kd) (bl := bl) (n := n) h1 h6 (by omega) hkm 99 n 0 w2 ((r1P kd bl c w st).2.2.2.2.2 / 2) (r1P kd bl c w st).2.2.2.2.2 (r1P kd bl c w st).1 v1 (r1P kd bl c w st).2.1 (r1P kd bl c w st).2.2.1 (r1P kd bl c w st).2.2.2.1 (r1P kd bl c w st).2.2.2.2.1 hf1 hpm1 dn1 rt1 (fun d hd => hT1.1 d (by omega)) hv1 (by omega) hw2 (by omega) (fun _ => ⟨q1, hq1, hc1, by have := t_ah q1 hq1 w2 hw2; omega⟩) (by omega) hH
      rw [← e] at e2 hv2
      refine ⟨v2, hf2, hpm2, dn2, rt2, hv2, fun h => absurd h hz, fun _ => ?_⟩
      rw [hwr, hwc, g6, t_half _ (by omega)]
      rw [g6] at e2
      exact e2
  have hz : bt (r2P kd bl c w st s).2.2.2.1 0 = decide ((r2P kd bl c w st s).1 0 = -1) := by
    by_cases h : (r2P kd bl c w st s).1 0 = -1
    · rw [hI.1.mpr h]; simp [h]
    · have : ¬ bt (r2P kd bl c w st s).2.2.2.1 0 = true := fun z => h (hI.1.mp z)
      simp only [h, decide_false]
      simpa using this
  have hv20 := hv2 0 (by omega)
  have hz0 : (0 : Int32).toNatClampNeg = 0 := rfl
  have hi0 : inb 0 7 = true := by decide
  obtain ⟨v3, hr, hn3, hv3⟩ : ∃ v3 : Nat → Int32, ((r2P kd bl c w st s).1 0 = -1 → f_X12_spotWhite n (nI bl) (nI sp) v2 = some v3) ∧ (¬ (r2P kd bl c w st s).1 0 = -1 → v3 = v2) ∧ ∀ d, d ≤ bl → v3 d = sC kd bl sp c w st s d := by
    by_cases h : (r2P kd bl c w st s).1 0 = -1
    · refine ⟨_, fun _ => spot_ok h1 h6 (by omega) hv2 h hsp, fun z => absurd h z, fun d hd => ?_⟩
      rw [sC, if_pos h]
      by_cases hd0 : d = 0
      · rw [hd0, upd_s, upd_s]
      · rw [upd_n hd0, upd_n hd0]; exact hv2 d hd
    · refine ⟨v2, fun z => absurd z h, fun _ => rfl, fun d hd => ?_⟩
      rw [sC, if_neg h]; exact hv2 d hd
  refine ⟨hf2, hpm2, dn2, rt2, v3, ?_, hv3⟩
  have hstep := t_step w hw
  unfold f_X12_strike
  rw [hstep.2.2.1, Option.bind_some, hstep.2.2.2, Option.bind_some, e1, Option.bind_some]
  refine jn_of (fun T1 hT1' => ?_)
  have key : T1 (b2 (decide ((r1P kd bl c w st).2.2.2.2.1 = -1))) = some (sBr kd wd bl c w st s, sPo kd bl c w st s, sMv kd bl c w st s, sBo kd bl c w st s, hf2, hpm2, dn2, rt2, b2 (sFo kd bl c w st s), v3) := by
    rw [hT1']
    simp only [gd, isb_b2, if_true]
    refine jn_of (fun T2 hT2' => ?_)
    have key2 : T2 (r2P kd bl c w st s).2.2.2.1 (r2P kd bl c w st s).2.1 (r2P kd bl c w st s).2.2.1 hf2 hpm2 dn2 rt2 v2 = some (sBr kd wd bl c w st s, sPo kd bl c w st s, sMv kd bl c w st s, sBo kd bl c w st s, hf2, hpm2, dn2, rt2, b2 (sFo kd bl c w st s), v3) := by
      rw [hT2']
      refine jn_of (fun T3 hT3' => ?_)
      have key3 : T3 (b2 (sFo kd bl c w st s)) = some (sBr kd wd bl c w st s, sPo kd bl c w st s, sMv kd bl c w st s, sBo kd bl c w st s, hf2, hpm2, dn2, rt2, b2 (sFo kd bl c w st s), v3) := by
        rw [hT3']
        simp only [isb_b2, if_true]
        refine jn_of (fun T4 hT4' => ?_)
        have key4 : T4 (if sFo kd bl c w st s = true then -4 else 0) = some (sBr kd wd bl c w st s, sPo kd bl c w st s, sMv kd bl c w st s, sBo kd bl c w st s, hf2, hpm2, dn2, rt2, b2 (sFo kd bl c w st s), v3) := by
          rw [hT4']
          refine jn_of (fun T5 hT5' => ?_)
          have hl := sw_loop (po := (r2P kd bl c w st s).2.2.2.1) h6 hwm T5 (if sFo kd bl c w st s = true then -4 else 0) bl 1 n (by omega) (by omega) (by omega)
          have ez : (if sFo kd bl c w st s = true then (-4 : Int32) else 0) + nI (wS (r2P kd bl c w st s).2.2.2.1 wd (1 - 1)) = (if sFo kd bl c w st s = true then -4 else 0) := by
            show _ + nI 0 = _
            rw [show nI 0 = 0 by decide, Int32.add_zero]
          have eb : (if sFo kd bl c w st s = true then (-4 : Int32) else 0) + nI (wS (r2P kd bl c w st s).2.2.2.1 wd bl) = sBr kd wd bl c w st s := by
            unfold sBr sPo
            cases sFo kd bl c w st s
            · simp
            · simp only [if_true]; exact m4_add _
          rw [ez, eb] at hl
          refine hl.trans ?_
          rw [hT5']
          simp only [hi0, if_true, hz0, hv20]
          by_cases h : (r2P kd bl c w st s).1 0 = -1
          · rw [if_pos h, hr h]; rfl
          · rw [if_neg h, hn3 h]; rfl
        cases ef : sFo kd bl c w st s
        · rw [ef] at key4
          simp only [b2_f, if_true]
          exact key4
        · rw [ef] at key4
          simp only [b2_t, one_ne, if_false]
          exact key4
      simp only [jn, bit_0, hz]
      by_cases h1' : (r1P kd bl c w st).2.2.2.2.1 = -1
      · have ef : sFo kd bl c w st s = true := by simp [sFo, h1']
        rw [ef] at key3 ⊢
        simp only [h1', decide_true, b2_t, one_ne, if_false] at key3 ⊢
        exact key3
      · by_cases h : (r2P kd bl c w st s).1 0 = -1
        · have ef : sFo kd bl c w st s = true := by simp [sFo, h]
          rw [ef] at key3 ⊢
          simp only [h1', h, decide_true, decide_false, b2_t, b2_f, if_true] at key3 ⊢
          exact key3
        · have ef : sFo kd bl c w st s = false := by simp [sFo, h, h1']
          rw [ef] at key3 ⊢
          simp only [h1', h, decide_false, b2_f, if_true] at key3 ⊢
          rw [if_neg (by decide)]
          exact key3
    by_cases hzz : s = 0 ∨ (r1P kd bl c w st).2.2.2.2.1 = -1 ∨ (r1P kd bl c w st).1 0 = -1
    · obtain ⟨x1, x2, x3, x4, x5, x6⟩ := hA hzz
      have key4 : T2 (r1P kd bl c w st).2.2.2.1 (r1P kd bl c w st).2.1 (r1P kd bl c w st).2.2.1 hf1 hpm1 dn1 rt1 v1 = some (sBr kd wd bl c w st s, sPo kd bl c w st s, sMv kd bl c w st s, sBo kd bl c w st s, hf2, hpm2, dn2, rt2, b2 (sFo kd bl c w st s), v3) := by
        rw [← x6, ← x1, ← x2, ← x3, ← x4, ← x5]; exact key2
      simp only [hi0, if_true, hz0, hv1 0 (by omega)]
      by_cases hd1 : (r1P kd bl c w st).2.2.2.2.1 = -1
      · rw [if_neg (by simp [hd1, b2])]; exact key4
      · rw [if_pos (by simp [hd1, b2])]
        by_cases hs0 : s = 0
        · rw [if_pos (by rw [hs0]; decide)]; exact key4
        · have hc1 : (r1P kd bl c w st).1 0 = -1 := (hzz.resolve_left hs0).resolve_left hd1
          rw [if_neg (nI_nle (by omega) (by omega)), if_pos hc1]
          exact key4
    · have hs0 : ¬ s = 0 := fun h => hzz (Or.inl h)
      have hd1 : ¬ (r1P kd bl c w st).2.2.2.2.1 = -1 := fun h => hzz (Or.inr (Or.inl h))
      have hc0 : ¬ (r1P kd bl c w st).1 0 = -1 := fun h => hzz (Or.inr (Or.inr h))
      have hB' := hB hzz
      simp only [hi0, if_true, hz0, hv1 0 (by omega)]
      rw [if_pos (by simp [hd1, b2]), if_neg (nI_nle (by omega) (by omega)), if_neg hc0]
      simp only [jn]
      by_cases hs1 : nI s = 1
      · simp only [if_pos hs1] at hB' ⊢
        rw [hB', Option.bind_some]
        exact key2
      · simp only [if_neg hs1] at hB' ⊢
        rw [hB', Option.bind_some]
        exact key2
  have e4 : (if hf1 = -1 then T1 1 else T1 0) = T1 (b2 (decide ((r1P kd bl c w st).2.2.2.2.1 = -1))) := by
    by_cases h : (r1P kd bl c w st).2.2.2.2.1 = -1
    · rw [if_pos (hfd.mpr h)]; simp [h, b2]
    · rw [if_neg (fun z => h (hfd.mp z))]; simp [h, b2]
  exact e4.trans key
end
section
/-! loops and calls whose scratch nobody reads -/
theorem lp_run {α β : Type} {step : (α → Option β) → α → Option β} (P : Nat → α → Prop) (Q : Option β → Prop)
    (h0 : ∀ (g : α → Option β) (a : α), P 0 a → Q (step g a))
    (hs : ∀ (g : α → Option β) (j : Nat) (a : α), P (j + 1) a → (∃ a', P j a' ∧ step g a = g a') ∨ Q (step g a)) :
    ∀ (j k : Nat) (a : α), P j a → j < k → Q (lpF step k a) := by
  intro j
  induction j with
  | zero =>
    intro k a hP hk
    obtain ⟨k, rfl⟩ : ∃ k', k = k' + 1 := ⟨k - 1, by omega⟩
    exact h0 _ a hP
  | succ j ih =>
    intro k a hP hk
    obtain ⟨k, rfl⟩ : ∃ k', k = k' + 1 := ⟨k - 1, by omega⟩
    rcases hs (lpF step k) j a hP with ⟨a', hP', e⟩ | h
    · show Q (step (lpF step k) a)
      rw [e]
      exact ih k a' hP' (by omega)
    · exact h
theorem lp_r {α β : Type} {step : (α → Option β) → α → Option β} {k : Nat} {a : α} {R : β → Prop} (P : Nat → α → Prop) (j : Nat) (hP : P j a) (hk : j < k)
    (h0 : ∀ (g : α → Option β) (a : α), P 0 a → ∃ r, step g a = some r ∧ R r)
    (hs : ∀ (g : α → Option β) (j : Nat) (a : α), P (j + 1) a → (∃ a', P j a' ∧ step g a = g a') ∨ ∃ r, step g a = some r ∧ R r) : ∃ r, lpF step k a = some r ∧ R r :=
  lp_run P (fun o => ∃ r, o = some r ∧ R r) h0 hs j k a hP hk
theorem bind_r {α β : Type} {o : Option α} {f : α → Option β} {P : α → Prop} {R : β → Prop} (h : ∃ r, o = some r ∧ P r) (k : ∀ r, P r → ∃ s, f r = some s ∧ R s) : ∃ s, o.bind f = some s ∧ R s := by
  obtain ⟨r, e, hP⟩ := h
  rw [e]
  exact k r hP
theorem bind_l {α β γ : Type} {o : Option α} {f : α → Option β} {g : γ → Option β} {P : α → Prop} {R : γ → Prop} (h : ∃ r, o = some r ∧ P r) (k : ∀ r, P r → ∃ a', R a' ∧ f r = g a') : ∃ a', R a' ∧ o.bind f = g a' := by
  obtain ⟨r, e, hP⟩ := h
  rw [e]
  exact k r hP
theorem copy_ok {N : Nat} (hN : N < 40) {n : Nat} (hn : 50 ≤ n) (a b : Nat → Int32) : ∃ r, f_X12_copy n N a b = some r ∧ ∀ d, d < N → r d = a d := by
  unfold f_X12_copy f_X12_copy_L2
  refine lp_r (fun j s => ∃ i, j + i = N ∧ s.1 = nI i ∧ ∀ d, d < i → s.2 d = a d) N ⟨0, by omega, nI_0.symm, fun d hd => absurd hd (Nat.not_lt_zero _)⟩ (by omega) ?_ ?_
  · rintro g ⟨x, v⟩ ⟨i, hi, hx, hv⟩
    dsimp only at hx hv ⊢
    have hi : i = N := by omega
    subst hi
    unfold b_X12_copy_L2
    have hle : Int32.ofNat i ≤ nI i := nI_le (Nat.le_refl i) (by omega)
    rw [hx, if_pos hle]
    exact ⟨v, rfl, hv⟩
  · rintro g j ⟨x, v⟩ ⟨i, hi, hx, hv⟩
    dsimp only at hx hv ⊢
    left
    unfold b_X12_copy_L2
    have hle : ¬ Int32.ofNat N ≤ nI i := nI_ge (show i < N by omega) (by omega)
    rw [hx, if_neg hle]
    simp only [gd, inb_nI (show i < N by omega) (by omega), if_true, bnd, nI_1, nI_clamp (show i < 2 ^ 31 by omega)]
    refine ⟨(nI (i + 1), upd v i (a i)), ⟨i + 1, by omega, rfl, fun d hd => ?_⟩, rfl⟩
    by_cases h : d = i
    · subst h; exact upd_s _ _ _
    · rw [show (nI (i + 1), upd v i (a i)).2 = upd v i (a i) from rfl, upd_n h]; exact hv d (by omega)
/-- what a stroke of the class leaves -/
def ShR (kd wd : Nat → Nat) (bl sp : Nat) (c : Nat → Int32) (w st s : Nat) (r : Int32 × Int32 × Int32 × Int32 × Int32 × Int32 × Int32 × Int64 × (Nat → Int32)) : Prop :=
  r.1 = sMv kd bl c w st s ∧ r.2.1 = sBo kd bl c w st s ∧ r.2.2.1 = sPo kd bl c w st s ∧ r.2.2.2.1 = sBr kd wd bl c w st s ∧ r.2.2.2.2.2.2.1 = b2 (sFo kd bl c w st s) ∧ r.2.2.2.2.2.2.2.2 = sC kd bl sp c w st s ∧ TW bl r.2.2.2.2.2.2.2.1 (sC kd bl sp c w st s)
theorem shoot_r {bl sp : Nat} {kd wd : Nat → Nat} {kv wv : Nat → Int32} (hF : TF bl sp kd wd kv wv) {tk : Int64} {c : Nat → Int32} (hT : TW bl tk c) {w st s n : Nat} (hw : w < 8) (hst : st ≤ 9) (hs : s < 3) (hn : 100 ≤ n) {m0 b0 p0 br0 h0 hp0 fo0 : Int32} :
    ∃ r, f_X9_shoot n m0 b0 p0 br0 h0 hp0 fo0 tk (nI sp) c kv wv (nI w) (nI st) (nI s) = some r ∧ ShR kd wd bl sp c w st s r := by
  obtain ⟨hd', hp', tk', e, hT'⟩ := shoot_ok hF hT hw hst hs hn m0 b0 p0 br0 h0 hp0 fo0
  exact ⟨_, e, rfl, rfl, rfl, rfl, rfl, rfl, hT'⟩
/-- what a stroke of the reference leaves -/
def StR (kd wd : Nat → Nat) (bl sp : Nat) (c : Nat → Int32) (w st s : Nat) (r : Int32 × Int32 × Int32 × Int32 × Int32 × Int32 × Int32 × Int32 × Int32 × (Nat → Int32)) : Prop :=
  r.1 = sBr kd wd bl c w st s ∧ r.2.1 = sPo kd bl c w st s ∧ r.2.2.1 = sMv kd bl c w st s ∧ r.2.2.2.1 = sBo kd bl c w st s ∧ r.2.2.2.2.2.2.2.2.1 = b2 (sFo kd bl c w st s) ∧ (∀ d, d ≤ bl → r.2.2.2.2.2.2.2.2.2 d = sC kd bl sp c w st s d)
theorem strike_r {bl sp : Nat} {kd wd : Nat → Nat} {kv wv : Nat → Int32} (hF : TF bl sp kd wd kv wv) {tk : Int64} {c : Nat → Int32} (hT : TW bl tk c) {w st s n : Nat} (hw : w < 8) (hst : st ≤ 9) (hs : s < 3) (hn : 100 ≤ n) {mk mw v : Nat → Int32} (hM : MF bl kv wv mk mw) (hv : ∀ d, d ≤ bl → v d = c d) {a1 a2 a3 a4 a5 a6 a7 a8 : Int32} :
    ∃ r, f_X12_strike n (nI bl) (nI sp) a1 a2 a3 a4 a5 a6 a7 a8 mk mw v (nI w) (nI st) (nI s) = some r ∧ StR kd wd bl sp c w st s r := by
  obtain ⟨hf2, hpm2, dn2, rt2, v3, e, hv3⟩ := strike_ok hF hT hw hst hs hn hM hv a1 a2 a3 a4 a5 a6 a7 a8
  exact ⟨_, e, rfl, rfl, rfl, rfl, rfl, hv3⟩
theorem shoot_TW {bl sp : Nat} {kd wd : Nat → Nat} {kv wv : Nat → Int32} (hF : TF bl sp kd wd kv wv) {tk : Int64} {c : Nat → Int32} (hT : TW bl tk c) {w st s : Nat} (hw : w < 8) (hst : st ≤ 9) (hs : s < 3) : ∃ tk', TW bl tk' (sC kd bl sp c w st s) := by
  obtain ⟨r, -, hr⟩ := shoot_r (n := 100) (m0 := 0) (b0 := 0) (p0 := 0) (br0 := 0) (h0 := 0) (hp0 := 0) (fo0 := 0) hF hT hw hst hs (Nat.le_refl _)
  exact ⟨_, hr.2.2.2.2.2.2⟩
/-! choosing -/
def chF (g : Nat → Option Int32) (lt : Int32 → Int32 → Bool) : Nat → Option (Nat × Int32)
  | 0 => none
  | i + 1 => match g i with
    | none => chF g lt i
    | some y => match chF g lt i with
      | none => some (i, y)
      | some (m, x) => if lt x y = true then some (i, y) else some (m, x)
def RC (o : Option (Nat × Int32)) (ch va : Int32) : Prop := match o with
  | none => ch = -1
  | some (m, x) => m < 216 ∧ ch = nI m ∧ va = x
theorem t_num : ∀ i, i < 216 → nI i / 27 = nI (i / 27) ∧ (nI i / 3 - nI i / 3 / 9 * 9) + 1 = nI (i / 3 % 9 + 1) ∧ nI i - nI i / 3 * 3 = nI (i % 3) ∧ i / 27 < 8 := by decide +kernel
theorem nI_m1' {m : Nat} (h : m < 1000) : ¬ nI m = -1 := by
  intro z
  have := congrArg Int32.toInt z
  rw [nI_toInt (by omega)] at this
  have h2 : (-1 : Int32).toInt = -1 := by decide
  omega
def gB (kd wd : Nat → Nat) (bl : Nat) (c : Nat → Int32) (i : Nat) : Int32 := sBr kd wd bl c (i / 27) (i / 3 % 9 + 1) (i % 3)
def gtI (x y : Int32) : Bool := decide (x < y)
def TrR (kd wd : Nat → Nat) (bl sp : Nat) (c kv wv : Nat → Int32) (i : Nat) (r : Int32 × Int32 × Int32 × Int32 × Int32 × Int32 × Int32 × Int64 × Int32 × Int32 × (Nat → Int32) × (Nat → Int32) × (Nat → Int32)) : Prop :=
  r.2.2.2.1 = gB kd wd bl c i ∧ r.2.2.2.2.2.2.1 = b2 (sFo kd bl c (i / 27) (i / 3 % 9 + 1) (i % 3)) ∧ TW bl r.2.2.2.2.2.2.2.1 (sC kd bl sp c (i / 27) (i / 3 % 9 + 1) (i % 3)) ∧ r.2.2.2.2.2.2.2.2.1 = nI bl ∧ r.2.2.2.2.2.2.2.2.2.1 = nI sp ∧ r.2.2.2.2.2.2.2.2.2.2.1 = sC kd bl sp c (i / 27) (i / 3 % 9 + 1) (i % 3) ∧ r.2.2.2.2.2.2.2.2.2.2.2.1 = kv ∧ r.2.2.2.2.2.2.2.2.2.2.2.2 = wv
theorem try_ok {bl sp : Nat} {kd wd : Nat → Nat} {kv wv : Nat → Int32} (hF : TF bl sp kd wd kv wv) {tk : Int64} {c : Nat → Int32} (hT : TW bl tk c) {n : Nat} (hn : 100 ≤ n) {i : Nat} (hi : i < 216) {m0 b0 p0 br0 h0 hp0 fo0 sz sq : Int32} {t0 : Int64} {v1 v2 v3 : Nat → Int32} :
    ∃ r, f_X0_tryStroke n m0 b0 p0 br0 h0 hp0 fo0 t0 sz sq v1 v2 v3 tk (nI bl) (nI sp) c kv wv (nI i) = some r ∧ TrR kd wd bl sp c kv wv i r := by
  have ht := t_num i hi
  unfold f_X0_tryStroke
  simp only [f_X9_begin, f_X10_copy, Option.bind_some, f_X0_directionOf, f_X0_strengthOf, f_X0_spinOf, ht.1, ht.2.1, ht.2.2.1]
  refine bind_r (shoot_r hF hT ht.2.2.2 (by omega) (by omega) hn) (fun r hr => ?_)
  obtain ⟨g1, g2, g3, g4, g5, g6, g7⟩ := hr
  exact ⟨_, rfl, g4, g5, g7, rfl, rfl, g6, rfl, rfl⟩
theorem le_nlt {x y : Int32} : (x ≤ y) ↔ ¬ (y < x) := Int32.not_lt.symm
theorem ch_step {g : Nat → Option Int32} {lt : Int32 → Int32 → Bool} {i : Nat} {y ch va : Int32} (hi : i < 216) (hg : g i = some y) (hR : RC (chF g lt i) ch va) : ∃ ch' va', RC (chF g lt (i + 1)) ch' va' ∧ ((ch = -1 ∨ lt va y = true) → ch' = nI i ∧ va' = y) ∧ (¬ (ch = -1 ∨ lt va y = true) → ch' = ch ∧ va' = va) := by
  unfold chF
  rw [hg]
  cases ho : chF g lt i with
  | none =>
    rw [ho] at hR
    exact ⟨nI i, y, ⟨hi, rfl, rfl⟩, fun _ => ⟨rfl, rfl⟩, fun h => absurd (Or.inl hR) h⟩
  | some p =>
    obtain ⟨m, x⟩ := p
    rw [ho] at hR
    obtain ⟨hm, h1, h2⟩ := hR
    subst h2
    have hn : ¬ ch = -1 := by rw [h1]; exact nI_m1' (by omega)
    by_cases hl : lt va y = true
    · refine ⟨nI i, y, ?_, fun _ => ⟨rfl, rfl⟩, fun h => absurd (Or.inr hl) h⟩
      simp only [hl, if_true]
      exact ⟨hi, rfl, rfl⟩
    · refine ⟨ch, va, ?_, fun h => absurd h (by simp [hn, hl]), fun _ => ⟨rfl, rfl⟩⟩
      simp only [hl]
      exact ⟨hm, h1, rfl⟩
theorem chooseBest_ok {bl sp : Nat} {kd wd : Nat → Nat} {kv wv : Nat → Int32} (hF : TF bl sp kd wd kv wv) {tk : Int64} {c : Nat → Int32} (hT : TW bl tk c) {M : Nat} (hM : M = 216) {n : Nat} (hn : 1000 ≤ n) {ch va m0 b0 p0 br0 h0 hp0 fo0 sz sq : Int32} {t0 : Int64} {v1 v2 v3 : Nat → Int32} :
    ∃ r, f_X0_chooseBest n ch va m0 b0 p0 br0 h0 hp0 fo0 t0 sz sq v1 v2 v3 tk (nI bl) (nI sp) c kv wv = some r ∧ RC (chF (fun i => some (gB kd wd bl c i)) gtI M) r.1 r.2.1 := by
  unfold f_X0_chooseBest f_X0_chooseBest_L7
  refine lp_r (fun j s => ∃ i, j + i = M ∧ s.1 = nI i ∧ RC (chF (fun i => some (gB kd wd bl c i)) gtI i) s.2.1 s.2.2.1) M ⟨0, by omega, nI_0.symm, rfl⟩ (by omega) ?_ ?_
  · rintro g ⟨x, ch, va, r⟩ ⟨i, hi, hx, hR⟩
    have hi : i = M := by omega
    subst hi
    dsimp only at hx hR ⊢
    unfold b_X0_chooseBest_L7
    rw [hx, if_pos (show (216 : Int32) ≤ nI i by rw [hM]; decide)]
    refine ⟨_, rfl, ?_⟩
    exact hR
  · rintro g j ⟨x, ch, va, r⟩ ⟨i, hi, hx, hR⟩
    left
    dsimp only at hx hR ⊢
    unfold b_X0_chooseBest_L7
    rw [hx, if_neg (show ¬ (216 : Int32) ≤ nI i from nI_ge (b := 216) (by omega) (by decide))]
    refine bind_l (try_ok hF hT (by omega) (by omega)) (fun r1 hr1 => ?_)
    obtain ⟨ch', va', hR', hA, hB⟩ := ch_step (g := fun i => some (gB kd wd bl c i)) (lt := gtI) (show i < 216 by omega) rfl hR
    simp only [jn, bnd, nI_1, f_X0_choose, Option.bind_some, hr1.1]
    by_cases h1 : ch = -1
    · rw [if_pos h1]
      obtain ⟨e1, e2⟩ := hA (Or.inl h1)
      subst e1; subst e2
      refine ⟨_, ?_, rfl⟩
      exact ⟨i + 1, by omega, rfl, hR'⟩
    · rw [if_neg h1]
      by_cases h2 : gB kd wd bl c i ≤ va
      · rw [if_pos h2]
        obtain ⟨e1, e2⟩ := hB (fun z => z.elim h1 (fun z => by simp only [gtI, decide_eq_true_eq] at z; exact le_nlt.mp h2 z))
        subst e1; subst e2
        refine ⟨_, ?_, rfl⟩
        exact ⟨i + 1, by omega, rfl, hR'⟩
      · rw [if_neg h2]
        obtain ⟨e1, e2⟩ := hA (Or.inr (by simp only [gtI, decide_eq_true_eq]; exact Int32.not_le.mp h2))
        subst e1; subst e2
        refine ⟨_, ?_, rfl⟩
        exact ⟨i + 1, by omega, rfl, hR'⟩
end
section
/-! the reference's codes of strokes -/
def nb (q : Nat) : Nat := 27 * (q / 100) + (if q / 10 % 10 = 0 then 0 else 3 * (q / 10 % 10 - 1) + Nat.min (q % 10) 3)
def cof (m : Nat) : Nat := 100 * (m / 27) + 10 * (m / 3 % 9 + 1) + m % 3
def vC (q : Nat) : Bool := !decide (q / 10 % 10 = 0) && decide (q % 10 < 3)
theorem t_code : ∀ q, q < 800 → f_X12_isStroke (nI q / 100) ((nI q / 10) - (nI q / 10) / 10 * 10) (nI q - nI q / 10 * 10) = some (b2 (vC q)) ∧ (if vC q = true then (nI q / 100 = nI (nb q / 27) ∧ (nI q / 10) - (nI q / 10) / 10 * 10 = nI (nb q / 3 % 9 + 1) ∧ nI q - nI q / 10 * 10 = nI (nb q % 3) ∧ cof (nb q) = q ∧ nb q < 216 ∧ nb (q + 1) = nb q + 1) else nb (q + 1) = nb q) := by decide +kernel
theorem t_cof : ∀ m, m < 216 → nI (cof m) / 100 = nI (m / 27) ∧ (nI (cof m) / 10) - (nI (cof m) / 10) / 10 * 10 = nI (m / 3 % 9 + 1) ∧ nI (cof m) - nI (cof m) / 10 * 10 = nI (m % 3) ∧ ¬ nI (cof m) = -1 := by decide +kernel
def RM (Z : Int32 → Prop) (z : Int32) (o : Option (Nat × Int32)) (co br : Int32) : Prop := match o with
  | none => br = z ∧ Z co
  | some (m, x) => m < 216 ∧ co = nI (cof m) ∧ br = x
theorem rm_step {g : Nat → Option Int32} {lt : Int32 → Int32 → Bool} {Z : Int32 → Prop} {z : Int32} {i : Nat} {y co br : Int32} (hi : i < 216) (hg : g i = some y) (hz : lt z y = true) (hR : RM Z z (chF g lt i) co br) : ∃ co' br', RM Z z (chF g lt (i + 1)) co' br' ∧ (lt br y = true → co' = nI (cof i) ∧ br' = y) ∧ (¬ lt br y = true → co' = co ∧ br' = br) := by
  unfold chF
  rw [hg]
  cases ho : chF g lt i with
  | none =>
    rw [ho] at hR
    refine ⟨nI (cof i), y, ⟨hi, rfl, rfl⟩, fun _ => ⟨rfl, rfl⟩, fun h => absurd ?_ h⟩
    rw [hR.1]; exact hz
  | some p =>
    obtain ⟨m, x⟩ := p
    rw [ho] at hR
    obtain ⟨hm, h1, h2⟩ := hR
    subst h2
    by_cases hl : lt br y = true
    · refine ⟨nI (cof i), y, ?_, fun _ => ⟨rfl, rfl⟩, fun h => absurd hl h⟩
      simp only [hl, if_true]
      exact ⟨hi, rfl, rfl⟩
    · refine ⟨co, br, ?_, fun h => absurd h hl, fun _ => ⟨rfl, rfl⟩⟩
      simp only [hl]
      exact ⟨hm, h1, rfl⟩
def TV (o : Option (Nat × Int32)) (p : Int32) : Int32 := match o with
  | none => -1
  | some (m, x) => if p = 0 then x + 100 else if p = 1 then nI (m / 27) else if p = 2 then nI (m / 3 % 9 + 1) else nI (m % 3)
theorem tell_ok {o : Option (Nat × Int32)} {ch va p : Int32} (hR : RC o ch va) : f_X0_tell ch va p = some (TV o p) := by
  unfold f_X0_tell
  cases o with
  | none => rw [if_pos (show ch = -1 from hR)]; rfl
  | some q =>
    obtain ⟨m, x⟩ := q
    obtain ⟨hm, h1, h2⟩ := hR
    have ht := t_num m hm
    rw [if_neg (by rw [h1]; exact nI_m1' (by omega))]
    subst h1; subst h2
    simp only [f_X0_directionOf, f_X0_strengthOf, f_X0_spinOf, Option.bind_some, ht.1, ht.2.1, ht.2.2.1, TV]
    split
    · rfl
    · split
      · rfl
      · split <;> rfl
theorem tellc_ok {Z : Int32 → Prop} {z : Int32} {m : Nat} {x co br p : Int32} (hR : RM Z z (some (m, x)) co br) (hp : ¬ p = 0) : f_X12_tellCode co p = some (TV (some (m, x)) p) := by
  obtain ⟨hm, h1, h2⟩ := hR
  have ht := t_cof m hm
  unfold f_X12_tellCode
  rw [h1]
  simp only [ht.1, ht.2.1, ht.2.2.1, TV, if_neg hp]
  split
  · rfl
  · split <;> rfl
theorem ch_some {f : Nat → Int32} {lt : Int32 → Int32 → Bool} : ∀ i, 0 < i → ∃ p, chF (fun i => some (f i)) lt i = some p := by
  intro i hi
  obtain ⟨i, rfl⟩ : ∃ j, i = j + 1 := ⟨i - 1, by omega⟩
  unfold chF
  cases chF (fun i => some (f i)) lt i with
  | none => exact ⟨_, rfl⟩
  | some p =>
    obtain ⟨m, x⟩ := p
    dsimp only
    split <;> exact ⟨_, rfl⟩
/-- what a stroke brings: bounds -/
theorem sBr_bd {bl sp : Nat} {kd wd : Nat → Nat} {kv wv : Nat → Int32} (hF : TF bl sp kd wd kv wv) (c : Nat → Int32) (w st s : Nat) : -4 ≤ (sBr kd wd bl c w st s).toInt ∧ (sBr kd wd bl c w st s).toInt ≤ 42 := by
  obtain ⟨h1, h6, -, -, -, hW⟩ := hF
  have h := wS_le (po := sPo kd bl c w st s) (wd := wd) bl (fun d hd => (hW d (by omega)).1)
  have key : ∀ m, m < 43 → (-4 ≤ (nI m - 4).toInt ∧ (nI m - 4).toInt ≤ 42) ∧ (-4 ≤ (nI m - 0).toInt ∧ (nI m - 0).toInt ≤ 42) := by decide +kernel
  have hk := key (wS (sPo kd bl c w st s) wd bl) (by omega)
  unfold sBr
  cases sFo kd bl c w st s
  · exact hk.2
  · exact hk.1
theorem lt_of_bd {x y : Int32} (h : x.toInt < y.toInt) : x < y := Int32.lt_iff_toInt_lt.mpr h
theorem bestOf_ok {bl sp : Nat} {kd wd : Nat → Nat} {kv wv : Nat → Int32} (hF : TF bl sp kd wd kv wv) {tk : Int64} {c : Nat → Int32} (hT : TW bl tk c) {M : Nat} (hM : M = 216) {n : Nat} (hn : 1000 ≤ n) {mk mw mc mo : Nat → Int32} (hMF : MF bl kv wv mk mw) (hv : ∀ d, d ≤ bl → mc d = c d) {a1 a2 a3 a4 a5 a6 a7 a8 a9 a10 : Int32} (p : Int32) :
    ∃ r, f_X12_bestOf n (nI bl) (nI sp) a1 a2 a3 a4 a5 a6 a7 a8 a9 a10 mk mw mc mo p = some r ∧ r.1 = TV (chF (fun i => some (gB kd wd bl c i)) gtI M) p := by
  unfold f_X12_bestOf f_X12_bestOf_L8
  simp only [jn]
  refine lp_r (fun j s => ∃ q, j + q = 800 ∧ s.1 = nI q ∧ RM (fun _ => True) (-99) (chF (fun i => some (gB kd wd bl c i)) gtI (nb q)) s.2.2.2.2.2.2.2.2.2.1 s.2.2.2.2.2.2.2.2.2.2.1) 800 ⟨0, by omega, nI_0.symm, ⟨rfl, trivial⟩⟩ (by omega) ?_ ?_
  · rintro g ⟨x, s1, s2, s3, s4, s5, s6, s7, s8, co, br, v⟩ ⟨q, hq, hx, hR⟩
    dsimp only at hx hR ⊢
    have hq : q = 800 := by omega
    have hnb : nb q = M := by rw [hq, hM]; decide
    rw [hnb] at hR
    unfold b_X12_bestOf_L8
    rw [hx, if_pos (show (800 : Int32) ≤ nI q by rw [hq]; decide)]
    obtain ⟨⟨m, x⟩, ho⟩ := ch_some (f := fun i => gB kd wd bl c i) (lt := gtI) M (by omega)
    rw [ho] at hR ⊢
    dsimp only
    by_cases hp : p = 0
    · rw [if_pos hp]
      refine ⟨_, rfl, ?_⟩
      dsimp only
      rw [hR.2.2, TV, if_pos hp]
    · rw [if_neg hp, tellc_ok hR hp]
      exact ⟨_, rfl, rfl⟩
  · rintro g j ⟨x, s1, s2, s3, s4, s5, s6, s7, s8, co, br, v⟩ ⟨q, hq, hx, hR⟩
    left
    dsimp only at hx hR ⊢
    have ht := t_code q (by omega)
    unfold b_X12_bestOf_L8
    rw [hx, if_neg (show ¬ (800 : Int32) ≤ nI q from nI_ge (b := 800) (by omega) (by decide)), ht.1, Option.bind_some]
    simp only [jn, bnd, nI_1]
    cases hvq : vC q
    · rw [hvq, if_neg (by decide)] at ht
      rw [if_pos b2_f]
      refine ⟨_, ?_, rfl⟩
      exact ⟨q + 1, by omega, rfl, by rw [ht.2]; exact hR⟩
    · rw [hvq, if_pos rfl] at ht
      obtain ⟨-, e1, e2, e3, e4, e5, e6⟩ := ht
      rw [if_neg (by rw [b2_t]; decide), e1, e2, e3]
      refine bind_l (copy_ok (by decide) (by omega) _ _) (fun w hw => ?_)
      refine bind_l (strike_r hF hT (by omega) (by omega) (by omega) (by omega) hMF (fun d hd => (hw d (by have := hF.2.1; omega)).trans (hv d hd))) (fun r hr => ?_)
      rw [hr.1]
      have hb := sBr_bd hF c (nb q / 27) (nb q / 3 % 9 + 1) (nb q % 3)
      obtain ⟨co', br', hR', hA, hB⟩ := rm_step (g := fun i => some (gB kd wd bl c i)) (lt := gtI) e5 rfl (by
        simp only [gtI, decide_eq_true_eq]
        exact lt_of_bd (by
          have h9 : (-99 : Int32).toInt = -99 := by decide
          unfold gB
          omega)) hR
      rw [← e6] at hR'
      by_cases h2 : sBr kd wd bl c (nb q / 27) (nb q / 3 % 9 + 1) (nb q % 3) ≤ br
      · rw [if_pos h2, if_pos h2]
        obtain ⟨f1, f2⟩ := hB (fun z => by simp only [gtI, decide_eq_true_eq] at z; exact le_nlt.mp h2 z)
        subst f1; subst f2
        refine ⟨_, ?_, rfl⟩
        exact ⟨q + 1, by omega, rfl, hR'⟩
      · rw [if_neg h2, if_neg h2]
        obtain ⟨f1, f2⟩ := hA (by simp only [gtI, decide_eq_true_eq]; exact Int32.not_le.mp h2)
        rw [e4] at f1
        subst f1; subst f2
        refine ⟨_, ?_, rfl⟩
        exact ⟨q + 1, by omega, rfl, hR'⟩
end
section
/-! the best reply -/
theorem lp_l {α β γ : Type} {step : (α → Option β) → α → Option β} {k : Nat} {a : α} {G : γ → Option β} {R : γ → Prop} (P : Nat → α → Prop) (j : Nat) (hP : P j a) (hk : j < k)
    (h0 : ∀ (g : α → Option β) (a : α), P 0 a → ∃ y, R y ∧ step g a = G y)
    (hs : ∀ (g : α → Option β) (j : Nat) (a : α), P (j + 1) a → (∃ a', P j a' ∧ step g a = g a') ∨ ∃ y, R y ∧ step g a = G y) : ∃ y, R y ∧ lpF step k a = G y :=
  lp_run P (fun o => ∃ y, R y ∧ o = G y) h0 hs j k a hP hk
def mxF (f : Nat → Int32) (z : Int32) : Nat → Int32
  | 0 => z
  | i + 1 => if f i ≤ mxF f z i then mxF f z i else f i
theorem mx_eq {f : Nat → Int32} {z z' : Int32} (h : ∀ i, z ≤ f i) (h' : ∀ i, z' < f i) : ∀ i, mxF f z (i + 1) = mxF f z' (i + 1)
  | 0 => by
    show (if f 0 ≤ z then z else f 0) = (if f 0 ≤ z' then z' else f 0)
    rw [if_neg (Int32.not_le.mpr (h' 0))]
    by_cases hz : f 0 ≤ z
    · rw [if_pos hz]; exact Int32.le_antisymm (h 0) hz
    · rw [if_neg hz]
  | i + 1 => by
    have ih := mx_eq h h' i
    show (if f (i + 1) ≤ mxF f z (i + 1) then mxF f z (i + 1) else f (i + 1)) = (if f (i + 1) ≤ mxF f z' (i + 1) then mxF f z' (i + 1) else f (i + 1))
    rw [ih]
theorem mx_bd {f : Nat → Int32} {z : Int32} (hf : ∀ i, -4 ≤ (f i).toInt ∧ (f i).toInt ≤ 42) (hz : -4 ≤ z.toInt ∧ z.toInt ≤ 42) : ∀ i, -4 ≤ (mxF f z i).toInt ∧ (mxF f z i).toInt ≤ 42
  | 0 => hz
  | i + 1 => by
    have ih := mx_bd hf hz i
    unfold mxF
    split
    · exact ih
    · exact hf i
def gR (kd wd : Nat → Nat) (bl : Nat) (c : Nat → Int32) (i : Nat) : Int32 := sBr kd wd bl c (i / 3) (3 * (i % 3) + 3) 0
def repP (kd wd : Nat → Nat) (bl : Nat) (c : Nat → Int32) (N : Nat) : Int32 := mxF (gR kd wd bl c) (-4) N
theorem shoot_r0 {bl sp : Nat} {kd wd : Nat → Nat} {kv wv : Nat → Int32} (hF : TF bl sp kd wd kv wv) {tk : Int64} {c : Nat → Int32} (hT : TW bl tk c) {w st n : Nat} (hw : w < 8) (hst : st ≤ 9) (hn : 100 ≤ n) {m0 b0 p0 br0 h0 hp0 fo0 : Int32} :
    ∃ r, f_X9_shoot n m0 b0 p0 br0 h0 hp0 fo0 tk (nI sp) c kv wv (nI w) (nI st) 0 = some r ∧ ShR kd wd bl sp c w st 0 r := shoot_r hF hT hw hst (by decide) hn
theorem strike_r0 {bl sp : Nat} {kd wd : Nat → Nat} {kv wv : Nat → Int32} (hF : TF bl sp kd wd kv wv) {tk : Int64} {c : Nat → Int32} (hT : TW bl tk c) {w st n : Nat} (hw : w < 8) (hst : st ≤ 9) (hn : 100 ≤ n) {mk mw v : Nat → Int32} (hM : MF bl kv wv mk mw) (hv : ∀ d, d ≤ bl → v d = c d) {a1 a2 a3 a4 a5 a6 a7 a8 : Int32} :
    ∃ r, f_X12_strike n (nI bl) (nI sp) a1 a2 a3 a4 a5 a6 a7 a8 mk mw v (nI w) (nI st) 0 = some r ∧ StR kd wd bl sp c w st 0 r := strike_r hF hT hw hst (by decide) hn hM hv
theorem nI_3 : ∀ t, t < 4 → nI (3 * t + 3) + 3 = nI (3 * (t + 1) + 3) := by decide +kernel
theorem gR_at {kd wd : Nat → Nat} {bl : Nat} {c : Nat → Int32} {d t : Nat} (ht : t < 3) : gR kd wd bl c (3 * d + t) = sBr kd wd bl c d (3 * t + 3) 0 := by
  unfold gR
  rw [show (3 * d + t) / 3 = d by omega, show (3 * d + t) % 3 = t by omega]
theorem bestReply_ok {bl sp : Nat} {kd wd : Nat → Nat} {kv wv : Nat → Int32} (hF : TF bl sp kd wd kv wv) {tk : Int64} {c : Nat → Int32} (hT : TW bl tk c) {N : Nat} (hN : N = 24) {n : Nat} (hn : 1000 ≤ n) {sz m0 b0 p0 br0 h0 hp0 fo0 sz1 sq : Int32} {t0 : Int64} {v1 v2 v3 : Nat → Int32} :
    ∃ r, f_X0_bestReply n tk sz (nI sp) c kv wv m0 b0 p0 br0 h0 hp0 fo0 t0 sz1 sq v1 v2 v3 = some r ∧ r.1 = repP kd wd bl c N := by
  unfold f_X0_bestReply f_X0_bestReply_L5
  refine lp_r (fun j s => ∃ i, j + i = 8 ∧ s.2.1 = nI i ∧ s.1 = repP kd wd bl c (3 * i)) 8 ⟨0, by omega, nI_0.symm, rfl⟩ (by omega) ?_ ?_
  · rintro g ⟨x, d, r⟩ ⟨i, hi, hx, hR⟩
    have hi : i = 8 := by omega
    dsimp only at hx hR ⊢
    unfold b_X0_bestReply_L5
    rw [hx, if_pos (show (8 : Int32) ≤ nI i by rw [hi]; decide)]
    refine ⟨_, rfl, ?_⟩
    dsimp only
    rw [hR, hi, hN]
  · rintro g j ⟨x, d, r⟩ ⟨i, hi, hx, hR⟩
    left
    dsimp only at hx hR ⊢
    unfold b_X0_bestReply_L5
    rw [hx, if_neg (show ¬ (8 : Int32) ≤ nI i from nI_ge (b := 8) (by omega) (by decide))]
    simp only [jn, bnd, nI_1]
    unfold f_X0_bestReply_L13
    refine lp_l (fun j s => ∃ t, j + t = 3 ∧ s.2.1 = nI (3 * t + 3) ∧ s.1 = repP kd wd bl c (3 * i + t)) 3 ⟨0, by omega, by show (3 : Int32) = nI (3 * 0 + 3); decide, hR⟩ (by omega) ?_ ?_
    · rintro g2 ⟨x, d, r⟩ ⟨t, ht, hx, hR⟩
      have ht : t = 3 := by omega
      dsimp only at hx hR ⊢
      unfold b_X0_bestReply_L13
      rw [hx, if_pos (show (9 : Int32) < nI (3 * t + 3) by rw [ht]; decide)]
      refine ⟨_, ?_, rfl⟩
      exact ⟨i + 1, by omega, rfl, by rw [ht] at hR; exact hR⟩
    · rintro g2 j2 ⟨x, d, r⟩ ⟨t, ht, hx, hR⟩
      left
      dsimp only at hx hR ⊢
      unfold b_X0_bestReply_L13
      rw [hx, if_neg (show ¬ (9 : Int32) < nI (3 * t + 3) from nI_nlt (a := 9) (by omega) (by decide))]
      simp only [f_X9_begin, f_X10_copy, Option.bind_some]
      refine bind_l (shoot_r0 hF hT (by omega) (by omega) (by omega)) (fun r1 hr1 => ?_)
      simp only [jn, bnd, hr1.2.2.2.1, nI_3 t (by omega)]
      have e : repP kd wd bl c (3 * i + (t + 1)) = if sBr kd wd bl c i (3 * t + 3) 0 ≤ repP kd wd bl c (3 * i + t) then repP kd wd bl c (3 * i + t) else sBr kd wd bl c i (3 * t + 3) 0 := by
        rw [← gR_at (d := i) (show t < 3 by omega)]; rfl
      rw [hR]
      by_cases h : sBr kd wd bl c i (3 * t + 3) 0 ≤ repP kd wd bl c (3 * i + t)
      · rw [if_pos h] at e ⊢
        refine ⟨_, ?_, rfl⟩
        exact ⟨t + 1, by omega, rfl, e.symm⟩
      · rw [if_neg h] at e ⊢
        refine ⟨_, ?_, rfl⟩
        exact ⟨t + 1, by omega, rfl, e.symm⟩
theorem replyOf_ok {bl sp : Nat} {kd wd : Nat → Nat} {kv wv : Nat → Int32} (hF : TF bl sp kd wd kv wv) {tk : Int64} {c : Nat → Int32} (hT : TW bl tk c) {N : Nat} (hN : N = 24) {n : Nat} (hn : 1000 ≤ n) {mk mw mt v : Nat → Int32} (hMF : MF bl kv wv mk mw) (hv : ∀ d, d ≤ bl → v d = c d) {a1 a2 a3 a4 a5 a6 a7 a8 : Int32} :
    ∃ r, f_X12_replyOf n (nI bl) (nI sp) a1 a2 a3 a4 a5 a6 a7 a8 mk mw mt v = some r ∧ r.1 = repP kd wd bl c N := by
  have hlo : ∀ i, (-4 : Int32) ≤ gR kd wd bl c i := fun i => Int32.le_iff_toInt_le.mpr (by
    have h4 : (-4 : Int32).toInt = -4 := by decide
    have := sBr_bd hF c (i / 3) (3 * (i % 3) + 3) 0
    unfold gR; omega)
  have hlt : ∀ i, (-99 : Int32) < gR kd wd bl c i := fun i => lt_of_bd (by
    have h4 : (-99 : Int32).toInt = -99 := by decide
    have := sBr_bd hF c (i / 3) (3 * (i % 3) + 3) 0
    unfold gR; omega)
  unfold f_X12_replyOf f_X12_replyOf_L5
  refine lp_r (fun j s => ∃ i, j + i = 8 ∧ s.2.1 = nI i ∧ s.1 = mxF (gR kd wd bl c) (-99) (3 * i)) 8 ⟨0, by omega, nI_0.symm, rfl⟩ (by omega) ?_ ?_
  · rintro g ⟨x, d, r⟩ ⟨i, hi, hx, hR⟩
    have hi : i = 8 := by omega
    dsimp only at hx hR ⊢
    unfold b_X12_replyOf_L5
    rw [hx, if_pos (show (8 : Int32) ≤ nI i by rw [hi]; decide)]
    refine ⟨_, rfl, ?_⟩
    dsimp only
    have h := mx_eq hlo hlt (3 * i - 1)
    rw [show 3 * i - 1 + 1 = N by omega] at h
    rw [hR, show 3 * i = N by omega, ← h]
    rfl
  · rintro g j ⟨x, d, r⟩ ⟨i, hi, hx, hR⟩
    left
    dsimp only at hx hR ⊢
    unfold b_X12_replyOf_L5
    rw [hx, if_neg (show ¬ (8 : Int32) ≤ nI i from nI_ge (b := 8) (by omega) (by decide))]
    simp only [jn, bnd, nI_1]
    unfold f_X12_replyOf_L14
    refine lp_l (fun j s => ∃ t, j + t = 3 ∧ s.2.1 = nI (3 * t + 3) ∧ s.1 = mxF (gR kd wd bl c) (-99) (3 * i + t)) 3 ⟨0, by omega, by show (3 : Int32) = nI (3 * 0 + 3); decide, hR⟩ (by omega) ?_ ?_
    · rintro g2 ⟨x, d, r⟩ ⟨t, ht, hx, hR⟩
      have ht : t = 3 := by omega
      dsimp only at hx hR ⊢
      unfold b_X12_replyOf_L14
      rw [hx, if_pos (show (10 : Int32) ≤ nI (3 * t + 3) by rw [ht]; decide)]
      refine ⟨_, ?_, rfl⟩
      exact ⟨i + 1, by omega, rfl, by rw [ht] at hR; exact hR⟩
    · rintro g2 j2 ⟨x, d, r⟩ ⟨t, ht, hx, hR⟩
      left
      dsimp only at hx hR ⊢
      unfold b_X12_replyOf_L14
      rw [hx, if_neg (show ¬ (10 : Int32) ≤ nI (3 * t + 3) from nI_ge (b := 10) (by omega) (by decide))]
      refine bind_l (copy_ok (by decide) (by omega) _ _) (fun w hw => ?_)
      refine bind_l (strike_r0 hF hT (by omega) (by omega) (by omega) hMF (fun d hd => (hw d (by have := hF.2.1; omega)).trans (hv d hd))) (fun r1 hr1 => ?_)
      simp only [jn, bnd, hr1.1, nI_3 t (by omega)]
      have e : mxF (gR kd wd bl c) (-99) (3 * i + (t + 1)) = if sBr kd wd bl c i (3 * t + 3) 0 ≤ mxF (gR kd wd bl c) (-99) (3 * i + t) then mxF (gR kd wd bl c) (-99) (3 * i + t) else sBr kd wd bl c i (3 * t + 3) 0 := by
        rw [← gR_at (d := i) (show t < 3 by omega)]; rfl
      rw [hR]
      by_cases h : sBr kd wd bl c i (3 * t + 3) 0 ≤ mxF (gR kd wd bl c) (-99) (3 * i + t)
      · rw [if_pos h] at e ⊢
        refine ⟨_, ?_, rfl⟩
        exact ⟨t + 1, by omega, rfl, e.symm⟩
      · rw [if_neg h] at e ⊢
        refine ⟨_, ?_, rfl⟩
        exact ⟨t + 1, by omega, rfl, e.symm⟩
end
section
/-! the plan -/
def gP (kd wd : Nat → Nat) (bl sp : Nat) (c : Nat → Int32) (N i : Nat) : Int32 := gB kd wd bl c i + repP kd wd bl (sC kd bl sp c (i / 27) (i / 3 % 9 + 1) (i % 3)) N
theorem rep_bd {bl sp : Nat} {kd wd : Nat → Nat} {kv wv : Nat → Int32} (hF : TF bl sp kd wd kv wv) (c : Nat → Int32) (N : Nat) : -4 ≤ (repP kd wd bl c N).toInt ∧ (repP kd wd bl c N).toInt ≤ 42 :=
  mx_bd (fun i => sBr_bd hF c (i / 3) (3 * (i % 3) + 3) 0) (by decide) N
theorem add_bd {x y : Int32} (hx : -4 ≤ x.toInt ∧ x.toInt ≤ 42) (hy : -4 ≤ y.toInt ∧ y.toInt ≤ 42) : (x + y).toInt = x.toInt + y.toInt := by
  rw [Int32.toInt_add]
  exact Int.bmod_eq_of_le (by omega) (by omega)
theorem choosePlan_ok {bl sp : Nat} {kd wd : Nat → Nat} {kv wv : Nat → Int32} (hF : TF bl sp kd wd kv wv) {tk : Int64} {c : Nat → Int32} (hT : TW bl tk c) {M N : Nat} (hM : M = 216) (hN : N = 24) {n : Nat} (hn : 1000 ≤ n) {ch va m0 b0 p0 br0 h0 hp0 fo0 sz sq m1 b1 p1 br1 h1 hp1 fo1 sz1 sq1 : Int32} {t0 t1 : Int64} {v1 v2 v3 v4 v5 v6 : Nat → Int32} :
    ∃ r, f_X0_choosePlan n ch va m0 b0 p0 br0 h0 hp0 fo0 t0 sz sq v1 v2 v3 m1 b1 p1 br1 h1 hp1 fo1 t1 sz1 sq1 v4 v5 v6 tk (nI bl) (nI sp) c kv wv = some r ∧ RC (chF (fun i => some (gP kd wd bl sp c N i)) gtI M) r.1 r.2.1 := by
  unfold f_X0_choosePlan f_X0_choosePlan_L7
  refine lp_r (fun j s => ∃ i, j + i = M ∧ s.1 = nI i ∧ RC (chF (fun i => some (gP kd wd bl sp c N i)) gtI i) s.2.1 s.2.2.1) M ⟨0, by omega, nI_0.symm, rfl⟩ (by omega) ?_ ?_
  · rintro g ⟨x, ch, va, r⟩ ⟨i, hi, hx, hR⟩
    have hi : i = M := by omega
    subst hi
    dsimp only at hx hR ⊢
    unfold b_X0_choosePlan_L7
    rw [hx, if_pos (show (216 : Int32) ≤ nI i by rw [hM]; decide)]
    refine ⟨_, rfl, ?_⟩
    exact hR
  · rintro g j ⟨x, ch, va, r⟩ ⟨i, hi, hx, hR⟩
    left
    dsimp only at hx hR ⊢
    unfold b_X0_choosePlan_L7
    rw [hx, if_neg (show ¬ (216 : Int32) ≤ nI i from nI_ge (b := 216) (by omega) (by decide))]
    refine bind_l (try_ok hF hT (by omega) (by omega)) ?_
    rintro ⟨mv, bo, po, br, hd, hp, fo, tk1, sz1, sp1, c1, k1, w1⟩ ⟨g1, g2, g3, g4, g5, g6, g7, g8⟩
    dsimp only at g1 g2 g3 g4 g5 g6 g7 g8 ⊢
    subst g1; subst g5; subst g6; subst g7; subst g8
    refine bind_l (bestReply_ok hF g3 hN hn) (fun r2 hr2 => ?_)
    obtain ⟨ch', va', hR', hA, hB⟩ := ch_step (g := fun i => some (gP kd wd bl sp c N i)) (lt := gtI) (show i < 216 by omega) rfl hR
    simp only [jn, bnd, nI_1, f_X0_choose, Option.bind_some, hr2]
    change _ → (ch' = nI i ∧ va' = gB kd wd bl c i + repP kd wd bl (sC kd bl sp c (i / 27) (i / 3 % 9 + 1) (i % 3)) N) at hA
    change (ch = -1 ∨ gtI va (gB kd wd bl c i + repP kd wd bl (sC kd bl sp c (i / 27) (i / 3 % 9 + 1) (i % 3)) N) = true) → _ at hA
    change ¬ (ch = -1 ∨ gtI va (gB kd wd bl c i + repP kd wd bl (sC kd bl sp c (i / 27) (i / 3 % 9 + 1) (i % 3)) N) = true) → _ at hB
    by_cases h1 : ch = -1
    · rw [if_pos h1]
      obtain ⟨e1, e2⟩ := hA (Or.inl h1)
      subst e1; subst e2
      refine ⟨_, ?_, rfl⟩
      exact ⟨i + 1, by omega, rfl, hR'⟩
    · rw [if_neg h1]
      by_cases h2 : gB kd wd bl c i + repP kd wd bl (sC kd bl sp c (i / 27) (i / 3 % 9 + 1) (i % 3)) N ≤ va
      · rw [if_pos h2]
        obtain ⟨e1, e2⟩ := hB (fun z => z.elim h1 (fun z => by simp only [gtI, decide_eq_true_eq] at z; exact le_nlt.mp h2 z))
        subst e1; subst e2
        refine ⟨_, ?_, rfl⟩
        exact ⟨i + 1, by omega, rfl, hR'⟩
      · rw [if_neg h2]
        obtain ⟨e1, e2⟩ := hA (Or.inr (by simp only [gtI, decide_eq_true_eq]; exact Int32.not_le.mp h2))
        subst e1; subst e2
        refine ⟨_, ?_, rfl⟩
        exact ⟨i + 1, by omega, rfl, hR'⟩
theorem planOf_ok {bl sp : Nat} {kd wd : Nat → Nat} {kv wv : Nat → Int32} (hF : TF bl sp kd wd kv wv) {tk : Int64} {c : Nat → Int32} (hT : TW bl tk c) {M N : Nat} (hM : M = 216) (hN : N = 24) {n : Nat} (hn : 1000 ≤ n) {mk mw mc mo mt : Nat → Int32} (hMF : MF bl kv wv mk mw) (hv : ∀ d, d ≤ bl → mc d = c d) {a1 a2 a3 a4 a5 a6 a7 a8 a9 a10 : Int32} (p : Int32) :
    ∃ r, f_X12_planOf n (nI bl) (nI sp) a1 a2 a3 a4 a5 a6 a7 a8 a9 a10 mk mw mc mo mt p = some r ∧ r.1 = TV (chF (fun i => some (gP kd wd bl sp c N i)) gtI M) p := by
  unfold f_X12_planOf f_X12_planOf_L8
  simp only [jn]
  refine lp_r (fun j s => ∃ q, j + q = 800 ∧ s.1 = nI q ∧ RM (fun _ => True) (-99) (chF (fun i => some (gP kd wd bl sp c N i)) gtI (nb q)) s.2.2.2.2.2.2.2.2.2.1 s.2.2.2.2.2.2.2.2.2.2.1) 800 ⟨0, by omega, nI_0.symm, ⟨rfl, trivial⟩⟩ (by omega) ?_ ?_
  · rintro g ⟨x, s1, s2, s3, s4, s5, s6, s7, s8, co, br, v⟩ ⟨q, hq, hx, hR⟩
    dsimp only at hx hR ⊢
    have hq : q = 800 := by omega
    have hnb : nb q = M := by rw [hq, hM]; decide
    rw [hnb] at hR
    unfold b_X12_planOf_L8
    rw [hx, if_pos (show (800 : Int32) ≤ nI q by rw [hq]; decide)]
    obtain ⟨⟨m, x⟩, ho⟩ := ch_some (f := fun i => gP kd wd bl sp c N i) (lt := gtI) M (by omega)
    rw [ho] at hR ⊢
    dsimp only
    by_cases hp : p = 0
    · rw [if_pos hp]
      refine ⟨_, rfl, ?_⟩
      dsimp only
      rw [hR.2.2, TV, if_pos hp]
    · rw [if_neg hp, tellc_ok hR hp]
      exact ⟨_, rfl, rfl⟩
  · rintro g j ⟨x, s1, s2, s3, s4, s5, s6, s7, s8, co, br, v, v'⟩ ⟨q, hq, hx, hR⟩
    left
    dsimp only at hx hR ⊢
    have ht := t_code q (by omega)
    unfold b_X12_planOf_L8
    rw [hx, if_neg (show ¬ (800 : Int32) ≤ nI q from nI_ge (b := 800) (by omega) (by decide)), ht.1, Option.bind_some]
    simp only [jn, bnd, nI_1]
    cases hvq : vC q
    · rw [hvq, if_neg (by decide)] at ht
      rw [if_pos b2_f]
      refine ⟨_, ?_, rfl⟩
      exact ⟨q + 1, by omega, rfl, by rw [ht.2]; exact hR⟩
    · rw [hvq, if_pos rfl] at ht
      obtain ⟨-, e1, e2, e3, e4, e5, e6⟩ := ht
      rw [if_neg (by rw [b2_t]; decide), e1, e2, e3]
      refine bind_l (copy_ok (by decide) (by omega) _ _) (fun w hw => ?_)
      refine bind_l (strike_r hF hT (by omega) (by omega) (by omega) (by omega) hMF (fun d hd => (hw d (by have := hF.2.1; omega)).trans (hv d hd))) (fun r hr => ?_)
      obtain ⟨tk1, hT1⟩ := shoot_TW hF hT (w := nb q / 27) (st := nb q / 3 % 9 + 1) (s := nb q % 3) (by omega) (by omega) (by omega)
      refine bind_l (replyOf_ok hF hT1 hN hn hMF hr.2.2.2.2.2) (fun r2 hr2 => ?_)
      rw [hr.1, hr2]
      have hb := add_bd (sBr_bd hF c (nb q / 27) (nb q / 3 % 9 + 1) (nb q % 3)) (rep_bd hF (sC kd bl sp c (nb q / 27) (nb q / 3 % 9 + 1) (nb q % 3)) N)
      have hb1 := sBr_bd hF c (nb q / 27) (nb q / 3 % 9 + 1) (nb q % 3)
      have hb2 := rep_bd hF (sC kd bl sp c (nb q / 27) (nb q / 3 % 9 + 1) (nb q % 3)) N
      obtain ⟨co', br', hR', hA, hB⟩ := rm_step (g := fun i => some (gP kd wd bl sp c N i)) (lt := gtI) e5 rfl (by
        simp only [gtI, decide_eq_true_eq]
        exact lt_of_bd (by
          have h9 : (-99 : Int32).toInt = -99 := by decide
          unfold gP gB
          omega)) hR
      rw [← e6] at hR'
      by_cases h2 : sBr kd wd bl c (nb q / 27) (nb q / 3 % 9 + 1) (nb q % 3) + repP kd wd bl (sC kd bl sp c (nb q / 27) (nb q / 3 % 9 + 1) (nb q % 3)) N ≤ br
      · rw [if_pos h2, if_pos h2]
        obtain ⟨f1, f2⟩ := hB (fun z => by simp only [gtI, decide_eq_true_eq] at z; exact le_nlt.mp h2 z)
        subst f1; subst f2
        refine ⟨_, ?_, rfl⟩
        exact ⟨q + 1, by omega, rfl, hR'⟩
      · rw [if_neg h2, if_neg h2]
        obtain ⟨f1, f2⟩ := hA (by simp only [gtI, decide_eq_true_eq]; exact Int32.not_le.mp h2)
        rw [e4] at f1
        subst f1; subst f2
        refine ⟨_, ?_, rfl⟩
        exact ⟨q + 1, by omega, rfl, hR'⟩
end
section
/-! the safe stroke -/
def gS (kd wd : Nat → Nat) (bl sp : Nat) (c : Nat → Int32) (N i : Nat) : Option Int32 := if sFo kd bl c (i / 27) (i / 3 % 9 + 1) (i % 3) = true then none else some (repP kd wd bl (sC kd bl sp c (i / 27) (i / 3 % 9 + 1) (i % 3)) N)
def ltI (x y : Int32) : Bool := decide (y < x)
theorem ch_skip {g : Nat → Option Int32} {lt : Int32 → Int32 → Bool} {i : Nat} (hg : g i = none) : chF g lt (i + 1) = chF g lt i := by
  rw [chF, hg]
theorem chooseSafe_ok {bl sp : Nat} {kd wd : Nat → Nat} {kv wv : Nat → Int32} (hF : TF bl sp kd wd kv wv) {tk : Int64} {c : Nat → Int32} (hT : TW bl tk c) {M N : Nat} (hM : M = 216) (hN : N = 24) {n : Nat} (hn : 1000 ≤ n) {ch va m0 b0 p0 br0 h0 hp0 fo0 sz sq m1 b1 p1 br1 h1 hp1 fo1 sz1 sq1 : Int32} {t0 t1 : Int64} {v1 v2 v3 v4 v5 v6 : Nat → Int32} :
    ∃ r, f_X0_chooseSafe n ch va m0 b0 p0 br0 h0 hp0 fo0 t0 sz sq v1 v2 v3 m1 b1 p1 br1 h1 hp1 fo1 t1 sz1 sq1 v4 v5 v6 tk (nI bl) (nI sp) c kv wv = some r ∧ RC (chF (gS kd wd bl sp c N) ltI M) r.1 r.2.1 := by
  unfold f_X0_chooseSafe f_X0_chooseSafe_L7
  refine lp_r (fun j s => ∃ i, j + i = M ∧ s.1 = nI i ∧ RC (chF (gS kd wd bl sp c N) ltI i) s.2.1 s.2.2.1) M ⟨0, by omega, nI_0.symm, rfl⟩ (by omega) ?_ ?_
  · rintro g ⟨x, ch, va, r⟩ ⟨i, hi, hx, hR⟩
    have hi : i = M := by omega
    subst hi
    dsimp only at hx hR ⊢
    unfold b_X0_chooseSafe_L7
    rw [hx, if_pos (show (216 : Int32) ≤ nI i by rw [hM]; decide)]
    refine ⟨_, rfl, ?_⟩
    exact hR
  · rintro g j ⟨x, ch, va, r⟩ ⟨i, hi, hx, hR⟩
    left
    dsimp only at hx hR ⊢
    unfold b_X0_chooseSafe_L7
    rw [hx, if_neg (show ¬ (216 : Int32) ≤ nI i from nI_ge (b := 216) (by omega) (by decide))]
    refine bind_l (try_ok hF hT (by omega) (by omega)) ?_
    rintro ⟨mv, bo, po, br, hd, hp, fo, tk1, sz1, sp1, c1, k1, w1⟩ ⟨g1, g2, g3, g4, g5, g6, g7, g8⟩
    dsimp only at g1 g2 g3 g4 g5 g6 g7 g8 ⊢
    subst g1; subst g2; subst g5; subst g6; subst g7; subst g8
    simp only [jn, bnd, nI_1, f_X0_choose, Option.bind_some]
    cases hfo : sFo kd bl c (i / 27) (i / 3 % 9 + 1) (i % 3)
    · rw [if_pos b2_f]
      refine bind_l (bestReply_ok hF g3 hN hn) (fun r2 hr2 => ?_)
      obtain ⟨ch', va', hR', hA, hB⟩ := ch_step (g := gS kd wd bl sp c N) (lt := ltI) (y := repP kd wd bl (sC kd bl sp c (i / 27) (i / 3 % 9 + 1) (i % 3)) N) (show i < 216 by omega) (by rw [gS, hfo, if_neg (by decide)]) hR
      rw [hr2]
      by_cases h1 : ch = -1
      · rw [if_pos h1]
        obtain ⟨e1, e2⟩ := hA (Or.inl h1)
        subst e1; subst e2
        refine ⟨_, ?_, rfl⟩
        exact ⟨i + 1, by omega, rfl, hR'⟩
      · rw [if_neg h1]
        by_cases h2 : va ≤ repP kd wd bl (sC kd bl sp c (i / 27) (i / 3 % 9 + 1) (i % 3)) N
        · rw [if_pos h2]
          obtain ⟨e1, e2⟩ := hB (fun z => z.elim h1 (fun z => by simp only [ltI, decide_eq_true_eq] at z; exact le_nlt.mp h2 z))
          subst e1; subst e2
          refine ⟨_, ?_, rfl⟩
          exact ⟨i + 1, by omega, rfl, hR'⟩
        · rw [if_neg h2]
          obtain ⟨e1, e2⟩ := hA (Or.inr (by simp only [ltI, decide_eq_true_eq]; exact Int32.not_le.mp h2))
          subst e1; subst e2
          refine ⟨_, ?_, rfl⟩
          exact ⟨i + 1, by omega, rfl, hR'⟩
    · rw [if_neg (by rw [b2_t]; decide)]
      refine ⟨_, ?_, rfl⟩
      exact ⟨i + 1, by omega, rfl, by rw [ch_skip (by rw [gS, hfo, if_pos rfl])]; exact hR⟩
theorem safeOf_ok {bl sp : Nat} {kd wd : Nat → Nat} {kv wv : Nat → Int32} (hF : TF bl sp kd wd kv wv) {tk : Int64} {c : Nat → Int32} (hT : TW bl tk c) {M N : Nat} (hM : M = 216) (hN : N = 24) {n : Nat} (hn : 1000 ≤ n) {mk mw mc mo mt : Nat → Int32} (hMF : MF bl kv wv mk mw) (hv : ∀ d, d ≤ bl → mc d = c d) {a1 a2 a3 a4 a5 a6 a7 a8 a9 a10 : Int32} (p : Int32) :
    ∃ r, f_X12_safeOf n (nI bl) (nI sp) a1 a2 a3 a4 a5 a6 a7 a8 a9 a10 mk mw mc mo mt p = some r ∧ r.1 = TV (chF (gS kd wd bl sp c N) ltI M) p := by
  unfold f_X12_safeOf f_X12_safeOf_L13
  simp only [jn]
  refine lp_r (fun j s => ∃ q, j + q = 800 ∧ s.1 = nI q ∧ RM (fun co => co = -1) 99 (chF (gS kd wd bl sp c N) ltI (nb q)) s.2.2.2.2.2.2.2.2.2.1 s.2.2.2.2.2.2.2.2.2.2.1) 800 ⟨0, by omega, nI_0.symm, ⟨rfl, rfl⟩⟩ (by omega) ?_ ?_
  · rintro g ⟨x, s1, s2, s3, s4, s5, s6, s7, s8, co, br, v⟩ ⟨q, hq, hx, hR⟩
    dsimp only at hx hR ⊢
    have hq : q = 800 := by omega
    have hnb : nb q = M := by rw [hq, hM]; decide
    rw [hnb] at hR
    unfold b_X12_safeOf_L13
    rw [hx, if_pos (show (800 : Int32) ≤ nI q by rw [hq]; decide)]
    cases ho : chF (gS kd wd bl sp c N) ltI M with
    | none =>
      rw [ho] at hR
      dsimp only
      rw [if_pos hR.2]
      exact ⟨_, rfl, rfl⟩
    | some mx =>
      obtain ⟨m, x⟩ := mx
      rw [ho] at hR
      dsimp only
      rw [if_neg (by rw [hR.2.1]; exact (t_cof m hR.1).2.2.2)]
      by_cases hp : p = 0
      · rw [if_pos hp]
        refine ⟨_, rfl, ?_⟩
        dsimp only
        rw [hR.2.2, TV, if_pos hp]
      · rw [if_neg hp, tellc_ok hR hp]
        exact ⟨_, rfl, rfl⟩
  · rintro g j ⟨x, s1, s2, s3, s4, s5, s6, s7, s8, co, br, v, v'⟩ ⟨q, hq, hx, hR⟩
    left
    dsimp only at hx hR ⊢
    have ht := t_code q (by omega)
    unfold b_X12_safeOf_L13
    rw [hx, if_neg (show ¬ (800 : Int32) ≤ nI q from nI_ge (b := 800) (by omega) (by decide)), ht.1, Option.bind_some]
    simp only [jn, bnd, nI_1]
    cases hvq : vC q
    · rw [hvq, if_neg (by decide)] at ht
      rw [if_pos b2_f]
      refine ⟨_, ?_, rfl⟩
      exact ⟨q + 1, by omega, rfl, by rw [ht.2]; exact hR⟩
    · rw [hvq, if_pos rfl] at ht
      obtain ⟨-, e1, e2, e3, e4, e5, e6⟩ := ht
      rw [if_neg (by rw [b2_t]; decide), e1, e2, e3]
      refine bind_l (copy_ok (by decide) (by omega) _ _) (fun w hw => ?_)
      refine bind_l (strike_r hF hT (by omega) (by omega) (by omega) (by omega) hMF (fun d hd => (hw d (by have := hF.2.1; omega)).trans (hv d hd))) (fun r hr => ?_)
      obtain ⟨tk1, hT1⟩ := shoot_TW hF hT (w := nb q / 27) (st := nb q / 3 % 9 + 1) (s := nb q % 3) (by omega) (by omega) (by omega)
      rw [hr.2.2.2.2.1]
      cases hfo : sFo kd bl c (nb q / 27) (nb q / 3 % 9 + 1) (nb q % 3)
      · rw [if_pos b2_f]
        refine bind_l (replyOf_ok hF hT1 hN hn hMF hr.2.2.2.2.2) (fun r2 hr2 => ?_)
        rw [hr2]
        have hb2 := rep_bd hF (sC kd bl sp c (nb q / 27) (nb q / 3 % 9 + 1) (nb q % 3)) N
        obtain ⟨co', br', hR', hA, hB⟩ := rm_step (g := gS kd wd bl sp c N) (lt := ltI) (y := repP kd wd bl (sC kd bl sp c (nb q / 27) (nb q / 3 % 9 + 1) (nb q % 3)) N) e5 (by rw [gS, hfo, if_neg (by decide)]) (by
          simp only [ltI, decide_eq_true_eq]
          exact lt_of_bd (by
            have h9 : (99 : Int32).toInt = 99 := by decide
            omega)) hR
        rw [← e6] at hR'
        by_cases h2 : br ≤ repP kd wd bl (sC kd bl sp c (nb q / 27) (nb q / 3 % 9 + 1) (nb q % 3)) N
        · rw [if_pos h2, if_pos h2]
          obtain ⟨f1, f2⟩ := hB (fun z => by simp only [ltI, decide_eq_true_eq] at z; exact le_nlt.mp h2 z)
          subst f1; subst f2
          refine ⟨_, ?_, rfl⟩
          exact ⟨q + 1, by omega, rfl, hR'⟩
        · rw [if_neg h2, if_neg h2]
          obtain ⟨f1, f2⟩ := hA (by simp only [ltI, decide_eq_true_eq]; exact Int32.not_le.mp h2)
          rw [e4] at f1
          subst f1; subst f2
          refine ⟨_, ?_, rfl⟩
          exact ⟨q + 1, by omega, rfl, hR'⟩
      · rw [if_neg (by rw [b2_t]; decide)]
        refine ⟨_, ?_, rfl⟩
        exact ⟨q + 1, by omega, rfl, by rw [e6, ch_skip (by rw [gS, hfo, if_pos rfl])]; exact hR⟩
end
section
/-! from where a ball can be potted -/
theorem lp_o {α β γ : Type} {step : (α → Option β) → α → Option β} {k : Nat} {a : α} {G : γ → Option β} {R : γ → Prop} {S : β → Prop} (P : Nat → α → Prop) (j : Nat) (hP : P j a) (hk : j < k)
    (h0 : ∀ (g : α → Option β) (a : α), P 0 a → (∃ y, R y ∧ step g a = G y) ∨ ∃ r, step g a = some r ∧ S r)
    (hs : ∀ (g : α → Option β) (j : Nat) (a : α), P (j + 1) a → (∃ a', P j a' ∧ step g a = g a') ∨ ((∃ y, R y ∧ step g a = G y) ∨ ∃ r, step g a = some r ∧ S r)) : (∃ y, R y ∧ lpF step k a = G y) ∨ ∃ r, lpF step k a = some r ∧ S r :=
  lp_run P (fun o => (∃ y, R y ∧ o = G y) ∨ ∃ r, o = some r ∧ S r) h0 hs j k a hP hk
theorem bind_o {α β γ δ : Type} {o : Option α} {f : α → Option β} {g : γ → Option β} {G : δ → Option β} {P : α → Prop} {R : γ → Prop} {R2 : δ → Prop} {S : β → Prop} (h : ∃ r, o = some r ∧ P r) (k : ∀ r, P r → (∃ a', R a' ∧ f r = g a') ∨ ((∃ y, R2 y ∧ f r = G y) ∨ ∃ s, f r = some s ∧ S s)) : (∃ a', R a' ∧ o.bind f = g a') ∨ ((∃ y, R2 y ∧ o.bind f = G y) ∨ ∃ s, o.bind f = some s ∧ S s) := by
  obtain ⟨r, e, hP⟩ := h
  rw [e]
  exact k r hP
theorem bind_p {α β γ : Type} {o : Option α} {f : α → Option β} {g : γ → Option β} {P : α → Prop} {R : γ → Prop} {S : β → Prop} (h : ∃ r, o = some r ∧ P r) (k : ∀ r, P r → (∃ a', R a' ∧ f r = g a') ∨ ∃ s, f r = some s ∧ S s) : (∃ a', R a' ∧ o.bind f = g a') ∨ ∃ s, o.bind f = some s ∧ S s := by
  obtain ⟨r, e, hP⟩ := h
  rw [e]
  exact k r hP
def orF (f : Nat → Bool) : Nat → Bool
  | 0 => false
  | i + 1 => orF f i || f i
theorem or_true {f : Nat → Bool} {i : Nat} (h : f i = true) : ∀ N, i < N → orF f N = true
  | 0, hi => absurd hi (Nat.not_lt_zero _)
  | N + 1, hi => by
    rw [orF]
    by_cases e : i = N
    · rw [← e, h, Bool.or_true]
    · rw [or_true h N (by omega), Bool.true_or]
def potF (kd : Nat → Nat) (bl : Nat) (c : Nat → Int32) (b i : Nat) : Bool := bt (sPo kd bl c (i / 9) (i % 9 + 1) 0) b && !sFo kd bl c (i / 9) (i % 9 + 1) 0
theorem t_num3 : ∀ i, i < 72 → nI (3 * i) / 27 = nI (i / 9) ∧ (nI (3 * i) / 3 - nI (3 * i) / 3 / 9 * 9) + 1 = nI (i % 9 + 1) ∧ i / 9 < 8 ∧ nI (3 * i) + 3 = nI (3 * (i + 1)) ∧ ¬ (216 : Int32) ≤ nI (3 * i) := by decide +kernel
theorem lay0_ok {tk : Int64} {c : Nat → Int32} (hT : TabC tk c) {q : Nat} (hq : q < 45) (hp : pkt q = false) (hfree : ∀ d, d < 7 → d ≠ 0 → c d ≠ nI q) : ∃ r : Int64 × (Nat → Int32), f_X10_lay tk c 0 (nI q) = some r ∧ (r.2 = upd c 0 (nI q) ∧ TabC r.1 (upd c 0 (nI q))) := by
  obtain ⟨tk', e, h⟩ := lay_ok hT (b := 0) (by decide) (Or.inr ⟨q, hq, hp, rfl⟩) (fun d hd h0 _ => hfree d hd h0)
  exact ⟨(tk', upd c 0 (nI q)), e, rfl, h⟩
theorem canPot_ok {bl sp : Nat} {kd wd : Nat → Nat} {kv wv : Nat → Int32} (hF : TF bl sp kd wd kv wv) {tk : Int64} {c : Nat → Int32} (hT : TW bl tk c) {N : Nat} (hN : N = 72) {n : Nat} (hn : 1000 ≤ n) {b q : Nat} (hb : b ≤ bl) (hq : q < 45) (hqp : pkt q = false) (hfree : ∀ d, d < 7 → d ≠ 0 → c d ≠ nI q) {m0 b0 p0 br0 h0 hp0 fo0 sz sq : Int32} {t0 : Int64} {v1 v2 v3 : Nat → Int32} :
    ∃ r, f_X0_canPotFrom n m0 b0 p0 br0 h0 hp0 fo0 t0 sz sq v1 v2 v3 tk (nI bl) (nI sp) c kv wv (nI b) (nI q) = some r ∧ r.1 = b2 (orF (potF kd bl (upd c 0 (nI q)) b) N) := by
  have h6 := hF.2.1
  unfold f_X0_canPotFrom f_X0_canPotFrom_L3
  refine lp_r (fun j s => ∃ i, j + i = N ∧ s.1 = nI (3 * i) ∧ orF (potF kd bl (upd c 0 (nI q)) b) i = false) N ⟨0, by omega, nI_0.symm, rfl⟩ (by omega) ?_ ?_
  · rintro g ⟨x, r⟩ ⟨i, hi, hx, hR⟩
    have hi : i = N := by omega
    dsimp only at hx hR ⊢
    unfold b_X0_canPotFrom_L3
    rw [hx, if_pos (show (216 : Int32) ≤ nI (3 * i) by rw [hi, hN]; decide)]
    refine ⟨_, rfl, ?_⟩
    dsimp only
    rw [← hi, hR]; rfl
  · rintro g j ⟨x, r⟩ ⟨i, hi, hx, hR⟩
    dsimp only at hx hR ⊢
    have ht := t_num3 i (by omega)
    unfold b_X0_canPotFrom_L3
    rw [hx, if_neg ht.2.2.2.2]
    simp only [f_X9_begin, f_X10_copy, Option.bind_some]
    refine bind_p (lay0_ok hT.1 hq hqp hfree) ?_
    rintro ⟨tk1, c1⟩ ⟨e1, hT1⟩
    dsimp only at e1 hT1 ⊢
    subst e1
    have hTW : TW bl tk1 (upd c 0 (nI q)) := ⟨hT1, fun d h1 h2 => by rw [upd_n (by omega)]; exact hT.2.1 d h1 h2, by rw [upd_s]; exact nI_ne_m1 hq⟩
    simp only [f_X0_directionOf, f_X0_strengthOf, Option.bind_some, ht.1, ht.2.1]
    refine bind_p (shoot_r0 hF hTW ht.2.2.1 (by omega) (by omega)) (fun r1 hr1 => ?_)
    simp only [f_X9_hasPotted, jn, bnd, ht.2.2.2.1]
    rw [hr1.2.2.1, hr1.2.2.2.2.1, bit_at _ (by omega)]
    cases hb1 : bt (sPo kd bl (upd c 0 (nI q)) (i / 9) (i % 9 + 1) 0) b
    · rw [if_pos b2_f, Option.bind_some, if_pos rfl]
      refine Or.inl ⟨_, ?_, rfl⟩
      exact ⟨i + 1, by omega, rfl, by rw [orF, hR, potF, hb1]; rfl⟩
    · rw [if_neg (by rw [b2_t]; decide), Option.bind_some, if_neg (by decide)]
      cases hfo : sFo kd bl (upd c 0 (nI q)) (i / 9) (i % 9 + 1) 0
      · rw [if_pos b2_f]
        refine Or.inr ⟨_, rfl, ?_⟩
        dsimp only
        rw [or_true (i := i) (by rw [potF, hb1, hfo]; rfl) N (by omega)]; rfl
      · rw [if_neg (by rw [b2_t]; decide)]
        refine Or.inl ⟨_, ?_, rfl⟩
        exact ⟨i + 1, by omega, rfl, by rw [orF, hR, potF, hb1, hfo]; rfl⟩
theorem isWanted_ok {bl sp : Nat} {kd wd : Nat → Nat} {kv wv : Nat → Int32} (hF : TF bl sp kd wd kv wv) {tk : Int64} {c : Nat → Int32} (hT : TW bl tk c) {N : Nat} (hN : N = 72) {n : Nat} (hn : 1000 ≤ n) {b q : Nat} (hb : b ≤ bl) (hq : q < 45) (hqp : pkt q = false) (hfree : ∀ d, d < 7 → d ≠ 0 → c d ≠ nI q) {mk mw mc mo : Nat → Int32} (hMF : MF bl kv wv mk mw) (hv : ∀ d, d ≤ bl → mc d = c d) {a1 a2 a3 a4 a5 a6 a7 a8 : Int32} :
    ∃ r, f_X12_isWantedFrom n (nI bl) (nI sp) a1 a2 a3 a4 a5 a6 a7 a8 mk mw mc mo (nI b) (nI q) = some r ∧ r.1 = b2 (orF (potF kd bl (upd c 0 (nI q)) b) N) := by
  have h6 := hF.2.1
  obtain ⟨⟨tk1, c1⟩, -, e1, hT1⟩ := lay0_ok hT.1 hq hqp hfree
  dsimp only at e1 hT1
  have hTW : TW bl tk1 (upd c 0 (nI q)) := ⟨hT1, fun d h1 h2 => by rw [upd_n (by omega)]; exact hT.2.1 d h1 h2, by rw [upd_s]; exact nI_ne_m1 hq⟩
  have hz0 : (0 : Int32).toNatClampNeg = 0 := rfl
  have hi0 : inb 0 7 = true := by decide
  unfold f_X12_isWantedFrom f_X12_isWantedFrom_L2
  refine lp_r (fun j s => ∃ i, j + i = 8 ∧ s.1 = nI i ∧ orF (potF kd bl (upd c 0 (nI q)) b) (9 * i) = false) 8 ⟨0, by omega, nI_0.symm, rfl⟩ (by omega) ?_ ?_
  · rintro g ⟨x, r⟩ ⟨i, hi, hx, hR⟩
    have hi : i = 8 := by omega
    dsimp only at hx hR ⊢
    unfold b_X12_isWantedFrom_L2
    rw [hx, if_pos (show (8 : Int32) ≤ nI i by rw [hi]; decide)]
    refine ⟨_, rfl, ?_⟩
    dsimp only
    rw [show N = 9 * i by omega, hR]; rfl
  · rintro g j ⟨x, r⟩ ⟨i, hi, hx, hR⟩
    dsimp only at hx hR ⊢
    unfold b_X12_isWantedFrom_L2
    rw [hx, if_neg (show ¬ (8 : Int32) ≤ nI i from nI_ge (b := 8) (by omega) (by decide))]
    simp only [jn, bnd, nI_1]
    unfold f_X12_isWantedFrom_L11
    refine lp_o (fun j s => ∃ t, j + t = 9 ∧ s.1 = nI (t + 1) ∧ orF (potF kd bl (upd c 0 (nI q)) b) (9 * i + t) = false) 9 ⟨0, by omega, by show (1 : Int32) = nI (0 + 1); decide, hR⟩ (by omega) ?_ ?_
    · rintro g2 ⟨x, r⟩ ⟨t, ht, hx, hR⟩
      have ht : t = 9 := by omega
      dsimp only at hx hR ⊢
      unfold b_X12_isWantedFrom_L11
      rw [hx, if_pos (show (10 : Int32) ≤ nI (t + 1) by rw [ht]; decide)]
      refine Or.inl ⟨_, ?_, rfl⟩
      exact ⟨i + 1, by omega, rfl, by rw [ht] at hR; exact hR⟩
    · rintro g2 j2 ⟨x, r⟩ ⟨t, ht, hx, hR⟩
      dsimp only at hx hR ⊢
      unfold b_X12_isWantedFrom_L11
      rw [hx, if_neg (show ¬ (10 : Int32) ≤ nI (t + 1) from nI_ge (b := 10) (by omega) (by decide))]
      refine bind_o (copy_ok (by decide) (by omega) _ _) (fun w hw => ?_)
      simp only [gd, hi0, if_true, hz0]
      refine bind_o (strike_r0 hF hTW (w := i) (by omega) (by omega) (by omega) hMF (fun d hd => ?_)) (fun r1 hr1 => ?_)
      · by_cases h : d = 0
        · rw [h, upd_s, upd_s]
        · rw [upd_n h, upd_n h]; exact (hw d (by omega)).trans (hv d hd)
      simp only [jn, bnd, nI_1]
      have hpf : potF kd bl (upd c 0 (nI q)) b (9 * i + t) = (bt (sPo kd bl (upd c 0 (nI q)) i (t + 1) 0) b && !sFo kd bl (upd c 0 (nI q)) i (t + 1) 0) := by
        rw [potF, show (9 * i + t) / 9 = i by omega, show (9 * i + t) % 9 = t by omega]
      rw [hr1.2.1, hr1.2.2.2.2.1, bit_at _ (by omega)]
      cases hfo : sFo kd bl (upd c 0 (nI q)) i (t + 1) 0
      · rw [if_pos b2_f]
        cases hb1 : bt (sPo kd bl (upd c 0 (nI q)) i (t + 1) 0) b
        · rw [if_neg (by rw [b2_f]; decide)]
          refine Or.inl ⟨_, ?_, rfl⟩
          exact ⟨t + 1, by omega, rfl, by rw [← Nat.add_assoc, orF, hR, hpf, hb1]; rfl⟩
        · rw [if_pos b2_t]
          refine Or.inr (Or.inr ⟨_, rfl, ?_⟩)
          dsimp only
          rw [or_true (i := 9 * i + t) (by rw [hpf, hb1, hfo]; rfl) N (by omega)]; rfl
      · rw [if_neg (by rw [b2_t]; decide)]
        refine Or.inl ⟨_, ?_, rfl⟩
        exact ⟨t + 1, by omega, rfl, by rw [← Nat.add_assoc, orF, hR, hpf, hfo, Bool.not_true, Bool.and_false]; rfl⟩
end
section
def frC (bl : Nat) (c : Nat → Int32) (q : Nat) : Bool := !pkt q && (decide (whoF c (nI q) (bl + 1) = -1) || decide (whoF c (nI q) (bl + 1) = 0))
def wbP (kd : Nat → Nat) (bl : Nat) (c : Nat → Int32) (b N : Nat) : Nat → Int64
  | 0 => 0
  | i + 1 => if (frC bl c i && orF (potF kd bl (upd c 0 (nI i)) b) N) = true then wbP kd bl c b N i ||| (1 <<< ((nI i).toInt64 &&& 63)) else wbP kd bl c b N i
theorem fr_free {bl : Nat} {tk : Int64} {c : Nat → Int32} (h6 : bl ≤ 6) (hT : TW bl tk c) {q : Nat} (hq : q < 45) (h : frC bl c q = true) : pkt q = false ∧ ∀ d, d < 7 → d ≠ 0 → c d ≠ nI q := by
  unfold frC at h
  rw [Bool.and_eq_true, Bool.or_eq_true, decide_eq_true_eq, decide_eq_true_eq] at h
  refine ⟨by simpa using h.1, fun d hd h0 hc => ?_⟩
  have hdb : d < bl + 1 := by
    by_cases hdb : d < bl + 1
    · exact hdb
    · exact absurd ((hT.2.1 d (by omega) hd).symm.trans hc) (fun z => nI_ne_m1 hq z.symm)
  rcases who_cases c (nI q) (bl + 1) with ⟨-, hno⟩ | ⟨j, hj, hx, hcj⟩
  · exact hno d hdb hc
  · have hj0 : j = 0 := by
      rcases h.2 with h | h
      · exact absurd (hx.symm.trans h) (nI_ne_m1 (by omega))
      · exact (nI_is0 (by omega)).mp (hx.symm.trans h)
    rw [hj0] at hcj
    exact h0 (hT.1.2.1 d hd 0 (by decide) (hc.trans hcj.symm) (by rw [hc]; exact nI_ne_m1 hq))
theorem cells_ok {bl sp : Nat} {kd wd : Nat → Nat} {kv wv : Nat → Int32} (hF : TF bl sp kd wd kv wv) {tk : Int64} {c : Nat → Int32} (hT : TW bl tk c) {N : Nat} (hN : N = 72) {n : Nat} (hn : 1000 ≤ n) {b Q : Nat} (hQ : Q = 45) (hb : b ≤ bl) {m0 b0 p0 br0 h0 hp0 fo0 sz sq : Int32} {t0 : Int64} {v1 v2 v3 : Nat → Int32} :
    ∃ r, f_X0_cellsToPotFrom n m0 b0 p0 br0 h0 hp0 fo0 t0 sz sq v1 v2 v3 tk (nI bl) (nI sp) c kv wv (nI b) = some r ∧ r.1 = wbP kd bl c b N Q := by
  have h6 := hF.2.1
  unfold f_X0_cellsToPotFrom f_X0_cellsToPotFrom_L5
  refine lp_r (fun j s => ∃ i, j + i = Q ∧ s.2.1 = nI i ∧ s.1 = wbP kd bl c b N i) Q ⟨0, by omega, nI_0.symm, rfl⟩ (by omega) ?_ ?_
  · rintro g ⟨x, y, r⟩ ⟨i, hi, hx, hR⟩
    have hi : i = Q := by omega
    dsimp only at hx hR ⊢
    unfold b_X0_cellsToPotFrom_L5
    rw [hx, if_pos (show (45 : Int32) ≤ nI i by rw [hi, hQ]; decide)]
    refine ⟨_, rfl, ?_⟩
    dsimp only
    rw [hR, hi]
  · rintro g j ⟨x, y, r⟩ ⟨i, hi, hx, hR⟩
    left
    dsimp only at hx hR ⊢
    have hi45 : i < 45 := by omega
    unfold b_X0_cellsToPotFrom_L5
    rw [hx, if_neg (show ¬ (45 : Int32) ≤ nI i from nI_ge (b := 45) (by omega) (by decide)), ballIn_ok hT.1 hi45 (by omega), Option.bind_some, (t_pocket i hi45).1, Option.bind_some, who_short h6 (nI_ne_m1 hi45) hT.2.1]
    simp only [jn, bnd, nI_1, one_ne, if_true, if_false]
    have key : ∀ z : Bool, frC bl c i = z → (z = false → ∃ a' : Int64 × Int32 × Int32 × Int32 × Int32 × Int32 × Int32 × Int32 × Int32 × Int64 × Int32 × Int32 × (Nat → Int32) × (Nat → Int32) × (Nat → Int32), (∃ i, j + i = Q ∧ a'.2.1 = nI i ∧ a'.1 = wbP kd bl c b N i) ∧ a' = (x, nI (i + 1), r)) := by
      intro z hz hz0
      refine ⟨_, ?_, rfl⟩
      refine ⟨i + 1, by omega, rfl, ?_⟩
      dsimp only
      rw [hR, wbP, hz, hz0, Bool.false_and, if_neg (by decide)]
    cases hfr : frC bl c i
    · obtain ⟨a', ha, e⟩ := key false hfr rfl
      refine ⟨a', ha, ?_⟩
      rw [e]
      unfold frC at hfr
      cases hpk : pkt i
      · rw [hpk] at hfr
        have h1 : ¬ whoF c (nI i) (bl + 1) = -1 := fun h => by simp [h] at hfr
        have h2 : ¬ whoF c (nI i) (bl + 1) = 0 := fun h => by simp [h] at hfr
        rw [if_pos b2_f, if_neg h1, if_neg h2]
      · rw [if_neg (by rw [b2_t]; decide)]
    · obtain ⟨hpk, hfree⟩ := fr_free h6 hT hi45 hfr
      have hpot := fun (m0 b0 p0 br0 h0 hp0 fo0 sz sq : Int32) (t0 : Int64) (v1 v2 v3 : Nat → Int32) => canPot_ok hF hT hN hn hb hi45 hpk hfree (m0 := m0) (b0 := b0) (p0 := p0) (br0 := br0) (h0 := h0) (hp0 := hp0) (fo0 := fo0) (sz := sz) (sq := sq) (t0 := t0) (v1 := v1) (v2 := v2) (v3 := v3)
      rw [hpk, if_pos b2_f]
      have hor : ∀ {α : Type} (A B : α), (if whoF c (nI i) (bl + 1) = -1 then A else if whoF c (nI i) (bl + 1) = 0 then A else B) = A := by
        intro α A B
        unfold frC at hfr
        rw [hpk] at hfr
        by_cases h1 : whoF c (nI i) (bl + 1) = -1
        · rw [if_pos h1]
        · rw [if_neg h1, if_pos (by simpa [h1] using hfr)]
      rw [hor]
      refine bind_l (hpot _ _ _ _ _ _ _ _ _ _ _ _ _) (fun r1 hr1 => ?_)
      rw [hr1]
      cases hor1 : orF (potF kd bl (upd c 0 (nI i)) b) N
      · rw [if_pos b2_f]
        refine ⟨_, ?_, rfl⟩
        refine ⟨i + 1, by omega, rfl, ?_⟩
        dsimp only
        rw [hR, wbP, hfr, hor1, Bool.and_false, if_neg (by decide)]
      · rw [if_neg (by rw [b2_t]; decide)]
        refine ⟨_, ?_, rfl⟩
        refine ⟨i + 1, by omega, rfl, ?_⟩
        dsimp only
        rw [hR, wbP, hfr, hor1, Bool.and_true, if_pos rfl]
theorem wantedOf_ok {bl sp : Nat} {kd wd : Nat → Nat} {kv wv : Nat → Int32} (hF : TF bl sp kd wd kv wv) {tk : Int64} {c : Nat → Int32} (hT : TW bl tk c) {N : Nat} (hN : N = 72) {n : Nat} (hn : 1000 ≤ n) {b Q : Nat} (hQ : Q = 45) (hb : b ≤ bl) {mk mw mc mo : Nat → Int32} (hMF : MF bl kv wv mk mw) (hv : ∀ d, d ≤ bl → mc d = c d) {a1 a2 a3 a4 a5 a6 a7 a8 : Int32} :
    ∃ r, f_X12_wantedOf n (nI bl) (nI sp) a1 a2 a3 a4 a5 a6 a7 a8 mk mw mc mo (nI b) = some r ∧ r.1 = wbP kd bl c b N Q := by
  have h6 := hF.2.1
  unfold f_X12_wantedOf f_X12_wantedOf_L5
  refine lp_r (fun j s => ∃ i, j + i = Q ∧ s.2.1 = nI i ∧ s.1 = wbP kd bl c b N i) Q ⟨0, by omega, nI_0.symm, rfl⟩ (by omega) ?_ ?_
  · rintro g ⟨x, y, r⟩ ⟨i, hi, hx, hR⟩
    have hi : i = Q := by omega
    dsimp only at hx hR ⊢
    unfold b_X12_wantedOf_L5
    rw [hx, if_pos (show (45 : Int32) ≤ nI i by rw [hi, hQ]; decide)]
    refine ⟨_, rfl, ?_⟩
    dsimp only
    rw [hR, hi]
  · rintro g j ⟨x, y, r⟩ ⟨i, hi, hx, hR⟩
    left
    dsimp only at hx hR ⊢
    have hi45 : i < 45 := by omega
    unfold b_X12_wantedOf_L5
    rw [hx, if_neg (show ¬ (45 : Int32) ≤ nI i from nI_ge (b := 45) (by omega) (by decide)), (t_pocket i hi45).2, Option.bind_some, lies_ok hF.1 h6 (by omega), who_congr (fun d hd => hv d (by omega) : ∀ d, d < bl + 1 → mc d = c d)]
    simp only [jn, bnd, nI_1, one_ne, if_true, if_false, Int64.or_zero, Option.bind_some]
    have key : frC bl c i = false → ∃ a' : Int64 × Int32 × Int32 × Int32 × Int32 × Int32 × Int32 × Int32 × Int32 × Int32 × (Nat → Int32), (∃ i, j + i = Q ∧ a'.2.1 = nI i ∧ a'.1 = wbP kd bl c b N i) ∧ a' = (x, nI (i + 1), r) := by
      intro hz
      refine ⟨_, ?_, rfl⟩
      refine ⟨i + 1, by omega, rfl, ?_⟩
      dsimp only
      rw [hR, wbP, hz, Bool.false_and, if_neg (by decide)]
    cases hfr : frC bl c i
    · obtain ⟨a', ha, e⟩ := key hfr
      refine ⟨a', ha, ?_⟩
      rw [e]
      unfold frC at hfr
      cases hpk : pkt i
      · rw [hpk] at hfr
        have h1 : ¬ whoF c (nI i) (bl + 1) = -1 := fun h => by simp [h] at hfr
        have h2 : ¬ whoF c (nI i) (bl + 1) = 0 := fun h => by simp [h] at hfr
        have h3 : (1 : Int32) ≤ whoF c (nI i) (bl + 1) := by
          rcases who_cases c (nI i) (bl + 1) with ⟨hx, -⟩ | ⟨j, hj, hx, -⟩
          · exact absurd hx h1
          · rw [hx] at h2 ⊢
            have hj0 : j ≠ 0 := fun z => h2 (by rw [z]; decide)
            exact nI_le (a := 1) (by omega) (by omega)
        rw [if_pos b2_f, if_pos h3]
      · rw [if_neg (by rw [b2_t]; decide)]
    · obtain ⟨hpk, hfree⟩ := fr_free h6 hT hi45 hfr
      have hpot := fun (a1 a2 a3 a4 a5 a6 a7 a8 : Int32) (mo : Nat → Int32) => isWanted_ok hF hT hN hn hb hi45 hpk hfree hMF hv (a1 := a1) (a2 := a2) (a3 := a3) (a4 := a4) (a5 := a5) (a6 := a6) (a7 := a7) (a8 := a8) (mo := mo)
      have h3 : ¬ (1 : Int32) ≤ whoF c (nI i) (bl + 1) := by
        unfold frC at hfr
        rw [hpk] at hfr
        by_cases h1 : whoF c (nI i) (bl + 1) = -1
        · rw [h1]; decide
        · have h2 : whoF c (nI i) (bl + 1) = 0 := by simpa [h1] using hfr
          rw [h2]; decide
      rw [hpk, if_pos b2_f, if_neg h3]
      refine bind_l (hpot _ _ _ _ _ _ _ _ _) (fun r1 hr1 => ?_)
      rw [hr1]
      cases hor1 : orF (potF kd bl (upd c 0 (nI i)) b) N
      · rw [if_pos b2_f]
        refine ⟨_, ?_, rfl⟩
        refine ⟨i + 1, by omega, rfl, ?_⟩
        dsimp only
        rw [hR, wbP, hfr, hor1, Bool.and_false, if_neg (by decide)]
      · rw [if_neg (by rw [b2_t]; decide)]
        refine ⟨_, ?_, rfl⟩
        refine ⟨i + 1, by omega, rfl, ?_⟩
        dsimp only
        rw [hR, wbP, hfr, hor1, Bool.and_true, if_pos rfl]
end
section
/-! the number of bits -/
theorem and_cut (k a b : Nat) : a &&& b = (a % 2 ^ k &&& b % 2 ^ k) + 2 ^ k * (a / 2 ^ k &&& b / 2 ^ k) := by
  have h1 : (a &&& b) % 2 ^ k = (a % 2 ^ k &&& b % 2 ^ k) := Nat.and_mod_two_pow
  have h2 : (a &&& b) / 2 ^ k = (a / 2 ^ k &&& b / 2 ^ k) := Nat.and_div_two_pow
  have h3 := Nat.div_add_mod (a &&& b) (2 ^ k)
  rw [h1, h2] at h3
  omega
def c1N : Nat → Nat → Nat
  | 0, _ => 0
  | n + 1, X => (X % 2 + X / 2 % 2) + 4 * c1N n (X / 4)
def c2N : Nat → Nat → Nat
  | 0, _ => 0
  | n + 1, X => (X % 2 + X / 2 % 2 + X / 4 % 2 + X / 8 % 2) + 16 * c2N n (X / 16)
def b8N (X : Nat) : Nat := X % 2 + X / 2 % 2 + X / 4 % 2 + X / 8 % 2 + X / 16 % 2 + X / 32 % 2 + X / 64 % 2 + X / 128 % 2
def c3N : Nat → Nat → Nat
  | 0, _ => 0
  | n + 1, X => b8N X + 256 * c3N n (X / 256)
def m5N : Nat → Nat
  | 0 => 0
  | n + 1 => 1 + 4 * m5N n
def m3N : Nat → Nat
  | 0 => 0
  | n + 1 => 3 + 16 * m3N n
def mFN : Nat → Nat
  | 0 => 0
  | n + 1 => 15 + 256 * mFN n
theorem d256 {c Y : Nat} (h : c < 256) : (c + 256 * Y) / 256 = Y := by omega
theorem c1_ok : ∀ (n X : Nat), X < 4 ^ n → X - (X / 2 &&& m5N n) = c1N n X ∧ (X / 2 &&& m5N n) ≤ X := by
  intro n
  induction n with
  | zero =>
    intro X h
    have : X = 0 := by simpa using h
    subst this
    exact ⟨rfl, by decide⟩
  | succ n ih =>
    intro X h
    have h4 : X / 4 < 4 ^ n := by rw [Nat.pow_succ] at h; omega
    obtain ⟨i1, i2⟩ := ih (X / 4) h4
    have e : X / 2 &&& m5N (n + 1) = X / 2 % 2 + 4 * (X / 4 / 2 &&& m5N n) := by
      rw [and_cut 2 (X / 2) (m5N (n + 1)), m5N]
      have e1 : (1 + 4 * m5N n) % 2 ^ 2 = 1 := by omega
      have e2 : (1 + 4 * m5N n) / 2 ^ 2 = m5N n := by omega
      have e3 : X / 2 / 2 ^ 2 = X / 4 / 2 := by omega
      have e4 : (X / 2 % 2 ^ 2 &&& 1) = X / 2 % 2 := by
        rw [Nat.and_one_is_mod]; omega
      rw [e1, e2, e3, e4]
    rw [e, c1N, ← i1]
    generalize (X / 4 / 2 &&& m5N n) = T at i2 ⊢
    omega
theorem c2_ok : ∀ (n X : Nat), (c1N (2 * n) X &&& m3N n) + (c1N (2 * n) X / 4 &&& m3N n) = c2N n X := by
  intro n
  induction n with
  | zero => intro X; simp [c1N, m3N, c2N]
  | succ n ih =>
    intro X
    have i1 := ih (X / 4 / 4)
    have eY : c1N (2 * (n + 1)) X = (X % 2 + X / 2 % 2) + 4 * ((X / 4 % 2 + X / 4 / 2 % 2) + 4 * c1N (2 * n) (X / 4 / 4)) := rfl
    have e16 : X / 4 / 4 = X / 16 := by omega
    rw [eY, c2N, ← e16, ← i1]
    generalize c1N (2 * n) (X / 4 / 4) = Z
    have g1 : X / 4 / 2 = X / 8 := by omega
    rw [g1, show X % 2 + X / 2 % 2 + X / 4 % 2 + X / 8 % 2 = (X % 2 + X / 2 % 2) + (X / 4 % 2 + X / 8 % 2) by omega]
    have ha : X % 2 + X / 2 % 2 ≤ 2 := by omega
    have hb : X / 4 % 2 + X / 8 % 2 ≤ 2 := by omega
    generalize X % 2 + X / 2 % 2 = a at ha ⊢
    generalize X / 4 % 2 + X / 8 % 2 = b at hb ⊢
    rw [and_cut 4 _ (m3N (n + 1)), and_cut 4 (_ / 4) (m3N (n + 1)), m3N]
    have f1 : (3 + 16 * m3N n) % 2 ^ 4 = 2 ^ 2 - 1 := by omega
    have f2 : (3 + 16 * m3N n) / 2 ^ 4 = m3N n := by omega
    have f3 : (a + 4 * (b + 4 * Z)) / 2 ^ 4 = Z := by omega
    have f4 : (a + 4 * (b + 4 * Z)) / 4 / 2 ^ 4 = Z / 4 := by omega
    have f5 : (a + 4 * (b + 4 * Z)) % 2 ^ 4 % 2 ^ 2 = a := by omega
    have f6 : (a + 4 * (b + 4 * Z)) / 4 % 2 ^ 4 % 2 ^ 2 = b := by omega
    rw [f1, f2, f3, f4, Nat.and_two_pow_sub_one_eq_mod, Nat.and_two_pow_sub_one_eq_mod, f5, f6]
    generalize (Z &&& m3N n) = T1
    generalize (Z / 4 &&& m3N n) = T2
    clear f1 f2 f3 f4 f5 f6 g1 i1 eY e16 ih
    omega
theorem bits4 (a b c d : Nat) : a % 2 + b % 2 + c % 2 + d % 2 ≤ 4 := by omega
theorem c2_mod (n X : Nat) : c2N n X % 16 ≤ 4 := by
  cases n with
  | zero => simp [c2N]
  | succ n =>
    rw [c2N]
    have h : X % 2 + X / 2 % 2 + X / 4 % 2 + X / 8 % 2 ≤ 4 := bits4 _ _ _ _
    generalize X % 2 + X / 2 % 2 + X / 4 % 2 + X / 8 % 2 = a at h ⊢
    generalize c2N n (X / 16) = Y
    omega
theorem c3_ok : ∀ (n X : Nat), ((c2N (2 * n) X + c2N (2 * n) X / 16) &&& mFN n) = c3N n X := by
  intro n
  induction n with
  | zero => intro X; simp [c2N, mFN, c3N]
  | succ n ih =>
    intro X
    have i1 := ih (X / 16 / 16)
    have hm := c2_mod (2 * n) (X / 16 / 16)
    have eY : c2N (2 * (n + 1)) X = (X % 2 + X / 2 % 2 + X / 4 % 2 + X / 8 % 2) + 16 * ((X / 16 % 2 + X / 16 / 2 % 2 + X / 16 / 4 % 2 + X / 16 / 8 % 2) + 16 * c2N (2 * n) (X / 16 / 16)) := rfl
    have e16 : X / 16 / 16 = X / 256 := by omega
    have g1 : X / 16 / 2 = X / 32 := by omega
    have g2 : X / 16 / 4 = X / 64 := by omega
    have g3 : X / 16 / 8 = X / 128 := by omega
    rw [g1, g2, g3] at eY
    rw [eY, c3N, ← e16, ← i1, b8N]
    generalize c2N (2 * n) (X / 16 / 16) = Z at hm ⊢
    have ha : X % 2 + X / 2 % 2 + X / 4 % 2 + X / 8 % 2 ≤ 4 := bits4 _ _ _ _
    have hb : X / 16 % 2 + X / 32 % 2 + X / 64 % 2 + X / 128 % 2 ≤ 4 := bits4 _ _ _ _
    have hab : X % 2 + X / 2 % 2 + X / 4 % 2 + X / 8 % 2 + X / 16 % 2 + X / 32 % 2 + X / 64 % 2 + X / 128 % 2 = (X % 2 + X / 2 % 2 + X / 4 % 2 + X / 8 % 2) + (X / 16 % 2 + X / 32 % 2 + X / 64 % 2 + X / 128 % 2) := by simp only [Nat.add_assoc]
    rw [hab]
    generalize X % 2 + X / 2 % 2 + X / 4 % 2 + X / 8 % 2 = a at ha ⊢
    generalize X / 16 % 2 + X / 32 % 2 + X / 64 % 2 + X / 128 % 2 = b at hb ⊢
    rw [and_cut 8 _ (mFN (n + 1)), mFN]
    have f1 : (15 + 256 * mFN n) % 2 ^ 8 = 2 ^ 4 - 1 := by omega
    have f2 : (15 + 256 * mFN n) / 2 ^ 8 = mFN n := by omega
    clear i1 eY e16 g1 g2 g3 ih hab
    have f0 : (a + 16 * (b + 16 * Z)) / 16 = b + 16 * Z := by omega
    have f4 : Z = 16 * (Z / 16) + Z % 16 := by omega
    generalize hq : Z / 16 = Zq at f4 ⊢
    generalize hr : Z % 16 = Zr at f4 hm
    have f3 : a + 16 * (b + 16 * Z) + (b + 16 * Z) = (a + b + 16 * (b + Zr)) + 256 * (Z + Zq) := by clear hq hr f0 f1 f2; omega
    have f5 : ((a + b + 16 * (b + Zr)) + 256 * (Z + Zq)) / 2 ^ 8 = Z + Zq := d256 (by clear hq hr f0 f1 f2 f3 f4; omega)
    have f6 : ((a + b + 16 * (b + Zr)) + 256 * (Z + Zq)) % 2 ^ 8 % 2 ^ 4 = a + b := by
      generalize Z + Zq = W
      clear hq hr f0 f1 f2 f3 f4 f5
      omega
    rw [f0, f1, f2, f3, Nat.and_two_pow_sub_one_eq_mod, f5, f6]
def cntN (X : Nat) : Nat → Nat
  | 0 => 0
  | i + 1 => cntN X i + X / 2 ^ i % 2
theorem cnt_8 (X : Nat) : ∀ m, cntN X (8 + m) = b8N X + cntN (X / 256) m
  | 0 => by
    show 0 + X / 1 % 2 + X / 2 % 2 + X / 4 % 2 + X / 8 % 2 + X / 16 % 2 + X / 32 % 2 + X / 64 % 2 + X / 128 % 2 = _ + 0
    rw [Nat.div_one, Nat.zero_add, Nat.add_zero, b8N]
  | m + 1 => by
    show cntN X (8 + m) + X / 2 ^ (8 + m) % 2 = _
    rw [cnt_8 X m, cntN, Nat.pow_add, ← Nat.div_div_eq_div_mul, Nat.add_assoc]
theorem cnt_top {X i : Nat} (h : X < 2 ^ i) : ∀ j, cntN X (i + j) = cntN X i
  | 0 => rfl
  | j + 1 => by
    show cntN X (i + j) + X / 2 ^ (i + j) % 2 = _
    rw [cnt_top h j, Nat.div_eq_of_lt (Nat.lt_of_lt_of_le h (Nat.pow_le_pow_right (by decide) (by omega)))]
    rfl
theorem m128 {s W : Nat} (h : s < 128) : (s + 256 * W) % 128 = s := by omega
theorem fold_8 {c0 c1 c2 c3 c4 c5 c6 c7 X3 X4 X5 : Nat} (h0 : c0 ≤ 8) (h1 : c1 ≤ 8) (h2 : c2 ≤ 8) (h3 : c3 ≤ 8) (h4 : c4 ≤ 8) (h5 : c5 ≤ 8) (h6 : c6 ≤ 8) (h7 : c7 ≤ 8)
    (e3 : X3 = c0 + 256 * (c1 + 256 * (c2 + 256 * (c3 + 256 * (c4 + 256 * (c5 + 256 * (c6 + 256 * c7))))))) (e4 : X4 = X3 + X3 / 256) (e5 : X5 = X4 + X4 / 65536) : (X5 + X5 / 4294967296) % 128 = c0 + c1 + c2 + c3 + c4 + c5 + c6 + c7 := by
  have a4 : X3 / 256 = c1 + 256 * (c2 + 256 * (c3 + 256 * (c4 + 256 * (c5 + 256 * (c6 + 256 * c7))))) := by rw [e3]; exact d256 (by omega)
  have b4 : X4 = (c0 + c1) + 256 * ((c1 + c2) + 256 * ((c2 + c3) + 256 * ((c3 + c4) + 256 * ((c4 + c5) + 256 * ((c5 + c6) + 256 * ((c6 + c7) + 256 * c7)))))) := by rw [e4, a4, e3]; clear a4 e3 e4 e5; omega
  have a5 : X4 / 65536 = (c2 + c3) + 256 * ((c3 + c4) + 256 * ((c4 + c5) + 256 * ((c5 + c6) + 256 * ((c6 + c7) + 256 * c7)))) := by
    rw [show X4 / 65536 = X4 / 256 / 256 by rw [Nat.div_div_eq_div_mul], b4, d256 (by clear b4 a4 e3 e4 e5; omega), d256 (by clear b4 a4 e3 e4 e5; omega)]
  have b5 : X5 = (c0 + c1 + c2 + c3) + 256 * ((c1 + c2 + c3 + c4) + 256 * ((c2 + c3 + c4 + c5) + 256 * ((c3 + c4 + c5 + c6) + 256 * ((c4 + c5 + c6 + c7) + 256 * ((c5 + c6 + c7) + 256 * ((c6 + c7) + 256 * c7)))))) := by rw [e5, a5, b4]; clear a4 a5 b4 e3 e4 e5; omega
  have a6 : X5 / 4294967296 = (c4 + c5 + c6 + c7) + 256 * ((c5 + c6 + c7) + 256 * ((c6 + c7) + 256 * c7)) := by
    rw [show X5 / 4294967296 = X5 / 256 / 256 / 256 / 256 by rw [Nat.div_div_eq_div_mul, Nat.div_div_eq_div_mul, Nat.div_div_eq_div_mul], b5, d256 (by clear b5 a5 b4 a4 e3 e4 e5; omega), d256 (by clear b5 a5 b4 a4 e3 e4 e5; omega), d256 (by clear b5 a5 b4 a4 e3 e4 e5; omega), d256 (by clear b5 a5 b4 a4 e3 e4 e5; omega)]
  rw [a6, b5, show c0 + c1 + c2 + c3 + 256 * (c1 + c2 + c3 + c4 + 256 * (c2 + c3 + c4 + c5 + 256 * (c3 + c4 + c5 + c6 + 256 * (c4 + c5 + c6 + c7 + 256 * (c5 + c6 + c7 + 256 * (c6 + c7 + 256 * c7)))))) + (c4 + c5 + c6 + c7 + 256 * (c5 + c6 + c7 + 256 * (c6 + c7 + 256 * c7))) = (c0 + c1 + c2 + c3 + c4 + c5 + c6 + c7) + 256 * ((c1 + c2 + c3 + c4 + 256 * (c2 + c3 + c4 + c5 + 256 * (c3 + c4 + c5 + c6 + 256 * (c4 + c5 + c6 + c7 + 256 * (c5 + c6 + c7 + 256 * (c6 + c7 + 256 * c7)))))) + (c5 + c6 + c7 + 256 * (c6 + c7 + 256 * c7))) by clear b5 a5 b4 a4 a6 e3 e4 e5; omega]
  exact m128 (by clear b5 a5 b4 a4 a6 e3 e4 e5; omega)
theorem bits8 (a b c d e f g h : Nat) : a % 2 + b % 2 + c % 2 + d % 2 + e % 2 + f % 2 + g % 2 + h % 2 ≤ 8 := by
  have h1 := bits4 a b c d
  have h2 := bits4 e f g h
  generalize a % 2 + b % 2 + c % 2 + d % 2 = A at h1 ⊢
  omega
theorem nI_127 (a : Nat) : nI a &&& 127 = nI (a % 128) := by
  apply Int32.toBitVec_inj.mp
  apply BitVec.eq_of_toNat_eq
  have e1 : (nI a).toBitVec.toNat = a % 2 ^ 32 := by show (BitVec.ofNat 32 a).toNat = _; rw [BitVec.toNat_ofNat]
  have e2 : (nI (a % 128)).toBitVec.toNat = a % 128 % 2 ^ 32 := by show (BitVec.ofNat 32 (a % 128)).toNat = _; rw [BitVec.toNat_ofNat]
  have e3 : (127 : Int32).toBitVec.toNat = 2 ^ 7 - 1 := by decide
  rw [Int32.toBitVec_and, BitVec.toNat_and, e1, e2, e3, Nat.and_two_pow_sub_one_eq_mod]
  omega
theorem k5 : (6148914691236517205 : Int64) = lN (m5N 32) := by decide +kernel
theorem k3 : (3689348814741910323 : Int64) = lN (m3N 16) := by decide +kernel
theorem kF : (1085102592571150095 : Int64) = lN (mFN 8) := by decide +kernel
theorem sh_1 {n : Nat} (hn : n < 2 ^ 64) : ((lN n).toUInt64 >>> ((1 : Int32).toInt64.toUInt64 &&& Int64.toUInt64 63)).toInt64 = lN (n / 2) := wb_shr (k := 1) hn (by decide)
theorem sh_2 {n : Nat} (hn : n < 2 ^ 64) : ((lN n).toUInt64 >>> ((2 : Int32).toInt64.toUInt64 &&& Int64.toUInt64 63)).toInt64 = lN (n / 4) := wb_shr (k := 2) hn (by decide)
theorem sh_4 {n : Nat} (hn : n < 2 ^ 64) : ((lN n).toUInt64 >>> ((4 : Int32).toInt64.toUInt64 &&& Int64.toUInt64 63)).toInt64 = lN (n / 16) := wb_shr (k := 4) hn (by decide)
theorem sh_8 {n : Nat} (hn : n < 2 ^ 64) : ((lN n).toUInt64 >>> ((8 : Int32).toInt64.toUInt64 &&& Int64.toUInt64 63)).toInt64 = lN (n / 256) := wb_shr (k := 8) hn (by decide)
theorem sh_16 {n : Nat} (hn : n < 2 ^ 64) : ((lN n).toUInt64 >>> ((16 : Int32).toInt64.toUInt64 &&& Int64.toUInt64 63)).toInt64 = lN (n / 65536) := wb_shr (k := 16) hn (by decide)
theorem sh_32 {n : Nat} (hn : n < 2 ^ 64) : ((lN n).toUInt64 >>> ((32 : Int32).toInt64.toUInt64 &&& Int64.toUInt64 63)).toInt64 = lN (n / 4294967296) := wb_shr (k := 32) hn (by decide)
theorem b8_le (X : Nat) : b8N X ≤ 8 := bits8 _ _ _ _ _ _ _ _
theorem cnt_sum {X : Nat} : ∃ c0 c1 c2 c3 c4 c5 c6 c7, c0 ≤ 8 ∧ c1 ≤ 8 ∧ c2 ≤ 8 ∧ c3 ≤ 8 ∧ c4 ≤ 8 ∧ c5 ≤ 8 ∧ c6 ≤ 8 ∧ c7 ≤ 8 ∧ c3N 8 X = c0 + 256 * (c1 + 256 * (c2 + 256 * (c3 + 256 * (c4 + 256 * (c5 + 256 * (c6 + 256 * c7)))))) ∧ cntN X 64 = c0 + c1 + c2 + c3 + c4 + c5 + c6 + c7 := by
  refine ⟨b8N X, b8N (X / 256), b8N (X / 256 / 256), b8N (X / 256 / 256 / 256), b8N (X / 256 / 256 / 256 / 256), b8N (X / 256 / 256 / 256 / 256 / 256), b8N (X / 256 / 256 / 256 / 256 / 256 / 256), b8N (X / 256 / 256 / 256 / 256 / 256 / 256 / 256), b8_le _, b8_le _, b8_le _, b8_le _, b8_le _, b8_le _, b8_le _, b8_le _, rfl, ?_⟩
  rw [show 64 = 8 + (8 + (8 + (8 + (8 + (8 + (8 + (8 + 0))))))) from rfl, cnt_8, cnt_8, cnt_8, cnt_8, cnt_8, cnt_8, cnt_8, cnt_8, cntN]
  simp only [Nat.add_assoc, Nat.add_zero]
theorem bitCount_ok {X : Nat} (hX : X < 2 ^ 45) : f_J13_bitCount_95d88 (lN X) = some (nI (cntN X 45)) := by
  obtain ⟨a1, a2⟩ := c1_ok 32 X (Nat.lt_of_lt_of_le hX (by decide))
  have b1 : c1N 32 X < 2 ^ 45 := by rw [← a1]; omega
  have a3 := c2_ok 16 X
  have b2 : c2N 16 X < 2 ^ 47 := by
    rw [← a3]
    have h1 : (c1N (2 * 16) X &&& m3N 16) ≤ c1N 32 X := Nat.and_le_left
    have h2 : (c1N (2 * 16) X / 4 &&& m3N 16) ≤ c1N 32 X / 4 := Nat.and_le_left
    omega
  have a4 := c3_ok 8 X
  have b3 : c3N 8 X < 2 ^ 48 := by
    rw [← a4]
    have h1 : ((c2N (2 * 8) X + c2N (2 * 8) X / 16) &&& mFN 8) ≤ c2N 16 X + c2N 16 X / 16 := Nat.and_le_left
    omega
  change (c1N 32 X &&& m3N 16) + (c1N 32 X / 4 &&& m3N 16) = c2N 16 X at a3
  change ((c2N 16 X + c2N 16 X / 16) &&& mFN 8) = c3N 8 X at a4
  obtain ⟨c0, c1, c2, c3, c4, c5, c6, c7, h0, h1, h2, h3, h4, h5, h6, h7, e3, ec⟩ := cnt_sum (X := X)
  have hf := fold_8 h0 h1 h2 h3 h4 h5 h6 h7 e3 rfl rfl
  have e45 : cntN X 64 = cntN X 45 := cnt_top hX 19
  unfold f_J13_bitCount_95d88
  simp only [bnd]
  rw [sh_1 (Nat.lt_trans hX (by decide)), k5, fb_andL, lN_sub a2, a1]
  rw [k3, sh_2 (Nat.lt_trans b1 (by decide)), fb_andL, fb_andL, lN_add, a3]
  rw [kF, sh_4 (Nat.lt_trans b2 (by decide)), lN_add, fb_andL, a4]
  rw [sh_8 (Nat.lt_trans b3 (by decide)), lN_add, sh_16 (by omega), lN_add, sh_32 (by omega), lN_add, lN_i, nI_127, hf, ← ec, e45]
end
section
theorem wb_nat {kd : Nat → Nat} {bl : Nat} {c : Nat → Int32} {b N : Nat} : ∀ i, i ≤ 45 → ∃ X, X < 2 ^ i ∧ wbP kd bl c b N i = lN X
  | 0, _ => ⟨0, by decide, rfl⟩
  | i + 1, hi => by
    obtain ⟨X, hX, e⟩ := wb_nat (kd := kd) (bl := bl) (c := c) (b := b) (N := N) i (by omega)
    have h2 : 2 ^ (i + 1) = 2 ^ i + 2 ^ i := by rw [Nat.pow_succ]; omega
    have h3 : 2 ^ (i + 1) ≤ 2 ^ 45 := Nat.pow_le_pow_right (by decide) hi
    have h4 : (2 : Nat) ^ 45 < 2 ^ 64 := by decide
    unfold wbP
    rw [e]
    split
    · refine ⟨X + 2 ^ i, by omega, ?_⟩
      have e1 : (1 : Int64) <<< ((nI i).toInt64 &&& 63) = lN (1 * 2 ^ i) := wb_shl 1 (by omega)
      rw [e1]
      have e2 := g_or' (k := i) (p := 2 ^ i) (a := X) (b := 1) rfl hX (by omega)
      rw [e2, Nat.one_mul]
    · exact ⟨X, by omega, rfl⟩
theorem l_bit {X i : Nat} (hX : X < 2 ^ 45) (hi : i < 45) : (lg_cmp ((lN X >>> ((nI i).toInt64 &&& 63)) &&& 1) 1) = 0 ↔ X / 2 ^ i % 2 = 1 := by
  have h4 : (2 : Nat) ^ 45 < 2 ^ 62 := by decide
  have hd : X / 2 ^ i ≤ X := Nat.div_le_self _ _
  have h5 : (2 : Nat) ^ 62 < 2 ^ 64 := by decide
  rw [lg_cmp_eq, wb_c i (by omega), pf_shr (d := i) (by
    rw [wb_tb]
    have := wb_sm i (by omega)
    rw [this, BitVec.toNat_ofNat]
    omega) (by omega), wb_a1 (by omega)]
  rcases Nat.mod_two_eq_zero_or_one (X / 2 ^ i) with h | h
  · rw [h]; decide
  · rw [h]; decide
theorem wantedMany_ok {bl sp : Nat} {kd wd : Nat → Nat} {kv wv : Nat → Int32} (hF : TF bl sp kd wd kv wv) {tk : Int64} {c : Nat → Int32} (hT : TW bl tk c) {N : Nat} (hN : N = 72) {n : Nat} (hn : 1000 ≤ n) {b Q : Nat} (hQ : Q = 45) (hb : b ≤ bl) {mk mw mc mo : Nat → Int32} (hMF : MF bl kv wv mk mw) (hv : ∀ d, d ≤ bl → mc d = c d) {X : Nat} (hX : X < 2 ^ 45) (hw : wbP kd bl c b N Q = lN X) {a1 a2 a3 a4 a5 a6 a7 a8 : Int32} :
    ∃ r, f_X12_wantedMany n (nI bl) (nI sp) a1 a2 a3 a4 a5 a6 a7 a8 mk mw mc mo (nI b) = some r ∧ r.1 = nI (cntN X 45) := by
  unfold f_X12_wantedMany
  refine bind_r (wantedOf_ok hF hT hN hn hQ hb hMF hv) (fun u hu => ?_)
  rw [hw] at hu
  unfold f_X12_wantedMany_L12
  refine lp_r (fun j s => ∃ i, j + i = 45 ∧ s.2 = nI i ∧ s.1 = nI (cntN X i)) 45 ⟨0, by omega, nI_0.symm, rfl⟩ (by omega) ?_ ?_
  · rintro g ⟨x, y⟩ ⟨i, hi, hx, hR⟩
    have hi : i = 45 := by omega
    subst hi
    dsimp only at hx hR ⊢
    unfold b_X12_wantedMany_L12
    rw [hx, if_pos (show (45 : Int32) ≤ nI 45 by decide)]
    exact ⟨_, rfl, hR⟩
  · rintro g j ⟨x, y⟩ ⟨i, hi, hx, hR⟩
    left
    dsimp only at hx hR ⊢
    unfold b_X12_wantedMany_L12
    rw [hx, if_neg (show ¬ (45 : Int32) ≤ nI i from nI_ge (b := 45) (by omega) (by decide)), hu]
    simp only [jn, bnd, nI_1]
    have e : cntN X (i + 1) = cntN X i + X / 2 ^ i % 2 := rfl
    by_cases h : X / 2 ^ i % 2 = 1
    · rw [if_pos ((l_bit hX (by omega)).mpr h)]
      refine ⟨_, ?_, rfl⟩
      refine ⟨i + 1, by omega, rfl, ?_⟩
      dsimp only
      rw [hR, e, h, nI_1]
    · rw [if_neg (fun z => h ((l_bit hX (by omega)).mp z))]
      refine ⟨_, ?_, rfl⟩
      refine ⟨i + 1, by omega, rfl, ?_⟩
      dsimp only
      rw [hR, e, show X / 2 ^ i % 2 = 0 by omega, Int32.add_zero]; rfl
end
section
/-! of which kind a ball can be -/
def updN (f : Nat → Nat) (k x : Nat) : Nat → Nat := fun j => if j = k then x else f j
theorem TF_kind {bl sp : Nat} {kd wd : Nat → Nat} {kv wv : Nat → Int32} (hF : TF bl sp kd wd kv wv) {b k : Nat} (hk : k < 5) : TF bl sp (updN kd b k) wd (upd kv b (nI k)) wv := by
  refine ⟨hF.1, hF.2.1, hF.2.2.1, hF.2.2.2.1, fun d hd => ?_, hF.2.2.2.2.2⟩
  by_cases h : d = b
  · rw [h, upd_s]; simp [updN, hk]
  · rw [upd_n h]; simp only [updN, h, if_false]; exact hF.2.2.2.2.1 d hd
theorem MF_kind {bl : Nat} {kv wv mk mw : Nat → Int32} (hM : MF bl kv wv mk mw) {b k : Nat} : MF bl (upd kv b (nI k)) wv (upd mk b (nI k)) mw := by
  intro d hd
  refine ⟨?_, (hM d hd).2⟩
  by_cases h : d = b
  · rw [h, upd_s, upd_s]
  · rw [upd_n h, upd_n h]; exact (hM d hd).1
def enP (kd : Nat → Nat) (bl sp : Nat) (c : Nat → Int32) (b k w st : Nat) : Int32 := sC (updN kd b k) bl sp c w st 0 b
theorem endAs_ok {bl sp : Nat} {kd wd : Nat → Nat} {kv wv : Nat → Int32} (hF : TF bl sp kd wd kv wv) {tk : Int64} {c : Nat → Int32} (hT : TW bl tk c) {n : Nat} (hn : 1000 ≤ n) {b k w st : Nat} (hb : b ≤ bl) (hk : k < 5) (hw : w < 8) (hst : st ≤ 9) {m0 b0 p0 br0 h0 hp0 fo0 sz sq sz1 : Int32} {t0 : Int64} {v1 v2 v3 : Nat → Int32} :
    ∃ r, f_X4_endAs n m0 b0 p0 br0 h0 hp0 fo0 t0 sz sq v1 v2 v3 tk sz1 (nI sp) c kv wv (nI b) (nI k) (nI w) (nI st) = some r ∧ r.1 = enP kd bl sp c b k w st := by
  have hb7 : b < 7 := by have := hF.2.1; omega
  unfold f_X4_endAs
  simp only [f_X9_begin, f_X10_copy, Option.bind_some]
  have hsk : f_X10_setKind kv (nI b) (nI k) = some (upd kv b (nI k)) := by
    unfold f_X10_setKind
    rw [if_neg (nI_pos (by omega)), if_neg (show ¬ (7 : Int32) ≤ nI b from nI_ge (b := 7) hb7 (by decide))]
    simp only [gd, inb_nI hb7 (by decide), if_true, nI_clamp (show b < 2 ^ 31 by omega)]
  rw [hsk, Option.bind_some]
  refine bind_r (shoot_r0 (TF_kind hF hk) hT hw hst (by omega)) (fun r hr => ?_)
  rw [hr.2.2.2.2.2.1, (t_cell _ hb7).1, Option.bind_some]
  exact ⟨_, rfl, rfl⟩
theorem upd_back (f : Nat → Int32) (k : Nat) (x : Int32) : upd (upd f k x) k (f k) = f := by
  rw [upd_uu]; exact upd_same rfl
def BhR (mk : Nat → Int32) (e : Int32) (r : Int32 × Int32 × Int32 × Int32 × Int32 × Int32 × Int32 × Int32 × Int32 × (Nat → Int32) × (Nat → Int32)) : Prop := r.1 = e ∧ r.2.2.2.2.2.2.2.2.2.1 = mk
theorem behind_ok {bl sp : Nat} {kd wd : Nat → Nat} {kv wv : Nat → Int32} (hF : TF bl sp kd wd kv wv) {tk : Int64} {c : Nat → Int32} (hT : TW bl tk c) {n : Nat} (hn : 1000 ≤ n) {b k w st : Nat} (hb : b ≤ bl) (hk : k < 5) (hw : w < 8) (hst : st ≤ 9) {mk mw mc mo : Nat → Int32} (hMF : MF bl kv wv mk mw) (hv : ∀ d, d ≤ bl → mc d = c d) {a1 a2 a3 a4 a5 a6 a7 a8 : Int32} :
    ∃ r, f_X12_behindAs n (nI bl) (nI sp) a1 a2 a3 a4 a5 a6 a7 a8 mk mw mc mo (nI b) (nI k) (nI w) (nI st) = some r ∧ BhR mk (enP kd bl sp c b k w st) r := by
  have h6 := hF.2.1
  have hb7 : b < 7 := by omega
  unfold f_X12_behindAs
  simp only [gd, bnd, inb_nI hb7 (by decide), if_true, nI_clamp (show b < 2 ^ 31 by omega)]
  refine bind_r (copy_ok (by decide) (by omega) _ _) (fun v hv2 => ?_)
  refine bind_r (strike_r0 (TF_kind hF hk) hT hw hst (by omega) (MF_kind hMF) (fun d hd => (hv2 d (by omega)).trans (hv d hd))) (fun r hr => ?_)
  refine ⟨_, rfl, hr.2.2.2.2.2 b hb, ?_⟩
  exact upd_back _ _ _
def allF (f : Nat → Bool) : Nat → Bool
  | 0 => true
  | i + 1 => allF f i && f i
def okS (kd : Nat → Nat) (bl sp : Nat) (c : Nat → Int32) (b : Nat) (sb sd se sf : Nat → Int32) (k i : Nat) : Bool := !decide (sb i = nI b) || decide (enP kd bl sp c b k (sd i).toNatClampNeg (se i).toNatClampNeg = sf i)
def kbF (g : Nat → Bool) : Nat → Int32
  | 0 => 0
  | k + 1 => if g k = true then kbF g k ||| (1 <<< (nI k &&& 31)) else kbF g k
theorem kb_bit {g : Nat → Bool} : ∀ m, m ≤ 5 → ∀ j, j < 32 → bt (kbF g m) j = (decide (j < m) && g j)
  | 0, _, j, hj => by rw [kbF, b_0]; simp
  | m + 1, hm, j, hj => by
    have ih := kb_bit (g := g) m (by omega) j hj
    rw [kbF]
    by_cases hjm : j = m
    · subst hjm
      cases hg : g j
      · simp [ih]
      · simp [bt_pot _ (show j < 7 by omega) hj]
    · have e : decide (j < m + 1) = decide (j < m) := by simp only [decide_eq_decide]; omega
      rw [e]
      split
      · rw [bt_pot _ (show m < 7 by omega) hj, ih]; simp [hjm]
      · exact ih
/-- what was seen: the class's four rows and the reference's one -/
def SG (sn : Nat) (sb sd se sf ms : Nat → Int32) : Prop := sn ≤ 6 ∧ (∀ i, i < 6 → ms (4 * i) = sb i ∧ ms (4 * i + 1) = sd i ∧ ms (4 * i + 2) = se i ∧ ms (4 * i + 3) = sf i) ∧ ∀ i, i < sn → ∃ w st, w < 8 ∧ st ≤ 9 ∧ sd i = nI w ∧ se i = nI st
theorem bt_clr (x : Int32) {k j : Nat} (hk : k < 7) (hj : j < 32) : bt (x &&& ((1 <<< (nI k &&& 31)) ^^^ (-1))) j = (bt x j && !decide (j = k)) := by
  have h := bt_pot 0 hk hj
  rw [b_or, b_0, Bool.false_or, Bool.false_or] at h
  rw [b_and, b_xor, h, b_m1 j hj]
  cases decide (j = k) <;> rfl
def kbP (kd : Nat → Nat) (bl sp : Nat) (c : Nat → Int32) (b : Nat) (sb sd se sf : Nat → Int32) (sn : Nat) : Int32 := kbF (fun k => allF (okS kd bl sp c b sb sd se sf k) sn) 5
theorem possible_ok {bl sp : Nat} {kd wd : Nat → Nat} {kv wv : Nat → Int32} (hF : TF bl sp kd wd kv wv) {tk : Int64} {c : Nat → Int32} (hT : TW bl tk c) {n : Nat} (hn : 1000 ≤ n) {b sn : Nat} (hb : b ≤ bl) {sb sd se sf ms : Nat → Int32} (hS : SG sn sb sd se sf ms) {m0 b0 p0 br0 h0 hp0 fo0 sz sq sz1 : Int32} {t0 : Int64} {v1 v2 v3 : Nat → Int32} :
    ∃ r, f_X4_possibleKinds n m0 b0 p0 br0 h0 hp0 fo0 t0 sz sq v1 v2 v3 (nI sn) tk sz1 (nI sp) c kv wv sb sd se sf (nI b) = some r ∧ r.1 = kbP kd bl sp c b sb sd se sf sn := by
  obtain ⟨hs6, hS1, hS2⟩ := hS
  unfold f_X4_possibleKinds f_X4_possibleKinds_L6
  refine lp_r (fun j s => ∃ i, j + i = sn ∧ s.2.1 = nI i ∧ ∀ j, j < 32 → bt s.1 j = (decide (j < 5) && allF (okS kd bl sp c b sb sd se sf j) i)) sn ⟨0, by omega, nI_0.symm, ?_⟩ (by omega) ?_ ?_
  · have : ∀ j, j < 32 → bt 31 j = decide (j < 5) := by decide +kernel
    intro j hj
    dsimp only
    rw [this j hj, allF, Bool.and_true]
  · rintro g ⟨x, y, r⟩ ⟨i, hi, hx, hR⟩
    have hi : i = sn := by omega
    subst hi
    dsimp only at hx hR ⊢
    unfold b_X4_possibleKinds_L6
    rw [hx, if_pos (nI_le (Nat.le_refl i) (by omega))]
    refine ⟨_, rfl, ?_⟩
    exact b_ext (fun j hj => (hR j hj).trans (kb_bit (g := fun k => allF (okS kd bl sp c b sb sd se sf k) i) 5 (by decide) j hj).symm)
  · rintro g j ⟨x, y, r⟩ ⟨i, hi, hx, hR⟩
    left
    dsimp only at hx hR ⊢
    unfold b_X4_possibleKinds_L6
    rw [hx, if_neg (nI_ge (show i < sn by omega) (by omega)), if_neg (show ¬ (6 : Int32) ≤ nI i from nI_ge (b := 6) (by omega) (by decide))]
    simp only [gd, inb_nI (show i < 6 by omega) (by decide), if_true, jn, bnd, nI_1, nI_clamp (show i < 2 ^ 31 by omega)]
    obtain ⟨w, st, hw, hst, ew, es⟩ := hS2 i (by omega)
    have cw : (sd i).toNatClampNeg = w := by rw [ew]; exact nI_clamp (by omega)
    have cs : (se i).toNatClampNeg = st := by rw [es]; exact nI_clamp (by omega)
    by_cases hsb : sb i = nI b
    · rw [if_pos hsb]
      have hok : ∀ k, okS kd bl sp c b sb sd se sf k i = decide (enP kd bl sp c b k w st = sf i) := fun k => by
        unfold okS; rw [cw, cs]; simp [hsb]
      unfold f_X4_possibleKinds_L39
      refine lp_l (fun j s => ∃ k, j + k = 5 ∧ s.2.1 = nI k ∧ ∀ j, j < 32 → bt s.1 j = (decide (j < 5) && allF (okS kd bl sp c b sb sd se sf j) (if j < k then i + 1 else i))) 5 ⟨0, by omega, nI_0.symm, ?_⟩ (by omega) ?_ ?_
      · intro j hj
        rw [if_neg (by omega)]; exact hR j hj
      · rintro g2 ⟨x, y, r⟩ ⟨k, hk, hx2, hR2⟩
        have hk : k = 5 := by omega
        subst hk
        dsimp only at hx2 hR2 ⊢
        unfold b_X4_possibleKinds_L39
        rw [hx2, if_pos (show (5 : Int32) ≤ nI 5 by decide)]
        refine ⟨_, ?_, rfl⟩
        refine ⟨i + 1, by omega, rfl, fun j hj => (hR2 j hj).trans ?_⟩
        by_cases h5 : j < 5
        · rw [if_pos h5]
        · simp [h5]
      · rintro g2 j2 ⟨x, y, r⟩ ⟨k, hk, hx2, hR2⟩
        left
        dsimp only at hx2 hR2 ⊢
        unfold b_X4_possibleKinds_L39
        rw [hx2, if_neg (show ¬ (5 : Int32) ≤ nI k from nI_ge (b := 5) (by omega) (by decide))]
        simp only [gd, inb_nI (show i < 6 by omega) (by decide), if_true, jn, bnd, nI_1, nI_clamp (show i < 2 ^ 31 by omega)]
        rw [ew, es]
        refine bind_l (endAs_ok hF hT hn hb (show k < 5 by omega) hw hst) (fun r1 hr1 => ?_)
        rw [hr1]
        by_cases he : enP kd bl sp c b k w st = sf i
        · rw [if_pos he]
          refine ⟨_, ?_, rfl⟩
          refine ⟨k + 1, by omega, rfl, fun j hj => (hR2 j hj).trans ?_⟩
          by_cases hjk : j = k
          · subst hjk
            rw [if_neg (by omega), if_pos (by omega), allF, hok j]
            simp [he]
          · by_cases hlt : j < k
            · rw [if_pos hlt, if_pos (by omega)]
            · rw [if_neg hlt, if_neg (by omega)]
        · rw [if_neg he]
          refine ⟨_, ?_, rfl⟩
          refine ⟨k + 1, by omega, rfl, fun j hj => (bt_clr x (show k < 7 by omega) hj).trans ?_⟩
          rw [hR2 j hj]
          by_cases hjk : j = k
          · subst hjk
            rw [if_neg (by omega), if_pos (by omega), allF, hok j]
            simp [he]
          · have hd : decide (j = k) = false := by simp [hjk]
            rw [hd, Bool.not_false, Bool.and_true]
            by_cases hlt : j < k
            · rw [if_pos hlt, if_pos (by omega)]
            · rw [if_neg hlt, if_neg (by omega)]
    · rw [if_neg hsb]
      refine ⟨_, ?_, rfl⟩
      refine ⟨i + 1, by omega, rfl, fun j hj => (hR j hj).trans ?_⟩
      have hok : okS kd bl sp c b sb sd se sf j i = true := by unfold okS; simp [hsb]
      rw [allF, hok, Bool.and_true]
def KnR (mk : Nat → Int32) (e : Int32) (r : Int32 × Int32 × Int32 × Int32 × Int32 × Int32 × Int32 × Int32 × Int32 × (Nat → Int32) × (Nat → Int32)) : Prop := r.1 = e ∧ r.2.2.2.2.2.2.2.2.2.1 = mk
theorem nI_4 : ∀ i, i < 7 → 4 * nI i = nI (4 * i) ∧ nI (4 * i) + 4 = nI (4 * (i + 1)) ∧ nI (4 * i) + 1 = nI (4 * i + 1) ∧ nI (4 * i) + 2 = nI (4 * i + 2) ∧ nI (4 * i) + 3 = nI (4 * i + 3) := by decide +kernel
theorem kindsOf_ok {bl sp : Nat} {kd wd : Nat → Nat} {kv wv : Nat → Int32} (hF : TF bl sp kd wd kv wv) {tk : Int64} {c : Nat → Int32} (hT : TW bl tk c) {n : Nat} (hn : 1000 ≤ n) {b sn : Nat} (hb : b ≤ bl) {sb sd se sf ms : Nat → Int32} (hS : SG sn sb sd se sf ms) {mk mw mc mo : Nat → Int32} (hMF : MF bl kv wv mk mw) (hv : ∀ d, d ≤ bl → mc d = c d) {a1 a2 a3 a4 a5 a6 a7 a8 : Int32} :
    ∃ r, f_X12_kindsOf n (nI bl) (nI sp) a1 a2 a3 a4 a5 a6 a7 a8 (nI sn) mk mw mc mo ms (nI b) = some r ∧ KnR mk (kbP kd bl sp c b sb sd se sf sn) r := by
  obtain ⟨hs6, hS1, hS2⟩ := hS
  unfold f_X12_kindsOf f_X12_kindsOf_L4
  refine lp_r (fun j s => ∃ k, j + k = 5 ∧ s.2.1 = nI k ∧ s.1 = kbF (fun k => allF (okS kd bl sp c b sb sd se sf k) sn) k ∧ s.2.2.2.2.2.2.2.2.2.2.1 = mk) 5 ⟨0, by omega, nI_0.symm, rfl, rfl⟩ (by omega) ?_ ?_
  · rintro g ⟨x, y, s1, s2, s3, s4, s5, s6, s7, s8, mk', mo'⟩ ⟨k, hk, hx, hR, hm⟩
    have hk : k = 5 := by omega
    dsimp only at hx hR hm ⊢
    unfold b_X12_kindsOf_L4
    rw [hx, if_pos (show (5 : Int32) ≤ nI k by rw [hk]; decide)]
    refine ⟨_, rfl, ?_⟩
    refine ⟨?_, hm⟩
    dsimp only
    rw [hR, hk]; rfl
  · rintro g j ⟨x, y, s1, s2, s3, s4, s5, s6, s7, s8, mk', mo'⟩ ⟨k, hk, hx, hR, hm⟩
    left
    dsimp only at hx hR hm ⊢
    subst hm
    unfold b_X12_kindsOf_L4
    rw [hx, if_neg (show ¬ (5 : Int32) ≤ nI k from nI_ge (b := 5) (by omega) (by decide))]
    simp only [jn, bnd, nI_1]
    unfold f_X12_kindsOf_L15
    refine lp_l (fun j s => ∃ i, j + i = sn ∧ s.2.1 = nI (4 * i) ∧ s.1 = b2 (allF (okS kd bl sp c b sb sd se sf k) i) ∧ s.2.2.2.2.2.2.2.2.2.2.1 = mk') sn ⟨0, by omega, nI_0.symm, rfl, rfl⟩ (by omega) ?_ ?_
    · rintro g2 ⟨x2, y2, t1, t2, t3, t4, t5, t6, t7, t8, mk2, mo2⟩ ⟨i, hi, hx2, hR2, hm2⟩
      have hi : i = sn := by omega
      subst hi
      dsimp only at hx2 hR2 hm2 ⊢
      unfold b_X12_kindsOf_L15
      rw [hx2, (nI_4 i (by omega)).1, if_pos (nI_le (Nat.le_refl _) (by omega)), hR2]
      dsimp only
      cases ha : allF (okS kd bl sp c b sb sd se sf k) i
      · rw [if_pos b2_f, Int32.or_zero]
        refine ⟨_, ?_, rfl⟩
        refine ⟨k + 1, by omega, rfl, ?_, hm2⟩
        dsimp only
        rw [hR, kbF, ha, if_neg (by decide)]
      · rw [if_neg (by rw [b2_t]; decide)]
        refine ⟨_, ?_, rfl⟩
        refine ⟨k + 1, by omega, rfl, ?_, hm2⟩
        dsimp only
        rw [hR, kbF, ha, if_pos rfl]
    · rintro g2 j2 ⟨x2, y2, t1, t2, t3, t4, t5, t6, t7, t8, mk2, mo2⟩ ⟨i, hi, hx2, hR2, hm2⟩
      left
      dsimp only at hx2 hR2 hm2 ⊢
      subst hm2
      have h4 := nI_4 i (by omega)
      have hs := hS1 i (by omega)
      obtain ⟨w, st, hw, hst, ew, es⟩ := hS2 i (by omega)
      have cw : (sd i).toNatClampNeg = w := by rw [ew]; exact nI_clamp (by omega)
      have cs : (se i).toNatClampNeg = st := by rw [es]; exact nI_clamp (by omega)
      unfold b_X12_kindsOf_L15
      rw [hx2, (nI_4 sn (by omega)).1, if_neg (nI_ge (show 4 * i < 4 * sn by omega) (by omega))]
      simp only [gd, jn, bnd, h4.2.1, h4.2.2.1, h4.2.2.2.1, h4.2.2.2.2, inb_nI (show 4 * i < 24 by omega) (by decide), inb_nI (show 4 * i + 1 < 24 by omega) (by decide), inb_nI (show 4 * i + 2 < 24 by omega) (by decide), inb_nI (show 4 * i + 3 < 24 by omega) (by decide), if_true, nI_clamp (show 4 * i < 2 ^ 31 by omega), nI_clamp (show 4 * i + 1 < 2 ^ 31 by omega), nI_clamp (show 4 * i + 2 < 2 ^ 31 by omega), nI_clamp (show 4 * i + 3 < 2 ^ 31 by omega), hs.1, hs.2.1, hs.2.2.1, hs.2.2.2]
      by_cases hsb : sb i = nI b
      · rw [if_pos hsb, hR2]
        have hok : okS kd bl sp c b sb sd se sf k i = decide (enP kd bl sp c b k w st = sf i) := by
          unfold okS; rw [cw, cs]; simp [hsb]
        cases ha : allF (okS kd bl sp c b sb sd se sf k) i
        · rw [if_pos b2_f]
          refine ⟨_, ?_, rfl⟩
          refine ⟨i + 1, by omega, rfl, ?_, rfl⟩
          dsimp only
          rw [allF, ha]; rfl
        · rw [if_neg (by rw [b2_t]; decide), ew, es]
          refine bind_l (behind_ok hF hT hn hb (show k < 5 by omega) hw hst hMF hv) (fun r1 hr1 => ?_)
          rw [hr1.1]
          by_cases he : enP kd bl sp c b k w st = sf i
          · rw [if_pos he]
            refine ⟨_, ?_, rfl⟩
            refine ⟨i + 1, by omega, rfl, ?_, hr1.2⟩
            dsimp only
            rw [allF, ha, hok]; simp [he, b2]
          · rw [if_neg he]
            refine ⟨_, ?_, rfl⟩
            refine ⟨i + 1, by omega, rfl, ?_, hr1.2⟩
            dsimp only
            rw [allF, ha, hok]; simp [he, b2]
      · rw [if_neg hsb]
        refine ⟨_, ?_, rfl⟩
        refine ⟨i + 1, by omega, rfl, ?_, rfl⟩
        have hok : okS kd bl sp c b sb sd se sf k i = true := by unfold okS; simp [hsb]
        dsimp only
        rw [allF, hok, Bool.and_true]; exact hR2
end
section
/-! which stroke tells most -/
def cnF (P : Nat → Bool) (e : Nat → Int32) (k : Nat) : Nat → Nat
  | 0 => 0
  | o + 1 => cnF P e k o + (if P o = true ∧ e o = e k then 1 else 0)
def wcF (P : Nat → Bool) (e : Nat → Int32) : Nat → Nat
  | 0 => 0
  | k + 1 => if P k = true then (if wcF P e k < cnF P e k (k + 1) then cnF P e k (k + 1) else wcF P e k) else wcF P e k
def wmF (P : Nat → Bool) (e : Nat → Int32) : Nat → Nat
  | 0 => 0
  | k + 1 => if P k = true then (if cnF P e k 5 ≤ wmF P e k then wmF P e k else cnF P e k 5) else wmF P e k
theorem cn_le (P : Nat → Bool) (e : Nat → Int32) (k : Nat) : ∀ m, cnF P e k m ≤ m
  | 0 => Nat.le_refl _
  | m + 1 => by
    have := cn_le P e k m
    rw [cnF]; split <;> omega
theorem cn_mono (P : Nat → Bool) (e : Nat → Int32) (k m : Nat) : ∀ j, cnF P e k m ≤ cnF P e k (m + j)
  | 0 => Nat.le_refl _
  | j + 1 => by
    have := cn_mono P e k m j
    show _ ≤ cnF P e k (m + j) + _
    omega
theorem cn_same {P : Nat → Bool} {e : Nat → Int32} {k k' : Nat} (h : e k' = e k) : ∀ m, cnF P e k m = cnF P e k' m
  | 0 => rfl
  | m + 1 => by rw [cnF, cnF, cn_same h m, h]
theorem cn_stop {P : Nat → Bool} {e : Nat → Int32} {k m : Nat} (h : ∀ o, m ≤ o → o < 5 → ¬ (P o = true ∧ e o = e k)) : ∀ j, m + j ≤ 5 → cnF P e k (m + j) = cnF P e k m
  | 0, _ => rfl
  | j + 1, hj => by
    show cnF P e k (m + j) + (if P (m + j) = true ∧ e (m + j) = e k then 1 else 0) = _
    rw [cn_stop h j (by omega), if_neg (h (m + j) (by omega) (by omega)), Nat.add_zero]
theorem wc_ge {P : Nat → Bool} {e : Nat → Int32} {k : Nat} (hP : P k = true) : ∀ m, k < m → cnF P e k (k + 1) ≤ wcF P e m
  | 0, h => absurd h (Nat.not_lt_zero _)
  | m + 1, h => by
    rw [wcF]
    by_cases hk : k = m
    · subst hk
      rw [if_pos hP]
      split <;> omega
    · have := wc_ge (e := e) hP m (by omega)
      split
      · split <;> omega
      · exact this
theorem wc_le_wm {P : Nat → Bool} {e : Nat → Int32} : ∀ m, m ≤ 5 → wcF P e m ≤ wmF P e m
  | 0, _ => Nat.le_refl _
  | m + 1, h => by
    have ih := wc_le_wm (P := P) (e := e) m (by omega)
    have hm := cn_mono P e m (m + 1) (5 - (m + 1))
    rw [show m + 1 + (5 - (m + 1)) = 5 by omega] at hm
    rw [wcF, wmF]
    by_cases hP : P m = true
    · rw [if_pos hP, if_pos hP]
      split <;> split <;> omega
    · rw [if_neg hP, if_neg hP]; exact ih
theorem wm_le {P : Nat → Bool} {e : Nat → Int32} {B : Nat} (hB : ∀ k, k < 5 → P k = true → cnF P e k 5 ≤ B) : ∀ m, m ≤ 5 → wmF P e m ≤ B
  | 0, _ => Nat.zero_le _
  | m + 1, h => by
    have ih := wm_le hB m (by omega)
    rw [wmF]
    by_cases hP : P m = true
    · have := hB m (by omega) hP
      rw [if_pos hP]
      split <;> omega
    · rw [if_neg hP]; exact ih
theorem wc_wm (P : Nat → Bool) (e : Nat → Int32) : wcF P e 5 = wmF P e 5 := by
  refine Nat.le_antisymm (wc_le_wm 5 (Nat.le_refl _)) (wm_le (fun k hk hP => ?_) 5 (Nat.le_refl _))
  obtain ⟨k', hk', ⟨hP', he⟩, hl⟩ := fb_last (p := fun i => P i = true ∧ e i = e k) (n := 5) ⟨k, hk, hP, rfl⟩
  have h1 := cn_stop (P := P) (e := e) (k := k) (m := k' + 1) (fun o ho ho5 => hl o ho ho5) (5 - (k' + 1)) (by omega)
  rw [show k' + 1 + (5 - (k' + 1)) = 5 by omega] at h1
  rw [h1, cn_same he]
  exact wc_ge hP' 5 hk'
theorem left_ok {bl sp : Nat} {kd wd : Nat → Nat} {kv wv : Nat → Int32} (hF : TF bl sp kd wd kv wv) {tk : Int64} {c : Nat → Int32} (hT : TW bl tk c) {n : Nat} (hn : 1000 ≤ n) {b w M : Nat} (hM : M = 5) (hb : b ≤ bl) (hw : w < 8) {pos : Int32} {m0 b0 p0 br0 h0 hp0 fo0 sz sq sz1 : Int32} {t0 : Int64} {v1 v2 v3 un : Nat → Int32} :
    ∃ r, f_X4_leftAtWorst n m0 b0 p0 br0 h0 hp0 fo0 t0 sz sq v1 v2 v3 un tk sz1 (nI sp) c kv wv (nI b) (nI w) pos = some r ∧ r.1 = nI (wcF (bt pos) (fun k => enP kd bl sp c b k w 6) M) := by
  unfold f_X4_leftAtWorst f_X4_leftAtWorst_L6
  refine lp_r (fun j s => ∃ k, j + k = 5 ∧ s.2.1 = nI k ∧ s.1 = nI (wcF (bt pos) (fun k => enP kd bl sp c b k w 6) k) ∧ ∀ o, o < k → bt pos o = true → s.2.2.2.2.2.2.2.2.2.2.2.2.2.2.2 o = enP kd bl sp c b o w 6) 5 ⟨0, by omega, nI_0.symm, rfl, fun o ho => absurd ho (Nat.not_lt_zero _)⟩ (by omega) ?_ ?_
  · rintro g ⟨x, y, r⟩ ⟨k, hk, hx, hR, hU⟩
    have hk : k = 5 := by omega
    dsimp only at hx hR hU ⊢
    unfold b_X4_leftAtWorst_L6
    rw [hx, if_pos (show (5 : Int32) ≤ nI k by rw [hk]; decide)]
    refine ⟨_, rfl, ?_⟩
    dsimp only
    rw [hR, hM, hk]
  · rintro g j ⟨x, y, s1, s2, s3, s4, s5, s6, s7, s8, s9, s10, s11, s12, s13, un⟩ ⟨k, hk, hx, hR, hU⟩
    left
    dsimp only at hx hR hU ⊢
    unfold b_X4_leftAtWorst_L6
    rw [hx, if_neg (show ¬ (5 : Int32) ≤ nI k from nI_ge (b := 5) (by omega) (by decide)), bit_at pos (by omega)]
    simp only [jn, bnd, nI_1]
    cases hbk : bt pos k
    · rw [if_pos b2_f]
      refine ⟨_, ?_, rfl⟩
      refine ⟨k + 1, by omega, rfl, ?_, fun o ho hbo => ?_⟩
      · dsimp only
        rw [hR, wcF, hbk, if_neg (by decide)]
      · have hok : o ≠ k := fun z => by rw [z, hbk] at hbo; cases hbo
        exact hU o (by omega) hbo
    · rw [if_neg (by rw [b2_t]; decide)]
      refine bind_l (endAs_ok (st := 6) hF hT hn hb (show k < 5 by omega) hw (by decide)) (fun r1 hr1 => ?_)
      simp only [gd, inb_nI (show k < 5 by omega) (by decide), if_true]
      have hun : ∀ o, o < k + 1 → bt pos o = true → upd un k r1.1 o = enP kd bl sp c b o w 6 := fun o ho hbo => by
        by_cases h : o = k
        · rw [h, upd_s, hr1]
        · rw [upd_n h]; exact hU o (by omega) hbo
      unfold f_X4_leftAtWorst_L49
      refine lp_l (fun j s => ∃ o, j + o = k + 1 ∧ s.2 = nI o ∧ s.1 = nI (cnF (bt pos) (fun k => enP kd bl sp c b k w 6) k o)) (k + 1) ⟨0, by omega, nI_0.symm, rfl⟩ (by omega) ?_ ?_
      · rintro g2 ⟨x2, y2⟩ ⟨o, ho, hx2, hR2⟩
        have ho : o = k + 1 := by omega
        subst ho
        dsimp only at hx2 hR2 ⊢
        unfold b_X4_leftAtWorst_L49
        rw [hx2, if_pos (nI_lt (show k < k + 1 by omega) (by omega))]
        refine ⟨_, ?_, rfl⟩
        refine ⟨k + 1, by omega, rfl, ?_, fun o ho hbo => ?_⟩
        · dsimp only
          have hl := cn_le (bt pos) (fun k => enP kd bl sp c b k w 6) k (k + 1)
          have hwl : wcF (bt pos) (fun k => enP kd bl sp c b k w 6) k < 2 ^ 31 := by
            have h1 := wc_le_wm (P := bt pos) (e := fun k => enP kd bl sp c b k w 6) k (by omega)
            have h2 := wm_le (P := bt pos) (e := fun k => enP kd bl sp c b k w 6) (B := 5) (fun i _ _ => cn_le _ _ i 5) k (by omega)
            omega
          rw [hR, hR2, wcF, hbk, if_pos rfl]
          by_cases hlt : wcF (bt pos) (fun k => enP kd bl sp c b k w 6) k < cnF (bt pos) (fun k => enP kd bl sp c b k w 6) k (k + 1)
          · rw [if_pos hlt, if_pos (nI_lt hlt (by omega))]
          · rw [if_neg hlt, if_neg (nI_nlt (by omega) hwl)]
        · rw [show (nI k).toNatClampNeg = k from nI_clamp (by omega)]
          exact hun o ho hbo
      · rintro g2 j2 ⟨x2, y2⟩ ⟨o, ho, hx2, hR2⟩
        left
        dsimp only at hx2 hR2 ⊢
        unfold b_X4_leftAtWorst_L49
        rw [hx2, if_neg (nI_nlt (show o ≤ k by omega) (by omega)), bit_at pos (by omega)]
        simp only [jn, bnd, nI_1, gd, inb_nI (show k < 5 by omega) (by decide), inb_nI (show o < 5 by omega) (by decide), if_true, nI_clamp (show k < 2 ^ 31 by omega), nI_clamp (show o < 2 ^ 31 by omega)]
        cases hbo : bt pos o
        · rw [if_pos b2_f]
          refine ⟨_, ?_, rfl⟩
          refine ⟨o + 1, by omega, rfl, ?_⟩
          dsimp only
          rw [hR2, cnF, hbo, if_neg (fun z => by cases z.1)]; rfl
        · rw [if_neg (by rw [b2_t]; decide), hun o (by omega) hbo, hun k (by omega) hbk]
          by_cases he : enP kd bl sp c b o w 6 = enP kd bl sp c b k w 6
          · rw [if_pos he]
            refine ⟨_, ?_, rfl⟩
            refine ⟨o + 1, by omega, rfl, ?_⟩
            dsimp only
            rw [hR2, cnF, if_pos ⟨hbo, he⟩, nI_1]
          · rw [if_neg he]
            refine ⟨_, ?_, rfl⟩
            refine ⟨o + 1, by omega, rfl, ?_⟩
            dsimp only
            rw [hR2, cnF, if_neg (fun z => he z.2)]; rfl
end
section
def tdF (f : Nat → Nat) : Nat → Nat × Int32
  | 0 => (6, -1)
  | i + 1 => if (tdF f i).1 ≤ f i then tdF f i else (f i, nI i)
theorem td_le (f : Nat → Nat) : ∀ i, (tdF f i).1 ≤ 6
  | 0 => Nat.le_refl _
  | i + 1 => by
    have := td_le f i
    rw [tdF]; split
    · exact this
    · show f i ≤ 6
      omega
def tfP (kd : Nat → Nat) (bl sp : Nat) (c : Nat → Int32) (b : Nat) (pos : Int32) (w : Nat) : Nat := wcF (bt pos) (fun k => enP kd bl sp c b k w 6) 5
theorem tf_le {kd : Nat → Nat} {bl sp : Nat} {c : Nat → Int32} {b : Nat} {pos : Int32} {w : Nat} : tfP kd bl sp c b pos w ≤ 5 := by
  unfold tfP
  rw [wc_wm]
  exact wm_le (fun i _ _ => cn_le _ _ i 5) 5 (Nat.le_refl _)
def tdP (kd : Nat → Nat) (bl sp : Nat) (c : Nat → Int32) (b : Nat) (pos : Int32) (M : Nat) : Int32 := if pos = 0 then -1 else (tdF (tfP kd bl sp c b pos) M).2
theorem telling_ok {bl sp : Nat} {kd wd : Nat → Nat} {kv wv : Nat → Int32} (hF : TF bl sp kd wd kv wv) {tk : Int64} {c : Nat → Int32} (hT : TW bl tk c) {n : Nat} (hn : 1000 ≤ n) {b sn M : Nat} (hM : M = 8) (hb : b ≤ bl) {sb sd se sf ms : Nat → Int32} (hS : SG sn sb sd se sf ms) {m0 b0 p0 br0 h0 hp0 fo0 sz sq sz1 : Int32} {t0 : Int64} {v1 v2 v3 un : Nat → Int32} :
    ∃ r, f_X4_tellingDirection n m0 b0 p0 br0 h0 hp0 fo0 t0 sz sq v1 v2 v3 un (nI sn) tk sz1 (nI sp) c kv wv sb sd se sf (nI b) = some r ∧ r.1 = tdP kd bl sp c b (kbP kd bl sp c b sb sd se sf sn) M := by
  unfold f_X4_tellingDirection
  refine bind_r (possible_ok hF hT hn hb hS) (fun u hu => ?_)
  unfold tdP
  rw [hu]
  by_cases hz : kbP kd bl sp c b sb sd se sf sn = 0
  · rw [if_pos hz, if_pos hz]
    exact ⟨_, rfl, rfl⟩
  · rw [if_neg hz, if_neg hz]
    unfold f_X4_tellingDirection_L23
    refine lp_r (fun j s => ∃ i, j + i = M ∧ s.2.2.1 = nI i ∧ s.1 = nI (tdF (tfP kd bl sp c b (kbP kd bl sp c b sb sd se sf sn)) i).1 ∧ s.2.1 = (tdF (tfP kd bl sp c b (kbP kd bl sp c b sb sd se sf sn)) i).2) M ⟨0, by omega, nI_0.symm, rfl, rfl⟩ (by omega) ?_ ?_
    · rintro g ⟨x, y, z, r⟩ ⟨i, hi, hx, hR, hR2⟩
      have hi : i = M := by omega
      dsimp only at hx hR hR2 ⊢
      unfold b_X4_tellingDirection_L23
      rw [hx, if_pos (show (8 : Int32) ≤ nI i by rw [hi, hM]; decide)]
      refine ⟨_, rfl, ?_⟩
      dsimp only
      rw [hR2, hi]
    · rintro g j ⟨x, y, z, r⟩ ⟨i, hi, hx, hR, hR2⟩
      left
      dsimp only at hx hR hR2 ⊢
      unfold b_X4_tellingDirection_L23
      rw [hx, if_neg (show ¬ (8 : Int32) ≤ nI i from nI_ge (b := 8) (by omega) (by decide)), hu]
      refine bind_l (left_ok (M := 5) hF hT hn rfl hb (show i < 8 by omega)) (fun r1 hr1 => ?_)
      change r1.1 = nI (tfP kd bl sp c b (kbP kd bl sp c b sb sd se sf sn) i) at hr1
      simp only [jn, bnd, nI_1, hr1]
      have h1 := td_le (tfP kd bl sp c b (kbP kd bl sp c b sb sd se sf sn)) i
      have h2 := tf_le (kd := kd) (bl := bl) (sp := sp) (c := c) (b := b) (pos := kbP kd bl sp c b sb sd se sf sn) (w := i)
      have e : tdF (tfP kd bl sp c b (kbP kd bl sp c b sb sd se sf sn)) (i + 1) = if (tdF (tfP kd bl sp c b (kbP kd bl sp c b sb sd se sf sn)) i).1 ≤ tfP kd bl sp c b (kbP kd bl sp c b sb sd se sf sn) i then tdF (tfP kd bl sp c b (kbP kd bl sp c b sb sd se sf sn)) i else (tfP kd bl sp c b (kbP kd bl sp c b sb sd se sf sn) i, nI i) := rfl
      rw [hR, hR2]
      by_cases h : (tdF (tfP kd bl sp c b (kbP kd bl sp c b sb sd se sf sn)) i).1 ≤ tfP kd bl sp c b (kbP kd bl sp c b sb sd se sf sn) i
      · rw [if_pos (nI_le h (by omega))]
        rw [if_pos h] at e
        refine ⟨_, ?_, rfl⟩
        refine ⟨i + 1, by omega, rfl, ?_, ?_⟩
        · rw [e]
        · rw [e]
      · rw [if_neg (fun z => h ((nI_leI (by omega) (by omega)).mp z))]
        rw [if_neg h] at e
        refine ⟨_, ?_, rfl⟩
        refine ⟨i + 1, by omega, rfl, ?_, ?_⟩
        · rw [e]
        · rw [e]
theorem tryOf_ok {bl sp : Nat} {kd wd : Nat → Nat} {kv wv : Nat → Int32} (hF : TF bl sp kd wd kv wv) {tk : Int64} {c : Nat → Int32} (hT : TW bl tk c) {n : Nat} (hn : 1000 ≤ n) {b sn M : Nat} (hM : M = 8) (hb : b ≤ bl) {sb sd se sf ms : Nat → Int32} (hS : SG sn sb sd se sf ms) {mk mw mc mo mb : Nat → Int32} (hMF : MF bl kv wv mk mw) (hv : ∀ d, d ≤ bl → mc d = c d) {a1 a2 a3 a4 a5 a6 a7 a8 : Int32} :
    ∃ r, f_X12_tryOf n (nI bl) (nI sp) a1 a2 a3 a4 a5 a6 a7 a8 (nI sn) mk mw mc mo ms mb (nI b) = some r ∧ (r.1 = tdP kd bl sp c b (kbP kd bl sp c b sb sd se sf sn) M ∧ r.2.2.2.2.2.2.2.2.2.1 = mk) := by
  unfold f_X12_tryOf
  refine bind_r (kindsOf_ok hF hT hn hb hS hMF hv) (fun u hu => ?_)
  obtain ⟨hu, hum⟩ := hu
  unfold tdP
  by_cases hz : kbP kd bl sp c b sb sd se sf sn = 0
  · rw [if_pos hz]
    unfold f_X12_tryOf_L15
    obtain ⟨n, rfl⟩ : ∃ n', n = n' + 1 := ⟨n - 1, by omega⟩
    rw [lpF]
    dsimp only
    unfold b_X12_tryOf_L15
    rw [if_neg (show ¬ (8 : Int32) ≤ 0 by decide), if_pos (hu.trans hz)]
    exact ⟨_, rfl, rfl, hum⟩
  · rw [if_neg hz]
    unfold f_X12_tryOf_L15
    generalize hpos : kbP kd bl sp c b sb sd se sf sn = pos at hu hz ⊢
    refine lp_r (fun j s => ∃ i, j + i = M ∧ s.2.2.1 = nI i ∧ s.2.1 = nI (tdF (tfP kd bl sp c b pos) i).1 ∧ s.1 = (tdF (tfP kd bl sp c b pos) i).2 ∧ s.2.2.2.2.2.2.2.2.2.2.2.1 = mk) M ⟨0, by omega, nI_0.symm, rfl, rfl, hum⟩ (by omega) ?_ ?_
    · rintro g ⟨x, y, z, s1, s2, s3, s4, s5, s6, s7, s8, mk', mo', mb'⟩ ⟨i, hi, hx, hR, hR2, hm⟩
      have hi : i = M := by omega
      dsimp only at hx hR hR2 hm ⊢
      unfold b_X12_tryOf_L15
      rw [hx, if_pos (show (8 : Int32) ≤ nI i by rw [hi, hM]; decide)]
      refine ⟨_, rfl, ?_, hm⟩
      dsimp only
      rw [hR2, hi]
    · rintro g j ⟨x, y, z, s1, s2, s3, s4, s5, s6, s7, s8, mk', mo', mb'⟩ ⟨i, hi, hx, hR, hR2, hm⟩
      left
      dsimp only at hx hR hR2 hm ⊢
      subst hm
      unfold b_X12_tryOf_L15
      rw [hx, if_neg (show ¬ (8 : Int32) ≤ nI i from nI_ge (b := 8) (by omega) (by decide)), if_neg (by rw [hu]; exact hz)]
      simp only [jn, bnd, nI_1]
      unfold f_X12_tryOf_L29
      refine lp_l (fun j s => ∃ k, j + k = 5 ∧ s.1 = nI k ∧ s.2.2.2.2.2.2.2.2.2.1 = mk' ∧ ∀ o, o < k → s.2.2.2.2.2.2.2.2.2.2.2 o = enP kd bl sp c b o i 6) 5 ⟨0, by omega, nI_0.symm, rfl, fun o ho => absurd ho (Nat.not_lt_zero _)⟩ (by omega) ?_ ?_
      · rintro g2 ⟨x2, t1, t2, t3, t4, t5, t6, t7, t8, mk2, mo2, mb2⟩ ⟨k, hk, hx2, hm2, hB⟩
        have hk : k = 5 := by omega
        subst hk
        dsimp only at hx2 hm2 hB ⊢
        unfold b_X12_tryOf_L29
        rw [hx2, if_pos (show (5 : Int32) ≤ nI 5 by decide)]
        dsimp only
        unfold f_X12_tryOf_L65
        refine lp_l (fun j s => ∃ k, j + k = 5 ∧ s.2 = nI k ∧ s.1 = nI (wmF (bt pos) (fun k => enP kd bl sp c b k i 6) k)) 5 ⟨0, by omega, nI_0.symm, rfl⟩ (by omega) ?_ ?_
        · rintro g3 ⟨x3, y3⟩ ⟨k, hk, hx3, hR3⟩
          have hk : k = 5 := by omega
          subst hk
          dsimp only at hx3 hR3 ⊢
          have hR4 : x3 = nI (tfP kd bl sp c b pos i) := by rw [hR3, ← wc_wm]; rfl
          unfold b_X12_tryOf_L65
          rw [hx3, if_pos (show (5 : Int32) ≤ nI 5 by decide)]
          have h1 := td_le (tfP kd bl sp c b pos) i
          have h2 := tf_le (kd := kd) (bl := bl) (sp := sp) (c := c) (b := b) (pos := pos) (w := i)
          have e : tdF (tfP kd bl sp c b pos) (i + 1) = if (tdF (tfP kd bl sp c b pos) i).1 ≤ tfP kd bl sp c b pos i then tdF (tfP kd bl sp c b pos) i else (tfP kd bl sp c b pos i, nI i) := rfl
          rw [hR, hR2, hR4]
          dsimp only
          by_cases h : (tdF (tfP kd bl sp c b pos) i).1 ≤ tfP kd bl sp c b pos i
          · rw [if_pos (nI_le h (by omega)), if_pos (nI_le h (by omega))]
            rw [if_pos h] at e
            refine ⟨_, ?_, rfl⟩
            refine ⟨i + 1, by omega, rfl, ?_, ?_, hm2⟩
            · rw [e]
            · rw [e]
          · rw [if_neg (fun z => h ((nI_leI (by omega) (by omega)).mp z)), if_neg (fun z => h ((nI_leI (by omega) (by omega)).mp z))]
            rw [if_neg h] at e
            refine ⟨_, ?_, rfl⟩
            refine ⟨i + 1, by omega, rfl, ?_, ?_, hm2⟩
            · rw [e]
            · rw [e]
        · rintro g3 j3 ⟨x3, y3⟩ ⟨k, hk, hx3, hR3⟩
          left
          dsimp only at hx3 hR3 ⊢
          unfold b_X12_tryOf_L65
          rw [hx3, if_neg (show ¬ (5 : Int32) ≤ nI k from nI_ge (b := 5) (by omega) (by decide)), hu, bit_at pos (by omega)]
          simp only [jn, bnd, nI_1]
          unfold f_X12_tryOf_L77
          refine lp_l (fun j s => ∃ o, j + o = 5 ∧ s.2 = nI o ∧ s.1 = nI (cnF (bt pos) (fun k => enP kd bl sp c b k i 6) k o)) 5 ⟨0, by omega, nI_0.symm, rfl⟩ (by omega) ?_ ?_
          · rintro g4 ⟨x4, y4⟩ ⟨o, ho, hx4, hR4⟩
            have ho : o = 5 := by omega
            subst ho
            dsimp only at hx4 hR4 ⊢
            unfold b_X12_tryOf_L77
            rw [hx4, if_pos (show (5 : Int32) ≤ nI 5 by decide)]
            have hl := cn_le (bt pos) (fun k => enP kd bl sp c b k i 6) k 5
            have hwl := wm_le (P := bt pos) (e := fun k => enP kd bl sp c b k i 6) (B := 5) (fun i _ _ => cn_le _ _ i 5) k (by omega)
            have e : wmF (bt pos) (fun k => enP kd bl sp c b k i 6) (k + 1) = if bt pos k = true then (if cnF (bt pos) (fun k => enP kd bl sp c b k i 6) k 5 ≤ wmF (bt pos) (fun k => enP kd bl sp c b k i 6) k then wmF (bt pos) (fun k => enP kd bl sp c b k i 6) k else cnF (bt pos) (fun k => enP kd bl sp c b k i 6) k 5) else wmF (bt pos) (fun k => enP kd bl sp c b k i 6) k := rfl
            rw [hR3, hR4]
            dsimp only
            cases hbk : bt pos k
            · rw [if_neg (by rw [b2_f]; decide)]
              rw [hbk, if_neg (by decide)] at e
              refine ⟨_, ?_, rfl⟩
              refine ⟨k + 1, by omega, rfl, ?_⟩
              rw [e]
            · rw [if_pos b2_t]
              rw [hbk, if_pos rfl] at e
              by_cases h : cnF (bt pos) (fun k => enP kd bl sp c b k i 6) k 5 ≤ wmF (bt pos) (fun k => enP kd bl sp c b k i 6) k
              · rw [if_pos (nI_le h (by omega))]
                rw [if_pos h] at e
                refine ⟨_, ?_, rfl⟩
                refine ⟨k + 1, by omega, rfl, ?_⟩
                rw [e]
              · rw [if_neg (fun z => h ((nI_leI (by omega) (by omega)).mp z))]
                rw [if_neg h] at e
                refine ⟨_, ?_, rfl⟩
                refine ⟨k + 1, by omega, rfl, ?_⟩
                rw [e]
          · rintro g4 j4 ⟨x4, y4⟩ ⟨o, ho, hx4, hR4⟩
            left
            dsimp only at hx4 hR4 ⊢
            unfold b_X12_tryOf_L77
            rw [hx4, if_neg (show ¬ (5 : Int32) ≤ nI o from nI_ge (b := 5) (by omega) (by decide)), hu, bit_at pos (by omega)]
            simp only [jn, bnd, nI_1, gd, inb_nI (show k < 5 by omega) (by decide), inb_nI (show o < 5 by omega) (by decide), if_true, nI_clamp (show k < 2 ^ 31 by omega), nI_clamp (show o < 2 ^ 31 by omega), hB o (by omega), hB k (by omega)]
            have e : cnF (bt pos) (fun k => enP kd bl sp c b k i 6) k (o + 1) = cnF (bt pos) (fun k => enP kd bl sp c b k i 6) k o + (if bt pos o = true ∧ enP kd bl sp c b o i 6 = enP kd bl sp c b k i 6 then 1 else 0) := rfl
            by_cases he : enP kd bl sp c b o i 6 = enP kd bl sp c b k i 6
            · rw [if_pos he]
              refine ⟨_, ?_, rfl⟩
              refine ⟨o + 1, by omega, rfl, ?_⟩
              dsimp only
              rw [e, hR4]
              cases hbo : bt pos o
              · rw [b2_f, Int32.add_zero, if_neg (fun z => by cases z.1)]; rfl
              · rw [b2_t, if_pos ⟨rfl, he⟩, nI_1]
            · rw [if_neg he]
              refine ⟨_, ?_, rfl⟩
              refine ⟨o + 1, by omega, rfl, ?_⟩
              dsimp only
              rw [e, hR4, if_neg (fun z => he z.2), Int32.add_zero]; rfl
      · rintro g2 j2 ⟨x2, t1, t2, t3, t4, t5, t6, t7, t8, mk2, mo2, mb2⟩ ⟨k, hk, hx2, hm2, hB⟩
        left
        dsimp only at hx2 hm2 hB ⊢
        subst hm2
        unfold b_X12_tryOf_L29
        rw [hx2, if_neg (show ¬ (5 : Int32) ≤ nI k from nI_ge (b := 5) (by omega) (by decide))]
        refine bind_l (behind_ok (st := 6) hF hT hn hb (show k < 5 by omega) (show i < 8 by omega) (by decide) hMF hv) (fun r1 hr1 => ?_)
        simp only [gd, bnd, nI_1, inb_nI (show k < 5 by omega) (by decide), if_true, nI_clamp (show k < 2 ^ 31 by omega)]
        refine ⟨_, ?_, rfl⟩
        refine ⟨k + 1, by omega, rfl, hr1.2, fun o ho => ?_⟩
        dsimp only
        by_cases h : o = k
        · rw [h, upd_s]; exact hr1.1
        · rw [upd_n h]; exact hB o (by omega)
end
section
/-! what the white sees -/
theorem t_nx0 : ∀ q, q < 45 → ∀ w, w < 8 → (oR q w = true ∨ oC q w = true ∨ (nI q / 9 + rowS w = nI (nx q w) / 9 ∧ nI q - nI q / 9 * 9 + colS w = nI (nx q w) - nI (nx q w) / 9 * 9)) := by decide +kernel
theorem t_nx {q w : Nat} (hq : q < 45) (hw : w < 8) (h1 : oR q w = false) (h2 : oC q w = false) : nI q / 9 + rowS w = nI (nx q w) / 9 ∧ nI q - nI q / 9 * 9 + colS w = nI (nx q w) - nI (nx q w) / 9 * 9 := by
  rcases t_nx0 q hq w hw with h | h | h
  · rw [h1] at h; cases h
  · rw [h2] at h; cases h
  · exact h
def seF (bl : Nat) (c : Nat → Int32) (w : Nat) : Nat → Nat → Int32
  | 0, _ => -1
  | F + 1, q => if (oR q w || oC q w) = true then -1 else if whoF c (nI (nx q w)) (bl + 1) = -1 then seF bl c w F (nx q w) else whoF c (nI (nx q w)) (bl + 1)
def seP (bl : Nat) (c : Nat → Int32) (M w : Nat) : Int32 := seF bl c w M (c 0).toNatClampNeg
theorem first_ok {bl : Nat} {tk : Int64} {c : Nat → Int32} (h6 : bl ≤ 6) (hT : TW bl tk c) {n : Nat} (hn : 1000 ≤ n) {w M : Nat} (hM : M = 9) (hw : w < 8) : ∃ r, f_X10_firstInSight n tk c (nI w) = some r ∧ r = seP bl c M w := by
  obtain ⟨q0, hq0, -, hc⟩ := (hT.1.1 0 (by decide)).resolve_left hT.2.2
  have hcl : (c 0).toNatClampNeg = q0 := by rw [hc]; exact nI_clamp (by omega)
  have ht := t_step w hw
  have hc0 : f_X10_cellOf c 0 = some (c 0) := (t_cell c (b := 0) (by decide)).1
  unfold f_X10_firstInSight
  rw [hc0, Option.bind_some, ht.1, Option.bind_some]
  simp only [bnd, Option.bind_some, ht.2.1, hc]
  unfold f_X10_firstInSight_L31
  refine lp_r (fun j s => ∃ q t, j + t = M ∧ ah q w < j ∧ q < 45 ∧ s.1 = nI q / 9 + rowS w ∧ s.2.1 = nI q - nI q / 9 * 9 + colS w ∧ s.2.2 = nI t ∧ seP bl c M w = seF bl c w j q) M ⟨q0, 0, by omega, by have := t_ah q0 hq0 w hw; omega, hq0, rfl, rfl, nI_0.symm, by rw [seP, hcl]⟩ (by omega) ?_ ?_
  · rintro g s ⟨q, t, -, h, -⟩; omega
  · rintro g j ⟨x, y, z⟩ ⟨q, t, hj, ha, hq, h1, h2, h3, hR⟩
    dsimp only at h1 h2 h3 ⊢
    unfold b_X10_firstInSight_L31
    rw [h1, h2, h3, if_neg (show ¬ (9 : Int32) ≤ nI t from nI_ge (b := 9) (by omega) (by decide)), t_row q hq w hw, Option.bind_some, t_col q hq w hw, Option.bind_some]
    rw [seF] at hR
    cases hr : oR q w
    · cases hcc : oC q w
      · rw [hr, hcc, if_neg (by decide)] at hR
        obtain ⟨e1, hx45, hah, -⟩ := t_next hq hw hr hcc
        have e2 := t_nx hq hw hr hcc
        rw [if_neg (by rw [b2_nf]; decide), if_neg (by rw [b2_nf]; decide), e1, ballIn_ok hT.1 hx45 (by omega), Option.bind_some, who_short h6 (nI_ne_m1 hx45) hT.2.1]
        simp only [ht.1, ht.2.1, Option.bind_some, bnd, nI_1, e2.1, e2.2]
        by_cases h : whoF c (nI (nx q w)) (bl + 1) = -1
        · rw [if_pos h] at hR ⊢
          refine Or.inl ⟨_, ?_, rfl⟩
          exact ⟨nx q w, t + 1, by omega, by omega, hx45, rfl, rfl, rfl, hR⟩
        · rw [if_neg h] at hR ⊢
          exact Or.inr ⟨_, rfl, hR.symm⟩
      · rw [hr, hcc, if_pos (by decide)] at hR
        rw [if_neg (by rw [b2_nf]; decide), if_pos b2_nt]
        exact Or.inr ⟨_, rfl, hR.symm⟩
    · rw [hr, Bool.true_or, if_pos rfl] at hR
      rw [if_pos b2_nt]
      exact Or.inr ⟨_, rfl, hR.symm⟩
theorem sees_ok {bl : Nat} {tk : Int64} {c : Nat → Int32} (hb1 : 1 ≤ bl) (h6 : bl ≤ 6) (hT : TW bl tk c) {n : Nat} (hn : 1000 ≤ n) {w M : Nat} (hM : M = 9) (hw : w < 8) {mc : Nat → Int32} (hv : ∀ d, d ≤ bl → mc d = c d) : ∃ r, f_X12_seesBy n (nI bl) mc (nI w) = some r ∧ r = seP bl c M w := by
  obtain ⟨q0, hq0, -, hc⟩ := (hT.1.1 0 (by decide)).resolve_left hT.2.2
  have hcl : (c 0).toNatClampNeg = q0 := by rw [hc]; exact nI_clamp (by omega)
  have hmc : mc 0 = nI q0 := (hv 0 (by omega)).trans hc
  have ht := t_step w hw
  have hz0 : (0 : Int32).toNatClampNeg = 0 := rfl
  have hi0 : inb 0 7 = true := by decide
  unfold f_X12_seesBy
  simp only [gd, hi0, if_true, ht.2.2.1, ht.2.2.2, Option.bind_some, bnd, hz0, hmc]
  unfold f_X12_seesBy_L33
  refine lp_r (fun j s => (s.2.2 = -1 ∧ ∃ q, ah q w < j ∧ q < 45 ∧ s.1 = nI q / 9 + rowS w ∧ s.2.1 = nI q - nI q / 9 * 9 + colS w ∧ seP bl c M w = seF bl c w j q) ∨ (¬ s.2.2 = -1 ∧ s.2.2 = seP bl c M w)) M (Or.inl ⟨rfl, q0, by have := t_ah q0 hq0 w hw; omega, hq0, rfl, rfl, by rw [seP, hcl]⟩) (by omega) ?_ ?_
  · rintro g ⟨x, y, z⟩ (⟨-, q, h, -⟩ | ⟨h1, h2⟩)
    · omega
    · dsimp only at h1 h2 ⊢
      unfold b_X12_seesBy_L33
      rw [if_neg h1]
      exact ⟨_, rfl, h2⟩
  · rintro g j ⟨x, y, z⟩ (⟨h0, q, ha, hq, h1, h2, hR⟩ | ⟨h1, h2⟩)
    · dsimp only at h0 h1 h2 ⊢
      unfold b_X12_seesBy_L33
      rw [if_pos h0, h1, h2, t_rowM q hq w hw, Option.bind_some, t_colM q hq w hw, Option.bind_some]
      rw [seF] at hR
      cases hr : oR q w
      · cases hcc : oC q w
        · rw [hr, hcc, if_neg (by decide)] at hR
          obtain ⟨e1, hx45, hah, -⟩ := t_next hq hw hr hcc
          have e2 := t_nx hq hw hr hcc
          rw [if_neg (by rw [b2_nf]; decide), if_neg (by rw [b2_nf]; decide), e1, lies_ok hb1 h6 (by omega), Option.bind_some, who_congr (fun d hd => hv d (by omega) : ∀ d, d < bl + 1 → mc d = c d)]
          simp only [ht.2.2.1, ht.2.2.2, Option.bind_some, bnd, e2.1, e2.2]
          refine Or.inl ⟨_, ?_, rfl⟩
          by_cases h : whoF c (nI (nx q w)) (bl + 1) = -1
          · rw [if_pos h] at hR
            exact Or.inl ⟨h, nx q w, by omega, hx45, rfl, rfl, hR⟩
          · rw [if_neg h] at hR
            exact Or.inr ⟨h, hR.symm⟩
        · rw [hr, hcc, if_pos (by decide)] at hR
          rw [if_neg (by rw [b2_nf]; decide), if_pos b2_nt]
          exact Or.inr ⟨_, rfl, h0.trans hR.symm⟩
      · rw [hr, Bool.true_or, if_pos rfl] at hR
        rw [if_pos b2_nt]
        exact Or.inr ⟨_, rfl, h0.trans hR.symm⟩
    · dsimp only at h1 h2 ⊢
      unfold b_X12_seesBy_L33
      rw [if_neg h1]
      exact Or.inr ⟨_, rfl, h2⟩
/-! a ball is seen in one direction alone -/
def dirN (a b : Nat) : Nat := if b / 9 < a / 9 then (if b % 9 < a % 9 then 7 else if b % 9 = a % 9 then 0 else 1) else if b / 9 = a / 9 then (if b % 9 < a % 9 then 6 else 2) else (if b % 9 < a % 9 then 5 else if b % 9 = a % 9 then 4 else 3)
def chkR (a w : Nat) : Nat → Nat → Bool
  | 0, _ => true
  | F + 1, q => if (oR q w || oC q w) = true then true else (dirN a (nx q w) == w) && chkR a w F (nx q w)
theorem chk_all : ∀ a, a < 45 → ∀ w, w < 8 → chkR a w 9 a = true := by decide +kernel
theorem se_cell {bl : Nat} {c : Nat → Int32} {w a b : Nat} (hw : w < 8) (h6 : bl ≤ 6) : ∀ (F q : Nat), q < 45 → chkR a w F q = true → seF bl c w F q = nI b → b < 7 → ∃ x, x < 45 ∧ c b = nI x ∧ dirN a x = w
  | 0, q, _, _, h, hb => absurd h.symm (nI_ne_m1 (by omega))
  | F + 1, q, hq, hk, h, hb => by
    rw [seF] at h
    rw [chkR] at hk
    by_cases ho : (oR q w || oC q w) = true
    · rw [if_pos ho] at h
      exact absurd h.symm (nI_ne_m1 (by omega))
    · rw [if_neg ho] at h hk
      rw [Bool.and_eq_true] at hk
      have h1 : oR q w = false := by cases h : oR q w <;> simp_all
      have h2 : oC q w = false := by cases h : oC q w <;> simp_all
      obtain ⟨-, hx45, -, -⟩ := t_next hq hw h1 h2
      rcases who_cases c (nI (nx q w)) (bl + 1) with ⟨hx, -⟩ | ⟨j, hj, hx, hcj⟩
      · rw [if_pos hx] at h
        exact se_cell hw h6 F (nx q w) hx45 hk.2 h hb
      · rw [if_neg (by rw [hx]; exact nI_ne_m1 (by omega)), hx] at h
        have hjb : j = b := nI_inj45 (by omega) (by omega) h
        subst hjb
        exact ⟨nx q w, hx45, hcj, by simpa using hk.1⟩
theorem se_one {bl : Nat} {tk : Int64} {c : Nat → Int32} (h6 : bl ≤ 6) (hT : TW bl tk c) {M w w' b : Nat} (hM : M = 9) (hw : w < 8) (hw' : w' < 8) (hb : b < 7) (h1 : seP bl c M w = nI b) (h2 : seP bl c M w' = nI b) : w = w' := by
  obtain ⟨q0, hq0, -, hc⟩ := (hT.1.1 0 (by decide)).resolve_left hT.2.2
  have hcl : (c 0).toNatClampNeg = q0 := by rw [hc]; exact nI_clamp (by omega)
  rw [seP, hcl, hM] at h1 h2
  obtain ⟨x, hx, e1, d1⟩ := se_cell hw h6 9 q0 hq0 (chk_all q0 hq0 w hw) h1 hb
  obtain ⟨y, hy, e2, d2⟩ := se_cell hw' h6 9 q0 hq0 (chk_all q0 hq0 w' hw') h2 hb
  have : x = y := nI_inj45 hx hy (e1.symm.trans e2)
  rw [← d1, ← d2, this]
theorem se_ball {bl : Nat} {c : Nat → Int32} {w : Nat} : ∀ (F q : Nat), seF bl c w F q = -1 ∨ ∃ b, b ≤ bl ∧ seF bl c w F q = nI b
  | 0, q => Or.inl rfl
  | F + 1, q => by
    rw [seF]
    split
    · exact Or.inl rfl
    · split
      · exact se_ball F (nx q w)
      · rename_i h
        rcases who_cases c (nI (nx q w)) (bl + 1) with ⟨hx, -⟩ | ⟨j, hj, hx, -⟩
        · exact absurd hx h
        · exact Or.inr ⟨j, by omega, hx⟩
def sgF (bl : Nat) (c : Nat → Int32) (M : Nat) : Nat → Nat
  | 0 => 0
  | i + 1 => sgF bl c M i + (if seP bl c M i = -1 then 0 else 1)
theorem inSight_ok {bl : Nat} {tk : Int64} {c : Nat → Int32} (h6 : bl ≤ 6) (hT : TW bl tk c) {n : Nat} (hn : 1000 ≤ n) {M N : Nat} (hM : M = 9) (hN : N = 8) {tr : Int32} (htr : f_X11_hasTable tr = some 1) : ∃ r, f_X11_ballsInSight n tr tk c = some r ∧ r = nI (sgF bl c M N) := by
  unfold f_X11_ballsInSight f_X11_ballsInSight_L4
  refine lp_r (fun j s => ∃ i, j + i = N ∧ s.2 = nI i ∧ s.1 = nI (sgF bl c M i)) N ⟨0, by omega, nI_0.symm, rfl⟩ (by omega) ?_ ?_
  · rintro g ⟨x, y⟩ ⟨i, hi, hx, hR⟩
    have hi : i = N := by omega
    dsimp only at hx hR ⊢
    unfold b_X11_ballsInSight_L4
    rw [hx, if_pos (show (8 : Int32) ≤ nI i by rw [hi, hN]; decide)]
    exact ⟨_, rfl, by rw [hR, hi]⟩
  · rintro g j ⟨x, y⟩ ⟨i, hi, hx, hR⟩
    left
    dsimp only at hx hR ⊢
    unfold b_X11_ballsInSight_L4
    rw [hx, if_neg (show ¬ (8 : Int32) ≤ nI i from nI_ge (b := 8) (by omega) (by decide)), htr, Option.bind_some, if_neg (by decide)]
    refine bind_l (first_ok h6 hT hn hM (show i < 8 by omega)) (fun r hr => ?_)
    simp only [jn, bnd, nI_1, hr]
    by_cases h : seP bl c M i = -1
    · rw [if_pos h]
      refine ⟨_, ?_, rfl⟩
      exact ⟨i + 1, by omega, rfl, by rw [sgF, if_pos h]; exact hR⟩
    · rw [if_neg h]
      refine ⟨_, ?_, rfl⟩
      refine ⟨i + 1, by omega, rfl, ?_⟩
      dsimp only
      rw [sgF, if_neg h, hR, nI_1]
theorem byWhite_ok {bl : Nat} {tk : Int64} {c : Nat → Int32} (hb1 : 1 ≤ bl) (h6 : bl ≤ 6) (hT : TW bl tk c) {n : Nat} (hn : 1000 ≤ n) {M N : Nat} (hM : M = 9) (hN : N = 8) {mc : Nat → Int32} (hv : ∀ d, d ≤ bl → mc d = c d) : ∃ r, f_X12_seenByWhite n (nI bl) mc = some r ∧ r = nI (sgF bl c M N) := by
  unfold f_X12_seenByWhite f_X12_seenByWhite_L6
  refine lp_r (fun j s => ∃ i, j + i = N ∧ s.2.2 = nI i ∧ s.2.1 = nI (sgF bl c M i) ∧ ∀ b, b < 7 → bt s.1 b = true → ∃ w, w < i ∧ seP bl c M w = nI b) N ⟨0, by omega, nI_0.symm, rfl, fun b _ h => by rw [b_0] at h; cases h⟩ (by omega) ?_ ?_
  · rintro g ⟨x, y, z⟩ ⟨i, hi, hx, hR, -⟩
    have hi : i = N := by omega
    dsimp only at hx hR ⊢
    unfold b_X12_seenByWhite_L6
    rw [hx, if_pos (show (8 : Int32) ≤ nI i by rw [hi, hN]; decide)]
    exact ⟨_, rfl, by rw [hR, hi]⟩
  · rintro g j ⟨x, y, z⟩ ⟨i, hi, hx, hR, hB⟩
    left
    dsimp only at hx hR hB ⊢
    have hlk : f_X12_lacks (nI bl) = some 0 := by
      unfold f_X12_lacks
      rw [if_neg (nI_ne0 (by omega) (by omega))]
    unfold b_X12_seenByWhite_L6
    rw [hx, if_neg (show ¬ (8 : Int32) ≤ nI i from nI_ge (b := 8) (by omega) (by decide)), hlk, Option.bind_some, if_pos rfl]
    refine bind_l (sees_ok hb1 h6 hT hn hM (show i < 8 by omega) hv) (fun r hr => ?_)
    simp only [jn, bnd, nI_1, hr]
    by_cases h : seP bl c M i = -1
    · rw [if_pos h, if_pos h, Int32.add_zero, Int32.or_zero]
      refine ⟨_, ?_, rfl⟩
      refine ⟨i + 1, by omega, rfl, by rw [sgF, if_pos h]; exact hR, fun b hb h1 => ?_⟩
      obtain ⟨w, hw, e⟩ := hB b hb h1
      exact ⟨w, by omega, e⟩
    · rw [if_neg h, if_neg h]
      obtain ⟨b, hb, e⟩ := (se_ball (bl := bl) (c := c) (w := i) M (c 0).toNatClampNeg).resolve_left h
      change seP bl c M i = nI b at e
      have hbit : bt x b = false := by
        cases hx2 : bt x b
        · rfl
        · obtain ⟨w, hw, e2⟩ := hB b (by omega) hx2
          have := se_one h6 hT hM (show w < 8 by omega) (show i < 8 by omega) (show b < 7 by omega) e2 e
          omega
      rw [e, bit_at x (by omega), hbit, b2_f]
      refine ⟨_, ?_, rfl⟩
      refine ⟨i + 1, by omega, rfl, ?_, fun b2 hb2 h1 => ?_⟩
      · dsimp only
        rw [sgF, if_neg h, hR, show (1 : Int32) - 0 = 1 by decide, nI_1]
      · dsimp only at h1
        rw [bt_pot x (by omega) (by omega)] at h1
        by_cases hbb : b2 = b
        · rw [hbb]; exact ⟨i, by omega, e⟩
        · have h1' : bt x b2 = true := by simpa [hbb] using h1
          obtain ⟨w, hw, e2⟩ := hB b2 hb2 h1'
          exact ⟨w, by omega, e2⟩
end
section
/-! how many lie, and their worth -/
def lyF (c : Nat → Int32) : Nat → Nat
  | 0 => 0
  | i + 1 => lyF c i + (if c (i + 1) = -1 then 0 else 1)
def wlF (c : Nat → Int32) (wd : Nat → Nat) : Nat → Nat
  | 0 => 0
  | i + 1 => wlF c wd i + (if c (i + 1) = -1 then 0 else wd (i + 1))
theorem ly_off {c : Nat → Int32} {bl : Nat} (h : ∀ d, bl < d → d < 7 → c d = -1) : ∀ j, bl + j ≤ 6 → lyF c (bl + j) = lyF c bl
  | 0, _ => rfl
  | j + 1, hj => by
    show lyF c (bl + j) + (if c (bl + j + 1) = -1 then 0 else 1) = _
    rw [ly_off h j (by omega), if_pos (h _ (by omega) (by omega)), Nat.add_zero]
theorem wl_off {c : Nat → Int32} {wd : Nat → Nat} {bl : Nat} (h : ∀ d, bl < d → d < 7 → c d = -1) : ∀ j, bl + j ≤ 6 → wlF c wd (bl + j) = wlF c wd bl
  | 0, _ => rfl
  | j + 1, hj => by
    show wlF c wd (bl + j) + (if c (bl + j + 1) = -1 then 0 else wd (bl + j + 1)) = _
    rw [wl_off h j (by omega), if_pos (h _ (by omega) (by omega)), Nat.add_zero]
theorem lying_ok {bl : Nat} {c : Nat → Int32} (h6 : bl ≤ 6) (hoff : ∀ d, bl < d → d < 7 → c d = -1) {n : Nat} (hn : 1000 ≤ n) : ∃ r, f_X10_lying n c = some r ∧ r = nI (lyF c bl) := by
  unfold f_X10_lying f_X10_lying_L4
  refine lp_r (fun j s => ∃ i, j + i = 6 ∧ s.2 = nI (i + 1) ∧ s.1 = nI (lyF c i)) 6 ⟨0, by omega, by show (1 : Int32) = nI (0 + 1); decide, rfl⟩ (by omega) ?_ ?_
  · rintro g ⟨x, y⟩ ⟨i, hi, hx, hR⟩
    have hi : i = 6 := by omega
    dsimp only at hx hR ⊢
    unfold b_X10_lying_L4
    rw [hx, if_pos (show (7 : Int32) ≤ nI (i + 1) by rw [hi]; decide)]
    refine ⟨_, rfl, ?_⟩
    have := ly_off hoff (6 - bl) (by omega)
    rw [show bl + (6 - bl) = i by omega] at this
    rw [hR, this]
  · rintro g j ⟨x, y⟩ ⟨i, hi, hx, hR⟩
    left
    dsimp only at hx hR ⊢
    unfold b_X10_lying_L4
    rw [hx, if_neg (show ¬ (7 : Int32) ≤ nI (i + 1) from nI_ge (b := 7) (by omega) (by decide))]
    simp only [gd, inb_nI (show i + 1 < 7 by omega) (by decide), if_true, jn, bnd, nI_1, nI_clamp (show i + 1 < 2 ^ 31 by omega)]
    by_cases h : c (i + 1) = -1
    · rw [if_pos h]
      exact ⟨_, ⟨i + 1, by omega, rfl, by rw [lyF, if_pos h]; exact hR⟩, rfl⟩
    · rw [if_neg h]
      refine ⟨_, ?_, rfl⟩
      refine ⟨i + 1, by omega, rfl, ?_⟩
      dsimp only
      rw [lyF, if_neg h, hR, nI_1]
theorem worthLying_ok {bl : Nat} {c wv : Nat → Int32} {wd : Nat → Nat} (h6 : bl ≤ 6) (hoff : ∀ d, bl < d → d < 7 → c d = -1) (hw : ∀ d, d < 7 → wv d = nI (wd d)) {n : Nat} (hn : 1000 ≤ n) : ∃ r, f_X10_worthLying n c wv = some r ∧ r = nI (wlF c wd bl) := by
  unfold f_X10_worthLying f_X10_worthLying_L4
  refine lp_r (fun j s => ∃ i, j + i = 6 ∧ s.2 = nI (i + 1) ∧ s.1 = nI (wlF c wd i)) 6 ⟨0, by omega, by show (1 : Int32) = nI (0 + 1); decide, rfl⟩ (by omega) ?_ ?_
  · rintro g ⟨x, y⟩ ⟨i, hi, hx, hR⟩
    have hi : i = 6 := by omega
    dsimp only at hx hR ⊢
    unfold b_X10_worthLying_L4
    rw [hx, if_pos (show (7 : Int32) ≤ nI (i + 1) by rw [hi]; decide)]
    refine ⟨_, rfl, ?_⟩
    have := wl_off (wd := wd) hoff (6 - bl) (by omega)
    rw [show bl + (6 - bl) = i by omega] at this
    rw [hR, this]
  · rintro g j ⟨x, y⟩ ⟨i, hi, hx, hR⟩
    left
    dsimp only at hx hR ⊢
    unfold b_X10_worthLying_L4
    rw [hx, if_neg (show ¬ (7 : Int32) ≤ nI (i + 1) from nI_ge (b := 7) (by omega) (by decide))]
    simp only [gd, inb_nI (show i + 1 < 7 by omega) (by decide), if_true, jn, bnd, nI_1, nI_clamp (show i + 1 < 2 ^ 31 by omega), (t_cell wv (show i + 1 < 7 by omega)).2.2, Option.bind_some, hw (i + 1) (by omega)]
    by_cases h : c (i + 1) = -1
    · rw [if_pos h]
      exact ⟨_, ⟨i + 1, by omega, rfl, by rw [wlF, if_pos h]; exact hR⟩, rfl⟩
    · rw [if_neg h]
      refine ⟨_, ?_, rfl⟩
      refine ⟨i + 1, by omega, rfl, ?_⟩
      dsimp only
      rw [wlF, if_neg h, hR, nI_add]
theorem onTable_ok {bl : Nat} {c v : Nat → Int32} (h6 : bl ≤ 6) (hv : ∀ d, 1 ≤ d → d ≤ bl → v d = c d) {n : Nat} (hn : 1000 ≤ n) : ∃ r, f_X12_onTable n (nI bl) v = some r ∧ r = nI (lyF c bl) := by
  unfold f_X12_onTable f_X12_onTable_L4
  refine lp_r (fun j s => ∃ i, j + i = bl ∧ s.2 = nI (i + 1) ∧ s.1 = nI (lyF c i)) bl ⟨0, by omega, by show (1 : Int32) = nI (0 + 1); decide, rfl⟩ (by omega) ?_ ?_
  · rintro g ⟨x, y⟩ ⟨i, hi, hx, hR⟩
    have hi : i = bl := by omega
    subst hi
    dsimp only at hx hR ⊢
    unfold b_X12_onTable_L4
    rw [hx, if_pos (nI_lt (show i < i + 1 by omega) (by omega))]
    exact ⟨_, rfl, hR⟩
  · rintro g j ⟨x, y⟩ ⟨i, hi, hx, hR⟩
    left
    dsimp only at hx hR ⊢
    unfold b_X12_onTable_L4
    rw [hx, if_neg (nI_nlt (show i + 1 ≤ bl by omega) (by omega))]
    simp only [gd, inb_nI (show i + 1 < 7 by omega) (by decide), if_true, jn, bnd, nI_1, nI_clamp (show i + 1 < 2 ^ 31 by omega), hv (i + 1) (by omega) (by omega)]
    by_cases h : c (i + 1) = -1
    · rw [if_pos h, Int32.add_zero]
      exact ⟨_, ⟨i + 1, by omega, rfl, by rw [lyF, if_pos h]; exact hR⟩, rfl⟩
    · rw [if_neg h]
      refine ⟨_, ?_, rfl⟩
      refine ⟨i + 1, by omega, rfl, ?_⟩
      dsimp only
      rw [lyF, if_neg h, hR, nI_1]
theorem worthAll_ok {bl : Nat} {c v mw : Nat → Int32} {wd : Nat → Nat} (h6 : bl ≤ 6) (hv : ∀ d, 1 ≤ d → d ≤ bl → v d = c d) (hw : ∀ d, 1 ≤ d → d ≤ bl → mw d = nI (wd d)) {n : Nat} (hn : 1000 ≤ n) : ∃ r, f_X12_worthAll n (nI bl) mw v = some r ∧ r = nI (wlF c wd bl) := by
  unfold f_X12_worthAll f_X12_worthAll_L4
  refine lp_r (fun j s => ∃ i, j + i = bl ∧ s.2 = nI (i + 1) ∧ s.1 = nI (wlF c wd i)) bl ⟨0, by omega, by show (1 : Int32) = nI (0 + 1); decide, rfl⟩ (by omega) ?_ ?_
  · rintro g ⟨x, y⟩ ⟨i, hi, hx, hR⟩
    have hi : i = bl := by omega
    subst hi
    dsimp only at hx hR ⊢
    unfold b_X12_worthAll_L4
    rw [hx, if_pos (nI_lt (show i < i + 1 by omega) (by omega))]
    exact ⟨_, rfl, hR⟩
  · rintro g j ⟨x, y⟩ ⟨i, hi, hx, hR⟩
    left
    dsimp only at hx hR ⊢
    unfold b_X12_worthAll_L4
    rw [hx, if_neg (nI_nlt (show i + 1 ≤ bl by omega) (by omega))]
    simp only [gd, inb_nI (show i + 1 < 7 by omega) (by decide), if_true, jn, bnd, nI_1, nI_clamp (show i + 1 < 2 ^ 31 by omega), hv (i + 1) (by omega) (by omega), hw (i + 1) (by omega) (by omega)]
    by_cases h : c (i + 1) = -1
    · rw [if_pos h, Int32.add_zero]
      exact ⟨_, ⟨i + 1, by omega, rfl, by rw [wlF, if_pos h]; exact hR⟩, rfl⟩
    · rw [if_neg h]
      refine ⟨_, ?_, rfl⟩
      refine ⟨i + 1, by omega, rfl, ?_⟩
      dsimp only
      rw [wlF, if_neg h, hR, nI_add]
end
section
/-! frames by a seed -/
def nsP (s : Int32) : Int32 := (((1103515245 * s.toInt64) + 12345) &&& 2147483647).toInt32
theorem ns_c (s : Int32) : f_X11_nextSeed s = some (nsP s) := by rw [f_X11_nextSeed, nsP]
theorem dr_c (s : Int32) : f_X11_drawn s = some (s / 65536) := by rw [f_X11_drawn]
theorem bnd_e {α β : Type} (a : α) (f : α → β) : bnd a f = f a := by rw [bnd]
theorem ns_m (s : Int32) {k : Nat} (h0 : 0 < k) (hk : k < 2 ^ 31) : f_X12_draw s (nI k) = some (nsP s / 65536 - nsP s / 65536 / nI k * nI k, nsP s) := by
  unfold f_X12_draw
  have h : decide (¬ nI k = 0) = true := by simp [nI_ne0 h0 hk]
  rw [h]; rfl
theorem ns_nat (s : Int32) : ∃ m, m < 2 ^ 31 ∧ nsP s = nI m := by
  obtain ⟨m, hm, e⟩ := wb_of ((1103515245 * s.toInt64) + 12345)
  refine ⟨m % 2 ^ 31, Nat.mod_lt _ (by decide), ?_⟩
  unfold nsP
  have e2 : (2147483647 : Int64) = lN (2 ^ 31 - 1) := by decide
  rw [e, e2, wb_mask hm (by decide), lN_i]
def dN (s : Int32) (k : Nat) : Nat := s.toNatClampNeg / 65536 % k
theorem dN_ok (s : Int32) {k : Nat} (h0 : 0 < k) (hk : k < 2 ^ 31) : nsP s / 65536 - nsP s / 65536 / nI k * nI k = nI (dN (nsP s) k) := by
  obtain ⟨m, hm, e⟩ := ns_nat s
  have e1 : nsP s / 65536 = nI (m / 65536) := by rw [e]; exact pk_div (d := 65536) hm (by decide) (by decide)
  rw [e1, pk_rem (by omega) h0 hk, dN, e, nI_clamp hm]
def frS (kd wd : Nat → Nat) (bl sp : Nat) (c : Nat → Int32) (s : Int32) : Nat → Int32 × (Nat → Int32) × Int32
  | 0 => (s, c, 1000)
  | i + 1 => (nsP (nsP (nsP (frS kd wd bl sp c s i).1)), sC kd bl sp (frS kd wd bl sp c s i).2.1 (dN (nsP (frS kd wd bl sp c s i).1) 8) (dN (nsP (nsP (frS kd wd bl sp c s i).1)) 9 + 1) (dN (nsP (nsP (nsP (frS kd wd bl sp c s i).1))) 3), (frS kd wd bl sp c s i).2.2 + sBr kd wd bl (frS kd wd bl sp c s i).2.1 (dN (nsP (frS kd wd bl sp c s i).1) 8) (dN (nsP (nsP (frS kd wd bl sp c s i).1)) 9 + 1) (dN (nsP (nsP (nsP (frS kd wd bl sp c s i).1))) 3))
def frV (kd wd : Nat → Nat) (bl sp : Nat) (c : Nat → Int32) (s : Int32) (k : Nat) (p : Int32) : Int32 := if p = 0 then (frS kd wd bl sp c s k).2.2 else if p = 1 then nI (lyF (frS kd wd bl sp c s k).2.1 bl) else (frS kd wd bl sp c s k).1
theorem framesC_ok {bl sp : Nat} {kd wd : Nat → Nat} {kv wv : Nat → Int32} (hF : TF bl sp kd wd kv wv) {tk : Int64} {c : Nat → Int32} (hT : TW bl tk c) {n : Nat} (hn : 1000 ≤ n) {k : Nat} (hk : k ≤ 60) {tr p2 p3 : Int32} (h1 : f_X11_within (nI k) 1 60 = some 1) (h2 : ¬ p2 < 0) (h3 : f_X11_within p3 0 2 = some 1) (h4 : f_X11_hasTable tr = some 1) {m0 b0 p0 br0 h0 hp0 fo0 sz sq : Int32} {t0 : Int64} {v1 v2 v3 : Nat → Int32} :
    ∃ r, f_X11_frames n tr tk (nI bl) (nI sp) c kv wv m0 b0 p0 br0 h0 hp0 fo0 t0 sz sq v1 v2 v3 (nI k) p2 p3 = some r ∧ r.1 = frV kd wd bl sp c p2 k p3 := by
  unfold f_X11_frames
  rw [h1, Option.bind_some, if_neg (by decide), if_neg h2, h3, Option.bind_some, if_neg (by decide), h4, Option.bind_some, if_neg (by decide)]
  simp only [f_X9_begin, f_X10_copy, Option.bind_some, jn]
  unfold f_X11_frames_L61
  refine lp_r (fun j s => ∃ i, j + i = k ∧ s.2.2.1 = nI i ∧ s.1 = (frS kd wd bl sp c p2 i).1 ∧ s.2.1 = (frS kd wd bl sp c p2 i).2.2 ∧ s.2.2.2.2.2.2.2.2.2.2.2 = (frS kd wd bl sp c p2 i).2.1 ∧ TW bl s.2.2.2.2.2.2.2.2.2.2.1 (frS kd wd bl sp c p2 i).2.1) k ⟨0, by omega, nI_0.symm, rfl, rfl, rfl, hT⟩ (by omega) ?_ ?_
  · rintro g ⟨x, y, z, s1, s2, s3, s4, s5, s6, s7, s8, v⟩ ⟨i, hi, hx, hs, hy, hc, hTi⟩
    have hi : i = k := by omega
    subst hi
    dsimp only at hx hs hy hc hTi ⊢
    unfold b_X11_frames_L61
    rw [hx, if_pos (nI_le (Nat.le_refl i) (by omega))]
    subst hs; subst hy; subst hc
    dsimp only
    unfold frV
    by_cases e0 : p3 = 0
    · rw [if_pos e0, if_pos e0]; exact ⟨_, rfl, rfl⟩
    · rw [if_neg e0, if_neg e0]
      by_cases e1 : p3 = 1
      · rw [if_pos e1, if_pos e1]
        refine bind_r (lying_ok hF.2.1 hTi.2.1 hn) (fun r hr => ?_)
        exact ⟨_, rfl, hr⟩
      · rw [if_neg e1, if_neg e1]; exact ⟨_, rfl, rfl⟩
  · rintro g j ⟨x, y, z, s1, s2, s3, s4, s5, s6, s7, s8, v⟩ ⟨i, hi, hx, hs, hy, hc, hTi⟩
    left
    dsimp only at hx hs hy hc hTi ⊢
    unfold b_X11_frames_L61
    rw [hx, if_neg (nI_ge (show i < k by omega) (by omega))]
    subst hs; subst hy; subst hc
    rw [show (8 : Int32) = nI 8 by decide, show (9 : Int32) = nI 9 by decide, show (3 : Int32) = nI 3 by decide]
    rw [ns_c, Option.bind_some, dr_c, Option.bind_some, bnd_e, ns_c, Option.bind_some, dr_c, Option.bind_some, bnd_e, ns_c, Option.bind_some, dr_c, Option.bind_some, bnd_e]
    have d1 := dN_ok (frS kd wd bl sp c p2 i).1 (k := 8) (by decide) (by decide)
    have d2 := dN_ok (nsP (frS kd wd bl sp c p2 i).1) (k := 9) (by decide) (by decide)
    have d3 := dN_ok (nsP (nsP (frS kd wd bl sp c p2 i).1)) (k := 3) (by decide) (by decide)
    have d2' : nsP (nsP (frS kd wd bl sp c p2 i).1) / 65536 - nsP (nsP (frS kd wd bl sp c p2 i).1) / 65536 / nI 9 * nI 9 + 1 = nI (dN (nsP (nsP (frS kd wd bl sp c p2 i).1)) 9 + 1) := by rw [d2, nI_1]
    have l1 : dN (nsP (frS kd wd bl sp c p2 i).1) 8 < 8 := Nat.mod_lt _ (by decide)
    have l2 : dN (nsP (nsP (frS kd wd bl sp c p2 i).1)) 9 < 9 := Nat.mod_lt _ (by decide)
    have l3 : dN (nsP (nsP (nsP (frS kd wd bl sp c p2 i).1))) 3 < 3 := Nat.mod_lt _ (by decide)
    have hsh := fun (m0 b0 p0 br0 h0 hp0 fo0 : Int32) => shoot_r (m0 := m0) (b0 := b0) (p0 := p0) (br0 := br0) (h0 := h0) (hp0 := hp0) (fo0 := fo0) hF hTi l1 (show dN (nsP (nsP (frS kd wd bl sp c p2 i).1)) 9 + 1 ≤ 9 by omega) l3 (show 100 ≤ n by omega)
    rw [← d1, ← d2', ← d3] at hsh
    refine bind_l (hsh _ _ _ _ _ _ _) (fun r hr => ?_)
    rw [bnd_e, bnd_e, nI_1, hr.2.2.2.1]
    refine ⟨_, ?_, rfl⟩
    refine ⟨i + 1, by omega, rfl, ?_, ?_, hr.2.2.2.2.2.1, hr.2.2.2.2.2.2⟩
    · rw [frS]
    · rw [frS]
theorem framesM_ok {bl sp : Nat} {kd wd : Nat → Nat} {kv wv : Nat → Int32} (hF : TF bl sp kd wd kv wv) {tk : Int64} {c : Nat → Int32} (hT : TW bl tk c) {n : Nat} (hn : 1000 ≤ n) {k : Nat} (hk : k ≤ 60) {mk mw mc mo : Nat → Int32} (hMF : MF bl kv wv mk mw) (hv : ∀ d, d ≤ bl → mc d = c d) {p2 p3 : Int32} (h1 : f_X12_in (nI k).toInt64 1 60 = some 1) (h2 : ¬ p2 < 0) (h3 : f_X12_in p3.toInt64 0 2 = some 1) {a1 a2 a3 a4 a5 a6 a7 a8 a9 : Int32} :
    ∃ r, f_X12_frames n (nI bl) (nI sp) a1 a2 a3 a4 a5 a6 a7 a8 a9 mk mw mc mo (nI k) p2 p3 = some r ∧ r.1 = frV kd wd bl sp c p2 k p3 := by
  have hlk : f_X12_lacks (nI bl) = some 0 := by
    unfold f_X12_lacks
    rw [if_neg (nI_ne0 hF.1 (by have := hF.2.1; omega))]
  unfold f_X12_frames
  rw [h1, Option.bind_some, if_neg (by decide), if_neg h2, h3, Option.bind_some, if_neg (by decide), hlk, Option.bind_some, if_pos rfl]
  refine bind_r (copy_ok (by decide) (by omega) _ _) (fun w hw => ?_)
  simp only [jn]
  unfold f_X12_frames_L65
  refine lp_r (fun j s => ∃ i, j + i = k ∧ s.2.1 = nI i ∧ s.2.2.2.2.2.2.2.2.2.2.1 = (frS kd wd bl sp c p2 i).1 ∧ s.1 = (frS kd wd bl sp c p2 i).2.2 ∧ (∀ d, d ≤ bl → s.2.2.2.2.2.2.2.2.2.2.2 d = (frS kd wd bl sp c p2 i).2.1 d) ∧ ∃ tk', TW bl tk' (frS kd wd bl sp c p2 i).2.1) k ⟨0, by omega, nI_0.symm, rfl, rfl, fun d hd => (hw d (by have := hF.2.1; omega)).trans (hv d hd), tk, hT⟩ (by omega) ?_ ?_
  · rintro g ⟨x, y, s1, s2, s3, s4, s5, s6, s7, s8, z, v⟩ ⟨i, hi, hx, hs, hy, hc, -⟩
    have hi : i = k := by omega
    subst hi
    dsimp only at hx hs hy hc ⊢
    unfold b_X12_frames_L65
    rw [hx, if_pos (nI_le (Nat.le_refl i) (by omega))]
    subst hs; subst hy
    dsimp only
    unfold frV
    by_cases e0 : p3 = 0
    · rw [if_pos e0, if_pos e0]; exact ⟨_, rfl, rfl⟩
    · rw [if_neg e0, if_neg e0]
      by_cases e1 : p3 = 1
      · rw [if_pos e1, if_pos e1]
        refine bind_r (onTable_ok hF.2.1 (fun d _ hd => hc d hd) hn) (fun r hr => ?_)
        exact ⟨_, rfl, hr⟩
      · rw [if_neg e1, if_neg e1]; exact ⟨_, rfl, rfl⟩
  · rintro g j ⟨x, y, s1, s2, s3, s4, s5, s6, s7, s8, z, v⟩ ⟨i, hi, hx, hs, hy, hc, tki, hTi⟩
    left
    dsimp only at hx hs hy hc ⊢
    unfold b_X12_frames_L65
    rw [hx, if_neg (nI_ge (show i < k by omega) (by omega))]
    subst hs; subst hy
    have g8 := fun s => ns_m s (k := 8) (by decide) (by decide)
    have g9 := fun s => ns_m s (k := 9) (by decide) (by decide)
    have g3 := fun s => ns_m s (k := 3) (by decide) (by decide)
    rw [show (8 : Int32) = nI 8 by decide, show (9 : Int32) = nI 9 by decide, show (3 : Int32) = nI 3 by decide, g8, Option.bind_some, g9, Option.bind_some]
    simp only [g3, Option.bind_some, bnd, nI_1]
    have d1 := dN_ok (frS kd wd bl sp c p2 i).1 (k := 8) (by decide) (by decide)
    have d2 := dN_ok (nsP (frS kd wd bl sp c p2 i).1) (k := 9) (by decide) (by decide)
    have d3 := dN_ok (nsP (nsP (frS kd wd bl sp c p2 i).1)) (k := 3) (by decide) (by decide)
    have d2' : nsP (nsP (frS kd wd bl sp c p2 i).1) / 65536 - nsP (nsP (frS kd wd bl sp c p2 i).1) / 65536 / nI 9 * nI 9 + 1 = nI (dN (nsP (nsP (frS kd wd bl sp c p2 i).1)) 9 + 1) := by rw [d2, nI_1]
    have l1 : dN (nsP (frS kd wd bl sp c p2 i).1) 8 < 8 := Nat.mod_lt _ (by decide)
    have l2 : dN (nsP (nsP (frS kd wd bl sp c p2 i).1)) 9 < 9 := Nat.mod_lt _ (by decide)
    have l3 : dN (nsP (nsP (nsP (frS kd wd bl sp c p2 i).1))) 3 < 3 := Nat.mod_lt _ (by decide)
    have hsh := fun (a1 a2 a3 a4 a5 a6 a7 a8 : Int32) => strike_r (a1 := a1) (a2 := a2) (a3 := a3) (a4 := a4) (a5 := a5) (a6 := a6) (a7 := a7) (a8 := a8) hF hTi l1 (show dN (nsP (nsP (frS kd wd bl sp c p2 i).1)) 9 + 1 ≤ 9 by omega) l3 (show 100 ≤ n by omega) hMF hc
    rw [← d1, ← d2', ← d3] at hsh
    refine bind_l (hsh _ _ _ _ _ _ _ _) (fun r hr => ?_)
    refine ⟨_, ?_, rfl⟩
    refine ⟨i + 1, by omega, rfl, rfl, ?_, hr.2.2.2.2.2, shoot_TW hF hTi l1 (by omega) l3⟩
    dsimp only
    rw [hr.1]; rfl
end
section
/-! the page -/
def kxI (a : Nat) : Int32 := if a = 98 then 0 else if a = 104 then 1 else if a = 108 then 2 else if a = 100 then 3 else if a = 115 then 4 else -1
theorem t_let : ∀ a, a < 127 → f_X11_isRow (nI a - 48) = some (b2 (decide (48 ≤ a) && decide (a ≤ 52))) ∧ f_X11_isColumn (nI a - 48) = some (b2 (decide (48 ≤ a) && decide (a ≤ 56))) ∧ f_X11_within (nI a - 48) 1 7 = some (b2 (decide (49 ≤ a) && decide (a ≤ 55))) ∧ f_X12_in (nI a).toInt64 48 52 = some (b2 (decide (48 ≤ a) && decide (a ≤ 52))) ∧ f_X12_in (nI a).toInt64 48 56 = some (b2 (decide (48 ≤ a) && decide (a ≤ 56))) ∧ f_X12_in (nI a).toInt64 49 55 = some (b2 (decide (49 ≤ a) && decide (a ≤ 55))) ∧ f_X12_kindBy (nI a) = some (kxI a) ∧ ((nI a).toUInt32 % 65536).toInt32 = nI a ∧ (nI a).toInt8.toInt32 = nI a ∧ f_J1_canEncode_9a6ad (nI a) = some 1 := by decide +kernel
theorem t_kx : ∀ a, a < 127 → (∀ i, i < 5 → ltr i = nI a → kxI a = nI i) ∧ ((∀ i, i < 5 → ¬ ltr i = nI a) → kxI a = -1) ∧ (kxI a = -1 ∨ ∃ j, j < 5 ∧ kxI a = nI j) := by decide +kernel
theorem index_ok {n : Nat} (hn : 1000 ≤ n) {a : Nat} (ha : a < 127) : f_J0_indexOf_0f7a4 n (((nI a).toUInt32 % 65536).toInt32) = some (kxI a) := by
  have ht := t_let a ha
  have hk := t_kx a ha
  have hl : f_J0_isLatin1_aae02 = some 1 := by decide
  have h5 : f_J0_length_8abf5 = some 5 := by decide
  have key : ∃ r, f_J1_indexOfChar_4cfef n (nI a) 0 5 = some r ∧ r = kxI a := by
    unfold f_J1_indexOfChar_4cfef f_J1_indexOfChar_4cfef_L7
    refine lp_r (fun j s => ∃ i, j + i = 5 ∧ s = nI i ∧ ∀ k, k < i → ¬ ltr k = nI a) 5 ⟨0, by omega, nI_0.symm, fun k hk => absurd hk (Nat.not_lt_zero _)⟩ (by omega) ?_ ?_
    · rintro g s ⟨i, hi, hx, hR⟩
      have hi : i = 5 := by omega
      subst hi
      unfold b_J1_indexOfChar_4cfef_L7
      rw [hx, if_pos (show (5 : Int32) ≤ nI 5 by decide)]
      exact ⟨_, rfl, (hk.2.1 hR).symm⟩
    · rintro g j s ⟨i, hi, hx, hR⟩
      unfold b_J1_indexOfChar_4cfef_L7
      rw [hx, if_neg (show ¬ (5 : Int32) ≤ nI i from nI_ge (b := 5) (by omega) (by decide))]
      simp only [gd, inb_nI (show i < 5 by omega) (by decide), if_true, bnd, nI_1, nI_clamp (show i < 2 ^ 31 by omega), ht.2.2.2.2.2.2.2.2.1]
      by_cases h : ltr i = nI a
      · rw [if_pos h]
        exact Or.inr ⟨_, rfl, (hk.1 i (by omega) h).symm⟩
      · rw [if_neg h]
        refine Or.inl ⟨_, ⟨i + 1, by omega, rfl, fun k hk => ?_⟩, rfl⟩
        by_cases e : k = i
        · rw [e]; exact h
        · exact hR k (by omega)
  obtain ⟨r, e, hr⟩ := key
  unfold f_J0_indexOf_0f7a4 f_J0_indexOf_7cf53 f_J1_indexOf_4cfef
  rw [hl, h5, ht.2.2.2.2.2.2.2.1, ht.2.2.2.2.2.2.2.2.2]
  simp only [Option.bind_some, bnd]
  have i0 : (if (0 : Int32) < 0 then (0 : Int32) else 0) = 0 := by decide
  have i5 : (if (5 : Int32) < 5 then (5 : Int32) else 5) = 5 := by decide
  have h1 : ¬ (1 : Int32) = 0 := by decide
  have h2 : (0 : Int32) < 5 := by decide
  simp only [i0, i5, h1, h2, if_true, if_false, e, hr, Option.bind_some]
def clA (A : Nat → Nat) (m : Nat) : Nat := 9 * (A (5 * m) - 48) + (A (5 * m + 1) - 48)
def frA (A : Nat → Nat) (q : Nat) : Nat → Bool
  | 0 => true
  | m + 1 => frA A q m && !decide (clA A m = clA A q)
def gdP (A : Nat → Nat) (i : Nat) : Bool :=
  if 32 ≤ i then false
  else if i % 5 = 0 then decide (48 ≤ A i) && decide (A i ≤ 52)
  else if i % 5 = 1 then (decide (48 ≤ A i) && decide (A i ≤ 56)) && (frA A (i / 5) (i / 5) && !pkt (clA A (i / 5)))
  else if i % 5 = 2 then decide (A i = if i = 2 then 59 else 44)
  else if i % 5 = 3 then !decide (kxI (A i) = -1)
  else decide (49 ≤ A i) && decide (A i ≤ 55)
/-- the letters, as numbers -/
def LtR (A : Nat → Nat) (v : Nat → Int32) : Prop := ∀ i, i < 34 → A i < 127 ∧ v i = nI (A i)
theorem at_ok {A : Nat → Nat} {v : Nat → Int32} (hL : LtR A v) {i : Nat} (hi : i < 34) : f_X7_at v (nI i) = some (nI (A i)) := by
  unfold f_X7_at
  simp only [jn, gd]
  rw [if_neg (nI_pos (by omega)), if_neg (show ¬ (34 : Int32) ≤ nI i from nI_ge (b := 34) hi (by decide)), inb_nI hi (by decide), if_pos rfl, nI_clamp (by omega), (hL i hi).2]
theorem digit_ok {A : Nat → Nat} {v : Nat → Int32} (hL : LtR A v) {i : Nat} (hi : i < 34) : f_X7_digitAt v (nI i) = some (nI (A i) - 48) := by
  unfold f_X7_digitAt
  rw [at_ok hL hi]; rfl
theorem t_dig : ∀ a, a < 53 → 48 ≤ a → ∀ b, b < 57 → 48 ≤ b → 9 * (nI a - 48) + (nI b - 48) = nI (9 * (a - 48) + (b - 48)) ∧ 9 * (nI a - 48) + nI b - 48 = nI (9 * (a - 48) + (b - 48)) ∧ 9 * (a - 48) + (b - 48) < 45 := by decide +kernel
theorem t_p5 : ∀ m, m < 7 → nI (5 * m + 1) - 1 = nI (5 * m) ∧ nI (5 * m) + 1 = nI (5 * m + 1) ∧ nI (5 * m + 1) + 5 = nI (5 * (m + 1) + 1) ∧ nI (5 * m) + 5 = nI (5 * (m + 1)) := by decide +kernel
/-- the two digits of a cell are good -/
def dgA (A : Nat → Nat) (m : Nat) : Prop := 48 ≤ A (5 * m) ∧ A (5 * m) < 53 ∧ 48 ≤ A (5 * m + 1) ∧ A (5 * m + 1) < 57
theorem cellC_ok {A : Nat → Nat} {v : Nat → Int32} (hL : LtR A v) {m : Nat} (hm : m < 7) (hd : dgA A m) (h34 : 5 * m + 1 < 34) : f_X7_cellAt v (nI (5 * m + 1)) = some (nI (clA A m)) ∧ clA A m < 45 := by
  have ht := t_dig _ hd.2.1 hd.1 _ hd.2.2.2 hd.2.2.1
  refine ⟨?_, ht.2.2⟩
  unfold f_X7_cellAt
  rw [(t_p5 m hm).1, digit_ok hL (by omega), digit_ok hL h34]
  simp only [Option.bind_some]
  rw [ht.1]; rfl
theorem cellM_ok {A : Nat → Nat} {v : Nat → Int32} (hL : LtR A v) {m : Nat} (hm : m < 7) (hd : dgA A m) (h34 : 5 * m + 1 < 34) : f_X12_cellAt v (nI (5 * m)) = some (nI (clA A m)) := by
  have ht := t_dig _ hd.2.1 hd.1 _ hd.2.2.2 hd.2.2.1
  unfold f_X12_cellAt
  rw [(t_p5 m hm).2.1]
  simp only [gd, inb_nI (show 5 * m < 34 by omega) (by decide), inb_nI h34 (by decide), if_true, nI_clamp (show 5 * m < 2 ^ 31 by omega), nI_clamp (show 5 * m + 1 < 2 ^ 31 by omega), (hL (5 * m) (by omega)).2, (hL (5 * m + 1) h34).2]
  rw [ht.2.1]; rfl
theorem free_ok {A : Nat → Nat} {v : Nat → Int32} (hL : LtR A v) {n q : Nat} (hn : 1000 ≤ n) (hq : q < 7) (hd : ∀ m, m ≤ q → dgA A m) (h34 : 5 * q + 1 < 34) : ∃ r, f_X7_isFreeCell n v (nI (5 * q + 1)) = some r ∧ r = b2 (frA A q q && !pkt (clA A q)) := by
  have hc := cellC_ok hL hq (hd q (Nat.le_refl _)) h34
  unfold f_X7_isFreeCell
  rw [hc.1, Option.bind_some, (t_pocket _ hc.2).1]
  simp only [jn, Option.bind_some]
  unfold f_X7_isFreeCell_L8
  refine lp_r (fun j s => ∃ m, j + m = q ∧ s = nI (5 * m + 1) ∧ frA A q m = true) q ⟨0, by omega, by show (1 : Int32) = nI (5 * 0 + 1); decide, rfl⟩ (by omega) ?_ ?_
  · rintro g s ⟨m, hm, hx, hR⟩
    have hm : m = q := by omega
    subst hm
    unfold b_X7_isFreeCell_L8
    rw [hx, if_pos (nI_le (Nat.le_refl _) (by omega)), hR]
    cases pkt (clA A m)
    · exact ⟨_, rfl, rfl⟩
    · exact ⟨_, rfl, rfl⟩
  · rintro g j s ⟨m, hm, hx, hR⟩
    have hcm := cellC_ok hL (show m < 7 by omega) (hd m (by omega)) (by omega)
    unfold b_X7_isFreeCell_L8
    rw [hx, if_neg (nI_ge (show 5 * m + 1 < 5 * q + 1 by omega) (by omega)), hcm.1, Option.bind_some]
    simp only [bnd, (t_p5 m (by omega)).2.2.1]
    by_cases h : clA A m = clA A q
    · rw [if_pos (by rw [h])]
      refine Or.inr ⟨_, rfl, ?_⟩
      have hfq : ∀ k, m < k → frA A q k = false := by
        intro k
        induction k with
        | zero => intro hk; omega
        | succ k ih =>
          intro hk
          rw [frA]
          by_cases e : k = m
          · rw [e]; simp [h]
          · rw [ih (by omega)]; rfl
      rw [hfq q (by omega)]; rfl
    · rw [if_neg (fun z => h (nI_inj45 hcm.2 hc.2 z))]
      refine Or.inl ⟨_, ⟨m + 1, by omega, rfl, ?_⟩, rfl⟩
      rw [frA, hR]; simp [h]
theorem told_ok {A : Nat → Nat} {v : Nat → Int32} (hL : LtR A v) {n q : Nat} (hn : 1000 ≤ n) (hq : q < 7) (hd : ∀ m, m ≤ q → dgA A m) (h34 : 5 * q + 1 < 34) : ∃ r, f_X12_isToldAhead n v (nI (5 * q)) = some r ∧ r = b2 (!frA A q q) := by
  have hc := cellM_ok hL hq (hd q (Nat.le_refl _)) h34
  have hcl := (cellC_ok hL hq (hd q (Nat.le_refl _)) h34).2
  have hc0 : f_X12_cellAt v 0 = some (nI (clA A 0)) := cellM_ok hL (m := 0) (by decide) (hd 0 (by omega)) (by decide)
  have hcl0 := (cellC_ok hL (m := 0) (by decide) (hd 0 (by omega)) (by decide)).2
  have key : ∀ x : Bool, x = !frA A q (Nat.min q 1) → ∃ r, f_X12_isToldAhead_L25 v (nI (5 * q)) n (b2 x) 5 = some r ∧ r = b2 (!frA A q q) := by
    intro x hx0
    unfold f_X12_isToldAhead_L25
    refine lp_r (fun j s => ∃ m, j + m = (q - 1) + 1 ∧ 1 ≤ m ∧ s.2 = nI (5 * m) ∧ s.1 = b2 (!frA A q (Nat.min q m))) (q - 1) ⟨1, by omega, by omega, by show (5 : Int32) = nI (5 * 1); decide, by rw [← hx0]⟩ (by omega) ?_ ?_
    · rintro g ⟨s1, s2⟩ ⟨m, hm, hm1, hx, hR⟩
      have hm : q ≤ m := by omega
      dsimp only at hx hR ⊢
      unfold b_X12_isToldAhead_L25
      rw [hx, if_pos (nI_le (show 5 * q ≤ 5 * m by omega) (by omega)), hR, gd, isb_b2, if_pos rfl]
      refine ⟨_, rfl, ?_⟩
      rw [show Nat.min q m = q from Nat.min_eq_left hm]
    · rintro g j ⟨s1, s2⟩ ⟨m, hm, hm1, hx, hR⟩
      left
      dsimp only at hx hR ⊢
      have hcm := cellM_ok hL (show m < 7 by omega) (hd m (by omega)) (by omega)
      have hcml := (cellC_ok hL (show m < 7 by omega) (hd m (by omega)) (by omega)).2
      unfold b_X12_isToldAhead_L25
      rw [hx, if_neg (nI_ge (show 5 * m < 5 * q by omega) (by omega)), hcm, hc, hR]
      simp only [jn, bnd, (t_p5 m (by omega)).2.2.2, Option.bind_some]
      rw [show Nat.min q m = m from Nat.min_eq_right (by omega)]
      have e : frA A q (m + 1) = (frA A q m && !decide (clA A m = clA A q)) := rfl
      cases hfm : frA A q m
      · rw [if_neg (by decide)]
        refine ⟨_, ⟨m + 1, by omega, by omega, rfl, ?_⟩, rfl⟩
        rw [show Nat.min q (m + 1) = m + 1 from Nat.min_eq_right (by omega), e, hfm]; rfl
      · rw [if_pos (by decide)]
        by_cases h : clA A m = clA A q
        · rw [if_pos (by rw [h])]
          refine ⟨_, ⟨m + 1, by omega, by omega, rfl, ?_⟩, rfl⟩
          rw [show Nat.min q (m + 1) = m + 1 from Nat.min_eq_right (by omega), e, hfm]; simp [h, b2]
        · rw [if_neg (fun z => h (nI_inj45 hcml hcl z))]
          refine ⟨_, ⟨m + 1, by omega, by omega, rfl, ?_⟩, rfl⟩
          rw [show Nat.min q (m + 1) = m + 1 from Nat.min_eq_right (by omega), e, hfm]; simp [h, b2]
  unfold f_X12_isToldAhead
  rw [hc0, hc]
  simp only [jn, Option.bind_some]
  by_cases hq0 : q = 0
  · subst hq0
    rw [if_pos (show nI (5 * 0) ≤ 0 by decide)]
    exact key false rfl
  · rw [if_neg (nI_nle (by omega) (by omega))]
    have hm1 : Nat.min q 1 = 1 := Nat.min_eq_right (by omega)
    have e : frA A q 1 = !decide (clA A 0 = clA A q) := rfl
    by_cases h : clA A 0 = clA A q
    · rw [if_pos (by rw [h])]
      exact key true (by rw [hm1, e]; simp [h])
    · rw [if_neg (fun z => h (nI_inj45 hcl0 hcl z))]
      exact key false (by rw [hm1, e]; simp [h])
end
section
def pfx (A : Nat → Nat) (i : Nat) : Prop := ∀ k, k < i → gdP A k = true
theorem gd_row {A : Nat → Nat} {m : Nat} (h : gdP A (5 * m) = true) : 5 * m < 32 ∧ 48 ≤ A (5 * m) ∧ A (5 * m) < 53 := by
  unfold gdP at h
  by_cases h32 : 32 ≤ 5 * m
  · rw [if_pos h32] at h; cases h
  · rw [if_neg h32, if_pos (by omega), Bool.and_eq_true, decide_eq_true_eq, decide_eq_true_eq] at h
    omega
theorem gd_col {A : Nat → Nat} {m : Nat} (h : gdP A (5 * m + 1) = true) : 5 * m + 1 < 32 ∧ 48 ≤ A (5 * m + 1) ∧ A (5 * m + 1) < 57 ∧ frA A m m = true ∧ pkt (clA A m) = false := by
  unfold gdP at h
  by_cases h32 : 32 ≤ 5 * m + 1
  · rw [if_pos h32] at h; cases h
  · rw [if_neg h32, if_neg (by omega), if_pos (by omega), show (5 * m + 1) / 5 = m by omega] at h
    simp only [Bool.and_eq_true, decide_eq_true_eq, Bool.not_eq_true'] at h
    obtain ⟨⟨h1, h2⟩, h3, h4⟩ := h
    exact ⟨by omega, h1, by omega, h3, h4⟩
theorem dg_of {A : Nat → Nat} {i m : Nat} (h : pfx A i) (hm : 5 * m + 1 < i) : dgA A m := by
  have h1 := gd_row (h (5 * m) (by omega))
  have h2 := gd_col (h (5 * m + 1) hm)
  exact ⟨h1.2.1, h1.2.2, h2.2.1, h2.2.2.1⟩
theorem t_m5 : ∀ i, i < 35 → nI i - nI i / 5 * 5 = nI (i % 5) := by decide +kernel
theorem t_m53 : ∀ i, i < 34 → 3 ≤ i → (nI i - 3) - (nI i - 3) / 5 * 5 = nI ((i - 3) % 5) := by decide +kernel
theorem fits_ok {A : Nat → Nat} {v : Nat → Int32} (hL : LtR A v) {n i : Nat} (hn : 1000 ≤ n) (hi : i < 34) (hp : pfx A i) : ∃ r, f_X7_fits n v (nI i) = some r ∧ r = b2 (gdP A i) := by
  unfold f_X7_fits gdP
  by_cases h32 : 32 ≤ i
  · rw [if_neg (show ¬ nI i < 32 from nI_nlt (b := 32) h32 (by omega)), if_pos h32]
    exact ⟨_, rfl, rfl⟩
  · have ht := t_let (A i) (hL i hi).1
    rw [if_pos (show nI i < 32 from nI_lt (b := 32) (by omega) (by decide)), if_neg h32, t_m5 i (by omega)]
    simp only [bnd]
    have h5 : i % 5 = 0 ∨ i % 5 = 1 ∨ i % 5 = 2 ∨ i % 5 = 3 ∨ i % 5 = 4 := by omega
    rcases h5 with h | h | h | h | h
    · rw [h, if_pos (show nI 0 = 0 by decide), if_pos rfl, digit_ok hL hi, Option.bind_some, ht.1, Option.bind_some, gd, isb_b2, if_pos rfl]
      exact ⟨_, rfl, rfl⟩
    · rw [h, if_neg (show ¬ nI 1 = 0 by decide), if_pos (show nI 1 = 1 by decide), if_neg (by decide), if_pos rfl, digit_ok hL hi, Option.bind_some, ht.2.1, Option.bind_some]
      simp only [jn]
      cases hcol : (decide (48 ≤ A i) && decide (A i ≤ 56))
      · rw [if_pos b2_f]; exact ⟨_, rfl, rfl⟩
      · rw [if_neg (by rw [b2_t]; decide)]
        obtain ⟨q, rfl⟩ : ∃ q, i = 5 * q + 1 := ⟨i / 5, by omega⟩
        rw [Bool.and_eq_true, decide_eq_true_eq, decide_eq_true_eq] at hcol
        have hd : ∀ m, m ≤ q → dgA A m := fun m hm => by
          by_cases e : m = q
          · rw [e]
            have h1 := gd_row (hp (5 * q) (by omega))
            exact ⟨h1.2.1, h1.2.2, hcol.1, by omega⟩
          · exact dg_of hp (by omega)
        refine bind_r (free_ok hL hn (show q < 7 by omega) hd hi) (fun r hr => ?_)
        rw [hr, show (5 * q + 1) / 5 = q by omega]
        cases (frA A q q && !pkt (clA A q))
        · rw [if_pos b2_f]; exact ⟨_, rfl, rfl⟩
        · rw [if_neg (by rw [b2_t]; decide)]; exact ⟨_, rfl, rfl⟩
    · rw [h, if_neg (show ¬ nI 2 = 0 by decide), if_neg (show ¬ nI 2 = 1 by decide), if_pos (show nI 2 = 2 by decide), if_neg (by decide), if_neg (by decide), if_pos rfl, at_ok hL hi, Option.bind_some]
      simp only [jn]
      by_cases h2 : i = 2
      · rw [if_pos (by rw [h2]; decide), if_pos h2]
        by_cases h59 : A i = 59
        · rw [if_pos (by rw [h59]; decide)]; exact ⟨_, rfl, by simp [h59, b2]⟩
        · rw [if_neg (fun z => h59 ((nI_eq (by have := (hL i hi).1; omega) (by decide)).mp (z.trans (show (59 : Int32) = nI 59 by decide))))]; exact ⟨_, rfl, by simp [h59, b2]⟩
      · rw [if_neg (fun z => h2 ((nI_eq (by omega) (by decide)).mp (z.trans (show (2 : Int32) = nI 2 by decide)))), if_neg h2]
        by_cases h59 : A i = 44
        · rw [if_pos (by rw [h59]; decide)]; exact ⟨_, rfl, by simp [h59, b2]⟩
        · rw [if_neg (fun z => h59 ((nI_eq (by have := (hL i hi).1; omega) (by decide)).mp (z.trans (show (44 : Int32) = nI 44 by decide))))]; exact ⟨_, rfl, by simp [h59, b2]⟩
    · rw [h, if_neg (show ¬ nI 3 = 0 by decide), if_neg (show ¬ nI 3 = 1 by decide), if_neg (show ¬ nI 3 = 2 by decide), if_pos (show nI 3 = 3 by decide), if_neg (by decide), if_neg (by decide), if_neg (by decide), if_pos rfl, at_ok hL hi, Option.bind_some, index_ok hn (hL i hi).1, Option.bind_some]
      rcases (t_kx (A i) (hL i hi).1).2.2 with e | ⟨j, hj, e⟩
      · rw [e, if_pos (by decide)]; exact ⟨_, rfl, by simp [b2]⟩
      · rw [e, if_neg (nI_pos (by omega))]; exact ⟨_, rfl, by simp [nI_m1' (show j < 1000 by omega), b2]⟩
    · rw [h, if_neg (show ¬ nI 4 = 0 by decide), if_neg (show ¬ nI 4 = 1 by decide), if_neg (show ¬ nI 4 = 2 by decide), if_neg (show ¬ nI 4 = 3 by decide), if_neg (by decide), if_neg (by decide), if_neg (by decide), if_neg (by decide), digit_ok hL hi, Option.bind_some, ht.2.2.1, Option.bind_some, gd, isb_b2, if_pos rfl]
      exact ⟨_, rfl, rfl⟩
theorem colM_ok {A : Nat → Nat} {v : Nat → Int32} (hL : LtR A v) {n q : Nat} (hn : 1000 ≤ n) (hi : 5 * q + 1 < 32) (hp : pfx A (5 * q + 1)) : ∃ r, f_X12_isColumn n v (nI (5 * q + 1)) = some r ∧ r = b2 (gdP A (5 * q + 1)) := by
  have ht := t_let (A (5 * q + 1)) (hL _ (by omega)).1
  unfold f_X12_isColumn gdP
  simp only [gd, inb_nI (show 5 * q + 1 < 34 by omega) (by decide), if_true, nI_clamp (show 5 * q + 1 < 2 ^ 31 by omega), (hL (5 * q + 1) (by omega)).2]
  rw [ht.2.2.2.2.1, Option.bind_some, if_neg (by omega), if_neg (by omega), if_pos (by omega), show (5 * q + 1) / 5 = q by omega, (t_p5 q (by omega)).1]
  simp only [jn]
  cases hcol : (decide (48 ≤ A (5 * q + 1)) && decide (A (5 * q + 1) ≤ 56))
  · rw [if_pos b2_f]; exact ⟨_, rfl, rfl⟩
  · rw [if_neg (by rw [b2_t]; decide)]
    rw [Bool.and_eq_true, decide_eq_true_eq, decide_eq_true_eq] at hcol
    have hd : ∀ m, m ≤ q → dgA A m := fun m hm => by
      by_cases e : m = q
      · rw [e]
        have h1 := gd_row (hp (5 * q) (by omega))
        exact ⟨h1.2.1, h1.2.2, hcol.1, by omega⟩
      · exact dg_of hp (by omega)
    have hcl := (cellC_ok hL (show q < 7 by omega) (hd q (Nat.le_refl _)) (by omega)).2
    rw [cellM_ok hL (show q < 7 by omega) (hd q (Nat.le_refl _)) (by omega), Option.bind_some, (t_pocket _ hcl).2, Option.bind_some]
    cases hpk : pkt (clA A q)
    · rw [if_pos b2_f]
      refine bind_r (told_ok hL hn (show q < 7 by omega) hd (by omega)) (fun r hr => ?_)
      rw [hr]
      cases frA A q q
      · rw [if_neg (by decide)]; exact ⟨_, rfl, rfl⟩
      · rw [if_pos (by decide)]; exact ⟨_, rfl, rfl⟩
    · rw [if_neg (by rw [b2_t]; decide)]; exact ⟨_, rfl, by simp [b2]⟩
theorem isGood_ok {A : Nat → Nat} {v : Nat → Int32} (hL : LtR A v) {n i : Nat} (hn : 1000 ≤ n) (hi : i < 34) (hp : pfx A i) : ∃ r, f_X12_isGood n v (nI i) = some r ∧ r = b2 (gdP A i) := by
  have ht := t_let (A i) (hL i hi).1
  have h33 : i ≤ 32 := by
    by_cases h : i ≤ 32
    · exact h
    · have := hp 32 (by omega)
      rw [gdP, if_pos (by decide)] at this; cases this
  unfold f_X12_isGood
  simp only [gd, inb_nI hi (by decide), if_true, bnd, nI_clamp (show i < 2 ^ 31 by omega), (hL i hi).2]
  by_cases h3 : 3 ≤ i
  · rw [if_pos (show (3 : Int32) ≤ nI i from nI_le (a := 3) h3 (by omega)), t_m53 i hi h3]
    have h5 : i % 5 = 3 ∨ i % 5 = 4 ∨ i % 5 = 0 ∨ i % 5 = 1 ∨ i % 5 = 2 := by omega
    rcases h5 with h | h | h | h | h
    · rw [show (i - 3) % 5 = 0 by omega, if_pos (show nI 0 = 0 by decide), ht.2.2.2.2.2.2.1, Option.bind_some]
      have eg : gdP A i = !decide (kxI (A i) = -1) := by rw [gdP, if_neg (by omega), h, if_neg (by decide), if_neg (by decide), if_neg (by decide), if_pos rfl]
      rw [eg]
      by_cases e : kxI (A i) = -1
      · rw [if_pos e]; exact ⟨_, rfl, by simp [e, b2]⟩
      · rw [if_neg e]; exact ⟨_, rfl, by simp [e, b2]⟩
    · rw [show (i - 3) % 5 = 1 by omega, if_neg (show ¬ nI 1 = 0 by decide), if_pos (show nI 1 = 1 by decide), ht.2.2.2.2.2.1, Option.bind_some, isb_b2, if_pos rfl]
      rw [gdP, if_neg (by omega), h, if_neg (by decide), if_neg (by decide), if_neg (by decide), if_neg (by decide)]
      exact ⟨_, rfl, rfl⟩
    · rw [show (i - 3) % 5 = 2 by omega, if_neg (show ¬ nI 2 = 0 by decide), if_neg (show ¬ nI 2 = 1 by decide), if_pos (show nI 2 = 2 by decide), ht.2.2.2.1, Option.bind_some, isb_b2, if_pos rfl]
      rw [gdP, if_neg (by omega), h, if_pos rfl]
      exact ⟨_, rfl, rfl⟩
    · rw [show (i - 3) % 5 = 3 by omega, if_neg (show ¬ nI 3 = 0 by decide), if_neg (show ¬ nI 3 = 1 by decide), if_neg (show ¬ nI 3 = 2 by decide), if_pos (show nI 3 = 3 by decide)]
      obtain ⟨q, rfl⟩ : ∃ q, i = 5 * q + 1 := ⟨i / 5, by omega⟩
      refine bind_r (colM_ok hL hn (by omega) hp) (fun r hr => ?_)
      rw [hr, isb_b2, if_pos rfl]
      exact ⟨_, rfl, rfl⟩
    · rw [show (i - 3) % 5 = 4 by omega, if_neg (show ¬ nI 4 = 0 by decide), if_neg (show ¬ nI 4 = 1 by decide), if_neg (show ¬ nI 4 = 2 by decide), if_neg (show ¬ nI 4 = 3 by decide)]
      simp only [jn]
      by_cases h44 : A i = 44
      · rw [if_pos (by rw [h44]; decide)]
        by_cases h32 : 32 ≤ i
        · rw [if_pos (show (32 : Int32) ≤ nI i from nI_le (a := 32) h32 (by omega)), gdP, if_pos h32]
          exact ⟨_, rfl, rfl⟩
        · rw [if_neg (show ¬ (32 : Int32) ≤ nI i from nI_ge (b := 32) (by omega) (by decide)), gdP, if_neg h32, h, if_neg (by decide), if_neg (by decide), if_pos rfl, if_neg (by omega)]
          exact ⟨_, rfl, by simp [h44, b2]⟩
      · rw [if_neg (fun z => h44 ((nI_eq (by have := (hL i hi).1; omega) (by decide)).mp (z.trans (show (44 : Int32) = nI 44 by decide))))]
        refine ⟨_, rfl, ?_⟩
        unfold gdP
        by_cases h32 : 32 ≤ i
        · rw [if_pos h32]; rfl
        · rw [if_neg h32, h, if_neg (by decide), if_neg (by decide), if_pos rfl, if_neg (by omega)]; simp [h44, b2]
  · rw [if_neg (show ¬ (3 : Int32) ≤ nI i from nI_ge (b := 3) (by omega) (by decide))]
    have h5 : i = 0 ∨ i = 1 ∨ i = 2 := by omega
    rcases h5 with h | h | h
    · rw [if_pos (by rw [h]; decide), ht.2.2.2.1, Option.bind_some, isb_b2, if_pos rfl]
      rw [gdP, if_neg (by omega), if_pos (by omega)]
      exact ⟨_, rfl, rfl⟩
    · subst h
      rw [if_neg (by decide), if_pos (by decide)]
      refine bind_r (colM_ok (q := 0) hL hn (by decide) hp) (fun r hr => ?_)
      rw [hr, isb_b2, if_pos rfl]
      exact ⟨_, rfl, rfl⟩
    · subst h
      have eg : gdP A 2 = decide (A 2 = 59) := by rw [gdP, if_neg (by decide), if_neg (by decide), if_neg (by decide), if_pos (by decide), if_pos rfl]
      rw [if_neg (by decide), if_neg (by decide), eg]
      by_cases h59 : A 2 = 59
      · rw [if_pos (by rw [h59]; decide)]; exact ⟨_, rfl, by simp [h59, b2]⟩
      · rw [if_neg (fun z => h59 ((nI_eq (by have := (hL 2 hi).1; omega) (by decide)).mp (z.trans (show (59 : Int32) = nI 59 by decide))))]; exact ⟨_, rfl, by simp [h59, b2]⟩
def ffF (A : Nat → Nat) : Nat → Nat → Nat
  | 0, i => i
  | j + 1, i => if gdP A i = true then ffF A j (i + 1) else i
theorem ff_le (A : Nat → Nat) : ∀ j i, ffF A j i ≤ i + j
  | 0, i => Nat.le_refl _
  | j + 1, i => by
    rw [ffF]
    have := ff_le A j (i + 1)
    split <;> omega
theorem ff_all (A : Nat → Nat) : ∀ j i, ffF A j i = i + j → ∀ k, i ≤ k → k < i + j → gdP A k = true
  | 0, i, _, k, h1, h2 => by omega
  | j + 1, i, h, k, h1, h2 => by
    rw [ffF] at h
    by_cases hg : gdP A i = true
    · rw [if_pos hg] at h
      by_cases e : k = i
      · rw [e]; exact hg
      · exact ff_all A j (i + 1) (by omega) k (by omega) (by omega)
    · rw [if_neg hg] at h; omega
theorem faultC_ok {A : Nat → Nat} {v : Nat → Int32} (hL : LtR A v) {n z : Nat} (hn : 1000 ≤ n) (hz : z ≤ 34) : ∃ r, f_X7_firstFault n (nI z) v = some r ∧ r = nI (ffF A z 0) := by
  unfold f_X7_firstFault
  simp only [jn]
  unfold f_X7_firstFault_L2
  refine lp_r (fun j s => ∃ i, j + i = z ∧ s = nI i ∧ pfx A i ∧ ffF A z 0 = ffF A j i) z ⟨0, by omega, nI_0.symm, fun k hk => absurd hk (Nat.not_lt_zero _), rfl⟩ (by omega) ?_ ?_
  · rintro g s ⟨i, hi, hx, hp, hR⟩
    have hi : i = z := by omega
    subst hi
    unfold b_X7_firstFault_L2
    rw [hx, if_pos (nI_le (Nat.le_refl i) (by omega))]
    exact ⟨_, rfl, by rw [hR]; rfl⟩
  · rintro g j s ⟨i, hi, hx, hp, hR⟩
    unfold b_X7_firstFault_L2
    rw [hx, if_neg (nI_ge (show i < z by omega) (by omega))]
    refine bind_p (fits_ok hL hn (show i < 34 by omega) hp) (fun r hr => ?_)
    rw [hr]
    rw [ffF] at hR
    simp only [bnd, nI_1]
    cases hg : gdP A i
    · rw [if_pos b2_f]
      rw [hg, if_neg (by decide)] at hR
      exact Or.inr ⟨_, rfl, by rw [hR]⟩
    · rw [if_neg (by rw [b2_t]; decide)]
      rw [hg, if_pos rfl] at hR
      refine Or.inl ⟨_, ⟨i + 1, by omega, rfl, fun k hk => ?_, hR⟩, rfl⟩
      by_cases e : k = i
      · rw [e]; exact hg
      · exact hp k (by omega)
theorem faultM_ok {A : Nat → Nat} {v : Nat → Int32} (hL : LtR A v) {n z : Nat} (hn : 1000 ≤ n) (hz : z ≤ 34) : ∃ r, f_X12_faultOf n (nI z) v = some r ∧ r = nI (ffF A z 0) := by
  unfold f_X12_faultOf f_X12_faultOf_L2
  refine lp_r (fun j s => ∃ i, j + i = z ∧ s = nI i ∧ pfx A i ∧ ffF A z 0 = ffF A j i) z ⟨0, by omega, nI_0.symm, fun k hk => absurd hk (Nat.not_lt_zero _), rfl⟩ (by omega) ?_ ?_
  · rintro g s ⟨i, hi, hx, hp, hR⟩
    have hi : i = z := by omega
    subst hi
    unfold b_X12_faultOf_L2
    rw [hx, if_pos (nI_le (Nat.le_refl i) (by omega))]
    exact ⟨_, rfl, by rw [hR]; rfl⟩
  · rintro g j s ⟨i, hi, hx, hp, hR⟩
    unfold b_X12_faultOf_L2
    rw [hx, if_neg (nI_ge (show i < z by omega) (by omega))]
    refine bind_p (isGood_ok hL hn (show i < 34 by omega) hp) (fun r hr => ?_)
    rw [hr]
    rw [ffF] at hR
    simp only [bnd, nI_1]
    cases hg : gdP A i
    · rw [if_pos b2_f]
      rw [hg, if_neg (by decide)] at hR
      exact Or.inr ⟨_, rfl, by rw [hR]⟩
    · rw [if_neg (by rw [b2_t]; decide)]
      rw [hg, if_pos rfl] at hR
      refine Or.inl ⟨_, ⟨i + 1, by omega, rfl, fun k hk => ?_, hR⟩, rfl⟩
      by_cases e : k = i
      · rw [e]; exact hg
      · exact hp k (by omega)
end
section
/-! a table is read -/
def KW (k w : Nat → Int32) : Prop := (∀ d, d < 7 → ∃ j, j < 5 ∧ k d = nI j) ∧ (∀ d, d < 7 → ∃ j, j ≤ 7 ∧ w d = nI j) ∧ k 0 = 0 ∧ w 0 = 0
def clN (v : Nat → Int32) (d : Nat) : Nat := (v d).toNatClampNeg
theorem TF_of {k w : Nat → Int32} (h : KW k w) {bl sp : Nat} (h1 : 1 ≤ bl) (h6 : bl ≤ 6) (hs : sp < 45) (hp : pkt sp = false) : TF bl sp (clN k) (clN w) k w := by
  refine ⟨h1, h6, hs, hp, fun d hd => ?_, fun d hd => ?_⟩
  · obtain ⟨j, hj, e⟩ := h.1 d hd
    have : clN k d = j := by rw [clN, e]; exact nI_clamp (by omega)
    rw [this]; exact ⟨hj, e⟩
  · obtain ⟨j, hj, e⟩ := h.2.1 d hd
    have : clN w d = j := by rw [clN, e]; exact nI_clamp (by omega)
    rw [this]; exact ⟨hj, e⟩
def whP (A : Nat → Nat) (z : Nat) : Prop := 7 ≤ z ∧ z % 5 = 2 ∧ ffF A z 0 = z
theorem t_z : ∀ z, z < 35 → (nI z < 7 ↔ z < 7) ∧ (nI z - nI z / 5 * 5 = 2 ↔ z % 5 = 2) ∧ nI z / 5 = nI (z / 5) := by decide +kernel
theorem t_z2 : ∀ z, z < 35 → 2 ≤ z → (nI z - 2) / 5 = nI ((z - 2) / 5) := by decide +kernel
theorem t_rdb : ∀ b, b < 7 → 1 ≤ b → 5 * nI b + 1 = nI (5 * b + 1) ∧ nI (5 * b + 1) - 3 = nI (5 * b - 2) ∧ nI (5 * b + 1) - 2 = nI (5 * b - 1) ∧ 5 * nI b - 2 = nI (5 * b - 2) ∧ nI (5 * b - 2) + 1 = nI (5 * b - 1) ∧ nI (5 * b - 2) + 2 = nI (5 * b) := by decide +kernel
theorem t_w : ∀ a, a < 56 → 48 ≤ a → nI a - 48 = nI (a - 48) := by decide +kernel
theorem gd_kind {A : Nat → Nat} {b : Nat} (hb : 1 ≤ b) (h : gdP A (5 * b - 2) = true) : ¬ kxI (A (5 * b - 2)) = -1 := by
  unfold gdP at h
  by_cases h32 : 32 ≤ 5 * b - 2
  · rw [if_pos h32] at h; cases h
  · rw [if_neg h32, if_neg (by omega), if_neg (by omega), if_neg (by omega), if_pos (by omega)] at h
    simpa using h
theorem gd_worth {A : Nat → Nat} {b : Nat} (hb : 1 ≤ b) (h : gdP A (5 * b - 1) = true) : 49 ≤ A (5 * b - 1) ∧ A (5 * b - 1) ≤ 55 := by
  unfold gdP at h
  by_cases h32 : 32 ≤ 5 * b - 1
  · rw [if_pos h32] at h; cases h
  · rw [if_neg h32, if_neg (by omega), if_neg (by omega), if_neg (by omega), if_neg (by omega), Bool.and_eq_true, decide_eq_true_eq, decide_eq_true_eq] at h
    exact h
theorem fr_ne {A : Nat → Nat} {q : Nat} : ∀ m, frA A q m = true → ∀ d, d < m → clA A d ≠ clA A q
  | 0, _, d, hd => absurd hd (Nat.not_lt_zero _)
  | m + 1, h, d, hd => by
    rw [frA, Bool.and_eq_true] at h
    by_cases e : d = m
    · rw [e]; simpa using h.2
    · exact fr_ne m h.1 d (by omega)
theorem setK_ok {v : Nat → Int32} {b : Nat} (hb : b < 7) (x : Int32) : f_X10_setKind v (nI b) x = some (upd v b x) ∧ f_X10_setWorth v (nI b) x = some (upd v b x) := by
  unfold f_X10_setKind f_X10_setWorth
  rw [if_neg (nI_pos (by omega)), if_neg (show ¬ (7 : Int32) ≤ nI b from nI_ge (b := 7) hb (by decide))]
  simp only [gd, inb_nI hb (by decide), if_true, nI_clamp (show b < 2 ^ 31 by omega)]
  exact ⟨trivial, trivial⟩
theorem fill_ok {n : Nat} (hn : 1000 ≤ n) (v : Nat → Int32) : ∃ r, f_J7_fill_53178 n 7 v (-1) = some r ∧ ∀ d, d < 7 → r d = -1 := by
  unfold f_J7_fill_53178 f_J7_fill_53178_L5
  simp only [bnd]
  refine lp_r (fun j s => ∃ i, j + i = 7 ∧ s.1 = nI i ∧ ∀ d, d < i → s.2 d = -1) 7 ⟨0, by omega, nI_0.symm, fun d hd => absurd hd (Nat.not_lt_zero _)⟩ (by omega) ?_ ?_
  · rintro g ⟨x, v⟩ ⟨i, hi, hx, hv⟩
    dsimp only at hx hv ⊢
    have hi : i = 7 := by omega
    subst hi
    unfold b_J7_fill_53178_L5
    have hle : Int32.ofNat 7 ≤ nI 7 := by decide
    rw [hx, if_pos hle]
    exact ⟨v, rfl, hv⟩
  · rintro g j ⟨x, v⟩ ⟨i, hi, hx, hv⟩
    dsimp only at hx hv ⊢
    left
    unfold b_J7_fill_53178_L5
    have hle : ¬ Int32.ofNat 7 ≤ nI i := nI_ge (show i < 7 by omega) (by decide)
    rw [hx, if_neg hle]
    simp only [gd, inb_nI (show i < 7 by omega) (by decide), if_true, bnd, nI_1, nI_clamp (show i < 2 ^ 31 by omega)]
    refine ⟨(nI (i + 1), upd v i (-1)), ⟨i + 1, by omega, rfl, fun d hd => ?_⟩, rfl⟩
    dsimp only
    by_cases h : d = i
    · subst h; exact upd_s _ _ _
    · rw [upd_n h]; exact hv d (by omega)
theorem tab_0 {c : Nat → Int32} (h : ∀ d, d < 7 → c d = -1) : TabC 0 c := by
  refine ⟨fun b hb => Or.inl (h b hb), fun b hb d _ _ h2 => absurd (h b hb) h2, fun q hq => ?_⟩
  have : tb 0 q = false := by unfold tb; simp
  rw [this]
  constructor
  · intro z; cases z
  · rintro ⟨b, hb, e⟩
    rw [h b hb] at e
    exact absurd e.symm (nI_ne_m1 hq)
def RdR (A : Nat → Nat) (bl : Nat) (k w : Nat → Int32) : Prop := ∀ d, 1 ≤ d → d ≤ bl → k d = kxI (A (5 * d - 2)) ∧ w d = nI (A (5 * d - 1) - 48)
theorem read_ok {A : Nat → Nat} {v : Nat → Int32} (hL : LtR A v) {n z : Nat} (hn : 1000 ≤ n) (hz : z ≤ 34) (hw : whP A z) {c k w : Nat → Int32} (hc : ∀ d, d < 7 → c d = -1) (hK : KW k w) {sz sq : Int32} :
    ∃ r, f_X7_readInto n (nI z) v 0 sz sq c k w = some r ∧ (r.2.1 = nI (z / 5) ∧ r.2.2.1 = nI (clA A 0) ∧ TW (z / 5) r.1 r.2.2.2.1 ∧ (∀ d, d ≤ z / 5 → r.2.2.2.1 d = nI (clA A d)) ∧ KW r.2.2.2.2.1 r.2.2.2.2.2 ∧ RdR A (z / 5) r.2.2.2.2.1 r.2.2.2.2.2) := by
  obtain ⟨h7, hz5, hff⟩ := hw
  have hall : ∀ i, i < z → gdP A i = true := fun i hi => ff_all A z 0 (by omega) i (by omega) (by omega)
  have hz32 : z ≤ 32 := by
    by_cases h : z ≤ 32
    · exact h
    · have := hall 32 (by omega)
      rw [gdP, if_pos (by decide)] at this; cases this
  have hdg : ∀ m, m ≤ z / 5 → dgA A m := fun m hm => dg_of (i := z) hall (by omega)
  have hcl : ∀ m, m ≤ z / 5 → clA A m < 45 ∧ pkt (clA A m) = false ∧ frA A m m = true := fun m hm => by
    have h1 := gd_col (hall (5 * m + 1) (by omega))
    exact ⟨(cellC_ok hL (by omega) (hdg m hm) (by omega)).2, h1.2.2.2.2, h1.2.2.2.1⟩
  have hc0 : f_X7_cellAt v 1 = some (nI (clA A 0)) := (cellC_ok hL (m := 0) (by decide) (hdg 0 (by omega)) (by decide)).1
  unfold f_X7_readInto
  rw [hc0, Option.bind_some]
  refine bind_r (lay0_ok (tab_0 hc) (hcl 0 (by omega)).1 (hcl 0 (by omega)).2.1 (fun d hd _ => by rw [hc d hd]; exact fun z => nI_ne_m1 (hcl 0 (by omega)).1 z.symm)) ?_
  rintro ⟨tk1, c1⟩ ⟨e1, hT1⟩
  dsimp only at e1 hT1 ⊢
  subst e1
  unfold f_X7_readInto_L30
  refine lp_r (fun j s => ∃ b, j + b = z / 5 + 1 ∧ 1 ≤ b ∧ s.1 = nI b ∧ TabC s.2.1 s.2.2.1 ∧ (∀ d, d < b → s.2.2.1 d = nI (clA A d)) ∧ (∀ d, b ≤ d → d < 7 → s.2.2.1 d = -1) ∧ KW s.2.2.2.1 s.2.2.2.2 ∧ RdR A (b - 1) s.2.2.2.1 s.2.2.2.2) (z / 5) ⟨1, by omega, by omega, by show (1 : Int32) = nI 1; decide, hT1, fun d hd => ?_, fun d hd hd7 => ?_, hK, fun d h1 h2 => by omega⟩ (by omega) ?_ ?_
  · have : d = 0 := by omega
    subst this
    dsimp only
    exact upd_s _ _ _
  · dsimp only
    rw [upd_n (by omega)]; exact hc d hd7
  · rintro g ⟨x, tk, c, k, w⟩ ⟨b, hb, hb1, hx, hT, hc1, hc2, hK, hR⟩
    have hb : b = z / 5 + 1 := by omega
    subst hb
    dsimp only at hx hT hc1 hc2 hK hR ⊢
    unfold b_X7_readInto_L30
    rw [hx, (t_z z (by omega)).2.2, if_pos (nI_lt (show z / 5 < z / 5 + 1 by omega) (by omega))]
    refine ⟨_, rfl, rfl, rfl, ⟨hT, fun d h1 h2 => hc2 d (by omega) h2, ?_⟩, fun d hd => hc1 d (by omega), hK, hR⟩
    dsimp only
    rw [hc1 0 (by omega)]; exact nI_ne_m1 (hcl 0 (by omega)).1
  · rintro g j ⟨x, tk, c, k, w⟩ ⟨b, hb, hb1, hx, hT, hc1, hc2, hK, hR⟩
    left
    dsimp only at hx hT hc1 hc2 hK hR ⊢
    have hr := t_rdb b (by omega) hb1
    have hA1 := (hL (5 * b - 2) (by omega)).1
    have hA2 := (hL (5 * b - 1) (by omega)).1
    have hgw := gd_worth hb1 (hall (5 * b - 1) (by omega))
    have hgk := gd_kind hb1 (hall (5 * b - 2) (by omega))
    have hcb := hcl b (by omega)
    have hcc := (cellC_ok hL (show b < 7 by omega) (hdg b (by omega)) (by omega)).1
    obtain ⟨tk2, el, hT2⟩ := lay_ok hT (show b < 7 by omega) (Or.inr ⟨clA A b, hcb.1, hcb.2.1, rfl⟩) (fun d hd hdb _ => by
      by_cases h : d < b
      · rw [hc1 d h]
        exact fun z => fr_ne b hcb.2.2 d h (nI_inj45 (hcl d (by omega)).1 hcb.1 z)
      · rw [hc2 d (by omega) hd]
        exact fun z => nI_ne_m1 hcb.1 z.symm)
    unfold b_X7_readInto_L30
    rw [hx, (t_z z (by omega)).2.2, if_neg (nI_nlt (show b ≤ z / 5 by omega) (by omega))]
    simp only [bnd, hr.1, hr.2.1, hr.2.2.1, nI_1, at_ok hL (show 5 * b - 2 < 34 by omega), digit_ok hL (show 5 * b - 1 < 34 by omega), index_ok hn hA1, Option.bind_some, (setK_ok (show b < 7 by omega) _).1, (setK_ok (show b < 7 by omega) _).2, hcc, el]
    refine ⟨_, ?_, rfl⟩
    refine ⟨b + 1, by omega, by omega, rfl, hT2, fun d hd => ?_, fun d hd hd7 => ?_, ⟨fun d hd => ?_, fun d hd => ?_, ?_, ?_⟩, fun d h1 h2 => ?_⟩
    · dsimp only
      by_cases h : d = b
      · rw [h, upd_s]
      · rw [upd_n h]; exact hc1 d (by omega)
    · dsimp only
      rw [upd_n (by omega)]; exact hc2 d (by omega) hd7
    · dsimp only
      by_cases h : d = b
      · rw [h, upd_s]
        exact (t_kx _ hA1).2.2.resolve_left hgk
      · rw [upd_n h]; exact hK.1 d hd
    · dsimp only
      by_cases h : d = b
      · rw [h, upd_s]
        exact ⟨A (5 * b - 1) - 48, by omega, t_w _ (by omega) (by omega)⟩
      · rw [upd_n h]; exact hK.2.1 d hd
    · dsimp only
      rw [upd_n (by omega)]; exact hK.2.2.1
    · dsimp only
      rw [upd_n (by omega)]; exact hK.2.2.2
    · dsimp only
      by_cases h : d = b
      · rw [h, upd_s, upd_s]
        exact ⟨rfl, t_w _ (by omega) (by omega)⟩
      · rw [upd_n h, upd_n h]; exact hR d h1 (by omega)
theorem wholeC_ok {A : Nat → Nat} {v : Nat → Int32} (hL : LtR A v) {n z : Nat} (hn : 1000 ≤ n) (hz : z ≤ 34) : ∃ r, f_X7_isWhole n (nI z) v = some r ∧ ((whP A z → r = 1) ∧ (¬ whP A z → r = 0)) := by
  have ht := t_z z (by omega)
  have hff := ff_le A z 0
  unfold f_X7_isWhole
  simp only [jn]
  by_cases h7 : z < 7
  · rw [if_pos (ht.1.mpr h7)]
    exact ⟨_, rfl, fun h => by have := h.1; omega, fun _ => rfl⟩
  · rw [if_neg (fun x => h7 (ht.1.mp x))]
    by_cases h2 : z % 5 = 2
    · rw [if_pos (ht.2.1.mpr h2)]
      refine bind_r (faultC_ok hL hn hz) (fun r hr => ?_)
      rw [hr]
      by_cases hf : ffF A z 0 = z
      · rw [if_pos (by rw [hf])]
        exact ⟨_, rfl, fun _ => rfl, fun h => absurd ⟨by omega, h2, hf⟩ h⟩
      · rw [if_neg (fun x => hf ((nI_eq (by omega) (by omega)).mp x))]
        exact ⟨_, rfl, fun h => absurd h.2.2 hf, fun _ => rfl⟩
    · rw [if_neg (fun x => h2 (ht.2.1.mp x))]
      exact ⟨_, rfl, fun h => absurd h.2.1 h2, fun _ => rfl⟩
end
section
theorem tableC_ok {A : Nat → Nat} {v : Nat → Int32} (hL : LtR A v) {n z : Nat} (hn : 1000 ≤ n) (hz : z ≤ 34) {ik tr sn sc st fo sz sq : Int32} {tk : Int64} {c k w : Nat → Int32} (hK : KW k w) :
    ∃ r, f_X11_table n ik tr (nI z) v sn sc st fo tk sz sq c k w = some r ∧ ((¬ whP A z → r = (-103, ik, tr, nI z, sn, sc, st, fo, tk, sz, sq, c, k, w)) ∧ (whP A z → ∃ tk' c' k' w', r = (nI (z / 5), 0, tr + 1, 0, 0, 0, 0, 0, tk', nI (z / 5), nI (clA A 0), c', k', w') ∧ TW (z / 5) tk' c' ∧ (∀ d, d ≤ z / 5 → c' d = nI (clA A d)) ∧ KW k' w' ∧ RdR A (z / 5) k' w')) := by
  unfold f_X11_table
  refine bind_r (wholeC_ok hL hn hz) (fun u hu => ?_)
  by_cases h : whP A z
  · rw [hu.1 h, if_neg (by decide)]
    obtain ⟨c0, e0, h0⟩ := fill_ok hn c
    have ec : f_X3_clear n sn sc st fo tk c = some (0, 0, 0, 0, 0, c0) := by
      unfold f_X3_clear f_X10_clear
      rw [e0]; rfl
    rw [ec, Option.bind_some]
    refine bind_r (read_ok hL hn hz h h0 hK) ?_
    rintro ⟨tk', s1, s2, c', k', w'⟩ ⟨g1, g2, g3, g4, g5, g6⟩
    dsimp only at g1 g2 g3 g4 g5 g6 ⊢
    subst g1; subst g2
    exact ⟨_, rfl, fun z => absurd h z, fun _ => ⟨tk', c', k', w', rfl, g3, g4, g5, g6⟩⟩
  · rw [hu.2 h, if_pos rfl]
    exact ⟨_, rfl, fun _ => rfl, fun z => absurd z h⟩
theorem tableM_ok {A : Nat → Nat} {v : Nat → Int32} (hL : LtR A v) {n z : Nat} (hn : 1000 ≤ n) (hz : z ≤ 34) {mb ms msc mst mfo mtr msn : Int32} {mk mw mc : Nat → Int32} :
    ∃ r, f_X12_table n (nI z) mb ms msc mst mfo mtr msn v mk mw mc = some r ∧ ((¬ whP A z → r = (-103, nI z, mb, ms, msc, mst, mfo, mtr, msn, mk, mw, mc)) ∧ (whP A z → ∃ mk' mw' mc', r = (nI (z / 5), 0, nI (z / 5), nI (clA A 0), 0, 0, 0, mtr + 1, 0, mk', mw', mc') ∧ mk' 0 = 0 ∧ mw' 0 = 0 ∧ (∀ d, d ≤ z / 5 → mc' d = nI (clA A d)) ∧ RdR A (z / 5) mk' mw')) := by
  have ht := t_z z (by omega)
  have hff := ff_le A z 0
  unfold f_X12_table
  by_cases h7 : z < 7
  · rw [if_pos (ht.1.mpr h7)]
    exact ⟨_, rfl, fun _ => rfl, fun h => by have := h.1; omega⟩
  · rw [if_neg (fun x => h7 (ht.1.mp x))]
    by_cases h2 : z % 5 = 2
    · rw [if_pos (ht.2.1.mpr h2)]
      refine bind_r (faultM_ok hL hn hz) (fun r hr => ?_)
      rw [hr]
      by_cases hf : ffF A z 0 = z
      · rw [if_pos (by rw [hf]; exact nI_le (Nat.le_refl _) (by omega))]
        have hall : ∀ i, i < z → gdP A i = true := fun i hi => ff_all A z 0 (by omega) i (by omega) (by omega)
        have hz32 : z ≤ 32 := by
          by_cases h : z ≤ 32
          · exact h
          · have := hall 32 (by omega)
            rw [gdP, if_pos (by decide)] at this; cases this
        have hdg : ∀ m, m ≤ z / 5 → dgA A m := fun m hm => dg_of (i := z) hall (by omega)
        have hc0 : f_X12_cellAt v 0 = some (nI (clA A 0)) := cellM_ok hL (m := 0) (by decide) (hdg 0 (by omega)) (by decide)
        have hz0 : (0 : Int32).toNatClampNeg = 0 := rfl
        have hi0 : inb 0 7 = true := by decide
        rw [hc0, Option.bind_some]
        simp only [gd, hi0, if_true, jn, hz0, t_z2 z (by omega) (by omega), show (z - 2) / 5 = z / 5 by omega]
        unfold f_X12_table_L80
        refine lp_r (fun j s => ∃ b, j + b = z / 5 + 1 ∧ 1 ≤ b ∧ s.1 = nI b ∧ s.2.1 0 = 0 ∧ s.2.2.1 0 = 0 ∧ (∀ d, d < b → s.2.2.2 d = nI (clA A d)) ∧ RdR A (b - 1) s.2.1 s.2.2.1) (z / 5) ⟨1, by omega, by omega, by show (1 : Int32) = nI 1; decide, ?_, ?_, fun d hd => ?_, fun d h1 h2 => by omega⟩ (by omega) ?_ ?_
        · dsimp only; exact upd_s _ _ _
        · dsimp only; exact upd_s _ _ _
        · have : d = 0 := by omega
          subst this
          dsimp only
          exact upd_s _ _ _
        · rintro g ⟨x, k, w, c⟩ ⟨b, hb, hb1, hx, hk, hw, hc, hR⟩
          have hb : b = z / 5 + 1 := by omega
          subst hb
          dsimp only at hx hk hw hc hR ⊢
          unfold b_X12_table_L80
          rw [hx, t_z2 z (by omega) (by omega), show (z - 2) / 5 = z / 5 by omega, if_pos (nI_lt (show z / 5 < z / 5 + 1 by omega) (by omega))]
          exact ⟨_, rfl, fun h => absurd ⟨by omega, h2, hf⟩ h, fun _ => ⟨k, w, c, rfl, hk, hw, fun d hd => hc d (by omega), hR⟩⟩
        · rintro g j ⟨x, k, w, c⟩ ⟨b, hb, hb1, hx, hk, hw, hc, hR⟩
          left
          dsimp only at hx hk hw hc hR ⊢
          have hr := t_rdb b (by omega) hb1
          have hA1 := (hL (5 * b - 2) (by omega)).1
          have hgw := gd_worth hb1 (hall (5 * b - 1) (by omega))
          have hcc := cellM_ok hL (show b < 7 by omega) (hdg b (by omega)) (by omega)
          unfold b_X12_table_L80
          rw [hx, t_z2 z (by omega) (by omega), show (z - 2) / 5 = z / 5 by omega, if_neg (nI_nlt (show b ≤ z / 5 by omega) (by omega))]
          simp only [bnd, gd, hr.2.2.2.1, hr.2.2.2.2.1, hr.2.2.2.2.2, nI_1, inb_nI (show b < 7 by omega) (by decide), inb_nI (show 5 * b - 2 < 34 by omega) (by decide), inb_nI (show 5 * b - 1 < 34 by omega) (by decide), if_true, nI_clamp (show 5 * b - 2 < 2 ^ 31 by omega), nI_clamp (show 5 * b - 1 < 2 ^ 31 by omega), nI_clamp (show b < 2 ^ 31 by omega), (hL (5 * b - 2) (by omega)).2, (hL (5 * b - 1) (by omega)).2, (t_let _ hA1).2.2.2.2.2.2.1, Option.bind_some, hcc, t_w (A (5 * b - 1)) (by omega) (by omega)]
          refine ⟨_, ?_, rfl⟩
          refine ⟨b + 1, by omega, by omega, rfl, ?_, ?_, fun d hd => ?_, fun d h1 h2 => ?_⟩
          · dsimp only; rw [upd_n (by omega)]; exact hk
          · dsimp only; rw [upd_n (by omega)]; exact hw
          · dsimp only
            by_cases h : d = b
            · rw [h, upd_s]
            · rw [upd_n h]; exact hc d (by omega)
          · dsimp only
            by_cases h : d = b
            · rw [h, upd_s, upd_s]; exact ⟨rfl, rfl⟩
            · rw [upd_n h, upd_n h]; exact hR d h1 (by omega)
      · rw [if_neg (fun x => hf (by have := (nI_leI (by omega) (by omega)).mp x; omega))]
        exact ⟨_, rfl, fun _ => rfl, fun h => absurd h.2.2 hf⟩
    · rw [if_neg (fun x => h2 (ht.2.1.mp x))]
      exact ⟨_, rfl, fun _ => rfl, fun h => absurd h.2.1 h2⟩
end
section
/-! ranges, both ways -/
theorem rng {p : Int32} {lo hi : Nat} (hh : hi < 2 ^ 31) (hl : lo < 2 ^ 31) : (∃ j, lo ≤ j ∧ j ≤ hi ∧ p = nI j ∧ f_X11_within p (nI lo) (nI hi) = some 1 ∧ f_X12_in p.toInt64 (lN lo) (lN hi) = some 1) ∨ (f_X11_within p (nI lo) (nI hi) = some 0 ∧ f_X12_in p.toInt64 (lN lo) (lN hi) = some 0 ∧ ¬ ∃ j, lo ≤ j ∧ j ≤ hi ∧ p = nI j) := by
  have e1 : (p < nI lo) ↔ p.toInt < (lo : Int) := by rw [Int32.lt_iff_toInt_lt, nI_toInt hl]
  have e2 : (nI hi < p) ↔ (hi : Int) < p.toInt := by rw [Int32.lt_iff_toInt_lt, nI_toInt hh]
  have e3 : (lg_cmp p.toInt64 (lN lo) < 0) ↔ p.toInt < (lo : Int) := by rw [lg_cmp_lt, Int64.lt_iff_toInt_lt, Int32.toInt_toInt64, lN_toInt hl]
  have e4 : (0 < lg_cmp p.toInt64 (lN hi)) ↔ (hi : Int) < p.toInt := by rw [lg_cmp_gt, Int64.lt_iff_toInt_lt, Int32.toInt_toInt64, lN_toInt hh]
  unfold f_X11_within f_X12_in
  simp only [jn]
  by_cases h1 : p.toInt < (lo : Int)
  · right
    rw [if_pos (e1.mpr h1), if_pos (e3.mpr h1)]
    refine ⟨rfl, rfl, ?_⟩
    rintro ⟨j, hj1, hj2, rfl⟩
    rw [nI_toInt (by omega)] at h1; omega
  · by_cases h2 : (hi : Int) < p.toInt
    · right
      rw [if_neg (fun z => h1 (e1.mp z)), if_neg (fun z => h1 (e3.mp z)), if_pos (e2.mpr h2), if_pos (e4.mpr h2)]
      refine ⟨rfl, rfl, ?_⟩
      rintro ⟨j, hj1, hj2, rfl⟩
      rw [nI_toInt (by omega)] at h2; omega
    · left
      have h0 : ¬ p < 0 := by
        rw [Int32.lt_iff_toInt_lt]
        have : (0 : Int32).toInt = 0 := by decide
        omega
      obtain ⟨j, hj, rfl⟩ := nI_of h0
      rw [nI_toInt hj] at h1 h2
      refine ⟨j, by omega, by omega, rfl, ?_, ?_⟩
      · rw [if_neg (fun z => by have := e1.mp z; rw [nI_toInt hj] at this; omega), if_neg (fun z => by have := e2.mp z; rw [nI_toInt hj] at this; omega)]
      · rw [if_neg (fun z => by have := e3.mp z; rw [nI_toInt hj] at this; omega), if_neg (fun z => by have := e4.mp z; rw [nI_toInt hj] at this; omega)]
/-- a table that is there -/
def T1 (bl sp : Nat) (tk : Int64) (sz sq : Int32) (c k w : Nat → Int32) (mb mq : Int32) (mk mw mc : Nat → Int32) : Prop :=
  1 ≤ bl ∧ bl ≤ 6 ∧ sp < 45 ∧ pkt sp = false ∧ sz = nI bl ∧ sq = nI sp ∧ mb = nI bl ∧ mq = nI sp ∧ TW bl tk c ∧ MF bl k w mk mw ∧ ∀ d, d ≤ bl → mc d = c d
/-- no table yet -/
def T0 (sz sq : Int32) (c : Nat → Int32) (mb mq : Int32) (mc : Nat → Int32) : Prop := sz = 0 ∧ sq = 0 ∧ mb = 0 ∧ mq = 0 ∧ (∀ d, d < 7 → c d = -1) ∧ mc 0 = 0
def TbR (t : Nat) (tk : Int64) (sz sq : Int32) (c k w : Nat → Int32) (mb mq : Int32) (mk mw mc : Nat → Int32) : Prop :=
  (t = 0 ∧ T0 sz sq c mb mq mc) ∨ (0 < t ∧ ∃ bl sp, T1 bl sp tk sz sq c k w mb mq mk mw mc)
theorem has_0 : f_X11_hasTable (nI 0) = some 0 := by decide
theorem has_1 {t : Nat} (h : 0 < t) (ht : t < 1000) : f_X11_hasTable (nI t) = some 1 := by
  unfold f_X11_hasTable
  rw [if_neg (nI_nle h (by omega))]
theorem lk_0 : f_X12_lacks 0 = some 1 := by decide
theorem lk_1 {bl : Nat} (h : 1 ≤ bl) (h6 : bl ≤ 6) : f_X12_lacks (nI bl) = some 0 := by
  unfold f_X12_lacks
  rw [if_neg (nI_ne0 h (by omega))]
section
variable {t : Nat} {tk : Int64} {sz sq : Int32} {c k w : Nat → Int32} {mb mq : Int32} {mk mw mc : Nat → Int32}
theorem b_ball (ht : t < 1000) (hT : TbR t tk sz sq c k w mb mq mk mw mc) (p : Int32) : (∃ bl sp b, 0 < t ∧ T1 bl sp tk sz sq c k w mb mq mk mw mc ∧ b ≤ bl ∧ p = nI b ∧ f_X11_isBall (nI t) sz p = some 1 ∧ f_X12_isBall mb p = some 1) ∨ (f_X11_isBall (nI t) sz p = some 0 ∧ f_X12_isBall mb p = some 0) := by
  unfold f_X11_isBall f_X12_isBall
  simp only [jn]
  rcases hT with ⟨h0, h⟩ | ⟨h0, bl, sp, h⟩
  · subst h0
    rw [has_0, h.2.2.1, lk_0]
    exact Or.inr ⟨rfl, rfl⟩
  · obtain ⟨g1, g2, g3, g4, rfl, rfl, rfl, rfl, g9⟩ := h
    rw [has_1 h0 ht, lk_1 g1 g2]
    rcases rng (p := p) (lo := 0) (hi := bl) (by omega) (by decide) with ⟨j, -, hj, e, r1, r2⟩ | ⟨r1, r2, -⟩
    · refine Or.inl ⟨bl, sp, j, h0, ⟨g1, g2, g3, g4, rfl, rfl, rfl, rfl, g9⟩, hj, e, ?_, ?_⟩
      · rw [Option.bind_some, if_neg (by decide), show (0 : Int32) = nI 0 from rfl, r1]; rfl
      · rw [Option.bind_some, if_pos rfl, nI_l (by omega), show (0 : Int64) = lN 0 from rfl, r2]; rfl
    · refine Or.inr ⟨?_, ?_⟩
      · rw [Option.bind_some, if_neg (by decide), show (0 : Int32) = nI 0 from rfl, r1]; rfl
      · rw [Option.bind_some, if_pos rfl, nI_l (by omega), show (0 : Int64) = lN 0 from rfl, r2]; rfl
theorem b_obj (ht : t < 1000) (hT : TbR t tk sz sq c k w mb mq mk mw mc) (p : Int32) : (∃ bl sp b, 0 < t ∧ T1 bl sp tk sz sq c k w mb mq mk mw mc ∧ 1 ≤ b ∧ b ≤ bl ∧ p = nI b ∧ f_X11_isObjectBall (nI t) sz p = some 1 ∧ f_X12_isColoured mb p = some 1) ∨ (f_X11_isObjectBall (nI t) sz p = some 0 ∧ f_X12_isColoured mb p = some 0) := by
  have hcol : ∀ bl : Nat, bl ≤ 6 → mb = nI bl → (∃ j, 1 ≤ j ∧ j ≤ bl ∧ p = nI j ∧ f_X12_isColoured mb p = some 1) ∨ (f_X12_isColoured mb p = some 0 ∧ ¬ ∃ j, 1 ≤ j ∧ j ≤ bl ∧ p = nI j) := by
    intro bl h6 e
    unfold f_X12_isColoured
    rw [e, nI_l (by omega), show (1 : Int64) = lN 1 from rfl]
    rcases rng (p := p) (lo := 1) (hi := bl) (by omega) (by decide) with ⟨j, h1, hj, e, r1, r2⟩ | ⟨r1, r2, hno⟩
    · exact Or.inl ⟨j, h1, hj, e, by rw [r2]; rfl⟩
    · exact Or.inr ⟨by rw [r2]; rfl, hno⟩
  have hb := b_ball ht hT p
  rcases hT with ⟨h0, h⟩ | ⟨h0, bl, sp, h⟩
  · right
    refine ⟨?_, ?_⟩
    · unfold f_X11_isObjectBall
      simp only [jn]
      rcases hb with ⟨_, _, _, h1, _⟩ | ⟨r, -⟩
      · omega
      · split
        · rfl
        · rw [r]; rfl
    · rcases hcol 0 (by omega) h.2.2.1 with ⟨j, h1, h2, _⟩ | ⟨r, -⟩
      · omega
      · exact r
  · have hinj : ∀ bl', T1 bl' sp tk sz sq c k w mb mq mk mw mc → True := fun _ _ => trivial
    rcases hcol bl h.2.1 h.2.2.2.2.2.2.1 with ⟨j, h1, h2, e, r⟩ | ⟨r, hno⟩
    · refine Or.inl ⟨bl, sp, j, h0, h, h1, h2, e, ?_, r⟩
      unfold f_X11_isObjectBall
      simp only [jn]
      rw [if_neg (by rw [e]; exact nI_ne0 (by omega) (by have := h.2.1; omega))]
      rcases hb with ⟨_, _, _, _, _, _, _, r1, _⟩ | ⟨r1, r2⟩
      · rw [r1]; rfl
      · exfalso
        unfold f_X12_isBall at r2
        rw [h.2.2.2.2.2.2.1, lk_1 h.1 h.2.1, Option.bind_some] at r2
        simp only [jn, if_true] at r2
        rw [nI_l (by have := h.2.1; omega), show (0 : Int64) = lN 0 from rfl] at r2
        rcases rng (p := p) (lo := 0) (hi := bl) (by have := h.2.1; omega) (by decide) with ⟨_, _, _, _, _, r3⟩ | ⟨_, _, hno⟩
        · rw [r3] at r2; cases r2
        · exact hno ⟨j, by omega, h2, e⟩
    · right
      refine ⟨?_, r⟩
      unfold f_X11_isObjectBall
      simp only [jn]
      by_cases hp0 : p = 0
      · rw [if_pos hp0]
      · rw [if_neg hp0]
        rcases hb with ⟨bl', sp', b, _, h', hb', e, _, _⟩ | ⟨r1, _⟩
        · exfalso
          have e1 : bl' = bl := (nI_eq (by have := h'.2.1; omega) (by have := h.2.1; omega)).mp (h'.2.2.2.2.1.symm.trans h.2.2.2.2.1)
          rw [e1] at hb'
          refine hno ⟨b, ?_, hb', e⟩
          by_cases hb0 : b = 0
          · exact absurd (by rw [e, hb0]; decide) hp0
          · omega
        · rw [r1]; rfl
end
theorem b_stroke (p1 p2 p3 : Int32) : (∃ w st s, w < 8 ∧ 1 ≤ st ∧ st ≤ 9 ∧ s < 3 ∧ p1 = nI w ∧ p2 = nI st ∧ p3 = nI s ∧ f_X11_isStroke p1 p2 p3 = some 1 ∧ f_X12_isStroke p1 p2 p3 = some 1) ∨ (f_X11_isStroke p1 p2 p3 = some 0 ∧ f_X12_isStroke p1 p2 p3 = some 0) := by
  have q1 := rng (p := p1) (lo := 0) (hi := 7) (by decide) (by decide)
  have q2 := rng (p := p2) (lo := 1) (hi := 9) (by decide) (by decide)
  have q3 := rng (p := p3) (lo := 0) (hi := 2) (by decide) (by decide)
  have i01 : isb 0 = true := by decide
  have i11 : isb 1 = true := by decide
  have n10 : ¬ (1 : Int32) = 0 := by decide
  unfold f_X11_isStroke f_X11_isDirection f_X12_isStroke
  simp only [jn]
  rw [show (0 : Int32) = nI 0 from rfl, show (7 : Int32) = nI 7 from rfl, show (9 : Int32) = nI 9 from rfl, show (2 : Int32) = nI 2 from rfl, show (0 : Int64) = lN 0 from rfl, show (7 : Int64) = lN 7 from rfl, show (1 : Int64) = lN 1 from rfl, show (9 : Int64) = lN 9 from rfl, show (2 : Int64) = lN 2 from rfl]
  rw [show nI 1 = (1 : Int32) from rfl] at q2
  rcases q1 with ⟨w, -, hw, e1, a1, a2⟩ | ⟨a1, a2, -⟩
  · rw [a1, a2]
    rcases q2 with ⟨st, hs1, hs, e2, b1, b2⟩ | ⟨b1, b2, -⟩
    · rw [b1, b2]
      rcases q3 with ⟨s, -, hs3, e3, c1, c2⟩ | ⟨c1, c2, -⟩
      · rw [c1, c2]
        exact Or.inl ⟨w, st, s, by omega, hs1, hs, by omega, e1, e2, e3, rfl, rfl⟩
      · rw [c1, c2]
        exact Or.inr ⟨rfl, rfl⟩
    · rw [b1, b2]
      exact Or.inr ⟨rfl, rfl⟩
  · rw [a1, a2]
    exact Or.inr ⟨rfl, rfl⟩
end
section
/-! the calls, one by one: small ones -/
def Two {α β : Type} (o : Option α) (o' : Option β) (Q : α → β → Prop) : Prop := ∃ r r', o = some r ∧ o' = some r' ∧ Q r r'
theorem two_i {α β : Type} {o : Option α} {o' : Option β} {Q : α → β → Prop} {P : α → Prop} {P' : β → Prop} (h : ∃ r, o = some r ∧ P r) (h' : ∃ r, o' = some r ∧ P' r) (k : ∀ r r', P r → P' r' → Q r r') : Two o o' Q := by
  obtain ⟨r, e, hp⟩ := h
  obtain ⟨r', e', hp'⟩ := h'
  exact ⟨r, r', e, e', k r r' hp hp'⟩
def PgR (ps : Int32) (pl : Nat → Int32) (pm : Int32) (mP : Nat → Int32) : Prop := ∃ z A, z ≤ 34 ∧ ps = nI z ∧ pm = nI z ∧ LtR A pl ∧ LtR A mP
theorem LtR_upd {A : Nat → Nat} {v : Nat → Int32} (h : LtR A v) {z j : Nat} (hj : j < 127) : LtR (updN A z j) (upd v z (nI j)) := by
  intro i hi
  by_cases e : i = z
  · rw [e, upd_s]; simp [updN, hj]
  · rw [upd_n e]; simp only [updN, e, if_false]; exact h i hi
theorem m_letter {ps pm : Int32} {pl mP : Nat → Int32} (h : PgR ps pl pm mP) (p : Int32) : Two (f_X11_letter ps pl p) (f_X12_letter pm mP p) (fun r r' => r.1 = r'.1 ∧ PgR r.2.1 r.2.2 r'.2.1 r'.2.2) := by
  have h0 := h
  obtain ⟨z, A, hz, rfl, rfl, hL, hL'⟩ := h
  unfold f_X11_letter f_X12_letter
  rw [show (1 : Int32) = nI 1 from rfl, show (126 : Int32) = nI 126 from rfl, show (1 : Int64) = lN 1 from rfl, show (126 : Int64) = lN 126 from rfl]
  rcases rng (p := p) (lo := 1) (hi := 126) (by decide) (by decide) with ⟨j, hj1, hj, rfl, r1, r2⟩ | ⟨r1, r2, -⟩
  · rw [r1, r2, Option.bind_some, Option.bind_some, if_neg (by decide), if_neg (by decide)]
    unfold f_X7_isFull
    by_cases h34 : z = 34
    · subst h34
      rw [if_neg (show ¬ nI 34 < 34 by decide), if_pos (show nI 34 = 34 by decide), Option.bind_some, if_neg (by decide)]
      exact ⟨_, _, rfl, rfl, rfl, h0⟩
    · rw [if_pos (show nI z < 34 from nI_lt (b := 34) (by omega) (by decide)), if_neg (fun e => h34 ((nI_eq (by omega) (by decide)).mp (e.trans (show (34 : Int32) = nI 34 by decide)))), Option.bind_some, if_pos rfl]
      unfold f_X7_append f_X7_isFull
      rw [if_pos (show nI z < 34 from nI_lt (b := 34) (by omega) (by decide)), Option.bind_some, if_pos rfl]
      simp only [gd, inb_nI (show z < 34 by omega) (by decide), if_true, Option.bind_some, nI_clamp (show z < 2 ^ 31 by omega), show nI z + nI 1 = nI (z + 1) from nI_add z 1, nI_1]
      exact ⟨_, _, rfl, rfl, rfl, z + 1, updN A z j, by omega, rfl, rfl, LtR_upd hL (by omega), LtR_upd hL' (by omega)⟩
  · rw [r1, r2, Option.bind_some, Option.bind_some, if_pos rfl, if_pos rfl]
    exact ⟨_, _, rfl, rfl, rfl, h0⟩
theorem m_blank {ps pm : Int32} {pl mP : Nat → Int32} (h : PgR ps pl pm mP) : Two (f_X11_blank ps) (f_X12_blank pm) (fun r r' => r.1 = r'.1 ∧ PgR r.2 pl r'.2 mP) := by
  obtain ⟨z, A, hz, rfl, rfl, hL, hL'⟩ := h
  exact ⟨_, _, rfl, rfl, rfl, 0, A, by omega, rfl, rfl, hL, hL'⟩
theorem m_fault {n : Nat} (hn : 1000 ≤ n) {ps pm : Int32} {pl mP : Nat → Int32} (h : PgR ps pl pm mP) : Two (f_X11_fault n ps pl) (f_X12_fault n pm mP) (fun r r' => r = r') := by
  obtain ⟨z, A, hz, rfl, rfl, hL, hL'⟩ := h
  unfold f_X11_fault f_X12_fault
  obtain ⟨r, e, hr⟩ := faultC_ok hL hn hz
  obtain ⟨r', e', hr'⟩ := faultM_ok hL' hn hz
  rw [e, e']
  exact ⟨_, _, rfl, rfl, hr.trans hr'.symm⟩
section
variable {t : Nat} {tk : Int64} {sz sq : Int32} {c k w : Nat → Int32} {mb mq : Int32} {mk mw mc : Nat → Int32}
theorem t_as : ∀ j, j < 5 → ∀ q, q < 5 → f_X11_isOfKind (nI j) (nI q) = some (b2 (decide (q = 0) || decide (q = j) || (decide (q = 1) && decide (j = 4)))) := by decide +kernel
theorem m_as (ht : t < 1000) (hT : TbR t tk sz sq c k w mb mq mk mw mc) (hK : KW k w) (p p2 : Int32) : Two (f_X11_as (nI t) sz k p p2) (f_X12_as mb mk p p2) (fun r r' => r = r') := by
  unfold f_X11_as f_X12_as
  rcases b_ball ht hT p with ⟨bl, sp, b, h0, h1, hb, rfl, r1, r2⟩ | ⟨r1, r2⟩
  · rw [r1, r2, Option.bind_some, Option.bind_some, if_neg (by decide), if_neg (by decide)]
    rw [show (4 : Int64) = lN 4 from rfl, show (0 : Int64) = lN 0 from rfl]
    have hr := rng (p := p2) (lo := 0) (hi := 4) (by decide) (by decide)
    rw [show nI 0 = (0 : Int32) from rfl, show nI 4 = (4 : Int32) from rfl] at hr
    have hb7 : b < 7 := by have := h1.2.1; omega
    rcases hr with ⟨q, -, hq, rfl, s1, s2⟩ | ⟨s1, s2, -⟩
    · rw [s1, s2, Option.bind_some, Option.bind_some, if_neg (by decide), if_neg (by decide)]
      obtain ⟨j, hj, ej⟩ := hK.1 b hb7
      have hmk : mk b = nI j := (h1.2.2.2.2.2.2.2.2.2.1 b hb).1.trans ej
      rw [(t_cell k hb7).2.1, Option.bind_some, ej, t_as j hj q (by omega), Option.bind_some]
      simp only [jn, gd, inb_nI hb7 (by decide), if_true, nI_clamp (show b < 2 ^ 31 by omega), hmk, one_ne, if_false]
      have d1 : (nI q = 0) ↔ q = 0 := nI_eq (b := 0) (by omega) (by decide)
      have d2 : (nI q = nI j) ↔ q = j := nI_eq (by omega) (by omega)
      have d3 : (nI q = 1) ↔ q = 1 := nI_eq (b := 1) (by omega) (by decide)
      have d4 : (nI j = 4) ↔ j = 4 := nI_eq (b := 4) (by omega) (by decide)
      simp only [d1, d2, d3, d4]
      by_cases x1 : q = 0
      · refine ⟨nI b, nI b, ?_, ?_, rfl⟩ <;> simp [x1, b2]
      · by_cases x2 : q = j
        · refine ⟨nI b, nI b, ?_, ?_, rfl⟩ <;> simp [x1, x2, b2]
        · by_cases x3 : q = 1
          · by_cases x4 : j = 4
            · refine ⟨nI b, nI b, ?_, ?_, rfl⟩ <;> simp [x3, x4, b2]
            · subst x3
              refine ⟨-1, -1, ?_, ?_, rfl⟩ <;> simp [x2, x4, b2]
          · refine ⟨-1, -1, ?_, ?_, rfl⟩ <;> simp [x1, x2, x3, b2]
    · rw [s1, s2, Option.bind_some, Option.bind_some, if_pos rfl, if_pos rfl]
      exact ⟨_, _, rfl, rfl, rfl⟩
  · rw [r1, r2, Option.bind_some, Option.bind_some, if_pos rfl, if_pos rfl]
    exact ⟨_, _, rfl, rfl, rfl⟩
theorem b_cell (p : Int32) : (∃ q, q < 45 ∧ p = nI q ∧ f_X11_isCell p = some 1 ∧ ∀ bl, 1 ≤ bl → bl ≤ 6 → f_X12_isCell (nI bl) p = some 1) ∨ (f_X11_isCell p = some 0 ∧ ∀ bl, 1 ≤ bl → bl ≤ 6 → f_X12_isCell (nI bl) p = some 0) := by
  have hr := rng (p := p) (lo := 0) (hi := 44) (by decide) (by decide)
  unfold f_X11_isCell f_X12_isCell
  rw [show (44 : Int64) = lN 44 from rfl, show (0 : Int64) = lN 0 from rfl, show (44 : Int32) = nI 44 from rfl]
  rw [show nI 0 = (0 : Int32) from rfl] at hr
  rcases hr with ⟨q, -, hq, e, s1, s2⟩ | ⟨s1, s2, -⟩
  · rw [s1, s2]
    exact Or.inl ⟨q, by omega, e, rfl, fun bl h1 h2 => by rw [lk_1 h1 h2]; rfl⟩
  · rw [s1, s2]
    exact Or.inr ⟨rfl, fun bl h1 h2 => by rw [lk_1 h1 h2]; rfl⟩
theorem m_cell {n : Nat} (hn : 1000 ≤ n) (ht : t < 1000) (hT : TbR t tk sz sq c k w mb mq mk mw mc) (p : Int32) : Two (f_X11_cell n (nI t) tk c p) (f_X12_cell n mb mc p) (fun r r' => r = r') := by
  unfold f_X11_cell f_X12_cell
  rcases hT with ⟨rfl, h⟩ | ⟨h0, bl, sp, h⟩
  · rw [has_0, Option.bind_some, if_pos rfl, h.2.2.1]
    have : f_X12_isCell 0 p = some 0 := by unfold f_X12_isCell; rw [lk_0]; rfl
    rw [this]
    exact ⟨_, _, rfl, rfl, rfl⟩
  · obtain ⟨g1, g2, g3, g4, rfl, rfl, rfl, rfl, g9, g10, g11⟩ := h
    rw [has_1 h0 ht, Option.bind_some, if_neg (by decide)]
    rcases b_cell p with ⟨q, hq, rfl, s1, s2⟩ | ⟨s1, s2⟩
    · rw [s1, s2 bl g1 g2, Option.bind_some, Option.bind_some, if_neg (by decide), if_neg (by decide), (t_pocket q hq).1, (t_pocket q hq).2, Option.bind_some, Option.bind_some, ballIn_ok g9.1 hq (by omega), lies_ok g1 g2 (by omega), who_short g2 (nI_ne_m1 hq) g9.2.1, who_congr (fun d hd => g11 d (by omega) : ∀ d, d < bl + 1 → mc d = c d)]
      cases pkt q
      · exact ⟨_, _, rfl, rfl, rfl⟩
      · exact ⟨_, _, rfl, rfl, rfl⟩
    · rw [s1, s2 bl g1 g2]
      exact ⟨_, _, rfl, rfl, rfl⟩
theorem b_dir (p : Int32) : (∃ d, d < 8 ∧ p = nI d ∧ f_X11_isDirection p = some 1 ∧ f_X12_in p.toInt64 0 7 = some 1) ∨ (f_X11_isDirection p = some 0 ∧ f_X12_in p.toInt64 0 7 = some 0) := by
  have hr := rng (p := p) (lo := 0) (hi := 7) (by decide) (by decide)
  unfold f_X11_isDirection
  rw [show (7 : Int64) = lN 7 from rfl, show (0 : Int64) = lN 0 from rfl, show (7 : Int32) = nI 7 from rfl]
  rw [show nI 0 = (0 : Int32) from rfl] at hr
  rcases hr with ⟨q, -, hq, e, s1, s2⟩ | ⟨s1, s2, -⟩
  · rw [s1, s2]; exact Or.inl ⟨q, by omega, e, rfl, rfl⟩
  · rw [s1, s2]; exact Or.inr ⟨rfl, rfl⟩
theorem m_sees {n : Nat} (hn : 1000 ≤ n) (ht : t < 1000) (hT : TbR t tk sz sq c k w mb mq mk mw mc) (p : Int32) : Two (f_X11_sees n (nI t) tk c p) (f_X12_sees n mb mc p) (fun r r' => r = r') := by
  unfold f_X11_sees f_X12_sees
  rcases b_dir p with ⟨d, hd, rfl, s1, s2⟩ | ⟨s1, s2⟩
  · rw [s1, s2, Option.bind_some, Option.bind_some, if_neg (by decide), if_neg (by decide)]
    rcases hT with ⟨rfl, h⟩ | ⟨h0, bl, sp, h⟩
    · rw [has_0, h.2.2.1, lk_0]
      exact ⟨_, _, rfl, rfl, rfl⟩
    · obtain ⟨g1, g2, g3, g4, rfl, rfl, rfl, rfl, g9, g10, g11⟩ := h
      rw [has_1 h0 ht, lk_1 g1 g2, Option.bind_some, Option.bind_some, if_neg (by decide), if_pos rfl]
      obtain ⟨r, e, hr⟩ := first_ok (M := 9) g2 g9 hn rfl hd
      obtain ⟨r', e', hr'⟩ := sees_ok (M := 9) g1 g2 g9 hn rfl hd g11
      rw [e, e']
      exact ⟨_, _, rfl, rfl, hr.trans hr'.symm⟩
  · rw [s1, s2]
    exact ⟨_, _, rfl, rfl, rfl⟩
/-- a table after a change of its cells -/
theorem T1_cells {bl sp : Nat} {tk' : Int64} {c' mc' : Nat → Int32} (h : T1 bl sp tk sz sq c k w mb mq mk mw mc) (hT : TW bl tk' c') (hv : ∀ d, d ≤ bl → mc' d = c' d) : T1 bl sp tk' sz sq c' k w mb mq mk mw mc' := by
  obtain ⟨g1, g2, g3, g4, g5, g6, g7, g8, g9, g10, g11⟩ := h
  exact ⟨g1, g2, g3, g4, g5, g6, g7, g8, hT, g10, hv⟩
theorem m_put {n : Nat} (hn : 1000 ≤ n) (ht : t < 1000) (hT : TbR t tk sz sq c k w mb mq mk mw mc) (p p2 : Int32) : Two (f_X11_put n (nI t) tk sz c p p2) (f_X12_put n mb mc p p2) (fun r r' => r.1 = r'.1 ∧ TbR t r.2.1 sz sq r.2.2 k w mb mq mk mw r'.2) := by
  unfold f_X11_put f_X12_put
  rcases b_ball ht hT p with ⟨bl, sp, b, h0, h1, hb, rfl, r1, r2⟩ | ⟨r1, r2⟩
  · rw [r1, r2, Option.bind_some, Option.bind_some, if_neg (by decide), if_neg (by decide)]
    obtain ⟨g1, g2, g3, g4, rfl, rfl, rfl, rfl, g9, g10, g11⟩ := id h1
    have hb7 : b < 7 := by omega
    rcases b_cell p2 with ⟨q, hq, rfl, s1, s2⟩ | ⟨s1, s2⟩
    · rw [s1, s2 bl g1 g2, Option.bind_some, Option.bind_some, if_neg (by decide), if_neg (by decide), (t_pocket q hq).1, (t_pocket q hq).2, ballIn_ok g9.1 hq (by omega), lies_ok g1 g2 (by omega), who_short g2 (nI_ne_m1 hq) g9.2.1, who_congr (fun d hd => g11 d (by omega) : ∀ d, d < bl + 1 → mc d = c d)]
      simp only [Option.bind_some, jn, gd, bnd, inb_nI hb7 (by decide), if_true, nI_clamp (show b < 2 ^ 31 by omega)]
      cases hpk : pkt q
      · rw [if_pos b2_f, if_pos b2_f]
        have hlay : (∀ d, d < 7 → d ≠ b → c d ≠ nI q) → Two ((f_X10_cellOf c (nI b)).bind (fun u_9 => (f_X10_lay tk c (nI b) (nI q)).bind (fun u_10 => some (u_9, u_10.1, u_10.2)))) (some (mc b, upd mc b (nI q))) (fun r r' => r.1 = r'.1 ∧ TbR t r.2.1 (nI bl) (nI sp) r.2.2 k w (nI bl) (nI sp) mk mw r'.2) := by
          intro hfree
          obtain ⟨tk', e, hT'⟩ := lay_ok g9.1 hb7 (Or.inr ⟨q, hq, hpk, rfl⟩) (fun d hd hdb _ => hfree d hd hdb)
          rw [(t_cell c hb7).1, Option.bind_some, e, Option.bind_some]
          refine ⟨_, _, rfl, rfl, (g11 b hb).symm, Or.inr ⟨h0, bl, sp, T1_cells h1 ⟨hT', fun d h1 h2 => ?_, ?_⟩ (fun d hd => ?_)⟩⟩
          · dsimp only; rw [upd_n (by omega)]; exact g9.2.1 d h1 h2
          · dsimp only
            by_cases e0 : 0 = b
            · rw [← e0, upd_s]; exact nI_ne_m1 hq
            · rw [upd_n e0]; exact g9.2.2
          · dsimp only
            by_cases e0 : d = b
            · rw [e0, upd_s, upd_s]
            · rw [upd_n e0, upd_n e0]; exact g11 d hd
        rcases who_cases c (nI q) (bl + 1) with ⟨hx, hno⟩ | ⟨j, hj, hx, hcj⟩
        · rw [if_pos hx, if_pos hx]
          refine hlay (fun d hd _ hc => ?_)
          by_cases hdb : d < bl + 1
          · exact hno d hdb hc
          · rw [g9.2.1 d (by omega) hd] at hc; exact nI_ne_m1 hq hc.symm
        · rw [hx, if_neg (nI_ne_m1 (by omega)), if_neg (nI_ne_m1 (by omega))]
          by_cases hjb : j = b
          · rw [if_pos (by rw [hjb]), if_pos (by rw [hjb])]
            refine hlay (fun d hd hdb hc => hdb ?_)
            rw [← hjb]
            exact g9.1.2.1 d hd j (by omega) (hc.trans hcj.symm) (by rw [hc]; exact nI_ne_m1 hq)
          · rw [if_neg (fun z => hjb (nI_inj45 (by omega) (by omega) z)), if_neg (fun z => hjb (nI_inj45 (by omega) (by omega) z))]
            exact ⟨_, _, rfl, rfl, rfl, hT⟩
      · rw [if_neg (by rw [b2_t]; decide), if_neg (by rw [b2_t]; decide)]
        exact ⟨_, _, rfl, rfl, rfl, hT⟩
    · rw [s1, s2 bl g1 g2]
      exact ⟨_, _, rfl, rfl, rfl, hT⟩
  · rw [r1, r2]
    exact ⟨_, _, rfl, rfl, rfl, hT⟩
theorem m_lift (ht : t < 1000) (hT : TbR t tk sz sq c k w mb mq mk mw mc) (p : Int32) : Two (f_X11_lift (nI t) tk sz c p) (f_X12_lift mb mc p) (fun r r' => r.1 = r'.1 ∧ TbR t r.2.1 sz sq r.2.2 k w mb mq mk mw r'.2) := by
  unfold f_X11_lift f_X12_lift
  rcases b_obj ht hT p with ⟨bl, sp, b, h0, h1, hb1, hb, rfl, r1, r2⟩ | ⟨r1, r2⟩
  · rw [r1, r2, Option.bind_some, Option.bind_some, if_neg (by decide), if_neg (by decide)]
    obtain ⟨g1, g2, g3, g4, rfl, rfl, rfl, rfl, g9, g10, g11⟩ := id h1
    have hb7 : b < 7 := by omega
    rw [(t_cell c hb7).1]
    simp only [Option.bind_some, gd, bnd, inb_nI hb7 (by decide), if_true, nI_clamp (show b < 2 ^ 31 by omega), g11 b hb]
    by_cases hc : c b = -1
    · rw [if_pos hc, if_pos hc]
      exact ⟨_, _, rfl, rfl, rfl, hT⟩
    · rw [if_neg hc, if_neg hc]
      obtain ⟨tk', e, hT'⟩ := lay_ok g9.1 hb7 (y := -1) (Or.inl rfl) (fun d hd hdb h => absurd rfl h)
      rw [e, Option.bind_some]
      refine ⟨_, _, rfl, rfl, rfl, Or.inr ⟨h0, bl, sp, T1_cells h1 ⟨hT', fun d h1 h2 => ?_, ?_⟩ (fun d hd => ?_)⟩⟩
      · dsimp only; rw [upd_n (by omega)]; exact g9.2.1 d h1 h2
      · dsimp only; rw [upd_n (by omega)]; exact g9.2.2
      · dsimp only
        by_cases e0 : d = b
        · rw [e0, upd_s, upd_s]
        · rw [upd_n e0, upd_n e0]; exact g11 d hd
  · rw [r1, r2]
    exact ⟨_, _, rfl, rfl, rfl, hT⟩
theorem m_change (ht : t < 1000) (hT : TbR t tk sz sq c k w mb mq mk mw mc) (hK : KW k w) (p p2 : Int32) : Two (f_X11_change (nI t) sz k p p2) (f_X12_change mb mk p p2) (fun r r' => r.1 = r'.1 ∧ TbR t tk sz sq c r.2 w mb mq r'.2 mw mc ∧ KW r.2 w) := by
  unfold f_X11_change f_X12_change
  rcases b_obj ht hT p with ⟨bl, sp, b, h0, h1, hb1, hb, rfl, r1, r2⟩ | ⟨r1, r2⟩
  · rw [r1, r2, Option.bind_some, Option.bind_some, if_neg (by decide), if_neg (by decide)]
    obtain ⟨g1, g2, g3, g4, rfl, rfl, rfl, rfl, g9, g10, g11⟩ := id h1
    have hb7 : b < 7 := by omega
    rw [show (4 : Int64) = lN 4 from rfl, show (0 : Int64) = lN 0 from rfl]
    have hr := rng (p := p2) (lo := 0) (hi := 4) (by decide) (by decide)
    rw [show nI 0 = (0 : Int32) from rfl, show nI 4 = (4 : Int32) from rfl] at hr
    rcases hr with ⟨q, -, hq, rfl, s1, s2⟩ | ⟨s1, s2, -⟩
    · rw [s1, s2, Option.bind_some, Option.bind_some, if_neg (by decide), if_neg (by decide), (t_cell k hb7).2.1, Option.bind_some, (setK_ok hb7 _).1, Option.bind_some]
      simp only [gd, bnd, inb_nI hb7 (by decide), if_true, nI_clamp (show b < 2 ^ 31 by omega)]
      refine ⟨_, _, rfl, rfl, (g10 b hb).1.symm, Or.inr ⟨h0, bl, sp, g1, g2, g3, g4, rfl, rfl, rfl, rfl, g9, MF_kind g10, g11⟩, ⟨fun d hd => ?_, hK.2.1, ?_, hK.2.2.2⟩⟩
      · dsimp only
        by_cases e0 : d = b
        · rw [e0]; exact ⟨q, by omega, upd_s _ _ _⟩
        · rw [upd_n e0]; exact hK.1 d hd
      · dsimp only; rw [upd_n (by omega)]; exact hK.2.2.1
    · rw [s1, s2]
      exact ⟨_, _, rfl, rfl, rfl, hT, hK⟩
  · rw [r1, r2]
    exact ⟨_, _, rfl, rfl, rfl, hT, hK⟩
end
end
section
theorem rngL {p : Int32} {lo hi : Nat} {l h : Int32} {l' h' : Int64} (e1 : l = nI lo) (e2 : h = nI hi) (e3 : l' = lN lo) (e4 : h' = lN hi) (hh : hi < 2 ^ 31) (hl : lo < 2 ^ 31) : (∃ j, lo ≤ j ∧ j ≤ hi ∧ p = nI j ∧ f_X11_within p l h = some 1 ∧ f_X12_in p.toInt64 l' h' = some 1) ∨ (f_X11_within p l h = some 0 ∧ f_X12_in p.toInt64 l' h' = some 0 ∧ ¬ ∃ j, lo ≤ j ∧ j ≤ hi ∧ p = nI j) := by
  subst e1; subst e2; subst e3; subst e4
  exact rng hh hl
def SnR (sn : Int32) (sb sd se sf : Nat → Int32) (mn : Int32) (ms : Nat → Int32) : Prop := ∃ q, sn = nI q ∧ mn = nI q ∧ SG q sb sd se sf ms
def KpR (t : Nat) (ik kn ksc kst kfo : Int32) (ktk : Int64) (ksz ksq : Int32) (kc kk kw kb kd ke kf : Nat → Int32) (mb mq mkt mksc mkst mkfo mkn : Int32) (mw mK mC mS : Nat → Int32) : Prop :=
  (ik = 0 ∧ (mkt = -1 ∨ ∃ t', t' < t ∧ mkt = nI t')) ∨ (ik = 1 ∧ mkt = nI t ∧ ksc = mksc ∧ kst = mkst ∧ kfo = mkfo ∧ SnR kn kb kd ke kf mkn mS ∧ KW kk kw ∧ 0 < t ∧ ∃ bl sp, T1 bl sp ktk ksz ksq kc kk kw mb mq mK mw mC)
section
variable {t : Nat} {tk : Int64} {sz sq : Int32} {c k w : Nat → Int32} {mb mq : Int32} {mk mw mc : Nat → Int32}
theorem m_see (ht : t < 1000) (hT : TbR t tk sz sq c k w mb mq mk mw mc) {sn mn : Int32} {sb sd se sf ms : Nat → Int32} (hS : SnR sn sb sd se sf mn ms) (p1 p2 p3 p4 : Int32) : Two (f_X11_see (nI t) sn sz sb sd se sf p1 p2 p3 p4) (f_X12_see mb mn ms p1 p2 p3 p4) (fun r r' => r.1 = r'.1 ∧ SnR r.2.1 r.2.2.1 r.2.2.2.1 r.2.2.2.2.1 r.2.2.2.2.2 r'.2.1 r'.2.2) := by
  unfold f_X11_see f_X12_see
  rcases b_obj ht hT p1 with ⟨bl, sp, b, h0, h1, hb1, hb, rfl, r1, r2⟩ | ⟨r1, r2⟩
  · have n10 : ¬ (1 : Int32) = 0 := by decide
    rw [r1, r2, Option.bind_some, Option.bind_some, if_neg n10, if_neg n10]
    obtain ⟨g1, g2, g3, g4, rfl, rfl, rfl, rfl, g9, g10, g11⟩ := h1
    simp only [jn]
    have key : Two ((f_X11_isStroke p2 p3 0).bind (fun u_5 => (if u_5 = 0 then (some ((-102 : Int32), sn, sb, sd, se, sf)) else (if sn < 6 then ((f_X3_note sn sb sd se sf (nI b) p2 p3 p4).bind (fun u_8 => (some (u_8.1, u_8.1, u_8.2.1, u_8.2.2.1, u_8.2.2.2.1, u_8.2.2.2.2)))) else (some ((-104), sn, sb, sd, se, sf)))))) ((f_X12_in p2.toInt64 0 7).bind (fun u_4 => (if u_4 = 0 then (some ((-102 : Int32), mn, ms)) else ((f_X12_in p3.toInt64 1 9).bind (fun u_6 => (if u_6 = 0 then (some ((-102), mn, ms)) else (if mn = 6 then (some ((-104), mn, ms)) else (gd (inb (4 * mn) 24) (gd (inb ((4 * mn) + 1) 24) (gd (inb ((4 * mn) + 2) 24) (gd (inb ((4 * mn) + 3) 24) (some ((mn + 1), (mn + 1), (upd (upd (upd (upd ms (4 * mn).toNatClampNeg (nI b)) ((4 * mn) + 1).toNatClampNeg p2) ((4 * mn) + 2).toNatClampNeg p3) ((4 * mn) + 3).toNatClampNeg p4)))))))))))))) (fun r r' => r.1 = r'.1 ∧ SnR r.2.1 r.2.2.1 r.2.2.2.1 r.2.2.2.2.1 r.2.2.2.2.2 r'.2.1 r'.2.2) := by
      have i0 : f_X11_within 0 0 2 = some 1 := by decide
      unfold f_X11_isStroke
      simp only [jn]
      rcases b_dir p2 with ⟨d, hd, rfl, s1, s2⟩ | ⟨s1, s2⟩
      · rw [s1, s2, Option.bind_some, Option.bind_some, if_neg n10, if_neg n10]
        rcases rngL (p := p3) (lo := 1) (hi := 9) (l := 1) (h := 9) (l' := 1) (h' := 9) rfl rfl rfl rfl (by decide) (by decide) with ⟨st, hs1, hs, rfl, u1, u2⟩ | ⟨u1, u2, -⟩
        · rw [u1, u2, Option.bind_some, Option.bind_some, if_neg n10, i0, Option.bind_some, if_neg n10, Option.bind_some, if_neg n10, if_neg n10]
          have hS0 := hS
          obtain ⟨q, rfl, rfl, hq6, hq1, hq2⟩ := hS
          by_cases h6 : q = 6
          · subst h6
            rw [if_neg (show ¬ nI 6 < 6 by decide), if_pos (show nI 6 = 6 by decide)]
            exact ⟨_, _, rfl, rfl, rfl, hS0⟩
          · have h4 := nI_4 q (by omega)
            rw [if_pos (show nI q < 6 from nI_lt (b := 6) (by omega) (by decide)), if_neg (fun e => h6 ((nI_eq (by omega) (by decide)).mp (e.trans (show (6 : Int32) = nI 6 by decide))))]
            unfold f_X3_note
            rw [if_neg (nI_pos (by omega)), if_pos (show nI q < 6 from nI_lt (b := 6) (by omega) (by decide))]
            simp only [gd, inb_nI (show q < 6 by omega) (by decide), h4.1, h4.2.2.1, h4.2.2.2.1, h4.2.2.2.2, inb_nI (show 4 * q < 24 by omega) (by decide), inb_nI (show 4 * q + 1 < 24 by omega) (by decide), inb_nI (show 4 * q + 2 < 24 by omega) (by decide), inb_nI (show 4 * q + 3 < 24 by omega) (by decide), if_true, Option.bind_some, nI_1, nI_clamp (show q < 2 ^ 31 by omega), nI_clamp (show 4 * q < 2 ^ 31 by omega), nI_clamp (show 4 * q + 1 < 2 ^ 31 by omega), nI_clamp (show 4 * q + 2 < 2 ^ 31 by omega), nI_clamp (show 4 * q + 3 < 2 ^ 31 by omega)]
            refine ⟨_, _, rfl, rfl, rfl, q + 1, rfl, rfl, by omega, fun i hi => ?_, fun i hi => ?_⟩
            · dsimp only
              by_cases e : i = q
              · subst e
                refine ⟨?_, ?_, ?_, ?_⟩
                · rw [upd_n (by omega), upd_n (by omega), upd_n (by omega), upd_s, upd_s]
                · rw [upd_n (by omega), upd_n (by omega), upd_s, upd_s]
                · rw [upd_n (by omega), upd_s, upd_s]
                · rw [upd_s, upd_s]
              · refine ⟨?_, ?_, ?_, ?_⟩
                · rw [upd_n (by omega), upd_n (by omega), upd_n (by omega), upd_n (by omega), upd_n e]; exact (hq1 i hi).1
                · rw [upd_n (by omega), upd_n (by omega), upd_n (by omega), upd_n (by omega), upd_n e]; exact (hq1 i hi).2.1
                · rw [upd_n (by omega), upd_n (by omega), upd_n (by omega), upd_n (by omega), upd_n e]; exact (hq1 i hi).2.2.1
                · rw [upd_n (by omega), upd_n (by omega), upd_n (by omega), upd_n (by omega), upd_n e]; exact (hq1 i hi).2.2.2
            · dsimp only
              by_cases e : i = q
              · subst e
                rw [upd_s, upd_s]
                exact ⟨d, st, hd, hs, rfl, rfl⟩
              · rw [upd_n e, upd_n e]; exact hq2 i (by omega)
        · rw [u1, u2, Option.bind_some, Option.bind_some, if_pos rfl, if_pos rfl]
          exact ⟨_, _, rfl, rfl, rfl, hS⟩
      · rw [s1, s2]
        exact ⟨_, _, rfl, rfl, rfl, hS⟩
    have hm1 : f_X11_isCell (-1) = some 0 := by decide
    by_cases hp4 : p4 = -1
    · rw [if_pos hp4]
      have e : f_X11_isCell p4 = some 0 := by rw [hp4]; exact hm1
      rw [e, Option.bind_some, if_pos rfl, if_pos hp4]
      exact key
    · simp only [hp4, if_false]
      rcases b_cell p4 with ⟨q, hq, e, s1, s2⟩ | ⟨s1, s2⟩
      · rw [s1, s2 bl g1 g2, Option.bind_some, Option.bind_some, if_neg n10, if_neg n10]
        exact key
      · rw [s1, s2 bl g1 g2, Option.bind_some, Option.bind_some, if_pos rfl, if_pos rfl]
        exact ⟨_, _, rfl, rfl, rfl, hS⟩
  · rw [r1, r2]
    exact ⟨_, _, rfl, rfl, rfl, hS⟩
theorem m_forget {sn mn : Int32} {sb sd se sf ms : Nat → Int32} (hS : SnR sn sb sd se sf mn ms) : Two (f_X11_forget sn) (f_X12_forget mn) (fun r r' => r.1 = r'.1 ∧ SnR r.2 sb sd se sf r'.2 ms) := by
  obtain ⟨q, rfl, rfl, hq6, hq1, hq2⟩ := hS
  exact ⟨_, _, rfl, rfl, rfl, 0, rfl, rfl, by omega, hq1, fun i hi => absurd hi (Nat.not_lt_zero _)⟩
theorem SG_copy {q : Nat} {sb sd se sf ms m2 : Nat → Int32} (h : SG q sb sd se sf ms) (e : ∀ i, i < 24 → m2 i = ms i) : SG q sb sd se sf m2 := by
  refine ⟨h.1, fun i hi => ?_, h.2.2⟩
  rw [e (4 * i) (by omega), e (4 * i + 1) (by omega), e (4 * i + 2) (by omega), e (4 * i + 3) (by omega)]
  exact h.2.1 i hi
theorem m_image {n : Nat} (hn : 1000 ≤ n) (ht : t < 1000) (hT : TbR t tk sz sq c k w mb mq mk mw mc) (hK : KW k w) {sn mn sc st fo : Int32} {sb sd se sf ms : Nat → Int32} (hS : SnR sn sb sd se sf mn ms)
    {ik kn ksc kst kfo ksz ksq mkt mksc mkst mkfo mkn : Int32} {ktk : Int64} {kc kk kw kb kd ke kf mK mC mS : Nat → Int32} (hP : KpR t ik kn ksc kst kfo ktk ksz ksq kc kk kw kb kd ke kf mb mq mkt mksc mkst mkfo mkn mw mK mC mS) :
    Two (f_X11_image ik (nI t) sn sc st fo tk sz sq c k w sb sd se sf kn ksc kst kfo ktk ksz ksq kc kk kw kb kd ke kf) (f_X12_image n mb sc st fo (nI t) mn mkt mksc mkst mkfo mkn mk mc ms mK mC mS) (fun r r' => r.1 = r'.1 ∧ KpR t r.2.1 r.2.2.1 r.2.2.2.1 r.2.2.2.2.1 r.2.2.2.2.2.1 r.2.2.2.2.2.2.1 r.2.2.2.2.2.2.2.1 r.2.2.2.2.2.2.2.2.1 r.2.2.2.2.2.2.2.2.2.1 r.2.2.2.2.2.2.2.2.2.2.1 r.2.2.2.2.2.2.2.2.2.2.2.1 r.2.2.2.2.2.2.2.2.2.2.2.2.1 r.2.2.2.2.2.2.2.2.2.2.2.2.2.1 r.2.2.2.2.2.2.2.2.2.2.2.2.2.2.1 r.2.2.2.2.2.2.2.2.2.2.2.2.2.2.2 mb mq r'.2.1 r'.2.2.1 r'.2.2.2.1 r'.2.2.2.2.1 r'.2.2.2.2.2.1 mw r'.2.2.2.2.2.2.1 r'.2.2.2.2.2.2.2.1 r'.2.2.2.2.2.2.2.2) := by
  unfold f_X11_image f_X12_image
  rcases hT with ⟨rfl, h⟩ | ⟨h0, bl, sp, h⟩
  · rw [has_0, h.2.2.1, lk_0]
    exact ⟨_, _, rfl, rfl, rfl, by rw [← h.2.2.1]; exact hP⟩
  · obtain ⟨g1, g2, g3, g4, rfl, rfl, rfl, rfl, g9, g10, g11⟩ := id h
    rw [has_1 h0 ht, lk_1 g1 g2, Option.bind_some, Option.bind_some, if_neg (by decide), if_pos rfl]
    obtain ⟨u3, e3, c3⟩ := copy_ok (N := 7) (by decide) (show 50 ≤ n by omega) mk mK
    obtain ⟨u4, e4, c4⟩ := copy_ok (N := 7) (by decide) (show 50 ≤ n by omega) mc mC
    obtain ⟨u5, e5, c5⟩ := copy_ok (N := 24) (by decide) (show 50 ≤ n by omega) ms mS
    rw [e3, e4, e5]
    obtain ⟨q, rfl, rfl, hq⟩ := hS
    refine ⟨_, _, rfl, rfl, rfl, Or.inr ⟨rfl, rfl, rfl, rfl, rfl, ⟨q, rfl, rfl, SG_copy hq c5⟩, hK, h0, bl, sp, g1, g2, g3, g4, rfl, rfl, rfl, rfl, g9, fun d hd => ⟨(c3 d (by omega)).trans (g10 d hd).1, (g10 d hd).2⟩, fun d hd => (c4 d (by omega)).trans (g11 d hd)⟩⟩
theorem m_restore {n : Nat} (hn : 1000 ≤ n) (ht : t < 1000) (hT : TbR t tk sz sq c k w mb mq mk mw mc) (hK : KW k w) {sn mn sc st fo : Int32} {sb sd se sf ms : Nat → Int32} (hS : SnR sn sb sd se sf mn ms)
    {ik kn ksc kst kfo ksz ksq mkt mksc mkst mkfo mkn : Int32} {ktk : Int64} {kc kk kw kb kd ke kf mK mC mS : Nat → Int32} (hP : KpR t ik kn ksc kst kfo ktk ksz ksq kc kk kw kb kd ke kf mb mq mkt mksc mkst mkfo mkn mw mK mC mS) :
    Two (f_X11_restore ik sn sc st fo tk sz sq c k w sb sd se sf kn ksc kst kfo ktk ksz ksq kc kk kw kb kd ke kf) (f_X12_restore n sc st fo (nI t) mn mkt mksc mkst mkfo mkn mk mc ms mK mC mS) (fun r r' => r.1 = r'.1 ∧ SnR r.2.1 r.2.2.2.2.2.2.2.2.2.2.2.1 r.2.2.2.2.2.2.2.2.2.2.2.2.1 r.2.2.2.2.2.2.2.2.2.2.2.2.2.1 r.2.2.2.2.2.2.2.2.2.2.2.2.2.2 r'.2.2.2.2.1 r'.2.2.2.2.2.2.2 ∧ r.2.2.1 = r'.2.1 ∧ r.2.2.2.1 = r'.2.2.1 ∧ r.2.2.2.2.1 = r'.2.2.2.1 ∧ TbR t r.2.2.2.2.2.1 r.2.2.2.2.2.2.1 r.2.2.2.2.2.2.2.1 r.2.2.2.2.2.2.2.2.1 r.2.2.2.2.2.2.2.2.2.1 r.2.2.2.2.2.2.2.2.2.2.1 mb mq r'.2.2.2.2.2.1 mw r'.2.2.2.2.2.2.1 ∧ KW r.2.2.2.2.2.2.2.2.2.1 r.2.2.2.2.2.2.2.2.2.2.1) := by
  unfold f_X11_restore f_X12_restore
  rcases hP with ⟨rfl, hk⟩ | ⟨rfl, rfl, rfl, rfl, rfl, hSk, hKk, h0, bl, sp, h⟩
  · rw [if_pos rfl, if_neg]
    · exact ⟨_, _, rfl, rfl, rfl, hS, rfl, rfl, rfl, hT, hK⟩
    · rcases hk with rfl | ⟨t', ht', rfl⟩
      · exact fun z => nI_m1' ht z.symm
      · exact fun z => by have := (nI_eq (by omega) (by omega)).mp z; omega
  · rw [if_neg (by decide), if_pos rfl]
    obtain ⟨g1, g2, g3, g4, rfl, rfl, rfl, rfl, g9, g10, g11⟩ := id h
    obtain ⟨u3, e3, c3⟩ := copy_ok (N := 7) (by decide) (show 50 ≤ n by omega) mK mk
    obtain ⟨u4, e4, c4⟩ := copy_ok (N := 7) (by decide) (show 50 ≤ n by omega) mC mc
    obtain ⟨u5, e5, c5⟩ := copy_ok (N := 24) (by decide) (show 50 ≤ n by omega) mS ms
    rw [e3, e4, e5]
    obtain ⟨q, rfl, rfl, hq⟩ := hSk
    refine ⟨_, _, rfl, rfl, rfl, ⟨q, rfl, rfl, SG_copy hq c5⟩, rfl, rfl, rfl, Or.inr ⟨h0, bl, sp, g1, g2, g3, g4, rfl, rfl, rfl, rfl, g9, fun d hd => ⟨(c3 d (by omega)).trans (g10 d hd).1, (g10 d hd).2⟩, fun d hd => (c4 d (by omega)).trans (g11 d hd)⟩, hKk⟩
theorem m_table {n : Nat} (hn : 1000 ≤ n) {ps pm : Int32} {pl mP : Nat → Int32} (hPg : PgR ps pl pm mP) (hT : TbR t tk sz sq c k w mb mq mk mw mc) (hK : KW k w) {sn mn sc st fo : Int32} {sb sd se sf ms : Nat → Int32} (hS : SnR sn sb sd se sf mn ms)
    {ik kn ksc kst kfo ksz ksq mkt mksc mkst mkfo mkn : Int32} {ktk : Int64} {kc kk kw kb kd ke kf mK mC mS : Nat → Int32} (hP : KpR t ik kn ksc kst kfo ktk ksz ksq kc kk kw kb kd ke kf mb mq mkt mksc mkst mkfo mkn mw mK mC mS) :
    Two (f_X11_table n ik (nI t) ps pl sn sc st fo tk sz sq c k w) (f_X12_table n pm mb mq sc st fo (nI t) mn mP mk mw mc) (fun r r' => r.1 = r'.1 ∧ ∃ t2, t2 ≤ t + 1 ∧ r.2.2.1 = nI t2 ∧ r'.2.2.2.2.2.2.2.1 = nI t2 ∧ PgR r.2.2.2.1 pl r'.2.1 mP ∧ SnR r.2.2.2.2.1 sb sd se sf r'.2.2.2.2.2.2.2.2.1 ms ∧ r.2.2.2.2.2.1 = r'.2.2.2.2.1 ∧ r.2.2.2.2.2.2.1 = r'.2.2.2.2.2.1 ∧ r.2.2.2.2.2.2.2.1 = r'.2.2.2.2.2.2.1 ∧ TbR t2 r.2.2.2.2.2.2.2.2.1 r.2.2.2.2.2.2.2.2.2.1 r.2.2.2.2.2.2.2.2.2.2.1 r.2.2.2.2.2.2.2.2.2.2.2.1 r.2.2.2.2.2.2.2.2.2.2.2.2.1 r.2.2.2.2.2.2.2.2.2.2.2.2.2 r'.2.2.1 r'.2.2.2.1 r'.2.2.2.2.2.2.2.2.2.1 r'.2.2.2.2.2.2.2.2.2.2.1 r'.2.2.2.2.2.2.2.2.2.2.2 ∧ KW r.2.2.2.2.2.2.2.2.2.2.2.2.1 r.2.2.2.2.2.2.2.2.2.2.2.2.2 ∧ KpR t2 r.2.1 kn ksc kst kfo ktk ksz ksq kc kk kw kb kd ke kf r'.2.2.1 r'.2.2.2.1 mkt mksc mkst mkfo mkn r'.2.2.2.2.2.2.2.2.2.2.1 mK mC mS) := by
  have hPg0 := hPg
  obtain ⟨z, A, hz, rfl, rfl, hL, hL'⟩ := hPg
  obtain ⟨r, e, h1, h2⟩ := tableC_ok (ik := ik) (tr := nI t) (sn := sn) (sc := sc) (st := st) (fo := fo) (tk := tk) (sz := sz) (sq := sq) (c := c) hL hn hz hK
  obtain ⟨r', e', h1', h2'⟩ := tableM_ok (mb := mb) (ms := mq) (msc := sc) (mst := st) (mfo := fo) (mtr := nI t) (msn := mn) (mk := mk) (mw := mw) (mc := mc) hL' hn hz
  refine ⟨r, r', e, e', ?_⟩
  by_cases hw : whP A z
  · obtain ⟨tk', c', k', w', rfl, a1, a2, a3, a4⟩ := h2 hw
    obtain ⟨mk', mw', mc', rfl, b1, b2, b3, b4⟩ := h2' hw
    obtain ⟨q, rfl, rfl, hq6, hq1, hq2⟩ := hS
    have hbl : 1 ≤ z / 5 ∧ z / 5 ≤ 6 := by have := hw.1; omega
    have hall : ∀ i, i < z → gdP A i = true := fun i hi => ff_all A z 0 (by have := hw.2.2; omega) i (by omega) (by omega)
    have hc0 := gd_col (m := 0) (hall 1 (by have := hw.1; omega))
    have hcl := (cellC_ok hL (m := 0) (by decide) (dg_of (i := z) hall (by have := hw.1; omega)) (by decide)).2
    refine ⟨rfl, t + 1, by omega, nI_1 t, nI_1 t, ⟨0, A, by omega, rfl, rfl, hL, hL'⟩, ⟨0, rfl, rfl, by omega, hq1, fun i hi => absurd hi (Nat.not_lt_zero _)⟩, rfl, rfl, rfl, Or.inr ⟨by omega, z / 5, clA A 0, hbl.1, hbl.2, hcl, hc0.2.2.2.2, rfl, rfl, rfl, rfl, a1, fun d hd => ?_, fun d hd => (b3 d hd).trans (a2 d hd).symm⟩, a3, Or.inl ⟨rfl, ?_⟩⟩
    · by_cases hd0 : d = 0
      · rw [hd0]; exact ⟨b1.trans a3.2.2.1.symm, b2.trans a3.2.2.2.symm⟩
      · have x1 := a4 d (by omega) hd
        have x2 := b4 d (by omega) hd
        exact ⟨x2.1.trans x1.1.symm, x2.2.trans x1.2.symm⟩
    · rcases hP with ⟨-, hk⟩ | ⟨-, hk, -⟩
      · rcases hk with h | ⟨t', ht', h⟩
        · exact Or.inl h
        · exact Or.inr ⟨t', by omega, h⟩
      · exact Or.inr ⟨t, by omega, hk⟩
  · have x := h1 hw
    have x' := h1' hw
    subst x; subst x'
    exact ⟨rfl, t, by omega, rfl, rfl, hPg0, hS, rfl, rfl, rfl, hT, hK, hP⟩
end
end
section
/-! the calls that play strokes -/
theorem n10 : ¬ (1 : Int32) = 0 := by decide
section
variable {t : Nat} {tk : Int64} {sz sq : Int32} {c k w : Nat → Int32} {mb mq : Int32} {mk mw mc : Nat → Int32}
theorem m_stroke {n : Nat} (hn : 1000 ≤ n) (ht : t < 1000) (hT : TbR t tk sz sq c k w mb mq mk mw mc) (hK : KW k w) {sc st fo : Int32} {x1 x2 x3 x4 x5 x6 x7 x8 x9 : Int32} {t0 : Int64} {v1 v2 v3 : Nat → Int32} {a1 a2 a3 a4 a5 a6 a7 a8 : Int32} (p1 p2 p3 : Int32) :
    Two (f_X11_stroke n (nI t) sc st fo tk sz sq c k w x1 x2 x3 x4 x5 x6 x7 t0 x8 x9 v1 v2 v3 p1 p2 p3) (f_X12_stroke n mb mq sc st fo a1 a2 a3 a4 a5 a6 a7 a8 mk mw mc p1 p2 p3) (fun r r' => r.1 = r'.1 ∧ r.2.1 = r'.2.1 ∧ r.2.2.1 = r'.2.2.1 ∧ r.2.2.2.1 = r'.2.2.2.1 ∧ TbR t r.2.2.2.2.1 r.2.2.2.2.2.1 r.2.2.2.2.2.2.1 r.2.2.2.2.2.2.2.1 r.2.2.2.2.2.2.2.2.1 r.2.2.2.2.2.2.2.2.2.1 mb mq mk mw r'.2.2.2.2.2.2.2.2.2.2.2.2 ∧ KW r.2.2.2.2.2.2.2.2.1 r.2.2.2.2.2.2.2.2.2.1) := by
  unfold f_X11_stroke f_X12_stroke
  rcases b_stroke p1 p2 p3 with ⟨d, s, q, hd, hs1, hs, hq, rfl, rfl, rfl, r1, r2⟩ | ⟨r1, r2⟩
  · rw [r1, r2, Option.bind_some, Option.bind_some, if_neg n10, if_neg n10]
    have hT0 := hT
    rcases hT with ⟨rfl, h⟩ | ⟨h0, bl, sp, h⟩
    · rw [has_0, h.2.2.1, lk_0]
      exact ⟨_, _, rfl, rfl, rfl, rfl, rfl, rfl, by rw [← h.2.2.1]; exact hT0, hK⟩
    · obtain ⟨g1, g2, g3, g4, rfl, rfl, rfl, rfl, g9, g10, g11⟩ := id h
      have hF := TF_of hK g1 g2 g3 g4
      rw [has_1 h0 ht, lk_1 g1 g2, Option.bind_some, Option.bind_some, if_neg n10, if_pos rfl]
      simp only [f_X9_begin, f_X10_copy, Option.bind_some]
      obtain ⟨r, e, hr⟩ := shoot_r (n := n) (m0 := x1) (b0 := x2) (p0 := x3) (br0 := x4) (h0 := x5) (hp0 := x6) (fo0 := x7) hF g9 hd hs hq (by omega)
      obtain ⟨r', e', hr'⟩ := strike_r (n := n) (a1 := a1) (a2 := a2) (a3 := a3) (a4 := a4) (a5 := a5) (a6 := a6) (a7 := a7) (a8 := a8) hF g9 hd hs hq (by omega) g10 g11
      rw [e, e']
      simp only [Option.bind_some, f_X3_take, f_X10_copy, jn]
      rw [hr.2.2.2.2.1, hr'.2.2.2.2.1, hr.2.2.2.1, hr'.1]
      have hTn : TbR t r.2.2.2.2.2.2.2.1 (nI bl) (nI sp) r.2.2.2.2.2.2.2.2 k w (nI bl) (nI sp) mk mw r'.2.2.2.2.2.2.2.2.2 := Or.inr ⟨h0, bl, sp, T1_cells h (by rw [hr.2.2.2.2.2.1]; exact hr.2.2.2.2.2.2) (fun d hd => by rw [hr.2.2.2.2.2.1]; exact hr'.2.2.2.2.2 d hd)⟩
      cases sFo (clN k) bl c d s q
      · rw [if_pos b2_f, if_pos b2_f]
        exact ⟨_, _, rfl, rfl, rfl, rfl, rfl, by rw [Int32.add_zero], hTn, hK⟩
      · rw [if_neg (by rw [b2_t]; decide), if_neg (by rw [b2_t]; decide)]
        exact ⟨_, _, rfl, rfl, rfl, rfl, rfl, rfl, hTn, hK⟩
  · rw [r1, r2]
    exact ⟨_, _, rfl, rfl, rfl, rfl, rfl, rfl, hT, hK⟩
theorem t_w9 : ∀ j, j < 16 → 10 ≤ j → nI j - 9 = nI (j - 9) := by decide +kernel
theorem m_would {n : Nat} (hn : 1000 ≤ n) (ht : t < 1000) (hT : TbR t tk sz sq c k w mb mq mk mw mc) (hK : KW k w) {x1 x2 x3 x4 x5 x6 x7 x8 x9 : Int32} {t0 : Int64} {v1 v2 v3 mo : Nat → Int32} {a1 a2 a3 a4 a5 a6 a7 a8 : Int32} (p1 p2 p3 p4 : Int32) :
    Two (f_X11_would n (nI t) tk sz sq c k w x1 x2 x3 x4 x5 x6 x7 t0 x8 x9 v1 v2 v3 p1 p2 p3 p4) (f_X12_would n mb mq a1 a2 a3 a4 a5 a6 a7 a8 mk mw mc mo p1 p2 p3 p4) (fun r r' => r.1 = r'.1) := by
  unfold f_X11_would f_X12_would
  rcases b_stroke p1 p2 p3 with ⟨d, s, q, hd, hs1, hs, hq, rfl, rfl, rfl, r1, r2⟩ | ⟨r1, r2⟩
  · rw [r1, r2, Option.bind_some, Option.bind_some, if_neg n10, if_neg n10]
    simp only [jn]
    have key : (∃ j, (j ≤ 5 ∨ (10 ≤ j ∧ j ≤ 15)) ∧ p4 = nI j) → Two ((f_X11_hasTable (nI t)).bind (fun u_5 => (if u_5 = 0 then (some ((-103 : Int32), x1, x2, x3, x4, x5, x6, x7, t0, x8, x9, v1, v2, v3)) else ((f_X9_begin t0 x8 x9 v1 v2 v3 tk sz sq c k w).bind (fun u_7 => ((f_X9_shoot n x1 x2 x3 x4 x5 x6 x7 u_7.1 u_7.2.2.1 u_7.2.2.2.1 u_7.2.2.2.2.1 u_7.2.2.2.2.2 (nI d) (nI s) (nI q)).bind (fun u_8 => ((f_X9_tell u_8.1 u_8.2.1 u_8.2.2.1 u_8.2.2.2.1 u_8.2.2.2.2.2.2.1 u_8.2.2.2.2.2.2.2.2 p4).bind (fun u_9 => (some (u_9, u_8.1, u_8.2.1, u_8.2.2.1, u_8.2.2.2.1, u_8.2.2.2.2.1, u_8.2.2.2.2.2.1, u_8.2.2.2.2.2.2.1, u_8.2.2.2.2.2.2.2.1, u_7.2.1, u_7.2.2.1, u_8.2.2.2.2.2.2.2.2, u_7.2.2.2.2.1, u_7.2.2.2.2.2))))))))))) ((f_X12_lacks mb).bind (fun u_5 => (if u_5 = 0 then ((f_X12_wouldBe n mb mq a1 a2 a3 a4 a5 a6 a7 a8 mk mw mc mo (nI d) (nI s) (nI q) p4).bind (fun u_7 => (some (u_7.1, u_7.2.1, u_7.2.2.1, u_7.2.2.2.1, u_7.2.2.2.2.1, u_7.2.2.2.2.2.1, u_7.2.2.2.2.2.2.1, u_7.2.2.2.2.2.2.2.1, u_7.2.2.2.2.2.2.2.2.1, u_7.2.2.2.2.2.2.2.2.2)))) else (some ((-103 : Int32), a1, a2, a3, a4, a5, a6, a7, a8, mo))))) (fun r r' => r.1 = r'.1) := by
      rintro ⟨j, hj, rfl⟩
      rcases hT with ⟨rfl, h⟩ | ⟨h0, bl, sp, h⟩
      · rw [has_0, h.2.2.1, lk_0]
        exact ⟨_, _, rfl, rfl, rfl⟩
      · obtain ⟨g1, g2, g3, g4, rfl, rfl, rfl, rfl, g9, g10, g11⟩ := id h
        have hF := TF_of hK g1 g2 g3 g4
        rw [has_1 h0 ht, lk_1 g1 g2, Option.bind_some, Option.bind_some, if_neg n10, if_pos rfl]
        simp only [f_X9_begin, f_X10_copy, Option.bind_some]
        unfold f_X12_wouldBe
        obtain ⟨u3, e3, c3⟩ := copy_ok (N := 7) (by decide) (show 50 ≤ n by omega) mc mo
        obtain ⟨r, e, hr⟩ := shoot_r (n := n) (m0 := x1) (b0 := x2) (p0 := x3) (br0 := x4) (h0 := x5) (hp0 := x6) (fo0 := x7) hF g9 hd hs hq (by omega)
        obtain ⟨r', e', hr'⟩ := strike_r (n := n) (v := u3) (a1 := a1) (a2 := a2) (a3 := a3) (a4 := a4) (a5 := a5) (a6 := a6) (a7 := a7) (a8 := a8) hF g9 hd hs hq (by omega) g10 (fun d hd => (c3 d (by omega)).trans (g11 d hd))
        rw [e, e3, Option.bind_some, Option.bind_some, e', Option.bind_some]
        obtain ⟨z1, z2, z3, z4, z5, z6, z7⟩ := hr
        obtain ⟨y1, y2, y3, y4, y5, y6⟩ := hr'
        unfold f_X9_tell
        rw [z1, z2, z3, z4, z5, z6, y1, y2, y3, y4, y5]
        have hz0 : (0 : Int32).toNatClampNeg = 0 := rfl
        have hi0 : inb 0 7 = true := by decide
        have hc0 : f_X10_cellOf (sC (clN k) bl sp c d s q) 0 = some (sC (clN k) bl sp c d s q 0) := (t_cell _ (b := 0) (by decide)).1
        simp only [gd, hi0, if_true, hz0, y6 0 (by omega), hc0, Option.bind_some]
        have hj' : j = 0 ∨ j = 1 ∨ j = 2 ∨ j = 3 ∨ j = 4 ∨ j = 5 ∨ (10 ≤ j ∧ j ≤ 15) := by omega
        rcases hj' with rfl | rfl | rfl | rfl | rfl | rfl | hj'
        · simp only [eq_true (show nI 0 = 0 by decide), if_true, if_false, Option.bind_some]; exact ⟨_, _, rfl, rfl, rfl⟩
        · simp only [eq_false (show ¬ nI 1 = 0 by decide), eq_true (show nI 1 = 1 by decide), if_true, if_false, Option.bind_some]; exact ⟨_, _, rfl, rfl, rfl⟩
        · simp only [eq_false (show ¬ nI 2 = 0 by decide), eq_false (show ¬ nI 2 = 1 by decide), eq_true (show nI 2 = 2 by decide), if_true, if_false, Option.bind_some]; exact ⟨_, _, rfl, rfl, rfl⟩
        · simp only [eq_false (show ¬ nI 3 = 0 by decide), eq_false (show ¬ nI 3 = 1 by decide), eq_false (show ¬ nI 3 = 2 by decide), eq_true (show nI 3 = 3 by decide), if_true, if_false]
          cases sFo (clN k) bl c d s q
          · simp only [b2_f, if_true]; exact ⟨_, _, rfl, rfl, rfl⟩
          · simp only [b2_t, one_ne, if_false]; exact ⟨_, _, rfl, rfl, rfl⟩
        · simp only [eq_false (show ¬ nI 4 = 0 by decide), eq_false (show ¬ nI 4 = 1 by decide), eq_false (show ¬ nI 4 = 2 by decide), eq_false (show ¬ nI 4 = 3 by decide), eq_true (show nI 4 = 4 by decide), if_true, if_false, Option.bind_some]; exact ⟨_, _, rfl, rfl, rfl⟩
        · simp only [eq_false (show ¬ nI 5 = 0 by decide), eq_false (show ¬ nI 5 = 1 by decide), eq_false (show ¬ nI 5 = 2 by decide), eq_false (show ¬ nI 5 = 3 by decide), eq_false (show ¬ nI 5 = 4 by decide), eq_true (show nI 5 = 5 by decide), if_true, if_false, Option.bind_some]; exact ⟨_, _, rfl, rfl, rfl⟩
        · have hne : ∀ m, m < 6 → ¬ nI j = nI m := fun m hm z => by have := (nI_eq (by omega) (by omega)).mp z; omega
          simp only [eq_false (show ¬ nI j = 0 from hne 0 (by decide)), eq_false (show ¬ nI j = 1 from hne 1 (by decide)), eq_false (show ¬ nI j = 2 from hne 2 (by decide)), eq_false (show ¬ nI j = 3 from hne 3 (by decide)), eq_false (show ¬ nI j = 4 from hne 4 (by decide)), eq_false (show ¬ nI j = 5 from hne 5 (by decide)), if_false, t_w9 j (by omega) hj'.1, inb_nI (show j - 9 < 7 by omega) (by decide), if_true, nI_clamp (show j - 9 < 2 ^ 31 by omega), (t_cell (sC (clN k) bl sp c d s q) (show j - 9 < 7 by omega)).1, Option.bind_some]
          by_cases hb : bl < j - 9
          · rw [if_pos (nI_lt hb (by omega))]
            exact ⟨_, _, rfl, rfl, z7.2.1 (j - 9) hb (by omega)⟩
          · rw [if_neg (nI_nlt (by omega) (by omega))]
            exact ⟨_, _, rfl, rfl, (y6 (j - 9) (by omega)).symm⟩
    rcases rngL (p := p4) (lo := 0) (hi := 5) (l := 0) (h := 5) (l' := 0) (h' := 5) rfl rfl rfl rfl (by decide) (by decide) with ⟨j, -, hj, e, u1, u2⟩ | ⟨u1, u2, -⟩
    · rw [u1, u2, Option.bind_some, Option.bind_some, if_neg n10, if_neg n10]
      exact key ⟨j, Or.inl hj, e⟩
    · rw [u1, u2, Option.bind_some, Option.bind_some, if_pos rfl, if_pos rfl]
      rcases rngL (p := p4) (lo := 10) (hi := 15) (l := 10) (h := 15) (l' := 10) (h' := 15) rfl rfl rfl rfl (by decide) (by decide) with ⟨j, hj1, hj, e, u1, u2⟩ | ⟨u1, u2, -⟩
      · rw [u1, u2, Option.bind_some, Option.bind_some, if_neg n10, if_neg n10]
        exact key ⟨j, Or.inr ⟨hj1, hj⟩, e⟩
      · rw [u1, u2]
        exact ⟨_, _, rfl, rfl, rfl⟩
  · rw [r1, r2]
    exact ⟨_, _, rfl, rfl, rfl⟩
theorem m_best {n : Nat} (hn : 1000 ≤ n) (ht : t < 1000) (hT : TbR t tk sz sq c k w mb mq mk mw mc) (hK : KW k w) {x1 x2 x3 x4 x5 x6 x7 x8 x9 ch va : Int32} {t0 : Int64} {v1 v2 v3 mo : Nat → Int32} {a1 a2 a3 a4 a5 a6 a7 a8 a9 a10 : Int32} (p : Int32) :
    Two (f_X11_best n (nI t) tk sz sq c k w x1 x2 x3 x4 x5 x6 x7 t0 x8 x9 v1 v2 v3 ch va p) (f_X12_best n mb mq a1 a2 a3 a4 a5 a6 a7 a8 a9 a10 mk mw mc mo p) (fun r r' => r.1 = r'.1) := by
  unfold f_X11_best f_X12_best
  rcases rngL (p := p) (lo := 0) (hi := 3) (l := 0) (h := 3) (l' := 0) (h' := 3) rfl rfl rfl rfl (by decide) (by decide) with ⟨j, -, hj, e, u1, u2⟩ | ⟨u1, u2, -⟩
  · rw [u1, u2, Option.bind_some, Option.bind_some, if_neg n10, if_neg n10]
    rcases hT with ⟨rfl, h⟩ | ⟨h0, bl, sp, h⟩
    · rw [has_0, h.2.2.1, lk_0]
      exact ⟨_, _, rfl, rfl, rfl⟩
    · obtain ⟨g1, g2, g3, g4, rfl, rfl, rfl, rfl, g9, g10, g11⟩ := id h
      have hF := TF_of hK g1 g2 g3 g4
      rw [has_1 h0 ht, lk_1 g1 g2, Option.bind_some, Option.bind_some, if_neg n10, if_pos rfl]
      obtain ⟨M, hM⟩ : ∃ M : Nat, M = 216 := ⟨_, rfl⟩
      obtain ⟨r, e1, hr⟩ := chooseBest_ok (M := M) (n := n) (ch := ch) (va := va) (m0 := x1) (b0 := x2) (p0 := x3) (br0 := x4) (h0 := x5) (hp0 := x6) (fo0 := x7) (sz := x8) (sq := x9) (t0 := t0) (v1 := v1) (v2 := v2) (v3 := v3) hF g9 hM hn
      obtain ⟨r', e2, hr'⟩ := bestOf_ok (M := M) (n := n) (mo := mo) (a1 := a1) (a2 := a2) (a3 := a3) (a4 := a4) (a5 := a5) (a6 := a6) (a7 := a7) (a8 := a8) (a9 := a9) (a10 := a10) hF g9 hM hn g10 g11 p
      have e3 := tell_ok (p := p) hr
      rw [← hr'] at e3
      rw [e1, e2, Option.bind_some, Option.bind_some, e3, Option.bind_some]
      exact ⟨_, _, rfl, rfl, rfl⟩
  · rw [u1, u2]
    exact ⟨_, _, rfl, rfl, rfl⟩
def CnR (a b : Int32) : Prop := ∃ q, q ≤ 8 ∧ a = nI q ∧ b = nI q
theorem m_plan {n : Nat} (hn : 1000 ≤ n) (ht : t < 1000) (hT : TbR t tk sz sq c k w mb mq mk mw mc) (hK : KW k w) {pd mpd : Int32} (hC : CnR pd mpd) {x1 x2 x3 x4 x5 x6 x7 x8 x9 ch va z1 z2 z3 z4 z5 z6 z7 z8 z9 : Int32} {t0 t1 : Int64} {v1 v2 v3 v4 v5 v6 mo mt : Nat → Int32} {a1 a2 a3 a4 a5 a6 a7 a8 a9 a10 : Int32} (p : Int32) :
    Two (f_X11_plan n (nI t) pd tk sz sq c k w x1 x2 x3 x4 x5 x6 x7 t0 x8 x9 v1 v2 v3 ch va z1 z2 z3 z4 z5 z6 z7 t1 z8 z9 v4 v5 v6 p) (f_X12_plan n mb mq a1 a2 a3 a4 a5 a6 a7 a8 a9 a10 mpd mk mw mc mo mt p) (fun r r' => r.1 = r'.1 ∧ CnR r.2.1 r'.2.2.2.2.2.2.2.2.2.2.2.1) := by
  unfold f_X11_plan f_X12_plan
  rcases rngL (p := p) (lo := 0) (hi := 3) (l := 0) (h := 3) (l' := 0) (h' := 3) rfl rfl rfl rfl (by decide) (by decide) with ⟨j, -, hj, e, u1, u2⟩ | ⟨u1, u2, -⟩
  · rw [u1, u2, Option.bind_some, Option.bind_some, if_neg n10, if_neg n10]
    rcases hT with ⟨rfl, h⟩ | ⟨h0, bl, sp, h⟩
    · rw [has_0, h.2.2.1, lk_0]
      exact ⟨_, _, rfl, rfl, rfl, hC⟩
    · obtain ⟨g1, g2, g3, g4, rfl, rfl, rfl, rfl, g9, g10, g11⟩ := id h
      have hF := TF_of hK g1 g2 g3 g4
      rw [has_1 h0 ht, lk_1 g1 g2, Option.bind_some, Option.bind_some, if_neg n10, if_pos rfl]
      have hC0 := hC
      obtain ⟨q, hq, rfl, rfl⟩ := hC
      by_cases h8 : q = 8
      · subst h8
        rw [if_neg (show ¬ nI 8 < 8 by decide), if_pos (show nI 8 = 8 by decide)]
        exact ⟨_, _, rfl, rfl, rfl, hC0⟩
      · rw [if_pos (show nI q < 8 from nI_lt (b := 8) (by omega) (by decide)), if_neg (show ¬ nI q = 8 from fun z => h8 ((nI_eq (b := 8) (by omega) (by decide)).mp z))]
        obtain ⟨M, hM⟩ : ∃ M : Nat, M = 216 := ⟨_, rfl⟩
        obtain ⟨N, hN⟩ : ∃ N : Nat, N = 24 := ⟨_, rfl⟩
        obtain ⟨r, e1, hr⟩ := choosePlan_ok (M := M) (N := N) (n := n) (ch := ch) (va := va) (m0 := x1) (b0 := x2) (p0 := x3) (br0 := x4) (h0 := x5) (hp0 := x6) (fo0 := x7) (sz := x8) (sq := x9) (t0 := t0) (v1 := v1) (v2 := v2) (v3 := v3) (m1 := z1) (b1 := z2) (p1 := z3) (br1 := z4) (h1 := z5) (hp1 := z6) (fo1 := z7) (sz1 := z8) (sq1 := z9) (t1 := t1) (v4 := v4) (v5 := v5) (v6 := v6) hF g9 hM hN hn
        obtain ⟨r', e2, hr'⟩ := planOf_ok (M := M) (N := N) (n := n) (mo := mo) (mt := mt) (a1 := a1) (a2 := a2) (a3 := a3) (a4 := a4) (a5 := a5) (a6 := a6) (a7 := a7) (a8 := a8) (a9 := a9) (a10 := a10) hF g9 hM hN hn g10 g11 p
        have e3 := tell_ok (p := p) hr
        rw [← hr'] at e3
        rw [e1, e2, Option.bind_some, Option.bind_some, e3, Option.bind_some]
        exact ⟨_, _, rfl, rfl, rfl, q + 1, by omega, nI_1 q, nI_1 q⟩
  · rw [u1, u2]
    exact ⟨_, _, rfl, rfl, rfl, hC⟩
theorem m_safe {n : Nat} (hn : 1000 ≤ n) (ht : t < 1000) (hT : TbR t tk sz sq c k w mb mq mk mw mc) (hK : KW k w) {pd mpd : Int32} (hC : CnR pd mpd) {x1 x2 x3 x4 x5 x6 x7 x8 x9 ch va z1 z2 z3 z4 z5 z6 z7 z8 z9 : Int32} {t0 t1 : Int64} {v1 v2 v3 v4 v5 v6 mo mt : Nat → Int32} {a1 a2 a3 a4 a5 a6 a7 a8 a9 a10 : Int32} (p : Int32) :
    Two (f_X11_safe n (nI t) pd tk sz sq c k w x1 x2 x3 x4 x5 x6 x7 t0 x8 x9 v1 v2 v3 ch va z1 z2 z3 z4 z5 z6 z7 t1 z8 z9 v4 v5 v6 p) (f_X12_safe n mb mq a1 a2 a3 a4 a5 a6 a7 a8 a9 a10 mpd mk mw mc mo mt p) (fun r r' => r.1 = r'.1 ∧ CnR r.2.1 r'.2.2.2.2.2.2.2.2.2.2.2.1) := by
  unfold f_X11_safe f_X12_safe
  rcases rngL (p := p) (lo := 0) (hi := 3) (l := 0) (h := 3) (l' := 0) (h' := 3) rfl rfl rfl rfl (by decide) (by decide) with ⟨j, -, hj, e, u1, u2⟩ | ⟨u1, u2, -⟩
  · rw [u1, u2, Option.bind_some, Option.bind_some, if_neg n10, if_neg n10]
    rcases hT with ⟨rfl, h⟩ | ⟨h0, bl, sp, h⟩
    · rw [has_0, h.2.2.1, lk_0]
      exact ⟨_, _, rfl, rfl, rfl, hC⟩
    · obtain ⟨g1, g2, g3, g4, rfl, rfl, rfl, rfl, g9, g10, g11⟩ := id h
      have hF := TF_of hK g1 g2 g3 g4
      rw [has_1 h0 ht, lk_1 g1 g2, Option.bind_some, Option.bind_some, if_neg n10, if_pos rfl]
      have hC0 := hC
      obtain ⟨q, hq, rfl, rfl⟩ := hC
      by_cases h8 : q = 8
      · subst h8
        rw [if_neg (show ¬ nI 8 < 8 by decide), if_pos (show nI 8 = 8 by decide)]
        exact ⟨_, _, rfl, rfl, rfl, hC0⟩
      · rw [if_pos (show nI q < 8 from nI_lt (b := 8) (by omega) (by decide)), if_neg (show ¬ nI q = 8 from fun z => h8 ((nI_eq (b := 8) (by omega) (by decide)).mp z))]
        obtain ⟨M, hM⟩ : ∃ M : Nat, M = 216 := ⟨_, rfl⟩
        obtain ⟨N, hN⟩ : ∃ N : Nat, N = 24 := ⟨_, rfl⟩
        obtain ⟨r, e1, hr⟩ := chooseSafe_ok (M := M) (N := N) (n := n) (ch := ch) (va := va) (m0 := x1) (b0 := x2) (p0 := x3) (br0 := x4) (h0 := x5) (hp0 := x6) (fo0 := x7) (sz := x8) (sq := x9) (t0 := t0) (v1 := v1) (v2 := v2) (v3 := v3) (m1 := z1) (b1 := z2) (p1 := z3) (br1 := z4) (h1 := z5) (hp1 := z6) (fo1 := z7) (sz1 := z8) (sq1 := z9) (t1 := t1) (v4 := v4) (v5 := v5) (v6 := v6) hF g9 hM hN hn
        obtain ⟨r', e2, hr'⟩ := safeOf_ok (M := M) (N := N) (n := n) (mo := mo) (mt := mt) (a1 := a1) (a2 := a2) (a3 := a3) (a4 := a4) (a5 := a5) (a6 := a6) (a7 := a7) (a8 := a8) (a9 := a9) (a10 := a10) hF g9 hM hN hn g10 g11 p
        have e3 := tell_ok (p := p) hr
        rw [← hr'] at e3
        rw [e1, e2, Option.bind_some, Option.bind_some, e3, Option.bind_some]
        exact ⟨_, _, rfl, rfl, rfl, q + 1, by omega, nI_1 q, nI_1 q⟩
  · rw [u1, u2]
    exact ⟨_, _, rfl, rfl, rfl, hC⟩
end
end
section
section
variable {t : Nat} {tk : Int64} {sz sq : Int32} {c k w : Nat → Int32} {mb mq : Int32} {mk mw mc : Nat → Int32}
theorem wantedC_ok {bl sp : Nat} {kd wd : Nat → Nat} {kv wv : Nat → Int32} (hF : TF bl sp kd wd kv wv) {tk : Int64} {c : Nat → Int32} (hT : TW bl tk c) {N Q : Nat} (hN : N = 72) (hQ : Q = 45) {n : Nat} (hn : 1000 ≤ n) {b : Nat} (hb : b ≤ bl) {m0 b0 p0 br0 h0 hp0 fo0 sz sq : Int32} {t0 : Int64} {v1 v2 v3 : Nat → Int32} :
    ∃ r, f_X11_wantedCells n tk (nI bl) (nI sp) c kv wv m0 b0 p0 br0 h0 hp0 fo0 t0 sz sq v1 v2 v3 (nI b) = some r ∧ r.1 = (if b = 0 ∨ c b = -1 then 0 else wbP kd bl c b N Q) := by
  have hb7 : b < 7 := by have := hF.2.1; omega
  unfold f_X11_wantedCells
  simp only [jn, if_true, one_ne, if_false]
  by_cases hb0 : b = 0
  · rw [if_pos ((nI_is0 hb7).mpr hb0), if_pos (Or.inl hb0)]
    exact ⟨_, rfl, rfl⟩
  · rw [if_neg (fun z => hb0 ((nI_is0 hb7).mp z)), (t_cell c hb7).1, Option.bind_some]
    by_cases hc : c b = -1
    · rw [if_pos hc, if_pos (Or.inr hc)]
      exact ⟨_, rfl, rfl⟩
    · rw [if_neg hc, if_neg (fun z => z.elim hb0 hc)]
      refine bind_r (cells_ok hF hT hN hn hQ hb) (fun r hr => ?_)
      exact ⟨_, rfl, hr⟩
theorem m_wanted {n : Nat} (hn : 1000 ≤ n) (ht : t < 1000) (hT : TbR t tk sz sq c k w mb mq mk mw mc) (hK : KW k w) {x1 x2 x3 x4 x5 x6 x7 x8 x9 : Int32} {t0 : Int64} {v1 v2 v3 mo : Nat → Int32} {a1 a2 a3 a4 a5 a6 a7 a8 : Int32} (p : Int32) :
    Two (f_X11_wanted n (nI t) tk sz sq c k w x1 x2 x3 x4 x5 x6 x7 t0 x8 x9 v1 v2 v3 p) (f_X12_wanted n mb mq a1 a2 a3 a4 a5 a6 a7 a8 mk mw mc mo p) (fun r r' => r.1 = r'.1) := by
  unfold f_X11_wanted f_X12_wanted
  rcases b_obj ht hT p with ⟨bl, sp, b, h0, h1, hb1, hb, rfl, r1, r2⟩ | ⟨r1, r2⟩
  · rw [r1, r2, Option.bind_some, Option.bind_some]
    obtain ⟨g1, g2, g3, g4, rfl, rfl, rfl, rfl, g9, g10, g11⟩ := id h1
    have hF := TF_of hK g1 g2 g3 g4
    have hb7 : b < 7 := by omega
    simp only [jn, gd, inb_nI hb7 (by decide), if_true, nI_clamp (show b < 2 ^ 31 by omega), g11 b hb, one_ne, if_false, (t_cell c hb7).1, Option.bind_some]
    by_cases hc : c b = -1
    · rw [if_pos hc, if_pos hc]
      exact ⟨_, _, rfl, rfl, rfl⟩
    · rw [if_neg hc, if_neg hc]
      obtain ⟨N, hN⟩ : ∃ N : Nat, N = 72 := ⟨_, rfl⟩
      obtain ⟨Q, hQ⟩ : ∃ Q : Nat, Q = 45 := ⟨_, rfl⟩
      obtain ⟨r, e, hr⟩ := wantedC_ok (n := n) (m0 := x1) (b0 := x2) (p0 := x3) (br0 := x4) (h0 := x5) (hp0 := x6) (fo0 := x7) (sz := x8) (sq := x9) (t0 := t0) (v1 := v1) (v2 := v2) (v3 := v3) hF g9 hN hQ hn hb
      obtain ⟨r', e', hr'⟩ := wantedOf_ok (n := n) (mo := mo) (a1 := a1) (a2 := a2) (a3 := a3) (a4 := a4) (a5 := a5) (a6 := a6) (a7 := a7) (a8 := a8) hF g9 hN hn hQ hb g10 g11
      rw [if_neg (fun z => z.elim (by omega) hc)] at hr
      rw [e, e', Option.bind_some, Option.bind_some]
      exact ⟨_, _, rfl, rfl, hr.trans hr'.symm⟩
  · rw [r1, r2]
    exact ⟨_, _, rfl, rfl, rfl⟩
theorem m_frames {n : Nat} (hn : 1000 ≤ n) (ht : t < 1000) (hT : TbR t tk sz sq c k w mb mq mk mw mc) (hK : KW k w) {x1 x2 x3 x4 x5 x6 x7 x8 x9 : Int32} {t0 : Int64} {v1 v2 v3 mo : Nat → Int32} {a1 a2 a3 a4 a5 a6 a7 a8 a9 : Int32} (p1 p2 p3 : Int32) :
    Two (f_X11_frames n (nI t) tk sz sq c k w x1 x2 x3 x4 x5 x6 x7 t0 x8 x9 v1 v2 v3 p1 p2 p3) (f_X12_frames n mb mq a1 a2 a3 a4 a5 a6 a7 a8 a9 mk mw mc mo p1 p2 p3) (fun r r' => r.1 = r'.1) := by
  rcases rngL (p := p1) (lo := 1) (hi := 60) (l := 1) (h := 60) (l' := 1) (h' := 60) rfl rfl rfl rfl (by decide) (by decide) with ⟨j, hj1, hj, rfl, u1, u2⟩ | ⟨u1, u2, -⟩
  · by_cases h2 : p2 < 0
    · unfold f_X11_frames f_X12_frames
      rw [u1, u2, Option.bind_some, Option.bind_some, if_neg n10, if_neg n10, if_pos h2, if_pos h2]
      exact ⟨_, _, rfl, rfl, rfl⟩
    · rcases rngL (p := p3) (lo := 0) (hi := 2) (l := 0) (h := 2) (l' := 0) (h' := 2) rfl rfl rfl rfl (by decide) (by decide) with ⟨j3, -, -, -, s1, s2⟩ | ⟨s1, s2, -⟩
      · rcases hT with ⟨rfl, h⟩ | ⟨h0, bl, sp, h⟩
        · unfold f_X11_frames f_X12_frames
          rw [u1, u2, Option.bind_some, Option.bind_some, if_neg n10, if_neg n10, if_neg h2, if_neg h2, s1, s2, Option.bind_some, Option.bind_some, if_neg n10, if_neg n10, has_0, h.2.2.1, lk_0]
          exact ⟨_, _, rfl, rfl, rfl⟩
        · obtain ⟨g1, g2, g3, g4, rfl, rfl, rfl, rfl, g9, g10, g11⟩ := id h
          have hF := TF_of hK g1 g2 g3 g4
          exact two_i (framesC_ok hF g9 hn hj u1 h2 s1 (has_1 h0 ht)) (framesM_ok hF g9 hn hj g10 g11 u2 h2 s2) (fun r r' e e' => e.trans e'.symm)
      · unfold f_X11_frames f_X12_frames
        rw [u1, u2, Option.bind_some, Option.bind_some, if_neg n10, if_neg n10, if_neg h2, if_neg h2, s1, s2]
        exact ⟨_, _, rfl, rfl, rfl⟩
  · unfold f_X11_frames f_X12_frames
    rw [u1, u2]
    exact ⟨_, _, rfl, rfl, rfl⟩
theorem m_ball {n : Nat} (hn : 1000 ≤ n) (ht : t < 1000) (hT : TbR t tk sz sq c k w mb mq mk mw mc) (hK : KW k w) {sn mn : Int32} {sb sd se sf ms : Nat → Int32} (hS : SnR sn sb sd se sf mn ms) {x1 x2 x3 x4 x5 x6 x7 x8 x9 : Int32} {t0 : Int64} {v1 v2 v3 un mo mbh : Nat → Int32} {a1 a2 a3 a4 a5 a6 a7 a8 : Int32} (p p2 : Int32) :
    Two (f_X11_ball n (nI t) sn tk sz sq c k w sb sd se sf x1 x2 x3 x4 x5 x6 x7 t0 x8 x9 v1 v2 v3 un p p2) (f_X12_ball n mb mq a1 a2 a3 a4 a5 a6 a7 a8 mn mk mw mc mo ms mbh p p2) (fun r r' => r.1 = r'.1 ∧ r'.2.2.2.2.2.2.2.2.2.1 = mk) := by
  unfold f_X11_ball f_X12_ball
  rcases b_ball ht hT p with ⟨bl, sp, b, h0, h1, hb, rfl, r1, r2⟩ | ⟨r1, r2⟩
  · rw [r1, r2, Option.bind_some, Option.bind_some, if_neg n10, if_neg n10]
    obtain ⟨g1, g2, g3, g4, rfl, rfl, rfl, rfl, g9, g10, g11⟩ := id h1
    have hF := TF_of hK g1 g2 g3 g4
    have hb7 : b < 7 := by omega
    obtain ⟨q, rfl, rfl, hq⟩ := hS
    unfold f_X12_tellBall
    rcases rngL (p := p2) (lo := 0) (hi := 5) (l := 0) (h := 5) (l' := 0) (h' := 5) rfl rfl rfl rfl (by decide) (by decide) with ⟨j, -, hj, rfl, u1, -⟩ | ⟨u1, -, hno⟩
    · rw [u1, Option.bind_some, if_neg n10]
      have hj' : j = 0 ∨ j = 1 ∨ j = 2 ∨ j = 3 ∨ j = 4 ∨ j = 5 := by omega
      rcases hj' with rfl | rfl | rfl | rfl | rfl | rfl
      · simp only [eq_true (show nI 0 = 0 by decide), if_true, if_false, gd, inb_nI hb7 (by decide), nI_clamp (show b < 2 ^ 31 by omega), (t_cell c hb7).1, (t_cell k hb7).2.1, (t_cell w hb7).2.2, Option.bind_some]
        exact ⟨_, _, rfl, rfl, (g10 b hb).1.symm, rfl⟩
      · simp only [eq_false (show ¬ nI 1 = 0 by decide), eq_true (show nI 1 = 1 by decide), if_true, if_false, gd, inb_nI hb7 (by decide), nI_clamp (show b < 2 ^ 31 by omega), (t_cell c hb7).1, (t_cell k hb7).2.1, (t_cell w hb7).2.2, Option.bind_some]
        exact ⟨_, _, rfl, rfl, (g10 b hb).2.symm, rfl⟩
      · simp only [eq_false (show ¬ nI 2 = 0 by decide), eq_false (show ¬ nI 2 = 1 by decide), eq_true (show nI 2 = 2 by decide), if_true, if_false, gd, inb_nI hb7 (by decide), nI_clamp (show b < 2 ^ 31 by omega), (t_cell c hb7).1, (t_cell k hb7).2.1, (t_cell w hb7).2.2, Option.bind_some]
        exact ⟨_, _, rfl, rfl, (g11 b hb).symm, rfl⟩
      · simp only [eq_false (show ¬ nI 3 = 0 by decide), eq_false (show ¬ nI 3 = 1 by decide), eq_false (show ¬ nI 3 = 2 by decide), eq_true (show nI 3 = 3 by decide), if_true, if_false]
        by_cases hb0 : b = 0
        · rw [if_pos ((nI_is0 hb7).mpr hb0), if_pos ((nI_is0 hb7).mpr hb0)]
          exact ⟨_, _, rfl, rfl, rfl, rfl⟩
        · rw [if_neg (fun z => hb0 ((nI_is0 hb7).mp z)), if_neg (fun z => hb0 ((nI_is0 hb7).mp z))]
          obtain ⟨r, e, hr⟩ := possible_ok (n := n) (m0 := x1) (b0 := x2) (p0 := x3) (br0 := x4) (h0 := x5) (hp0 := x6) (fo0 := x7) (sz := x8) (sq := x9) (t0 := t0) (v1 := v1) (v2 := v2) (v3 := v3) (sz1 := nI bl) hF g9 hn hb hq
          obtain ⟨r', e', hr'⟩ := kindsOf_ok (n := n) (mo := mo) (a1 := a1) (a2 := a2) (a3 := a3) (a4 := a4) (a5 := a5) (a6 := a6) (a7 := a7) (a8 := a8) hF g9 hn hb hq g10 g11
          rw [e, e']
          exact ⟨_, _, rfl, rfl, hr.trans hr'.1.symm, hr'.2⟩
      · simp only [eq_false (show ¬ nI 4 = 0 by decide), eq_false (show ¬ nI 4 = 1 by decide), eq_false (show ¬ nI 4 = 2 by decide), eq_false (show ¬ nI 4 = 3 by decide), eq_true (show nI 4 = 4 by decide), if_true, if_false]
        by_cases hb0 : b = 0
        · rw [if_pos ((nI_is0 hb7).mpr hb0), if_pos ((nI_is0 hb7).mpr hb0)]
          exact ⟨_, _, rfl, rfl, rfl, rfl⟩
        · rw [if_neg (fun z => hb0 ((nI_is0 hb7).mp z)), if_neg (fun z => hb0 ((nI_is0 hb7).mp z))]
          obtain ⟨M, hM⟩ : ∃ M : Nat, M = 8 := ⟨_, rfl⟩
          obtain ⟨r, e, hr⟩ := telling_ok (n := n) (m0 := x1) (b0 := x2) (p0 := x3) (br0 := x4) (h0 := x5) (hp0 := x6) (fo0 := x7) (sz := x8) (sq := x9) (t0 := t0) (v1 := v1) (v2 := v2) (v3 := v3) (un := un) (sz1 := nI bl) hF g9 hn hM hb hq
          obtain ⟨r', e', hr'⟩ := tryOf_ok (n := n) (mo := mo) (mb := mbh) (a1 := a1) (a2 := a2) (a3 := a3) (a4 := a4) (a5 := a5) (a6 := a6) (a7 := a7) (a8 := a8) hF g9 hn hM hb hq g10 g11
          rw [e, e']
          exact ⟨_, _, rfl, rfl, hr.trans hr'.1.symm, hr'.2⟩
      · simp only [eq_false (show ¬ nI 5 = 0 by decide), eq_false (show ¬ nI 5 = 1 by decide), eq_false (show ¬ nI 5 = 2 by decide), eq_false (show ¬ nI 5 = 3 by decide), eq_false (show ¬ nI 5 = 4 by decide), eq_true (show nI 5 = 5 by decide), if_true, if_false, jn, gd, inb_nI hb7 (by decide), nI_clamp (show b < 2 ^ 31 by omega), g11 b hb]
        obtain ⟨N, hN⟩ : ∃ N : Nat, N = 72 := ⟨_, rfl⟩
        obtain ⟨Q, hQ⟩ : ∃ Q : Nat, Q = 45 := ⟨_, rfl⟩
        obtain ⟨r, e, hr⟩ := wantedC_ok (n := n) (m0 := x1) (b0 := x2) (p0 := x3) (br0 := x4) (h0 := x5) (hp0 := x6) (fo0 := x7) (sz := x8) (sq := x9) (t0 := t0) (v1 := v1) (v2 := v2) (v3 := v3) hF g9 hN hQ hn hb
        rw [e, Option.bind_some]
        have hb00 : f_J13_bitCount_95d88 0 = some 0 := by decide
        by_cases hb0 : b = 0
        · rw [if_pos (Or.inl hb0)] at hr
          rw [if_pos ((nI_is0 hb7).mpr hb0), hr, hb00]
          exact ⟨_, _, rfl, rfl, rfl, rfl⟩
        · rw [if_neg (fun z => hb0 ((nI_is0 hb7).mp z))]
          by_cases hc : c b = -1
          · rw [if_pos (Or.inr hc)] at hr
            rw [if_pos hc, hr, hb00]
            exact ⟨_, _, rfl, rfl, rfl, rfl⟩
          · rw [if_neg (fun z => z.elim hb0 hc)] at hr
            rw [if_neg hc, hr]
            obtain ⟨X, hX, eX⟩ := wb_nat (kd := clN k) (bl := bl) (c := c) (b := b) (N := N) Q (by omega)
            have hX' : X < 2 ^ 45 := by rw [hQ] at hX; exact hX
            obtain ⟨r', e', hr'⟩ := wantedMany_ok (n := n) (mo := mo) (a1 := a1) (a2 := a2) (a3 := a3) (a4 := a4) (a5 := a5) (a6 := a6) (a7 := a7) (a8 := a8) hF g9 hN hn hQ hb g10 g11 hX' eX
            rw [eX, bitCount_ok hX', e']
            exact ⟨_, _, rfl, rfl, hr'.symm, rfl⟩
    · have hne : ∀ m, m < 6 → ¬ p2 = nI m := fun m hm z => hno ⟨m, by omega, by omega, z⟩
      rw [u1, Option.bind_some, if_pos rfl]
      simp only [eq_false (show ¬ p2 = 0 from hne 0 (by decide)), eq_false (show ¬ p2 = 1 from hne 1 (by decide)), eq_false (show ¬ p2 = 2 from hne 2 (by decide)), eq_false (show ¬ p2 = 3 from hne 3 (by decide)), eq_false (show ¬ p2 = 4 from hne 4 (by decide)), eq_false (show ¬ p2 = 5 from hne 5 (by decide)), if_false]
      exact ⟨_, _, rfl, rfl, rfl, rfl⟩
  · rw [r1, r2]
    exact ⟨_, _, rfl, rfl, rfl, rfl⟩
end
end
section
section
variable {t : Nat} {tk : Int64} {sz sq : Int32} {c k w : Nat → Int32} {mb mq : Int32} {mk mw mc : Nat → Int32}
theorem tb_low (hT : TbR t tk sz sq c k w mb mq mk mw mc) : sz = mb ∧ sq = mq ∧ ∃ bl, bl ≤ 6 ∧ mb = nI bl ∧ (∀ d, bl < d → d < 7 → c d = -1) ∧ (∀ d, 1 ≤ d → d ≤ bl → mc d = c d) ∧ (∀ d, 1 ≤ d → d ≤ bl → mw d = w d) := by
  rcases hT with ⟨-, h⟩ | ⟨-, bl, sp, h⟩
  · obtain ⟨rfl, rfl, rfl, rfl, h5, h6⟩ := h
    exact ⟨rfl, rfl, 0, by omega, rfl, fun d _ hd => h5 d hd, fun d h1 h2 => by omega, fun d h1 h2 => by omega⟩
  · obtain ⟨g1, g2, g3, g4, rfl, rfl, rfl, rfl, g9, g10, g11⟩ := h
    exact ⟨rfl, rfl, bl, g2, rfl, g9.2.1, fun d _ hd => g11 d hd, fun d _ hd => (g10 d hd).2⟩
theorem cnt_both {n : Nat} (hn : 1000 ≤ n) (ht : t < 1000) (hT : TbR t tk sz sq c k w mb mq mk mw mc) (hK : KW k w) {pd sd ps sn sc st fo : Int32} (p : Int32) :
    ∃ y, f_X11_count n (nI t) pd sd ps sn sc st fo tk sz sq c w p = some y ∧ f_X12_countOf n ps mb mq sc st fo (nI t) pd sd sn mw mc p = some y := by
  have hT0 := hT
  obtain ⟨e1, e2, bl, h6, e3, hoff, hv, hw⟩ := tb_low hT
  have hwd : ∀ d, d < 7 → w d = nI (clN w d) := fun d hd => by
    obtain ⟨j, hj, e⟩ := hK.2.1 d hd
    rw [clN, e, nI_clamp (by omega)]
  unfold f_X11_count f_X12_countOf
  by_cases h0 : p = 0
  · rw [if_pos h0, if_pos h0]
    exact ⟨_, rfl, by rw [e1]⟩
  rw [if_neg h0, if_neg h0]
  by_cases h1 : p = 1
  · rw [if_pos h1, if_pos h1]
    obtain ⟨r, e, hr⟩ := lying_ok h6 hoff hn
    obtain ⟨r', e', hr'⟩ := onTable_ok h6 hv hn
    rw [e3, e, e', hr, hr']
    exact ⟨_, rfl, rfl⟩
  rw [if_neg h1, if_neg h1]
  by_cases h2 : p = 2
  · rw [if_pos h2, if_pos h2]
    obtain ⟨r, e, hr⟩ := worthLying_ok h6 hoff hwd hn
    obtain ⟨r', e', hr'⟩ := worthAll_ok (wd := clN w) h6 hv (fun d h1 h2 => (hw d h1 h2).trans (hwd d (by omega))) hn
    rw [e3, e, e', hr, hr']
    exact ⟨_, rfl, rfl⟩
  rw [if_neg h2, if_neg h2]
  by_cases h3 : p = 3
  · rw [if_pos h3, if_pos h3]
    exact ⟨_, rfl, rfl⟩
  rw [if_neg h3, if_neg h3]
  by_cases h4 : p = 4
  · rw [if_pos h4, if_pos h4]
    exact ⟨_, rfl, rfl⟩
  rw [if_neg h4, if_neg h4]
  by_cases h5 : p = 5
  · rw [if_pos h5, if_pos h5]
    exact ⟨_, rfl, rfl⟩
  rw [if_neg h5, if_neg h5]
  by_cases h6 : p = 6
  · rw [if_pos h6, if_pos h6]
    rcases hT with ⟨rfl, h⟩ | ⟨h0, bl, sp, h⟩
    · rw [h.2.2.1]
      obtain ⟨n, rfl⟩ : ∃ n', n = n' + 1 := ⟨n - 1, by omega⟩
      have a1 : f_X11_ballsInSight (n + 1) (nI 0) tk c = some 0 := by
        unfold f_X11_ballsInSight f_X11_ballsInSight_L4
        rw [lpF]
        dsimp only
        unfold b_X11_ballsInSight_L4
        rw [if_neg (by decide), has_0]
        rfl
      have a2 : f_X12_seenByWhite (n + 1) 0 mc = some 0 := by
        unfold f_X12_seenByWhite f_X12_seenByWhite_L6
        rw [lpF]
        dsimp only
        unfold b_X12_seenByWhite_L6
        rw [if_neg (by decide), lk_0]
        rfl
      rw [a1, a2]
      exact ⟨_, rfl, rfl⟩
    · obtain ⟨g1, g2, g3, g4, rfl, rfl, rfl, rfl, g9, g10, g11⟩ := id h
      obtain ⟨M, hM⟩ : ∃ M : Nat, M = 9 := ⟨_, rfl⟩
      obtain ⟨N, hN⟩ : ∃ N : Nat, N = 8 := ⟨_, rfl⟩
      obtain ⟨r, e, hr⟩ := inSight_ok g2 g9 hn hM hN (has_1 h0 ht)
      obtain ⟨r', e', hr'⟩ := byWhite_ok g1 g2 g9 hn hM hN g11
      rw [e, e', hr, hr']
      exact ⟨_, rfl, rfl⟩
  rw [if_neg h6, if_neg h6]
  by_cases h7 : p = 7
  · rw [if_pos h7, if_pos h7]
    have hz0 : (0 : Int32).toNatClampNeg = 0 := rfl
    have hi0 : inb 0 7 = true := by decide
    simp only [gd, hi0, if_true, hz0]
    rcases hT with ⟨rfl, h⟩ | ⟨h0, bl, sp, h⟩
    · rw [has_0, h.2.2.2.2.2]
      exact ⟨_, rfl, rfl⟩
    · obtain ⟨g1, g2, g3, g4, rfl, rfl, rfl, rfl, g9, g10, g11⟩ := id h
      have hc0 : f_X10_cellOf c 0 = some (c 0) := (t_cell c (b := 0) (by decide)).1
      rw [has_1 h0 ht, hc0, g11 0 (by omega)]
      exact ⟨_, rfl, rfl⟩
  rw [if_neg h7, if_neg h7]
  by_cases h8 : p = 8
  · rw [if_pos h8, if_pos h8]
    exact ⟨_, rfl, by rw [e2]⟩
  rw [if_neg h8, if_neg h8]
  by_cases h9 : p = 9
  · rw [if_pos h9]
    exact ⟨_, rfl, rfl⟩
  rw [if_neg h9]
  by_cases h10 : p = 10
  · rw [if_pos h10]
    exact ⟨_, rfl, rfl⟩
  rw [if_neg h10]
  by_cases h11 : p = 11
  · rw [if_pos h11]
    exact ⟨_, rfl, rfl⟩
  rw [if_neg h11]
  by_cases h12 : p = 12
  · rw [if_pos h12]
    exact ⟨_, rfl, rfl⟩
  rw [if_neg h12]
  by_cases h13 : p = 13
  · rw [if_pos h13]
    exact ⟨_, rfl, rfl⟩
  rw [if_neg h13]
  exact ⟨_, rfl, rfl⟩
theorem m_count {n : Nat} (hn : 1000 ≤ n) (ht : t < 1000) (hT : TbR t tk sz sq c k w mb mq mk mw mc) (hK : KW k w) {ps pm : Int32} {pl mP : Nat → Int32} (hPg : PgR ps pl pm mP) {pd mpd sd msd : Int32} (hC1 : CnR pd mpd) (hC2 : CnR sd msd) {sn mn sc st fo : Int32} {sb sdd se sf ms : Nat → Int32} (hS : SnR sn sb sdd se sf mn ms) (p : Int32) :
    Two (f_X11_count n (nI t) pd sd ps sn sc st fo tk sz sq c w p) (f_X12_count n pm mb mq sc st fo (nI t) mpd msd mn mw mc p) (fun r r' => r = r') := by
  obtain ⟨z, A, hz, rfl, rfl, -⟩ := hPg
  obtain ⟨q1, -, rfl, rfl⟩ := hC1
  obtain ⟨q2, -, rfl, rfl⟩ := hC2
  obtain ⟨q3, rfl, rfl, -⟩ := hS
  obtain ⟨y, e, e'⟩ := cnt_both hn ht hT hK (pd := nI q1) (sd := nI q2) (ps := nI z) (sn := nI q3) (sc := sc) (st := st) (fo := fo) p
  unfold f_X12_count
  rw [e, e']
  exact ⟨_, _, rfl, rfl, rfl⟩
end
end
section
/-! the digest -/
def hsF (h : Int64) (f : Nat → Int32) : Nat → Int64
  | 0 => h
  | i + 1 => 31 * hsF h f i + (f i).toInt64
def hB (k w c : Nat → Int32) (h : Int64) : Nat → Int64
  | 0 => h
  | b + 1 => 31 * (31 * (31 * hB k w c h b + (k b).toInt64) + (w b).toInt64) + (c b).toInt64
def tvP (kd wd : Nat → Nat) (bl sp : Nat) (c : Nat → Int32) (w st s i : Nat) : Int32 := if i = 0 then sBr kd wd bl c w st s + 100 else if i = 1 then sC kd bl sp c w st s 0 else if i = 2 then sPo kd bl c w st s else if i = 3 then b2 (sFo kd bl c w st s) else if i = 4 then sMv kd bl c w st s else sBo kd bl c w st s
theorem isBall_1 {t bl b : Nat} (h0 : 0 < t) (ht : t < 1000) (h6 : bl ≤ 6) (hb : b ≤ bl) : f_X11_isBall (nI t) (nI bl) (nI b) = some 1 := by
  unfold f_X11_isBall
  rw [has_1 h0 ht, Option.bind_some]
  simp only [jn, one_ne, if_false]
  rcases rng (p := nI b) (lo := 0) (hi := bl) (by omega) (by decide) with ⟨_, _, _, _, r1, _⟩ | ⟨_, _, hno⟩
  · rw [show (0 : Int32) = nI 0 from rfl, r1]; rfl
  · exact absurd ⟨b, by omega, hb, rfl⟩ hno
theorem within5 : ∀ j, j < 3 → f_X11_within (nI j) 0 5 = some 1 := by decide +kernel
theorem ball3_ok {t : Nat} {tk : Int64} {bl sp : Nat} {c k w : Nat → Int32} (h0 : 0 < t) (ht : t < 1000) (h6 : bl ≤ 6) {n b j : Nat} (hb : b ≤ bl) (hj : j < 3) {sn x1 x2 x3 x4 x5 x6 x7 x8 x9 : Int32} {t0 : Int64} {sb sd se sf v1 v2 v3 un : Nat → Int32} :
    ∃ r, f_X11_ball n (nI t) sn tk (nI bl) (nI sp) c k w sb sd se sf x1 x2 x3 x4 x5 x6 x7 t0 x8 x9 v1 v2 v3 un (nI b) (nI j) = some r ∧ r.1 = (if j = 0 then k b else if j = 1 then w b else c b) := by
  have hb7 : b < 7 := by omega
  unfold f_X11_ball
  rw [isBall_1 h0 ht h6 hb, Option.bind_some, if_neg n10, within5 j hj, Option.bind_some, if_neg n10]
  have hj' : j = 0 ∨ j = 1 ∨ j = 2 := by omega
  rcases hj' with rfl | rfl | rfl
  · simp only [eq_true (show nI 0 = 0 by decide), if_true, (t_cell k hb7).2.1, Option.bind_some]
    exact ⟨_, rfl, rfl⟩
  · simp only [eq_false (show ¬ nI 1 = 0 by decide), eq_true (show nI 1 = 1 by decide), if_true, if_false, (t_cell w hb7).2.2, Option.bind_some]
    exact ⟨_, rfl, rfl⟩
  · simp only [eq_false (show ¬ nI 2 = 0 by decide), eq_false (show ¬ nI 2 = 1 by decide), eq_true (show nI 2 = 2 by decide), if_true, if_false, (t_cell c hb7).1, Option.bind_some]
    exact ⟨_, rfl, rfl⟩
theorem balls_ok {t : Nat} (h0 : 0 < t) (ht : t < 1000) {bl sp : Nat} {kd wd : Nat → Nat} {kv wv : Nat → Int32} (hF : TF bl sp kd wd kv wv) {tk : Int64} {c : Nat → Int32} (hT : TW bl tk c) {n : Nat} (hn : 1000 ≤ n) {M sn : Nat} (hM : M = 8) {sb sd se sf ms : Nat → Int32} (hS : SG sn sb sd se sf ms) {x1 x2 x3 x4 x5 x6 x7 x8 x9 : Int32} {t0 : Int64} {v1 v2 v3 un : Nat → Int32} (h : Int64) :
    ∃ r, f_X11_digestOfBalls n (nI t) (nI sn) tk (nI bl) (nI sp) c kv wv sb sd se sf x1 x2 x3 x4 x5 x6 x7 t0 x8 x9 v1 v2 v3 un h = some r ∧ r.1 = 31 * (31 * hB kv wv c h (bl + 1) + (kbP kd bl sp c 1 sb sd se sf sn).toInt64) + (tdP kd bl sp c 1 (kbP kd bl sp c 1 sb sd se sf sn) M).toInt64 := by
  have h6 := hF.2.1
  unfold f_X11_digestOfBalls
  simp only [jn]
  unfold f_X11_digestOfBalls_L5
  refine lp_r (fun j s => ∃ b, j + b = bl + 1 ∧ s.2.1 = nI b ∧ s.1 = hB kv wv c h b) (bl + 1) ⟨0, by omega, nI_0.symm, rfl⟩ (by omega) ?_ ?_
  · rintro g ⟨x, y, r⟩ ⟨b, hb, hx, hR⟩
    have hb : b = bl + 1 := by omega
    subst hb
    dsimp only at hx hR ⊢
    unfold b_X11_digestOfBalls_L5
    rw [hx, if_pos (nI_lt (show bl < bl + 1 by omega) (by omega))]
    dsimp only
    rw [show (1 : Int32) = nI 1 from rfl]
    refine bind_r (possible_ok hF hT hn hF.1 hS) (fun u hu => ?_)
    simp only [bnd]
    refine bind_r (telling_ok hF hT hn hM hF.1 hS) (fun u2 hu2 => ?_)
    exact ⟨_, rfl, by rw [hu, hu2, hR]⟩
  · rintro g j ⟨x, y, r⟩ ⟨b, hb, hx, hR⟩
    left
    dsimp only at hx hR ⊢
    unfold b_X11_digestOfBalls_L5
    rw [hx, if_neg (nI_nlt (show b ≤ bl by omega) (by omega))]
    simp only [jn, bnd, nI_1]
    unfold f_X11_digestOfBalls_L23
    refine lp_l (fun j s => ∃ i, j + i = 3 ∧ s.2.1 = nI i ∧ s.1 = hsF x (fun i => if i = 0 then kv b else if i = 1 then wv b else c b) i) 3 ⟨0, by omega, nI_0.symm, rfl⟩ (by omega) ?_ ?_
    · rintro g2 ⟨x2, y2, r2⟩ ⟨i, hi, hx2, hR2⟩
      have hi : i = 3 := by omega
      subst hi
      dsimp only at hx2 hR2 ⊢
      unfold b_X11_digestOfBalls_L23
      rw [hx2, if_pos (show (2 : Int32) < nI 3 by decide)]
      refine ⟨_, ?_, rfl⟩
      refine ⟨b + 1, by omega, rfl, ?_⟩
      dsimp only
      rw [hR2, hR]; rfl
    · rintro g2 j2 ⟨x2, y2, r2⟩ ⟨i, hi, hx2, hR2⟩
      left
      dsimp only at hx2 hR2 ⊢
      unfold b_X11_digestOfBalls_L23
      rw [hx2, if_neg (show ¬ (2 : Int32) < nI i from nI_nlt (a := 2) (by omega) (by decide))]
      refine bind_l (ball3_ok h0 ht h6 (show b ≤ bl by omega) (show i < 3 by omega)) (fun u hu => ?_)
      simp only [bnd, nI_1]
      refine ⟨_, ?_, rfl⟩
      refine ⟨i + 1, by omega, rfl, ?_⟩
      dsimp only
      rw [hR2, hu, hsF]
theorem tellW_ok {kd wd : Nat → Nat} {bl sp : Nat} {c : Nat → Int32} {w st s : Nat} {r : Int32 × Int32 × Int32 × Int32 × Int32 × Int32 × Int32 × Int64 × (Nat → Int32)} (hr : ShR kd wd bl sp c w st s r) {i : Nat} (hi : i < 6) : f_X9_tell r.1 r.2.1 r.2.2.1 r.2.2.2.1 r.2.2.2.2.2.2.1 r.2.2.2.2.2.2.2.2 (nI i) = some (tvP kd wd bl sp c w st s i) := by
  obtain ⟨z1, z2, z3, z4, z5, z6, z7⟩ := hr
  have hc0 : f_X10_cellOf (sC kd bl sp c w st s) 0 = some (sC kd bl sp c w st s 0) := (t_cell _ (b := 0) (by decide)).1
  unfold f_X9_tell
  rw [z1, z2, z3, z4, z5, z6, hc0]
  have hj' : i = 0 ∨ i = 1 ∨ i = 2 ∨ i = 3 ∨ i = 4 ∨ i = 5 := by omega
  rcases hj' with rfl | rfl | rfl | rfl | rfl | rfl
  · simp only [eq_true (show nI 0 = 0 by decide), if_true]; rfl
  · simp only [eq_false (show ¬ nI 1 = 0 by decide), eq_true (show nI 1 = 1 by decide), if_true, if_false]; rfl
  · simp only [eq_false (show ¬ nI 2 = 0 by decide), eq_false (show ¬ nI 2 = 1 by decide), eq_true (show nI 2 = 2 by decide), if_true, if_false]; rfl
  · simp only [eq_false (show ¬ nI 3 = 0 by decide), eq_false (show ¬ nI 3 = 1 by decide), eq_false (show ¬ nI 3 = 2 by decide), eq_true (show nI 3 = 3 by decide), if_true, if_false]
    unfold tvP
    cases sFo kd bl c w st s <;> rfl
  · simp only [eq_false (show ¬ nI 4 = 0 by decide), eq_false (show ¬ nI 4 = 1 by decide), eq_false (show ¬ nI 4 = 2 by decide), eq_false (show ¬ nI 4 = 3 by decide), eq_true (show nI 4 = 4 by decide), if_true, if_false]; rfl
  · simp only [eq_false (show ¬ nI 5 = 0 by decide), eq_false (show ¬ nI 5 = 1 by decide), eq_false (show ¬ nI 5 = 2 by decide), eq_false (show ¬ nI 5 = 3 by decide), eq_false (show ¬ nI 5 = 4 by decide), eq_true (show nI 5 = 5 by decide), if_true, if_false]; rfl
theorem wouldBe_ok {bl sp : Nat} {kd wd : Nat → Nat} {kv wv : Nat → Int32} (hF : TF bl sp kd wd kv wv) {tk : Int64} {c : Nat → Int32} (hT : TW bl tk c) {d st s n : Nat} (hd : d < 8) (hst : st ≤ 9) (hs : s < 3) (hn : 1000 ≤ n) {mk mw mc mo : Nat → Int32} (hM : MF bl kv wv mk mw) (hv : ∀ d, d ≤ bl → mc d = c d) {a1 a2 a3 a4 a5 a6 a7 a8 : Int32} {i : Nat} (hi : i < 6) :
    ∃ r, f_X12_wouldBe n (nI bl) (nI sp) a1 a2 a3 a4 a5 a6 a7 a8 mk mw mc mo (nI d) (nI st) (nI s) (nI i) = some r ∧ r.1 = tvP kd wd bl sp c d st s i := by
  unfold f_X12_wouldBe
  refine bind_r (copy_ok (by decide) (by omega) _ _) (fun v hv2 => ?_)
  refine bind_r (strike_r hF hT hd hst hs (by omega) hM (fun d hd => (hv2 d (by have := hF.2.1; omega)).trans (hv d hd))) (fun r hr => ?_)
  obtain ⟨y1, y2, y3, y4, y5, y6⟩ := hr
  rw [y1, y2, y3, y4, y5]
  have hz0 : (0 : Int32).toNatClampNeg = 0 := rfl
  have hi0 : inb 0 7 = true := by decide
  simp only [gd, hi0, if_true, hz0, y6 0 (by omega)]
  have hj' : i = 0 ∨ i = 1 ∨ i = 2 ∨ i = 3 ∨ i = 4 ∨ i = 5 := by omega
  rcases hj' with rfl | rfl | rfl | rfl | rfl | rfl
  · simp only [eq_true (show nI 0 = 0 by decide), if_true]; exact ⟨_, rfl, rfl⟩
  · simp only [eq_false (show ¬ nI 1 = 0 by decide), eq_true (show nI 1 = 1 by decide), if_true, if_false]; exact ⟨_, rfl, rfl⟩
  · simp only [eq_false (show ¬ nI 2 = 0 by decide), eq_false (show ¬ nI 2 = 1 by decide), eq_true (show nI 2 = 2 by decide), if_true, if_false]; exact ⟨_, rfl, rfl⟩
  · simp only [eq_false (show ¬ nI 3 = 0 by decide), eq_false (show ¬ nI 3 = 1 by decide), eq_false (show ¬ nI 3 = 2 by decide), eq_true (show nI 3 = 3 by decide), if_true, if_false]
    unfold tvP
    cases sFo kd bl c d st s
    · exact ⟨_, rfl, rfl⟩
    · exact ⟨_, rfl, rfl⟩
  · simp only [eq_false (show ¬ nI 4 = 0 by decide), eq_false (show ¬ nI 4 = 1 by decide), eq_false (show ¬ nI 4 = 2 by decide), eq_false (show ¬ nI 4 = 3 by decide), eq_true (show nI 4 = 4 by decide), if_true, if_false]; exact ⟨_, rfl, rfl⟩
  · simp only [eq_false (show ¬ nI 5 = 0 by decide), eq_false (show ¬ nI 5 = 1 by decide), eq_false (show ¬ nI 5 = 2 by decide), eq_false (show ¬ nI 5 = 3 by decide), eq_false (show ¬ nI 5 = 4 by decide), eq_true (show nI 5 = 5 by decide), if_true, if_false]; exact ⟨_, rfl, rfl⟩
theorem strokes_ok {bl sp : Nat} {kd wd : Nat → Nat} {kv wv : Nat → Int32} (hF : TF bl sp kd wd kv wv) {tk : Int64} {c : Nat → Int32} (hT : TW bl tk c) {n : Nat} (hn : 1000 ≤ n) {M : Nat} (hM : M = 216) {ch va x1 x2 x3 x4 x5 x6 x7 x8 x9 : Int32} {t0 : Int64} {v1 v2 v3 : Nat → Int32} (h : Int64) :
    ∃ r, f_X11_digestOfStrokes n tk (nI bl) (nI sp) c kv wv x1 x2 x3 x4 x5 x6 x7 t0 x8 x9 v1 v2 v3 ch va h = some r ∧ r.1 = (hsF (hsF h (fun i => TV (chF (fun i => some (gB kd wd bl c i)) gtI M) (nI i)) 4) (tvP kd wd bl sp c 3 9 1) 6) := by
  unfold f_X11_digestOfStrokes
  refine bind_r (chooseBest_ok hF hT hM hn) (fun u hu => ?_)
  simp only [jn]
  unfold f_X11_digestOfStrokes_L19
  refine lp_r (fun j s => ∃ i, j + i = 4 ∧ s.2 = nI i ∧ s.1 = hsF h (fun i => TV (chF (fun i => some (gB kd wd bl c i)) gtI M) (nI i)) i) 4 ⟨0, by omega, nI_0.symm, rfl⟩ (by omega) ?_ ?_
  · rintro g ⟨x, y⟩ ⟨i, hi, hx, hR⟩
    have hi : i = 4 := by omega
    dsimp only at hx hR ⊢
    unfold b_X11_digestOfStrokes_L19
    rw [hx, if_pos (show (3 : Int32) < nI i by rw [hi]; decide)]
    dsimp only
    simp only [f_X9_begin, f_X10_copy, Option.bind_some]
    have hsh := fun (m0 b0 p0 br0 h0 hp0 fo0 : Int32) => shoot_r (w := 3) (st := 9) (s := 1) (m0 := m0) (b0 := b0) (p0 := p0) (br0 := br0) (h0 := h0) (hp0 := hp0) (fo0 := fo0) hF hT (by decide) (by decide) (by decide) (show 100 ≤ n by omega)
    rw [show nI 3 = (3 : Int32) from rfl, show nI 9 = (9 : Int32) from rfl, show nI 1 = (1 : Int32) from rfl] at hsh
    refine bind_r (hsh _ _ _ _ _ _ _) (fun r hr => ?_)
    unfold f_X11_digestOfStrokes_L76
    rw [hi] at hR
    refine lp_r (fun j s => ∃ i, j + i = 6 ∧ s.2 = nI i ∧ s.1 = hsF x (tvP kd wd bl sp c 3 9 1) i) 6 ⟨0, by omega, nI_0.symm, rfl⟩ (by omega) ?_ ?_
    · rintro g2 ⟨x2, y2⟩ ⟨i2, hi2, hx2, hR2⟩
      have hi2 : i2 = 6 := by omega
      dsimp only at hx2 hR2 ⊢
      unfold b_X11_digestOfStrokes_L76
      rw [hx2, if_pos (show (5 : Int32) < nI i2 by rw [hi2]; decide)]
      refine ⟨_, rfl, ?_⟩
      dsimp only
      rw [hR2, hR, hi2]
    · rintro g2 j2 ⟨x2, y2⟩ ⟨i2, hi2, hx2, hR2⟩
      left
      dsimp only at hx2 hR2 ⊢
      unfold b_X11_digestOfStrokes_L76
      rw [hx2, if_neg (show ¬ (5 : Int32) < nI i2 from nI_nlt (a := 5) (by omega) (by decide)), tellW_ok hr (show i2 < 6 by omega), Option.bind_some]
      simp only [bnd, nI_1]
      refine ⟨_, ?_, rfl⟩
      refine ⟨i2 + 1, by omega, rfl, ?_⟩
      dsimp only
      rw [hR2, hsF]
  · rintro g j ⟨x, y⟩ ⟨i, hi, hx, hR⟩
    left
    dsimp only at hx hR ⊢
    unfold b_X11_digestOfStrokes_L19
    rw [hx, if_neg (show ¬ (3 : Int32) < nI i from nI_nlt (a := 3) (by omega) (by decide)), tell_ok hu, Option.bind_some]
    simp only [bnd, nI_1]
    refine ⟨_, ?_, rfl⟩
    refine ⟨i + 1, by omega, rfl, ?_⟩
    dsimp only
    rw [hR, hsF]
end
section
theorem say_ok (h v : Int64) : f_X12_say h v = some (31 * h + v) := by rw [f_X12_say]
def tdH (kd wd : Nat → Nat) (bl sp : Nat) (c kv wv : Nat → Int32) (sb sd se sf : Nat → Int32) (sn M8 M9 M216 : Nat) : Int64 :=
  hsF (hsF (hsF (31 * (31 * hB kv wv c 1097 (bl + 1) + (kbP kd bl sp c 1 sb sd se sf sn).toInt64) + (tdP kd bl sp c 1 (kbP kd bl sp c 1 sb sd se sf sn) M8).toInt64) (seP bl c M9) 8) (fun i => TV (chF (fun i => some (gB kd wd bl c i)) gtI M216) (nI i)) 4) (tvP kd wd bl sp c 3 9 1) 6
theorem hB_congr {k w c k' w' c' : Nat → Int32} {h : Int64} : ∀ {m : Nat}, (∀ d, d < m → k d = k' d ∧ w d = w' d ∧ c d = c' d) → hB k w c h m = hB k' w' c' h m
  | 0, _ => rfl
  | m + 1, hh => by
    have e := hh m (Nat.lt_succ_self m)
    rw [hB, hB, e.1, e.2.1, e.2.2, hB_congr (fun d hd => hh d (Nat.lt_succ_of_lt hd))]
theorem sayTable_ok {bl sp : Nat} {kd wd : Nat → Nat} {kv wv : Nat → Int32} (hF : TF bl sp kd wd kv wv) {tk : Int64} {c : Nat → Int32} (hT : TW bl tk c) {n : Nat} (hn : 1000 ≤ n) {M8 M9 M216 sn : Nat} (h8 : M8 = 8) (h9 : M9 = 9) (h216 : M216 = 216) {sb sd se sf ms : Nat → Int32} (hS : SG sn sb sd se sf ms) {mk mw mc mo mb : Nat → Int32} (hMF : MF bl kv wv mk mw) (hv : ∀ d, d ≤ bl → mc d = c d) {a1 a2 a3 a4 a5 a6 a7 a8 a9 a10 : Int32} :
    ∃ r, f_X12_sayTable n (nI bl) (nI sp) a1 a2 a3 a4 a5 a6 a7 a8 a9 a10 (nI sn) 1097 mk mw mc mo ms mb = some r ∧ (r.2.2.2.2.2.2.2.2.2.2.1 = tdH kd wd bl sp c kv wv sb sd se sf sn M8 M9 M216 ∧ r.2.2.2.2.2.2.2.2.2.2.2.1 = mk) := by
  have h6 := hF.2.1
  unfold f_X12_sayTable
  simp only [jn]
  unfold f_X12_sayTable_L2
  refine lp_r (fun j s => ∃ b, j + b = bl + 1 ∧ s.1 = nI b ∧ s.2 = hB mk mw mc 1097 b) (bl + 1) ⟨0, by omega, nI_0.symm, rfl⟩ (by omega) ?_ ?_
  · rintro g ⟨y, x⟩ ⟨b, hb, hx, hR⟩
    have hb : b = bl + 1 := by omega
    subst hb
    dsimp only at hx hR ⊢
    rw [hB_congr (k' := kv) (w' := wv) (c' := c) (fun d hd => ⟨(hMF d (by omega)).1, (hMF d (by omega)).2, hv d (by omega)⟩)] at hR
    unfold b_X12_sayTable_L2
    rw [hx, if_pos (nI_lt (show bl < bl + 1 by omega) (by omega))]
    dsimp only
    rw [show (1 : Int32) = nI 1 from rfl]
    refine bind_r (kindsOf_ok hF hT hn hF.1 hS hMF hv) (fun u hu => ?_)
    rw [say_ok, Option.bind_some, hu.1, hu.2]
    refine bind_r (tryOf_ok hF hT hn h8 hF.1 hS hMF hv) (fun u2 hu2 => ?_)
    rw [say_ok, Option.bind_some, hu2.1]
    obtain ⟨H2, eH2⟩ : ∃ H2, H2 = 31 * (31 * x + (kbP kd bl sp c 1 sb sd se sf sn).toInt64) + (tdP kd bl sp c 1 (kbP kd bl sp c 1 sb sd se sf sn) M8).toInt64 := ⟨_, rfl⟩
    rw [← eH2]
    unfold f_X12_sayTable_L71
    refine lp_r (fun j s => ∃ i, j + i = 8 ∧ s.1 = nI i ∧ s.2 = hsF H2 (seP bl c M9) i) 8 ⟨0, by omega, nI_0.symm, rfl⟩ (by omega) ?_ ?_
    · rintro g2 ⟨y2, x2⟩ ⟨i2, hi2, hx2, hR2⟩
      have hi2 : i2 = 8 := by omega
      subst hi2
      dsimp only at hx2 hR2 ⊢
      unfold b_X12_sayTable_L71
      rw [hx2, if_pos (show (8 : Int32) ≤ nI 8 by decide)]
      dsimp only
      unfold f_X12_sayTable_L95
      refine lp_r (fun j s => ∃ i, j + i = 4 ∧ s.1 = nI i ∧ s.2.2.2.2.2.2.2.2.2.2.2.1 = hsF x2 (fun i => TV (chF (fun i => some (gB kd wd bl c i)) gtI M216) (nI i)) i) 4 ⟨0, by omega, nI_0.symm, rfl⟩ (by omega) ?_ ?_
      · rintro g3 ⟨y3, s1, s2, s3, s4, s5, s6, s7, s8, s9, s10, x3, mo3⟩ ⟨i3, hi3, hx3, hR3⟩
        have hi3 : i3 = 4 := by omega
        dsimp only at hx3 hR3 ⊢
        unfold b_X12_sayTable_L95
        rw [hx3, if_pos (show (4 : Int32) ≤ nI i3 by rw [hi3]; decide)]
        dsimp only
        rw [hi3] at hR3
        unfold f_X12_sayTable_L118
        refine lp_r (fun j s => ∃ i, j + i = 6 ∧ s.1 = nI i ∧ s.2.2.2.2.2.2.2.2.2.1 = hsF x3 (tvP kd wd bl sp c 3 9 1) i) 6 ⟨0, by omega, nI_0.symm, rfl⟩ (by omega) ?_ ?_
        · rintro g4 ⟨y4, q1, q2, q3, q4, q5, q6, q7, q8, x4, mo4⟩ ⟨i4, hi4, hx4, hR4⟩
          have hi4 : i4 = 6 := by omega
          dsimp only at hx4 hR4 ⊢
          unfold b_X12_sayTable_L118
          rw [hx4, if_pos (show (6 : Int32) ≤ nI i4 by rw [hi4]; decide)]
          refine ⟨_, rfl, ?_, hu2.2⟩
          dsimp only
          rw [hR4, hi4, hR3, hR2, eH2, hR, tdH]
        · rintro g4 j4 ⟨y4, q1, q2, q3, q4, q5, q6, q7, q8, x4, mo4⟩ ⟨i4, hi4, hx4, hR4⟩
          left
          dsimp only at hx4 hR4 ⊢
          unfold b_X12_sayTable_L118
          rw [hx4, if_neg (show ¬ (6 : Int32) ≤ nI i4 from nI_ge (b := 6) (by omega) (by decide)), hu2.2]
          have hwb := fun (a1 a2 a3 a4 a5 a6 a7 a8 : Int32) (mo : Nat → Int32) => wouldBe_ok (d := 3) (st := 9) (s := 1) (n := n) (mo := mo) (a1 := a1) (a2 := a2) (a3 := a3) (a4 := a4) (a5 := a5) (a6 := a6) (a7 := a7) (a8 := a8) hF hT (by decide) (by decide) (by decide) hn hMF hv (show i4 < 6 by omega)
          rw [show nI 3 = (3 : Int32) from rfl, show nI 9 = (9 : Int32) from rfl, show nI 1 = (1 : Int32) from rfl] at hwb
          refine bind_l (hwb _ _ _ _ _ _ _ _ _) (fun u4 hu4 => ?_)
          rw [say_ok, Option.bind_some, hu4]
          simp only [bnd, nI_1]
          refine ⟨_, ?_, rfl⟩
          refine ⟨i4 + 1, by omega, rfl, ?_⟩
          dsimp only
          rw [hR4, hsF]
      · rintro g3 j3 ⟨y3, s1, s2, s3, s4, s5, s6, s7, s8, s9, s10, x3, mo3⟩ ⟨i3, hi3, hx3, hR3⟩
        left
        dsimp only at hx3 hR3 ⊢
        unfold b_X12_sayTable_L95
        rw [hx3, if_neg (show ¬ (4 : Int32) ≤ nI i3 from nI_ge (b := 4) (by omega) (by decide)), hu2.2]
        refine bind_l (bestOf_ok hF hT h216 hn hMF hv (nI i3)) (fun u4 hu4 => ?_)
        rw [say_ok, Option.bind_some, hu4]
        simp only [bnd, nI_1]
        refine ⟨_, ?_, rfl⟩
        refine ⟨i3 + 1, by omega, rfl, ?_⟩
        dsimp only
        rw [hR3, hsF]
    · rintro g2 j2 ⟨y2, x2⟩ ⟨i2, hi2, hx2, hR2⟩
      left
      dsimp only at hx2 hR2 ⊢
      unfold b_X12_sayTable_L71
      rw [hx2, if_neg (show ¬ (8 : Int32) ≤ nI i2 from nI_ge (b := 8) (by omega) (by decide))]
      refine bind_l (sees_ok hF.1 h6 hT hn h9 (show i2 < 8 by omega) hv) (fun u4 hu4 => ?_)
      rw [say_ok, Option.bind_some, hu4]
      simp only [bnd, nI_1]
      refine ⟨_, ?_, rfl⟩
      refine ⟨i2 + 1, by omega, rfl, ?_⟩
      dsimp only
      rw [hR2, hsF]
  · rintro g j ⟨y, x⟩ ⟨b, hb, hx, hR⟩
    left
    dsimp only at hx hR ⊢
    unfold b_X12_sayTable_L2
    rw [hx, if_neg (nI_nlt (show b ≤ bl by omega) (by omega))]
    simp only [gd, inb_nI (show b < 7 by omega) (by decide), if_true, say_ok, Option.bind_some, bnd, nI_1, nI_clamp (show b < 2 ^ 31 by omega)]
    refine ⟨_, ?_, rfl⟩
    refine ⟨b + 1, by omega, rfl, ?_⟩
    dsimp only
    rw [hR, hB]
theorem hs_congr {h : Int64} {f g : Nat → Int32} : ∀ {m : Nat}, (∀ d, d < m → f d = g d) → hsF h f m = hsF h g m
  | 0, _ => rfl
  | m + 1, hh => by rw [hsF, hsF, hh m (Nat.lt_succ_self m), hs_congr (fun d hd => hh d (Nat.lt_succ_of_lt hd))]
theorem digestOn_ok {A : Nat → Nat} {v : Nat → Int32} (hL : LtR A v) {n z : Nat} (hn : 1000 ≤ n) (hz : z ≤ 34) (h : Int64) : ∃ r, f_X7_digestOn n (nI z) v h = some r ∧ r = hsF h (fun i => nI (A i)) z := by
  unfold f_X7_digestOn f_X7_digestOn_L5
  refine lp_r (fun j s => ∃ i, j + i = z ∧ s.2 = nI i ∧ s.1 = hsF h (fun i => nI (A i)) i) z ⟨0, by omega, nI_0.symm, rfl⟩ (by omega) ?_ ?_
  · rintro g ⟨x, y⟩ ⟨i, hi, hx, hR⟩
    have hi : i = z := by omega
    subst hi
    dsimp only at hx hR ⊢
    unfold b_X7_digestOn_L5
    rw [hx, if_pos (nI_le (Nat.le_refl i) (by omega))]
    exact ⟨_, rfl, hR⟩
  · rintro g j ⟨x, y⟩ ⟨i, hi, hx, hR⟩
    left
    dsimp only at hx hR ⊢
    unfold b_X7_digestOn_L5
    rw [hx, if_neg (nI_ge (show i < z by omega) (by omega)), at_ok hL (show i < 34 by omega), Option.bind_some]
    simp only [bnd, nI_1]
    refine ⟨_, ?_, rfl⟩
    refine ⟨i + 1, by omega, rfl, ?_⟩
    dsimp only
    rw [hR, hsF]
end
section
section
variable {t : Nat} {tk : Int64} {sz sq : Int32} {c k w : Nat → Int32} {mb mq : Int32} {mk mw mc : Nat → Int32}
theorem m_digest {n : Nat} (hn : 1000 ≤ n) (ht : t < 1000) (hT : TbR t tk sz sq c k w mb mq mk mw mc) (hK : KW k w) {ps pm : Int32} {pl mP : Nat → Int32} (hPg : PgR ps pl pm mP) {pd mpd sd msd : Int32} (hC1 : CnR pd mpd) (hC2 : CnR sd msd) {sn mn sc st fo : Int32} {sb sdd se sf ms : Nat → Int32} (hS : SnR sn sb sdd se sf mn ms) {x1 x2 x3 x4 x5 x6 x7 x8 x9 ch va : Int32} {t0 mh : Int64} {v1 v2 v3 un mo mbh : Nat → Int32} {a1 a2 a3 a4 a5 a6 a7 a8 a9 a10 : Int32} :
    Two (f_X11_digest n (nI t) pd sd ps pl sn sc st fo tk sz sq c k w sb sdd se sf x1 x2 x3 x4 x5 x6 x7 t0 x8 x9 v1 v2 v3 ch va un) (f_X12_digest n pm mb mq sc st fo (nI t) a1 a2 a3 a4 a5 a6 a7 a8 a9 a10 mpd msd mn mh mP mk mw mc mo ms mbh) (fun r r' => r.1 = r'.1 ∧ r'.2.2.2.2.2.2.2.2.2.2.2.2.1 = mk) := by
  obtain ⟨z, A, hz, rfl, rfl, hL, hL'⟩ := hPg
  obtain ⟨q1, -, rfl, rfl⟩ := hC1
  obtain ⟨q2, -, rfl, rfl⟩ := hC2
  obtain ⟨q3, rfl, rfl, hSG⟩ := hS
  obtain ⟨V, hV⟩ : ∃ V : Int32 → Int32, ∀ p, f_X11_count n (nI t) (nI q1) (nI q2) (nI z) (nI q3) sc st fo tk sz sq c w p = some (V p) ∧ f_X12_countOf n (nI z) mb mq sc st fo (nI t) (nI q1) (nI q2) (nI q3) mw mc p = some (V p) :=
    ⟨fun p => (cnt_both hn ht hT hK p).choose, fun p => (cnt_both hn ht hT hK p).choose_spec⟩
  obtain ⟨M8, h8⟩ : ∃ M : Nat, M = 8 := ⟨_, rfl⟩
  obtain ⟨M9, h9⟩ : ∃ M : Nat, M = 9 := ⟨_, rfl⟩
  obtain ⟨M216, h216⟩ : ∃ M : Nat, M = 216 := ⟨_, rfl⟩
  obtain ⟨H, hHc, hHm⟩ : ∃ H : Int64, (∃ r, f_X11_digest n (nI t) (nI q1) (nI q2) (nI z) pl (nI q3) sc st fo tk sz sq c k w sb sdd se sf x1 x2 x3 x4 x5 x6 x7 t0 x8 x9 v1 v2 v3 ch va un = some r ∧ r.1 = hsF (hsF H (fun i => nI (A i)) z) (fun i => V (nI i)) 14) ∧ (∃ r, f_X12_digest n (nI z) mb mq sc st fo (nI t) a1 a2 a3 a4 a5 a6 a7 a8 a9 a10 (nI q1) (nI q2) (nI q3) mh mP mk mw mc mo ms mbh = some r ∧ (r.1 = hsF (hsF H (fun i => nI (A i)) z) (fun i => V (nI i)) 14 ∧ r.2.2.2.2.2.2.2.2.2.2.2.2.1 = mk)) := by
    -- the tails, which nobody's table changes
    have tailC : ∀ (H : Int64) (y1 y2 y3 y4 y5 y6 y7 : Int32) (t1 : Int64) (y8 y9 : Int32) (w1 w2 w3 : Nat → Int32) (y10 y11 : Int32) (w4 : Nat → Int32), ∃ r, ((f_X7_digestOn n (nI z) pl H).bind (fun u_20 => (f_X11_digest_L61 (nI t) (nI q1) (nI q2) (nI z) (nI q3) sc st fo tk sz sq c w n y1 y2 y3 y4 y5 y6 y7 t1 y8 y9 w1 w2 w3 y10 y11 w4 n u_20 0))) = some r ∧ r.1 = hsF (hsF H (fun i => nI (A i)) z) (fun i => V (nI i)) 14 := by
      intro H y1 y2 y3 y4 y5 y6 y7 t1 y8 y9 w1 w2 w3 y10 y11 w4
      refine bind_r (digestOn_ok hL hn hz H) (fun u hu => ?_)
      unfold f_X11_digest_L61
      rw [← hu]
      refine lp_r (fun j s => ∃ i, j + i = 14 ∧ s.2 = nI i ∧ s.1 = hsF u (fun i => V (nI i)) i) 14 ⟨0, by omega, nI_0.symm, rfl⟩ (by omega) ?_ ?_
      · rintro g ⟨x, y⟩ ⟨i, hi, hx, hR⟩
        have hi : i = 14 := by omega
        dsimp only at hx hR ⊢
        unfold b_X11_digest_L61
        rw [hx, if_pos (show (13 : Int32) < nI i by rw [hi]; decide)]
        refine ⟨_, rfl, ?_⟩
        dsimp only
        rw [hR, hi]
      · rintro g j ⟨x, y⟩ ⟨i, hi, hx, hR⟩
        left
        dsimp only at hx hR ⊢
        unfold b_X11_digest_L61
        rw [hx, if_neg (show ¬ (13 : Int32) < nI i from nI_nlt (a := 13) (by omega) (by decide)), (hV (nI i)).1, Option.bind_some]
        simp only [bnd, nI_1]
        refine ⟨_, ?_, rfl⟩
        refine ⟨i + 1, by omega, rfl, ?_⟩
        dsimp only
        rw [hR, hsF]
    have tailM : ∀ (H : Int64) (y1 y2 y3 y4 y5 y6 y7 y8 y9 y10 : Int32) (w1 w2 w3 : Nat → Int32), ∃ r, (f_X12_digest_L20 (nI z) mP (fun f_m_hash_17 => (f_X12_digest_L47 (nI z) mb mq sc st fo (nI t) (nI q1) (nI q2) (nI q3) mw mc n (fun f_m_hash_19 => some (f_m_hash_19, y1, y2, y3, y4, y5, y6, y7, y8, y9, y10, f_m_hash_19, w1, w2, w3)) n 0 f_m_hash_17)) n 0 H) = some r ∧ (r.1 = hsF (hsF H (fun i => nI (A i)) z) (fun i => V (nI i)) 14 ∧ r.2.2.2.2.2.2.2.2.2.2.2.2.1 = w1) := by
      intro H y1 y2 y3 y4 y5 y6 y7 y8 y9 y10 w1 w2 w3
      unfold f_X12_digest_L20
      refine lp_r (fun j s => ∃ i, j + i = z ∧ s.1 = nI i ∧ s.2 = hsF H (fun i => nI (A i)) i) z ⟨0, by omega, nI_0.symm, rfl⟩ (by omega) ?_ ?_
      · rintro g ⟨y, x⟩ ⟨i, hi, hx, hR⟩
        have hi : i = z := by omega
        subst hi
        dsimp only at hx hR ⊢
        unfold b_X12_digest_L20
        rw [hx, if_pos (nI_le (Nat.le_refl i) (by omega))]
        dsimp only
        rw [← hR]
        unfold f_X12_digest_L47
        refine lp_r (fun j s => ∃ i, j + i = 14 ∧ s.1 = nI i ∧ s.2 = hsF x (fun i => V (nI i)) i) 14 ⟨0, by omega, nI_0.symm, rfl⟩ (by omega) ?_ ?_
        · rintro g2 ⟨y2, x2⟩ ⟨i2, hi2, hx2, hR2⟩
          have hi2 : i2 = 14 := by omega
          dsimp only at hx2 hR2 ⊢
          unfold b_X12_digest_L47
          rw [hx2, if_pos (show (14 : Int32) ≤ nI i2 by rw [hi2]; decide)]
          refine ⟨_, rfl, ?_, rfl⟩
          dsimp only
          rw [hR2, hi2]
        · rintro g2 j2 ⟨y2, x2⟩ ⟨i2, hi2, hx2, hR2⟩
          left
          dsimp only at hx2 hR2 ⊢
          unfold b_X12_digest_L47
          rw [hx2, if_neg (show ¬ (14 : Int32) ≤ nI i2 from nI_ge (b := 14) (by omega) (by decide)), (hV (nI i2)).2, Option.bind_some, say_ok, Option.bind_some]
          simp only [bnd, nI_1]
          refine ⟨_, ?_, rfl⟩
          refine ⟨i2 + 1, by omega, rfl, ?_⟩
          dsimp only
          rw [hR2, hsF]
      · rintro g j ⟨y, x⟩ ⟨i, hi, hx, hR⟩
        left
        dsimp only at hx hR ⊢
        unfold b_X12_digest_L20
        rw [hx, if_neg (nI_ge (show i < z by omega) (by omega))]
        simp only [gd, inb_nI (show i < 34 by omega) (by decide), if_true, nI_clamp (show i < 2 ^ 31 by omega), (hL' i (by omega)).2, say_ok, Option.bind_some, bnd, nI_1]
        refine ⟨_, ?_, rfl⟩
        refine ⟨i + 1, by omega, rfl, ?_⟩
        dsimp only
        rw [hR, hsF]
    unfold f_X11_digest f_X12_digest
    rcases hT with ⟨rfl, h⟩ | ⟨h0, bl, sp, h⟩
    · obtain ⟨rfl, rfl, rfl, rfl, -, -⟩ := h
      rw [has_0, lk_0, Option.bind_some, Option.bind_some]
      simp only [jn]
      refine ⟨1097, ?_, ?_⟩
      · rw [if_pos trivial]
        exact tailC 1097 _ _ _ _ _ _ _ _ _ _ _ _ _ _ _ _
      · rw [if_neg n10]
        exact tailM 1097 _ _ _ _ _ _ _ _ _ _ _ _ _
    · obtain ⟨g1, g2, g3, g4, rfl, rfl, rfl, rfl, g9, g10, g11⟩ := id h
      have hF := TF_of hK g1 g2 g3 g4
      rw [has_1 h0 ht, lk_1 g1 g2, Option.bind_some, Option.bind_some]
      simp only [jn]
      refine ⟨tdH (clN k) (clN w) bl sp c k w sb sdd se sf q3 M8 M9 M216, ?_, ?_⟩
      · rw [if_neg n10]
        refine bind_r (balls_ok h0 ht hF g9 hn h8 hSG 1097) (fun u hu => ?_)
        unfold f_X11_digest_L19
        refine lp_r (fun j s => ∃ i, j + i = 8 ∧ s.2 = nI i ∧ s.1 = hsF u.1 (seP bl c M9) i) 8 ⟨0, by omega, nI_0.symm, rfl⟩ (by omega) ?_ ?_
        · rintro g ⟨x, y⟩ ⟨i, hi, hx, hR⟩
          have hi : i = 8 := by omega
          dsimp only at hx hR ⊢
          unfold b_X11_digest_L19
          rw [hx, if_pos (show (8 : Int32) ≤ nI i by rw [hi]; decide)]
          dsimp only
          refine bind_r (strokes_ok hF g9 hn h216 x) (fun u2 hu2 => ?_)
          have e2 : u2.1 = tdH (clN k) (clN w) bl sp c k w sb sdd se sf q3 M8 M9 M216 := by rw [hu2, hR, hi, hu, tdH]
          rw [e2]
          exact tailC _ _ _ _ _ _ _ _ _ _ _ _ _ _ _ _ _
        · rintro g j ⟨x, y⟩ ⟨i, hi, hx, hR⟩
          left
          dsimp only at hx hR ⊢
          have hs : f_X11_sees n (nI t) tk c (nI i) = some (seP bl c M9 i) := by
            unfold f_X11_sees
            rcases b_dir (nI i) with ⟨d, hd, e, s1, -⟩ | ⟨s1, s2⟩
            · rw [s1, Option.bind_some, if_neg n10, has_1 h0 ht, Option.bind_some, if_neg n10]
              obtain ⟨r, e, hr⟩ := first_ok g2 g9 hn h9 (show i < 8 by omega)
              rw [e, hr]; rfl
            · exfalso
              have : ∀ i, i < 8 → ¬ f_X11_isDirection (nI i) = some 0 := by decide +kernel
              exact this i (by omega) s1
          unfold b_X11_digest_L19
          rw [hx, if_neg (show ¬ (8 : Int32) ≤ nI i from nI_ge (b := 8) (by omega) (by decide)), hs, Option.bind_some]
          simp only [bnd, nI_1]
          refine ⟨_, ?_, rfl⟩
          refine ⟨i + 1, by omega, rfl, ?_⟩
          dsimp only
          rw [hR, hsF]
      · rw [if_pos trivial]
        refine bind_r (sayTable_ok hF g9 hn h8 h9 h216 hSG g10 g11) (fun u hu => ?_)
        rw [hu.1, hu.2]
        exact tailM _ _ _ _ _ _ _ _ _ _ _ _ _ _
  exact two_i hHc hHm (fun r r' e e' => ⟨e.trans e'.1.symm, e'.2⟩)
end
end
section
/-! the law -/
theorem two_l {α β γ δ : Type} {o : Option α} {o' : Option β} {Q : α → β → Prop} {F : α → β → Option γ} {g : δ → Option γ} {R : δ → Prop} (h : Two o o' Q) (k : ∀ r r', Q r r' → ∃ a', R a' ∧ F r r' = g a') : ∃ a', R a' ∧ o.bind (fun u => o'.bind (fun u' => F u u')) = g a' := by
  obtain ⟨r, r', e, e', hq⟩ := h
  rw [e, e']
  exact k r r' hq
def LawR (t : Nat) (f_x_imageKept : Int32) (f_x_tablesRead : Int32) (f_x_plansDone : Int32) (f_x_safesDone : Int32) (f_xP_size : Int32) (v_xPl : Nat → Int32) (f_xG_seen : Int32) (f_xG_score : Int32) (f_xG_strokes : Int32) (f_xG_fouls : Int32) (f_xGT_taken : Int64) (f_xGT_size : Int32) (f_xGT_spot : Int32) (v_xGTc : Nat → Int32) (v_xGTk : Nat → Int32) (v_xGTw : Nat → Int32) (v_xGb : Nat → Int32) (v_xGd : Nat → Int32) (v_xGe : Nat → Int32) (v_xGf : Nat → Int32) (f_xK_seen : Int32) (f_xK_score : Int32) (f_xK_strokes : Int32) (f_xK_fouls : Int32) (f_xKT_taken : Int64) (f_xKT_size : Int32) (f_xKT_spot : Int32) (v_xKTc : Nat → Int32) (v_xKTk : Nat → Int32) (v_xKTw : Nat → Int32) (v_xKb : Nat → Int32) (v_xKd : Nat → Int32) (v_xKe : Nat → Int32) (v_xKf : Nat → Int32) (f_m_pageMany : Int32) (f_m_balls : Int32) (f_m_spot : Int32) (f_m_score : Int32) (f_m_strokesNow : Int32) (f_m_fouls : Int32) (f_m_tablesRead : Int32) (f_m_plansDone : Int32) (f_m_safesDone : Int32) (f_m_seenMany : Int32) (f_m_keptTable : Int32) (f_m_keptScore : Int32) (f_m_keptStrokes : Int32) (f_m_keptFouls : Int32) (f_m_keptSeen : Int32) (v_mP : Nat → Int32) (v_mk : Nat → Int32) (v_mw : Nat → Int32) (v_mc : Nat → Int32) (v_ms : Nat → Int32) (v_mK : Nat → Int32) (v_mC : Nat → Int32) (v_mS : Nat → Int32) : Prop := f_x_tablesRead = nI t ∧ f_m_tablesRead = nI t ∧ PgR f_xP_size v_xPl f_m_pageMany v_mP ∧ CnR f_x_plansDone f_m_plansDone ∧ CnR f_x_safesDone f_m_safesDone ∧ f_xG_score = f_m_score ∧ f_xG_strokes = f_m_strokesNow ∧ f_xG_fouls = f_m_fouls ∧ SnR f_xG_seen v_xGb v_xGd v_xGe v_xGf f_m_seenMany v_ms ∧ KW v_xGTk v_xGTw ∧ TbR t f_xGT_taken f_xGT_size f_xGT_spot v_xGTc v_xGTk v_xGTw f_m_balls f_m_spot v_mk v_mw v_mc ∧ KpR t f_x_imageKept f_xK_seen f_xK_score f_xK_strokes f_xK_fouls f_xKT_taken f_xKT_size f_xKT_spot v_xKTc v_xKTk v_xKTw v_xKb v_xKd v_xKe v_xKf f_m_balls f_m_spot f_m_keptTable f_m_keptScore f_m_keptStrokes f_m_keptFouls f_m_keptSeen v_mw v_mK v_mC v_mS
theorem lt_5 {L i : Nat} (hL : L ≤ 320) (hi : i ≤ 65) : (Int32.ofNat L - 5 < nI (5 * i)) ↔ L < 5 * i + 5 := by
  have e1 : (Int32.ofNat L).toInt = (L : Int) := nI_toInt (by omega)
  have e5 : (5 : Int32).toInt = 5 := by decide
  rw [Int32.lt_iff_toInt_lt, fb_subI (by rw [e1, e5]; omega) (by rw [e1, e5]; omega), e1, e5, nI_toInt (by omega)]
  omega
theorem t_x : ∀ i, i < 66 → nI (5 * i) + 1 = nI (5 * i + 1) ∧ nI (5 * i) + 2 = nI (5 * i + 2) ∧ nI (5 * i) + 3 = nI (5 * i + 3) ∧ nI (5 * i) + 4 = nI (5 * i + 4) ∧ nI (5 * i) + 5 = nI (5 * (i + 1)) := by decide +kernel
set_option maxHeartbeats 4000000 in
set_option maxRecDepth 100000 in
theorem law_ok {L n : Nat} (hL : L ≤ 320) (hn : 1000 ≤ n) (xs : Nat → Int32) : ∃ r, law0 n L xs = some r ∧ r = 1 := by
  unfold law0 f_L_law f_L_law_L18
  refine lp_r (fun j s => ∃ i t, j + i = 65 ∧ t ≤ i ∧ s.1 = nI (5 * i) ∧ LawR t s.2.1 s.2.2.1 s.2.2.2.1 s.2.2.2.2.1 s.2.2.2.2.2.1 s.2.2.2.2.2.2.1 s.2.2.2.2.2.2.2.1 s.2.2.2.2.2.2.2.2.1 s.2.2.2.2.2.2.2.2.2.1 s.2.2.2.2.2.2.2.2.2.2.1 s.2.2.2.2.2.2.2.2.2.2.2.1 s.2.2.2.2.2.2.2.2.2.2.2.2.1 s.2.2.2.2.2.2.2.2.2.2.2.2.2.1 s.2.2.2.2.2.2.2.2.2.2.2.2.2.2.1 s.2.2.2.2.2.2.2.2.2.2.2.2.2.2.2.1 s.2.2.2.2.2.2.2.2.2.2.2.2.2.2.2.2.1 s.2.2.2.2.2.2.2.2.2.2.2.2.2.2.2.2.2.1 s.2.2.2.2.2.2.2.2.2.2.2.2.2.2.2.2.2.2.1 s.2.2.2.2.2.2.2.2.2.2.2.2.2.2.2.2.2.2.2.1 s.2.2.2.2.2.2.2.2.2.2.2.2.2.2.2.2.2.2.2.2.1 s.2.2.2.2.2.2.2.2.2.2.2.2.2.2.2.2.2.2.2.2.2.1 s.2.2.2.2.2.2.2.2.2.2.2.2.2.2.2.2.2.2.2.2.2.2.1 s.2.2.2.2.2.2.2.2.2.2.2.2.2.2.2.2.2.2.2.2.2.2.2.1 s.2.2.2.2.2.2.2.2.2.2.2.2.2.2.2.2.2.2.2.2.2.2.2.2.1 s.2.2.2.2.2.2.2.2.2.2.2.2.2.2.2.2.2.2.2.2.2.2.2.2.2.1 s.2.2.2.2.2.2.2.2.2.2.2.2.2.2.2.2.2.2.2.2.2.2.2.2.2.2.1 s.2.2.2.2.2.2.2.2.2.2.2.2.2.2.2.2.2.2.2.2.2.2.2.2.2.2.2.1 s.2.2.2.2.2.2.2.2.2.2.2.2.2.2.2.2.2.2.2.2.2.2.2.2.2.2.2.2.1 s.2.2.2.2.2.2.2.2.2.2.2.2.2.2.2.2.2.2.2.2.2.2.2.2.2.2.2.2.2.1 s.2.2.2.2.2.2.2.2.2.2.2.2.2.2.2.2.2.2.2.2.2.2.2.2.2.2.2.2.2.2.1 s.2.2.2.2.2.2.2.2.2.2.2.2.2.2.2.2.2.2.2.2.2.2.2.2.2.2.2.2.2.2.2.1 s.2.2.2.2.2.2.2.2.2.2.2.2.2.2.2.2.2.2.2.2.2.2.2.2.2.2.2.2.2.2.2.2.1 s.2.2.2.2.2.2.2.2.2.2.2.2.2.2.2.2.2.2.2.2.2.2.2.2.2.2.2.2.2.2.2.2.2.1 s.2.2.2.2.2.2.2.2.2.2.2.2.2.2.2.2.2.2.2.2.2.2.2.2.2.2.2.2.2.2.2.2.2.2.1 s.2.2.2.2.2.2.2.2.2.2.2.2.2.2.2.2.2.2.2.2.2.2.2.2.2.2.2.2.2.2.2.2.2.2.2.2.2.2.2.2.2.2.2.2.2.2.2.2.2.2.2.2.2.2.2.2.2.2.2.2.2.2.2.2.1 s.2.2.2.2.2.2.2.2.2.2.2.2.2.2.2.2.2.2.2.2.2.2.2.2.2.2.2.2.2.2.2.2.2.2.2.2.2.2.2.2.2.2.2.2.2.2.2.2.2.2.2.2.2.2.2.2.2.2.2.2.2.2.2.2.2.1 s.2.2.2.2.2.2.2.2.2.2.2.2.2.2.2.2.2.2.2.2.2.2.2.2.2.2.2.2.2.2.2.2.2.2.2.2.2.2.2.2.2.2.2.2.2.2.2.2.2.2.2.2.2.2.2.2.2.2.2.2.2.2.2.2.2.2.1 s.2.2.2.2.2.2.2.2.2.2.2.2.2.2.2.2.2.2.2.2.2.2.2.2.2.2.2.2.2.2.2.2.2.2.2.2.2.2.2.2.2.2.2.2.2.2.2.2.2.2.2.2.2.2.2.2.2.2.2.2.2.2.2.2.2.2.2.1 s.2.2.2.2.2.2.2.2.2.2.2.2.2.2.2.2.2.2.2.2.2.2.2.2.2.2.2.2.2.2.2.2.2.2.2.2.2.2.2.2.2.2.2.2.2.2.2.2.2.2.2.2.2.2.2.2.2.2.2.2.2.2.2.2.2.2.2.2.1 s.2.2.2.2.2.2.2.2.2.2.2.2.2.2.2.2.2.2.2.2.2.2.2.2.2.2.2.2.2.2.2.2.2.2.2.2.2.2.2.2.2.2.2.2.2.2.2.2.2.2.2.2.2.2.2.2.2.2.2.2.2.2.2.2.2.2.2.2.2.1 s.2.2.2.2.2.2.2.2.2.2.2.2.2.2.2.2.2.2.2.2.2.2.2.2.2.2.2.2.2.2.2.2.2.2.2.2.2.2.2.2.2.2.2.2.2.2.2.2.2.2.2.2.2.2.2.2.2.2.2.2.2.2.2.2.2.2.2.2.2.2.1 s.2.2.2.2.2.2.2.2.2.2.2.2.2.2.2.2.2.2.2.2.2.2.2.2.2.2.2.2.2.2.2.2.2.2.2.2.2.2.2.2.2.2.2.2.2.2.2.2.2.2.2.2.2.2.2.2.2.2.2.2.2.2.2.2.2.2.2.2.2.2.2.2.2.2.2.2.2.2.2.2.2.1 s.2.2.2.2.2.2.2.2.2.2.2.2.2.2.2.2.2.2.2.2.2.2.2.2.2.2.2.2.2.2.2.2.2.2.2.2.2.2.2.2.2.2.2.2.2.2.2.2.2.2.2.2.2.2.2.2.2.2.2.2.2.2.2.2.2.2.2.2.2.2.2.2.2.2.2.2.2.2.2.2.2.2.1 s.2.2.2.2.2.2.2.2.2.2.2.2.2.2.2.2.2.2.2.2.2.2.2.2.2.2.2.2.2.2.2.2.2.2.2.2.2.2.2.2.2.2.2.2.2.2.2.2.2.2.2.2.2.2.2.2.2.2.2.2.2.2.2.2.2.2.2.2.2.2.2.2.2.2.2.2.2.2.2.2.2.2.2.1 s.2.2.2.2.2.2.2.2.2.2.2.2.2.2.2.2.2.2.2.2.2.2.2.2.2.2.2.2.2.2.2.2.2.2.2.2.2.2.2.2.2.2.2.2.2.2.2.2.2.2.2.2.2.2.2.2.2.2.2.2.2.2.2.2.2.2.2.2.2.2.2.2.2.2.2.2.2.2.2.2.2.2.2.2.2.1 s.2.2.2.2.2.2.2.2.2.2.2.2.2.2.2.2.2.2.2.2.2.2.2.2.2.2.2.2.2.2.2.2.2.2.2.2.2.2.2.2.2.2.2.2.2.2.2.2.2.2.2.2.2.2.2.2.2.2.2.2.2.2.2.2.2.2.2.2.2.2.2.2.2.2.2.2.2.2.2.2.2.2.2.2.2.2.1 s.2.2.2.2.2.2.2.2.2.2.2.2.2.2.2.2.2.2.2.2.2.2.2.2.2.2.2.2.2.2.2.2.2.2.2.2.2.2.2.2.2.2.2.2.2.2.2.2.2.2.2.2.2.2.2.2.2.2.2.2.2.2.2.2.2.2.2.2.2.2.2.2.2.2.2.2.2.2.2.2.2.2.2.2.2.2.2.1 s.2.2.2.2.2.2.2.2.2.2.2.2.2.2.2.2.2.2.2.2.2.2.2.2.2.2.2.2.2.2.2.2.2.2.2.2.2.2.2.2.2.2.2.2.2.2.2.2.2.2.2.2.2.2.2.2.2.2.2.2.2.2.2.2.2.2.2.2.2.2.2.2.2.2.2.2.2.2.2.2.2.2.2.2.2.2.2.2.1 s.2.2.2.2.2.2.2.2.2.2.2.2.2.2.2.2.2.2.2.2.2.2.2.2.2.2.2.2.2.2.2.2.2.2.2.2.2.2.2.2.2.2.2.2.2.2.2.2.2.2.2.2.2.2.2.2.2.2.2.2.2.2.2.2.2.2.2.2.2.2.2.2.2.2.2.2.2.2.2.2.2.2.2.2.2.2.2.2.2.1 s.2.2.2.2.2.2.2.2.2.2.2.2.2.2.2.2.2.2.2.2.2.2.2.2.2.2.2.2.2.2.2.2.2.2.2.2.2.2.2.2.2.2.2.2.2.2.2.2.2.2.2.2.2.2.2.2.2.2.2.2.2.2.2.2.2.2.2.2.2.2.2.2.2.2.2.2.2.2.2.2.2.2.2.2.2.2.2.2.2.2.2.1 s.2.2.2.2.2.2.2.2.2.2.2.2.2.2.2.2.2.2.2.2.2.2.2.2.2.2.2.2.2.2.2.2.2.2.2.2.2.2.2.2.2.2.2.2.2.2.2.2.2.2.2.2.2.2.2.2.2.2.2.2.2.2.2.2.2.2.2.2.2.2.2.2.2.2.2.2.2.2.2.2.2.2.2.2.2.2.2.2.2.2.2.2.1 s.2.2.2.2.2.2.2.2.2.2.2.2.2.2.2.2.2.2.2.2.2.2.2.2.2.2.2.2.2.2.2.2.2.2.2.2.2.2.2.2.2.2.2.2.2.2.2.2.2.2.2.2.2.2.2.2.2.2.2.2.2.2.2.2.2.2.2.2.2.2.2.2.2.2.2.2.2.2.2.2.2.2.2.2.2.2.2.2.2.2.2.2.2.1 s.2.2.2.2.2.2.2.2.2.2.2.2.2.2.2.2.2.2.2.2.2.2.2.2.2.2.2.2.2.2.2.2.2.2.2.2.2.2.2.2.2.2.2.2.2.2.2.2.2.2.2.2.2.2.2.2.2.2.2.2.2.2.2.2.2.2.2.2.2.2.2.2.2.2.2.2.2.2.2.2.2.2.2.2.2.2.2.2.2.2.2.2.2.2.1 s.2.2.2.2.2.2.2.2.2.2.2.2.2.2.2.2.2.2.2.2.2.2.2.2.2.2.2.2.2.2.2.2.2.2.2.2.2.2.2.2.2.2.2.2.2.2.2.2.2.2.2.2.2.2.2.2.2.2.2.2.2.2.2.2.2.2.2.2.2.2.2.2.2.2.2.2.2.2.2.2.2.2.2.2.2.2.2.2.2.2.2.2.2.2.2.2.2.1 s.2.2.2.2.2.2.2.2.2.2.2.2.2.2.2.2.2.2.2.2.2.2.2.2.2.2.2.2.2.2.2.2.2.2.2.2.2.2.2.2.2.2.2.2.2.2.2.2.2.2.2.2.2.2.2.2.2.2.2.2.2.2.2.2.2.2.2.2.2.2.2.2.2.2.2.2.2.2.2.2.2.2.2.2.2.2.2.2.2.2.2.2.2.2.2.2.2.2.2.1 s.2.2.2.2.2.2.2.2.2.2.2.2.2.2.2.2.2.2.2.2.2.2.2.2.2.2.2.2.2.2.2.2.2.2.2.2.2.2.2.2.2.2.2.2.2.2.2.2.2.2.2.2.2.2.2.2.2.2.2.2.2.2.2.2.2.2.2.2.2.2.2.2.2.2.2.2.2.2.2.2.2.2.2.2.2.2.2.2.2.2.2.2.2.2.2.2.2.2.2.2.1 s.2.2.2.2.2.2.2.2.2.2.2.2.2.2.2.2.2.2.2.2.2.2.2.2.2.2.2.2.2.2.2.2.2.2.2.2.2.2.2.2.2.2.2.2.2.2.2.2.2.2.2.2.2.2.2.2.2.2.2.2.2.2.2.2.2.2.2.2.2.2.2.2.2.2.2.2.2.2.2.2.2.2.2.2.2.2.2.2.2.2.2.2.2.2.2.2.2.2.2.2.2) 65 ⟨0, 0, by omega, by omega, rfl, ?_⟩ (by omega) ?_ ?_
  · refine ⟨rfl, rfl, ⟨0, fun _ => 0, by omega, rfl, rfl, fun i _ => ⟨show (0 : Nat) < 127 by decide, rfl⟩, fun i _ => ⟨show (0 : Nat) < 127 by decide, rfl⟩⟩, ⟨0, by omega, rfl, rfl⟩, ⟨0, by omega, rfl, rfl⟩, rfl, rfl, rfl, ⟨0, rfl, rfl, by omega, fun i _ => ⟨rfl, rfl, rfl, rfl⟩, fun i hi => absurd hi (Nat.not_lt_zero _)⟩, ⟨fun d _ => ⟨0, by omega, rfl⟩, fun d _ => ⟨0, by omega, rfl⟩, rfl, rfl⟩, Or.inl ⟨rfl, rfl, rfl, rfl, rfl, ?_, rfl⟩, Or.inl ⟨rfl, Or.inl rfl⟩⟩
    intro d hd
    dsimp only
    have : d = 0 ∨ d = 1 ∨ d = 2 ∨ d = 3 ∨ d = 4 ∨ d = 5 ∨ d = 6 := by omega
    rcases this with rfl | rfl | rfl | rfl | rfl | rfl | rfl <;> simp [upd]
  · rintro g s ⟨i, t, hi, ht, hx, -⟩
    unfold b_L_law_L18
    rw [hx, if_pos ((lt_5 hL (by omega)).mpr (by omega))]
    exact ⟨_, rfl, rfl⟩
  · rintro g j ⟨z_x3, z_f_x_imageKept, z_f_x_tablesRead, z_f_x_plansDone, z_f_x_safesDone, z_f_xP_size, z_v_xPl, z_f_xG_seen, z_f_xG_score, z_f_xG_strokes, z_f_xG_fouls, z_f_xGT_taken, z_f_xGT_size, z_f_xGT_spot, z_v_xGTc, z_v_xGTk, z_v_xGTw, z_v_xGb, z_v_xGd, z_v_xGe, z_v_xGf, z_f_xK_seen, z_f_xK_score, z_f_xK_strokes, z_f_xK_fouls, z_f_xKT_taken, z_f_xKT_size, z_f_xKT_spot, z_v_xKTc, z_v_xKTk, z_v_xKTw, z_v_xKb, z_v_xKd, z_v_xKe, z_v_xKf, z_f_xR_moves, z_f_xR_bounces, z_f_xR_potted, z_f_xR_brings, z_f_xR_firstHitDirection, z_f_xR_firstHitPower, z_f_xR_foul, z_f_xRT_taken, z_f_xRT_size, z_f_xRT_spot, z_v_xRTc, z_v_xRTk, z_v_xRTw, z_f_xA_chosen, z_f_xA_value, z_f_xAS_moves, z_f_xAS_bounces, z_f_xAS_potted, z_f_xAS_brings, z_f_xAS_firstHitDirection, z_f_xAS_firstHitPower, z_f_xAS_foul, z_f_xAST_taken, z_f_xAST_size, z_f_xAST_spot, z_v_xASTc, z_v_xASTk, z_v_xASTw, z_v_xUn, z_f_m_pageMany, z_f_m_balls, z_f_m_spot, z_f_m_score, z_f_m_strokesNow, z_f_m_fouls, z_f_m_tablesRead, z_f_m_potted, z_f_m_moves, z_f_m_bounces, z_f_m_hitFirst, z_f_m_hitPower, z_f_m_hitDown, z_f_m_hitRight, z_f_m_isFoul, z_f_m_bestCode, z_f_m_bestBrings, z_f_m_plansDone, z_f_m_safesDone, z_f_m_seenMany, z_f_m_seedNow, z_f_m_keptTable, z_f_m_keptScore, z_f_m_keptStrokes, z_f_m_keptFouls, z_f_m_keptSeen, z_f_m_hash, z_v_mP, z_v_mk, z_v_mw, z_v_mc, z_v_mo, z_v_mt, z_v_ms, z_v_mb, z_v_mK, z_v_mC, z_v_mS⟩ ⟨i, t, hi, ht, hx, hR⟩
    dsimp only at hx hR ⊢
    unfold b_L_law_L18
    subst hx
    by_cases hend : L < 5 * i + 5
    · rw [if_pos ((lt_5 hL (by omega)).mpr hend)]
      exact Or.inr ⟨_, rfl, rfl⟩
    rw [if_neg (fun z => hend ((lt_5 hL (by omega)).mp z))]
    left
    have ht9 : t < 1000 := by omega
    have hxs := t_x i (by omega)
    obtain ⟨rfl, rfl, hPg, hC1, hC2, rfl, rfl, rfl, hS, hK, hT, hP⟩ := hR
    simp only [gd, inb_nI (show 5 * i < L by omega) (by omega), hxs.1, hxs.2.1, hxs.2.2.1, hxs.2.2.2.1, hxs.2.2.2.2, inb_nI (show 5 * i + 1 < L by omega) (by omega), inb_nI (show 5 * i + 2 < L by omega) (by omega), inb_nI (show 5 * i + 3 < L by omega) (by omega), inb_nI (show 5 * i + 4 < L by omega) (by omega), if_true, bnd, jn]
    generalize xs (nI (5 * i)).toNatClampNeg &&& 31 = W
    by_cases hw0 : W = 0
    · rw [if_pos hw0]
      refine two_l (m_letter hPg _) (fun r r' h => ?_)
      rw [if_pos h.1]
      refine ⟨_, ?_, rfl⟩
      exact ⟨i + 1, t, by omega, by omega, rfl, rfl, rfl, h.2, hC1, hC2, rfl, rfl, rfl, hS, hK, hT, hP⟩
    rw [if_neg hw0]
    by_cases hw1 : W = 1
    · rw [if_pos hw1]
      refine two_l (m_blank hPg) (fun r r' h => ?_)
      rw [if_pos h.1]
      refine ⟨_, ?_, rfl⟩
      exact ⟨i + 1, t, by omega, by omega, rfl, rfl, rfl, h.2, hC1, hC2, rfl, rfl, rfl, hS, hK, hT, hP⟩
    rw [if_neg hw1]
    by_cases hw2 : W = 2
    · rw [if_pos hw2]
      refine two_l (m_fault hn hPg) (fun r r' h => ?_)
      rw [if_pos h]
      refine ⟨_, ?_, rfl⟩
      exact ⟨i + 1, t, by omega, by omega, rfl, rfl, rfl, hPg, hC1, hC2, rfl, rfl, rfl, hS, hK, hT, hP⟩
    rw [if_neg hw2]
    by_cases hw3 : W = 3
    · rw [if_pos hw3]
      refine two_l (m_table hn hPg hT hK hS hP) (fun r r' h => ?_)
      obtain ⟨h1, t2, ht2, q1, q2, q3, q4, q5, q6, q7, q8, q9, q10⟩ := h
      rw [if_pos h1]
      refine ⟨_, ?_, rfl⟩
      exact ⟨i + 1, t2, by omega, by omega, rfl, q1, q2, q3, hC1, hC2, q5, q6, q7, q4, q9, q8, q10⟩
    rw [if_neg hw3]
    by_cases hw4 : W = 4
    · rw [if_pos hw4]
      refine two_l (m_ball hn ht9 hT hK hS _ _) (fun r r' h => ?_)
      rw [if_pos h.1]
      refine ⟨_, ?_, rfl⟩
      exact ⟨i + 1, t, by omega, by omega, rfl, rfl, rfl, hPg, hC1, hC2, rfl, rfl, rfl, hS, hK, by rw [h.2]; exact hT, hP⟩
    rw [if_neg hw4]
    by_cases hw5 : W = 5
    · rw [if_pos hw5]
      refine two_l (m_as ht9 hT hK _ _) (fun r r' h => ?_)
      rw [if_pos h]
      refine ⟨_, ?_, rfl⟩
      exact ⟨i + 1, t, by omega, by omega, rfl, rfl, rfl, hPg, hC1, hC2, rfl, rfl, rfl, hS, hK, hT, hP⟩
    rw [if_neg hw5]
    by_cases hw6 : W = 6
    · rw [if_pos hw6]
      refine two_l (m_cell hn ht9 hT _) (fun r r' h => ?_)
      rw [if_pos h]
      refine ⟨_, ?_, rfl⟩
      exact ⟨i + 1, t, by omega, by omega, rfl, rfl, rfl, hPg, hC1, hC2, rfl, rfl, rfl, hS, hK, hT, hP⟩
    rw [if_neg hw6]
    by_cases hw7 : W = 7
    · rw [if_pos hw7]
      refine two_l (m_sees hn ht9 hT _) (fun r r' h => ?_)
      rw [if_pos h]
      refine ⟨_, ?_, rfl⟩
      exact ⟨i + 1, t, by omega, by omega, rfl, rfl, rfl, hPg, hC1, hC2, rfl, rfl, rfl, hS, hK, hT, hP⟩
    rw [if_neg hw7]
    by_cases hw8 : W = 8
    · rw [if_pos hw8]
      refine two_l (m_put hn ht9 hT _ _) (fun r r' h => ?_)
      rw [if_pos h.1]
      refine ⟨_, ?_, rfl⟩
      exact ⟨i + 1, t, by omega, by omega, rfl, rfl, rfl, hPg, hC1, hC2, rfl, rfl, rfl, hS, hK, h.2, hP⟩
    rw [if_neg hw8]
    by_cases hw9 : W = 9
    · rw [if_pos hw9]
      refine two_l (m_lift ht9 hT _) (fun r r' h => ?_)
      rw [if_pos h.1]
      refine ⟨_, ?_, rfl⟩
      exact ⟨i + 1, t, by omega, by omega, rfl, rfl, rfl, hPg, hC1, hC2, rfl, rfl, rfl, hS, hK, h.2, hP⟩
    rw [if_neg hw9]
    by_cases hw10 : W = 10
    · rw [if_pos hw10]
      refine two_l (m_change ht9 hT hK _ _) (fun r r' h => ?_)
      rw [if_pos h.1]
      refine ⟨_, ?_, rfl⟩
      exact ⟨i + 1, t, by omega, by omega, rfl, rfl, rfl, hPg, hC1, hC2, rfl, rfl, rfl, hS, h.2.2, h.2.1, hP⟩
    rw [if_neg hw10]
    by_cases hw11 : W = 11
    · rw [if_pos hw11]
      refine two_l (m_stroke hn ht9 hT hK _ _ _) (fun r r' h => ?_)
      rw [if_pos h.1]
      refine ⟨_, ?_, rfl⟩
      exact ⟨i + 1, t, by omega, by omega, rfl, rfl, rfl, hPg, hC1, hC2, h.2.1, h.2.2.1, h.2.2.2.1, hS, h.2.2.2.2.2, h.2.2.2.2.1, hP⟩
    rw [if_neg hw11]
    by_cases hw12 : W = 12
    · rw [if_pos hw12]
      refine two_l (m_would hn ht9 hT hK _ _ _ _) (fun r r' h => ?_)
      rw [if_pos h]
      refine ⟨_, ?_, rfl⟩
      exact ⟨i + 1, t, by omega, by omega, rfl, rfl, rfl, hPg, hC1, hC2, rfl, rfl, rfl, hS, hK, hT, hP⟩
    rw [if_neg hw12]
    by_cases hw13 : W = 13
    · rw [if_pos hw13]
      refine two_l (m_best hn ht9 hT hK _) (fun r r' h => ?_)
      rw [if_pos h]
      refine ⟨_, ?_, rfl⟩
      exact ⟨i + 1, t, by omega, by omega, rfl, rfl, rfl, hPg, hC1, hC2, rfl, rfl, rfl, hS, hK, hT, hP⟩
    rw [if_neg hw13]
    by_cases hw14 : W = 14
    · rw [if_pos hw14]
      refine two_l (m_plan hn ht9 hT hK hC1 _) (fun r r' h => ?_)
      rw [if_pos h.1]
      refine ⟨_, ?_, rfl⟩
      exact ⟨i + 1, t, by omega, by omega, rfl, rfl, rfl, hPg, h.2, hC2, rfl, rfl, rfl, hS, hK, hT, hP⟩
    rw [if_neg hw14]
    by_cases hw15 : W = 15
    · rw [if_pos hw15]
      refine two_l (m_safe hn ht9 hT hK hC2 _) (fun r r' h => ?_)
      rw [if_pos h.1]
      refine ⟨_, ?_, rfl⟩
      exact ⟨i + 1, t, by omega, by omega, rfl, rfl, rfl, hPg, hC1, h.2, rfl, rfl, rfl, hS, hK, hT, hP⟩
    rw [if_neg hw15]
    by_cases hw16 : W = 16
    · rw [if_pos hw16]
      refine two_l (m_wanted hn ht9 hT hK _) (fun r r' h => ?_)
      rw [if_pos ((lg_cmp_eq _ _).mpr h)]
      refine ⟨_, ?_, rfl⟩
      exact ⟨i + 1, t, by omega, by omega, rfl, rfl, rfl, hPg, hC1, hC2, rfl, rfl, rfl, hS, hK, hT, hP⟩
    rw [if_neg hw16]
    by_cases hw17 : W = 17
    · rw [if_pos hw17]
      refine two_l (m_see ht9 hT hS _ _ _ _) (fun r r' h => ?_)
      rw [if_pos h.1]
      refine ⟨_, ?_, rfl⟩
      exact ⟨i + 1, t, by omega, by omega, rfl, rfl, rfl, hPg, hC1, hC2, rfl, rfl, rfl, h.2, hK, hT, hP⟩
    rw [if_neg hw17]
    by_cases hw18 : W = 18
    · rw [if_pos hw18]
      refine two_l (m_forget hS) (fun r r' h => ?_)
      rw [if_pos h.1]
      refine ⟨_, ?_, rfl⟩
      exact ⟨i + 1, t, by omega, by omega, rfl, rfl, rfl, hPg, hC1, hC2, rfl, rfl, rfl, h.2, hK, hT, hP⟩
    rw [if_neg hw18]
    by_cases hw19 : W = 19
    · rw [if_pos hw19]
      refine two_l (m_frames hn ht9 hT hK _ _ _) (fun r r' h => ?_)
      rw [if_pos h]
      refine ⟨_, ?_, rfl⟩
      exact ⟨i + 1, t, by omega, by omega, rfl, rfl, rfl, hPg, hC1, hC2, rfl, rfl, rfl, hS, hK, hT, hP⟩
    rw [if_neg hw19]
    by_cases hw20 : W = 20
    · rw [if_pos hw20]
      refine two_l (m_image hn ht9 hT hK hS hP) (fun r r' h => ?_)
      rw [if_pos h.1]
      refine ⟨_, ?_, rfl⟩
      exact ⟨i + 1, t, by omega, by omega, rfl, rfl, rfl, hPg, hC1, hC2, rfl, rfl, rfl, hS, hK, hT, h.2⟩
    rw [if_neg hw20]
    by_cases hw21 : W = 21
    · rw [if_pos hw21]
      refine two_l (m_restore hn ht9 hT hK hS hP) (fun r r' h => ?_)
      rw [if_pos h.1]
      refine ⟨_, ?_, rfl⟩
      exact ⟨i + 1, t, by omega, by omega, rfl, rfl, rfl, hPg, hC1, hC2, h.2.2.1, h.2.2.2.1, h.2.2.2.2.1, h.2.1, h.2.2.2.2.2.2, h.2.2.2.2.2.1, hP⟩
    rw [if_neg hw21]
    by_cases hw22 : W = 22
    · rw [if_pos hw22]
      refine two_l (m_count hn ht9 hT hK hPg hC1 hC2 hS _) (fun r r' h => ?_)
      rw [if_pos h]
      refine ⟨_, ?_, rfl⟩
      exact ⟨i + 1, t, by omega, by omega, rfl, rfl, rfl, hPg, hC1, hC2, rfl, rfl, rfl, hS, hK, hT, hP⟩
    rw [if_neg hw22]
    by_cases hw23 : W = 23
    · rw [if_pos hw23]
      refine two_l (m_digest hn ht9 hT hK hPg hC1 hC2 hS) (fun r r' h => ?_)
      rw [if_pos ((lg_cmp_eq _ _).mpr h.1)]
      refine ⟨_, ?_, rfl⟩
      exact ⟨i + 1, t, by omega, by omega, rfl, rfl, rfl, hPg, hC1, hC2, rfl, rfl, rfl, hS, hK, by rw [h.2]; exact hT, hP⟩
    rw [if_neg hw23]
    refine ⟨_, ?_, rfl⟩
    exact ⟨i + 1, t, by omega, by omega, rfl, rfl, rfl, hPg, hC1, hC2, rfl, rfl, rfl, hS, hK, hT, hP⟩
end
