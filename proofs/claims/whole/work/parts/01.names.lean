-- ===== PART A: goes FIRST, ahead of the names: the tables' words, and 'selects' of the private methods out of them =====
/-- a private method of a class that the tables say can be made, by its rows of tables_1 -/
def lw_okq (q : MethodName × Nat) : Prop := (q.1.cls ≠ "java/lang/invoke/MethodHandle" ∧ q.1.cls ≠ "java/lang/invoke/VarHandle") ∧ Cond.instantiable q.1.cls q.2 ∈ tables_1 ∧ Cond.privateMethod q.1 ∈ tables_1 ∧ Cond.instanceMethod q.1 ∈ tables_1
theorem lw_p0 : lw_okq (⟨"WhiteWanted$Page", "fits", "(I)Z"⟩, 2) := ⟨⟨by decide +kernel, by decide +kernel⟩, List.mem_of_getElem? (i := 68) (by decide +kernel), List.mem_of_getElem? (i := 299) (by decide +kernel), List.mem_of_getElem? (i := 300) (by decide +kernel)⟩
theorem lw_p1 : lw_okq (⟨"WhiteWanted$Page", "digitAt", "(I)I"⟩, 2) := ⟨⟨by decide +kernel, by decide +kernel⟩, List.mem_of_getElem? (i := 68) (by decide +kernel), List.mem_of_getElem? (i := 303) (by decide +kernel), List.mem_of_getElem? (i := 304) (by decide +kernel)⟩
theorem lw_p2 : lw_okq (⟨"WhiteWanted$Page", "at", "(I)I"⟩, 2) := ⟨⟨by decide +kernel, by decide +kernel⟩, List.mem_of_getElem? (i := 68) (by decide +kernel), List.mem_of_getElem? (i := 307) (by decide +kernel), List.mem_of_getElem? (i := 308) (by decide +kernel)⟩
theorem lw_p3 : lw_okq (⟨"WhiteWanted$Page", "isFreeCell", "(I)Z"⟩, 2) := ⟨⟨by decide +kernel, by decide +kernel⟩, List.mem_of_getElem? (i := 68) (by decide +kernel), List.mem_of_getElem? (i := 317) (by decide +kernel), List.mem_of_getElem? (i := 318) (by decide +kernel)⟩
theorem lw_p4 : lw_okq (⟨"WhiteWanted$Page", "cellAt", "(I)I"⟩, 2) := ⟨⟨by decide +kernel, by decide +kernel⟩, List.mem_of_getElem? (i := 68) (by decide +kernel), List.mem_of_getElem? (i := 321) (by decide +kernel), List.mem_of_getElem? (i := 322) (by decide +kernel)⟩
theorem lw_p5 : lw_okq (⟨"WhiteWanted", "isBall", "(I)Z"⟩, 11) := ⟨⟨by decide +kernel, by decide +kernel⟩, List.mem_of_getElem? (i := 24) (by decide +kernel), List.mem_of_getElem? (i := 455) (by decide +kernel), List.mem_of_getElem? (i := 456) (by decide +kernel)⟩
theorem lw_p6 : lw_okq (⟨"WhiteWanted", "hasTable", "()Z"⟩, 11) := ⟨⟨by decide +kernel, by decide +kernel⟩, List.mem_of_getElem? (i := 24) (by decide +kernel), List.mem_of_getElem? (i := 459) (by decide +kernel), List.mem_of_getElem? (i := 460) (by decide +kernel)⟩
theorem lw_p7 : lw_okq (⟨"WhiteWanted$Guesser", "endAs", "(LWhiteWanted$Table;IIII)I"⟩, 2) := ⟨⟨by decide +kernel, by decide +kernel⟩, List.mem_of_getElem? (i := 224) (by decide +kernel), List.mem_of_getElem? (i := 479) (by decide +kernel), List.mem_of_getElem? (i := 480) (by decide +kernel)⟩
theorem lw_p8 : lw_okq (⟨"WhiteWanted$Stroke", "roll", "(III)V"⟩, 9) := ⟨⟨by decide +kernel, by decide +kernel⟩, List.mem_of_getElem? (i := 160) (by decide +kernel), List.mem_of_getElem? (i := 499) (by decide +kernel), List.mem_of_getElem? (i := 500) (by decide +kernel)⟩
theorem lw_p9 : lw_okq (⟨"WhiteWanted$Stroke", "kind", "(I)LWhiteWanted$Ball;"⟩, 9) := ⟨⟨by decide +kernel, by decide +kernel⟩, List.mem_of_getElem? (i := 160) (by decide +kernel), List.mem_of_getElem? (i := 517) (by decide +kernel), List.mem_of_getElem? (i := 518) (by decide +kernel)⟩
theorem lw_p10 : lw_okq (⟨"WhiteWanted$Stroke", "noteWhiteHit", "(II)V"⟩, 9) := ⟨⟨by decide +kernel, by decide +kernel⟩, List.mem_of_getElem? (i := 160) (by decide +kernel), List.mem_of_getElem? (i := 539) (by decide +kernel), List.mem_of_getElem? (i := 540) (by decide +kernel)⟩
theorem lw_p11 : lw_okq (⟨"WhiteWanted$Stroke", "notePotted", "(I)V"⟩, 9) := ⟨⟨by decide +kernel, by decide +kernel⟩, List.mem_of_getElem? (i := 160) (by decide +kernel), List.mem_of_getElem? (i := 560) (by decide +kernel), List.mem_of_getElem? (i := 561) (by decide +kernel)⟩
theorem lw_p12 : lw_okq (⟨"WhiteWanted$Stroke", "isWhitePotted", "()Z"⟩, 9) := ⟨⟨by decide +kernel, by decide +kernel⟩, List.mem_of_getElem? (i := 160) (by decide +kernel), List.mem_of_getElem? (i := 564) (by decide +kernel), List.mem_of_getElem? (i := 565) (by decide +kernel)⟩
theorem lw_p13 : lw_okq (⟨"WhiteWanted$Stroke", "worthPotted", "()I"⟩, 9) := ⟨⟨by decide +kernel, by decide +kernel⟩, List.mem_of_getElem? (i := 160) (by decide +kernel), List.mem_of_getElem? (i := 568) (by decide +kernel), List.mem_of_getElem? (i := 569) (by decide +kernel)⟩
theorem lw_p14 : lw_okq (⟨"WhiteWanted$Guesser", "leftAtWorst", "(LWhiteWanted$Table;III)I"⟩, 2) := ⟨⟨by decide +kernel, by decide +kernel⟩, List.mem_of_getElem? (i := 224) (by decide +kernel), List.mem_of_getElem? (i := 586) (by decide +kernel), List.mem_of_getElem? (i := 587) (by decide +kernel)⟩
theorem lw_p15 : lw_okq (⟨"WhiteWanted", "wantedCells", "(I)J"⟩, 11) := ⟨⟨by decide +kernel, by decide +kernel⟩, List.mem_of_getElem? (i := 24) (by decide +kernel), List.mem_of_getElem? (i := 591) (by decide +kernel), List.mem_of_getElem? (i := 592) (by decide +kernel)⟩
def lw_privs_1 : List (MethodName × Nat) := [(⟨"WhiteWanted$Page", "fits", "(I)Z"⟩, 2), (⟨"WhiteWanted$Page", "digitAt", "(I)I"⟩, 2), (⟨"WhiteWanted$Page", "at", "(I)I"⟩, 2), (⟨"WhiteWanted$Page", "isFreeCell", "(I)Z"⟩, 2), (⟨"WhiteWanted$Page", "cellAt", "(I)I"⟩, 2), (⟨"WhiteWanted", "isBall", "(I)Z"⟩, 11), (⟨"WhiteWanted", "hasTable", "()Z"⟩, 11), (⟨"WhiteWanted$Guesser", "endAs", "(LWhiteWanted$Table;IIII)I"⟩, 2), (⟨"WhiteWanted$Stroke", "roll", "(III)V"⟩, 9), (⟨"WhiteWanted$Stroke", "kind", "(I)LWhiteWanted$Ball;"⟩, 9), (⟨"WhiteWanted$Stroke", "noteWhiteHit", "(II)V"⟩, 9), (⟨"WhiteWanted$Stroke", "notePotted", "(I)V"⟩, 9), (⟨"WhiteWanted$Stroke", "isWhitePotted", "()Z"⟩, 9), (⟨"WhiteWanted$Stroke", "worthPotted", "()I"⟩, 9), (⟨"WhiteWanted$Guesser", "leftAtWorst", "(LWhiteWanted$Table;III)I"⟩, 2), (⟨"WhiteWanted", "wantedCells", "(I)J"⟩, 11)]
theorem lw_r1 : ∀ q ∈ lw_privs_1, lw_okq q := List.forall_mem_cons.mpr ⟨lw_p0, List.forall_mem_cons.mpr ⟨lw_p1, List.forall_mem_cons.mpr ⟨lw_p2, List.forall_mem_cons.mpr ⟨lw_p3, List.forall_mem_cons.mpr ⟨lw_p4, List.forall_mem_cons.mpr ⟨lw_p5, List.forall_mem_cons.mpr ⟨lw_p6, List.forall_mem_cons.mpr ⟨lw_p7, List.forall_mem_cons.mpr ⟨lw_p8, List.forall_mem_cons.mpr ⟨lw_p9, List.forall_mem_cons.mpr ⟨lw_p10, List.forall_mem_cons.mpr ⟨lw_p11, List.forall_mem_cons.mpr ⟨lw_p12, List.forall_mem_cons.mpr ⟨lw_p13, List.forall_mem_cons.mpr ⟨lw_p14, List.forall_mem_cons.mpr ⟨lw_p15, fun _ h => absurd h List.not_mem_nil⟩⟩⟩⟩⟩⟩⟩⟩⟩⟩⟩⟩⟩⟩⟩⟩
theorem lw_p16 : lw_okq (⟨"WhiteWanted$Adviser", "canPotFrom", "(LWhiteWanted$Table;II)Z"⟩, 4) := ⟨⟨by decide +kernel, by decide +kernel⟩, List.mem_of_getElem? (i := 205) (by decide +kernel), List.mem_of_getElem? (i := 601) (by decide +kernel), List.mem_of_getElem? (i := 602) (by decide +kernel)⟩
theorem lw_p17 : lw_okq (⟨"WhiteWanted", "isOfKind", "(II)Z"⟩, 11) := ⟨⟨by decide +kernel, by decide +kernel⟩, List.mem_of_getElem? (i := 24) (by decide +kernel), List.mem_of_getElem? (i := 628) (by decide +kernel), List.mem_of_getElem? (i := 629) (by decide +kernel)⟩
theorem lw_p18 : lw_okq (⟨"WhiteWanted", "isObjectBall", "(I)Z"⟩, 11) := ⟨⟨by decide +kernel, by decide +kernel⟩, List.mem_of_getElem? (i := 24) (by decide +kernel), List.mem_of_getElem? (i := 666) (by decide +kernel), List.mem_of_getElem? (i := 667) (by decide +kernel)⟩
theorem lw_p19 : lw_okq (⟨"WhiteWanted$Adviser", "tryStroke", "(LWhiteWanted$Table;I)V"⟩, 4) := ⟨⟨by decide +kernel, by decide +kernel⟩, List.mem_of_getElem? (i := 205) (by decide +kernel), List.mem_of_getElem? (i := 705) (by decide +kernel), List.mem_of_getElem? (i := 706) (by decide +kernel)⟩
theorem lw_p20 : lw_okq (⟨"WhiteWanted$Adviser", "choose", "(II)V"⟩, 4) := ⟨⟨by decide +kernel, by decide +kernel⟩, List.mem_of_getElem? (i := 205) (by decide +kernel), List.mem_of_getElem? (i := 712) (by decide +kernel), List.mem_of_getElem? (i := 713) (by decide +kernel)⟩
theorem lw_p21 : lw_okq (⟨"WhiteWanted$Adviser", "bestReply", "()I"⟩, 4) := ⟨⟨by decide +kernel, by decide +kernel⟩, List.mem_of_getElem? (i := 205) (by decide +kernel), List.mem_of_getElem? (i := 728) (by decide +kernel), List.mem_of_getElem? (i := 729) (by decide +kernel)⟩
theorem lw_p22 : lw_okq (⟨"WhiteWanted", "ballsInSight", "()I"⟩, 11) := ⟨⟨by decide +kernel, by decide +kernel⟩, List.mem_of_getElem? (i := 24) (by decide +kernel), List.mem_of_getElem? (i := 797) (by decide +kernel), List.mem_of_getElem? (i := 798) (by decide +kernel)⟩
theorem lw_p23 : lw_okq (⟨"WhiteWanted", "digestOfBalls", "(J)J"⟩, 11) := ⟨⟨by decide +kernel, by decide +kernel⟩, List.mem_of_getElem? (i := 24) (by decide +kernel), List.mem_of_getElem? (i := 806) (by decide +kernel), List.mem_of_getElem? (i := 807) (by decide +kernel)⟩
theorem lw_p24 : lw_okq (⟨"WhiteWanted", "digestOfStrokes", "(J)J"⟩, 11) := ⟨⟨by decide +kernel, by decide +kernel⟩, List.mem_of_getElem? (i := 24) (by decide +kernel), List.mem_of_getElem? (i := 812) (by decide +kernel), List.mem_of_getElem? (i := 813) (by decide +kernel)⟩
theorem lw_p25 : lw_okq (⟨"WhiteWantedModel", "faultOf", "()I"⟩, 38) := ⟨⟨by decide +kernel, by decide +kernel⟩, List.mem_of_getElem? (i := 822) (by decide +kernel), List.mem_of_getElem? (i := 959) (by decide +kernel), List.mem_of_getElem? (i := 960) (by decide +kernel)⟩
theorem lw_p26 : lw_okq (⟨"WhiteWantedModel", "isGood", "(I)Z"⟩, 38) := ⟨⟨by decide +kernel, by decide +kernel⟩, List.mem_of_getElem? (i := 822) (by decide +kernel), List.mem_of_getElem? (i := 963) (by decide +kernel), List.mem_of_getElem? (i := 964) (by decide +kernel)⟩
theorem lw_p27 : lw_okq (⟨"WhiteWantedModel", "isColumn", "(I)Z"⟩, 38) := ⟨⟨by decide +kernel, by decide +kernel⟩, List.mem_of_getElem? (i := 822) (by decide +kernel), List.mem_of_getElem? (i := 969) (by decide +kernel), List.mem_of_getElem? (i := 970) (by decide +kernel)⟩
theorem lw_p28 : lw_okq (⟨"WhiteWantedModel", "cellAt", "(I)I"⟩, 38) := ⟨⟨by decide +kernel, by decide +kernel⟩, List.mem_of_getElem? (i := 822) (by decide +kernel), List.mem_of_getElem? (i := 974) (by decide +kernel), List.mem_of_getElem? (i := 975) (by decide +kernel)⟩
theorem lw_p29 : lw_okq (⟨"WhiteWantedModel", "isToldAhead", "(I)Z"⟩, 38) := ⟨⟨by decide +kernel, by decide +kernel⟩, List.mem_of_getElem? (i := 822) (by decide +kernel), List.mem_of_getElem? (i := 981) (by decide +kernel), List.mem_of_getElem? (i := 982) (by decide +kernel)⟩
theorem lw_p30 : lw_okq (⟨"WhiteWantedModel", "isBall", "(I)Z"⟩, 38) := ⟨⟨by decide +kernel, by decide +kernel⟩, List.mem_of_getElem? (i := 822) (by decide +kernel), List.mem_of_getElem? (i := 998) (by decide +kernel), List.mem_of_getElem? (i := 999) (by decide +kernel)⟩
theorem lw_p31 : lw_okq (⟨"WhiteWantedModel", "lacks", "()Z"⟩, 38) := ⟨⟨by decide +kernel, by decide +kernel⟩, List.mem_of_getElem? (i := 822) (by decide +kernel), List.mem_of_getElem? (i := 1002) (by decide +kernel), List.mem_of_getElem? (i := 1003) (by decide +kernel)⟩
def lw_privs_2 : List (MethodName × Nat) := [(⟨"WhiteWanted$Adviser", "canPotFrom", "(LWhiteWanted$Table;II)Z"⟩, 4), (⟨"WhiteWanted", "isOfKind", "(II)Z"⟩, 11), (⟨"WhiteWanted", "isObjectBall", "(I)Z"⟩, 11), (⟨"WhiteWanted$Adviser", "tryStroke", "(LWhiteWanted$Table;I)V"⟩, 4), (⟨"WhiteWanted$Adviser", "choose", "(II)V"⟩, 4), (⟨"WhiteWanted$Adviser", "bestReply", "()I"⟩, 4), (⟨"WhiteWanted", "ballsInSight", "()I"⟩, 11), (⟨"WhiteWanted", "digestOfBalls", "(J)J"⟩, 11), (⟨"WhiteWanted", "digestOfStrokes", "(J)J"⟩, 11), (⟨"WhiteWantedModel", "faultOf", "()I"⟩, 38), (⟨"WhiteWantedModel", "isGood", "(I)Z"⟩, 38), (⟨"WhiteWantedModel", "isColumn", "(I)Z"⟩, 38), (⟨"WhiteWantedModel", "cellAt", "(I)I"⟩, 38), (⟨"WhiteWantedModel", "isToldAhead", "(I)Z"⟩, 38), (⟨"WhiteWantedModel", "isBall", "(I)Z"⟩, 38), (⟨"WhiteWantedModel", "lacks", "()Z"⟩, 38)]
theorem lw_r2 : ∀ q ∈ lw_privs_2, lw_okq q := List.forall_mem_cons.mpr ⟨lw_p16, List.forall_mem_cons.mpr ⟨lw_p17, List.forall_mem_cons.mpr ⟨lw_p18, List.forall_mem_cons.mpr ⟨lw_p19, List.forall_mem_cons.mpr ⟨lw_p20, List.forall_mem_cons.mpr ⟨lw_p21, List.forall_mem_cons.mpr ⟨lw_p22, List.forall_mem_cons.mpr ⟨lw_p23, List.forall_mem_cons.mpr ⟨lw_p24, List.forall_mem_cons.mpr ⟨lw_p25, List.forall_mem_cons.mpr ⟨lw_p26, List.forall_mem_cons.mpr ⟨lw_p27, List.forall_mem_cons.mpr ⟨lw_p28, List.forall_mem_cons.mpr ⟨lw_p29, List.forall_mem_cons.mpr ⟨lw_p30, List.forall_mem_cons.mpr ⟨lw_p31, fun _ h => absurd h List.not_mem_nil⟩⟩⟩⟩⟩⟩⟩⟩⟩⟩⟩⟩⟩⟩⟩⟩
theorem lw_p32 : lw_okq (⟨"WhiteWantedModel", "tellBall", "(II)I"⟩, 38) := ⟨⟨by decide +kernel, by decide +kernel⟩, List.mem_of_getElem? (i := 822) (by decide +kernel), List.mem_of_getElem? (i := 1006) (by decide +kernel), List.mem_of_getElem? (i := 1007) (by decide +kernel)⟩
theorem lw_p33 : lw_okq (⟨"WhiteWantedModel", "kindsOf", "(I)I"⟩, 38) := ⟨⟨by decide +kernel, by decide +kernel⟩, List.mem_of_getElem? (i := 822) (by decide +kernel), List.mem_of_getElem? (i := 1010) (by decide +kernel), List.mem_of_getElem? (i := 1011) (by decide +kernel)⟩
theorem lw_p34 : lw_okq (⟨"WhiteWantedModel", "behindAs", "(IIII)I"⟩, 38) := ⟨⟨by decide +kernel, by decide +kernel⟩, List.mem_of_getElem? (i := 822) (by decide +kernel), List.mem_of_getElem? (i := 1014) (by decide +kernel), List.mem_of_getElem? (i := 1015) (by decide +kernel)⟩
theorem lw_p35 : lw_okq (⟨"WhiteWantedModel", "strike", "([IIII)I"⟩, 38) := ⟨⟨by decide +kernel, by decide +kernel⟩, List.mem_of_getElem? (i := 822) (by decide +kernel), List.mem_of_getElem? (i := 1021) (by decide +kernel), List.mem_of_getElem? (i := 1022) (by decide +kernel)⟩
theorem lw_p36 : lw_okq (⟨"WhiteWantedModel", "roll", "([IIIII)V"⟩, 38) := ⟨⟨by decide +kernel, by decide +kernel⟩, List.mem_of_getElem? (i := 822) (by decide +kernel), List.mem_of_getElem? (i := 1031) (by decide +kernel), List.mem_of_getElem? (i := 1032) (by decide +kernel)⟩
theorem lw_p37 : lw_okq (⟨"WhiteWantedModel", "liesIn", "([II)I"⟩, 38) := ⟨⟨by decide +kernel, by decide +kernel⟩, List.mem_of_getElem? (i := 822) (by decide +kernel), List.mem_of_getElem? (i := 1037) (by decide +kernel), List.mem_of_getElem? (i := 1038) (by decide +kernel)⟩
theorem lw_p38 : lw_okq (⟨"WhiteWantedModel", "spotWhite", "([I)V"⟩, 38) := ⟨⟨by decide +kernel, by decide +kernel⟩, List.mem_of_getElem? (i := 822) (by decide +kernel), List.mem_of_getElem? (i := 1044) (by decide +kernel), List.mem_of_getElem? (i := 1045) (by decide +kernel)⟩
theorem lw_p39 : lw_okq (⟨"WhiteWantedModel", "tryOf", "(I)I"⟩, 38) := ⟨⟨by decide +kernel, by decide +kernel⟩, List.mem_of_getElem? (i := 822) (by decide +kernel), List.mem_of_getElem? (i := 1048) (by decide +kernel), List.mem_of_getElem? (i := 1049) (by decide +kernel)⟩
theorem lw_p40 : lw_okq (⟨"WhiteWantedModel", "wantedMany", "(I)I"⟩, 38) := ⟨⟨by decide +kernel, by decide +kernel⟩, List.mem_of_getElem? (i := 822) (by decide +kernel), List.mem_of_getElem? (i := 1052) (by decide +kernel), List.mem_of_getElem? (i := 1053) (by decide +kernel)⟩
theorem lw_p41 : lw_okq (⟨"WhiteWantedModel", "wantedOf", "(I)J"⟩, 38) := ⟨⟨by decide +kernel, by decide +kernel⟩, List.mem_of_getElem? (i := 822) (by decide +kernel), List.mem_of_getElem? (i := 1056) (by decide +kernel), List.mem_of_getElem? (i := 1057) (by decide +kernel)⟩
theorem lw_p42 : lw_okq (⟨"WhiteWantedModel", "isWantedFrom", "(II)Z"⟩, 38) := ⟨⟨by decide +kernel, by decide +kernel⟩, List.mem_of_getElem? (i := 822) (by decide +kernel), List.mem_of_getElem? (i := 1060) (by decide +kernel), List.mem_of_getElem? (i := 1061) (by decide +kernel)⟩
theorem lw_p43 : lw_okq (⟨"WhiteWantedModel", "isCell", "(I)Z"⟩, 38) := ⟨⟨by decide +kernel, by decide +kernel⟩, List.mem_of_getElem? (i := 822) (by decide +kernel), List.mem_of_getElem? (i := 1072) (by decide +kernel), List.mem_of_getElem? (i := 1073) (by decide +kernel)⟩
theorem lw_p44 : lw_okq (⟨"WhiteWantedModel", "seesBy", "(I)I"⟩, 38) := ⟨⟨by decide +kernel, by decide +kernel⟩, List.mem_of_getElem? (i := 822) (by decide +kernel), List.mem_of_getElem? (i := 1082) (by decide +kernel), List.mem_of_getElem? (i := 1083) (by decide +kernel)⟩
theorem lw_p45 : lw_okq (⟨"WhiteWantedModel", "isColoured", "(I)Z"⟩, 38) := ⟨⟨by decide +kernel, by decide +kernel⟩, List.mem_of_getElem? (i := 822) (by decide +kernel), List.mem_of_getElem? (i := 1094) (by decide +kernel), List.mem_of_getElem? (i := 1095) (by decide +kernel)⟩
theorem lw_p46 : lw_okq (⟨"WhiteWantedModel", "wouldBe", "(IIII)I"⟩, 38) := ⟨⟨by decide +kernel, by decide +kernel⟩, List.mem_of_getElem? (i := 822) (by decide +kernel), List.mem_of_getElem? (i := 1118) (by decide +kernel), List.mem_of_getElem? (i := 1119) (by decide +kernel)⟩
theorem lw_p47 : lw_okq (⟨"WhiteWantedModel", "bestOf", "(I)I"⟩, 38) := ⟨⟨by decide +kernel, by decide +kernel⟩, List.mem_of_getElem? (i := 822) (by decide +kernel), List.mem_of_getElem? (i := 1127) (by decide +kernel), List.mem_of_getElem? (i := 1128) (by decide +kernel)⟩
def lw_privs_3 : List (MethodName × Nat) := [(⟨"WhiteWantedModel", "tellBall", "(II)I"⟩, 38), (⟨"WhiteWantedModel", "kindsOf", "(I)I"⟩, 38), (⟨"WhiteWantedModel", "behindAs", "(IIII)I"⟩, 38), (⟨"WhiteWantedModel", "strike", "([IIII)I"⟩, 38), (⟨"WhiteWantedModel", "roll", "([IIIII)V"⟩, 38), (⟨"WhiteWantedModel", "liesIn", "([II)I"⟩, 38), (⟨"WhiteWantedModel", "spotWhite", "([I)V"⟩, 38), (⟨"WhiteWantedModel", "tryOf", "(I)I"⟩, 38), (⟨"WhiteWantedModel", "wantedMany", "(I)I"⟩, 38), (⟨"WhiteWantedModel", "wantedOf", "(I)J"⟩, 38), (⟨"WhiteWantedModel", "isWantedFrom", "(II)Z"⟩, 38), (⟨"WhiteWantedModel", "isCell", "(I)Z"⟩, 38), (⟨"WhiteWantedModel", "seesBy", "(I)I"⟩, 38), (⟨"WhiteWantedModel", "isColoured", "(I)Z"⟩, 38), (⟨"WhiteWantedModel", "wouldBe", "(IIII)I"⟩, 38), (⟨"WhiteWantedModel", "bestOf", "(I)I"⟩, 38)]
theorem lw_r3 : ∀ q ∈ lw_privs_3, lw_okq q := List.forall_mem_cons.mpr ⟨lw_p32, List.forall_mem_cons.mpr ⟨lw_p33, List.forall_mem_cons.mpr ⟨lw_p34, List.forall_mem_cons.mpr ⟨lw_p35, List.forall_mem_cons.mpr ⟨lw_p36, List.forall_mem_cons.mpr ⟨lw_p37, List.forall_mem_cons.mpr ⟨lw_p38, List.forall_mem_cons.mpr ⟨lw_p39, List.forall_mem_cons.mpr ⟨lw_p40, List.forall_mem_cons.mpr ⟨lw_p41, List.forall_mem_cons.mpr ⟨lw_p42, List.forall_mem_cons.mpr ⟨lw_p43, List.forall_mem_cons.mpr ⟨lw_p44, List.forall_mem_cons.mpr ⟨lw_p45, List.forall_mem_cons.mpr ⟨lw_p46, List.forall_mem_cons.mpr ⟨lw_p47, fun _ h => absurd h List.not_mem_nil⟩⟩⟩⟩⟩⟩⟩⟩⟩⟩⟩⟩⟩⟩⟩⟩
theorem lw_p48 : lw_okq (⟨"WhiteWantedModel", "tellCode", "(I)I"⟩, 38) := ⟨⟨by decide +kernel, by decide +kernel⟩, List.mem_of_getElem? (i := 822) (by decide +kernel), List.mem_of_getElem? (i := 1131) (by decide +kernel), List.mem_of_getElem? (i := 1132) (by decide +kernel)⟩
theorem lw_p49 : lw_okq (⟨"WhiteWantedModel", "planOf", "(I)I"⟩, 38) := ⟨⟨by decide +kernel, by decide +kernel⟩, List.mem_of_getElem? (i := 822) (by decide +kernel), List.mem_of_getElem? (i := 1139) (by decide +kernel), List.mem_of_getElem? (i := 1140) (by decide +kernel)⟩
theorem lw_p50 : lw_okq (⟨"WhiteWantedModel", "replyOf", "([I)I"⟩, 38) := ⟨⟨by decide +kernel, by decide +kernel⟩, List.mem_of_getElem? (i := 822) (by decide +kernel), List.mem_of_getElem? (i := 1143) (by decide +kernel), List.mem_of_getElem? (i := 1144) (by decide +kernel)⟩
theorem lw_p51 : lw_okq (⟨"WhiteWantedModel", "safeOf", "(I)I"⟩, 38) := ⟨⟨by decide +kernel, by decide +kernel⟩, List.mem_of_getElem? (i := 822) (by decide +kernel), List.mem_of_getElem? (i := 1151) (by decide +kernel), List.mem_of_getElem? (i := 1152) (by decide +kernel)⟩
theorem lw_p52 : lw_okq (⟨"WhiteWantedModel", "draw", "(I)I"⟩, 38) := ⟨⟨by decide +kernel, by decide +kernel⟩, List.mem_of_getElem? (i := 822) (by decide +kernel), List.mem_of_getElem? (i := 1173) (by decide +kernel), List.mem_of_getElem? (i := 1174) (by decide +kernel)⟩
theorem lw_p53 : lw_okq (⟨"WhiteWantedModel", "onTable", "([I)I"⟩, 38) := ⟨⟨by decide +kernel, by decide +kernel⟩, List.mem_of_getElem? (i := 822) (by decide +kernel), List.mem_of_getElem? (i := 1181) (by decide +kernel), List.mem_of_getElem? (i := 1182) (by decide +kernel)⟩
theorem lw_p54 : lw_okq (⟨"WhiteWantedModel", "countOf", "(I)I"⟩, 38) := ⟨⟨by decide +kernel, by decide +kernel⟩, List.mem_of_getElem? (i := 822) (by decide +kernel), List.mem_of_getElem? (i := 1197) (by decide +kernel), List.mem_of_getElem? (i := 1198) (by decide +kernel)⟩
theorem lw_p55 : lw_okq (⟨"WhiteWantedModel", "worthAll", "()I"⟩, 38) := ⟨⟨by decide +kernel, by decide +kernel⟩, List.mem_of_getElem? (i := 822) (by decide +kernel), List.mem_of_getElem? (i := 1201) (by decide +kernel), List.mem_of_getElem? (i := 1202) (by decide +kernel)⟩
theorem lw_p56 : lw_okq (⟨"WhiteWantedModel", "seenByWhite", "()I"⟩, 38) := ⟨⟨by decide +kernel, by decide +kernel⟩, List.mem_of_getElem? (i := 822) (by decide +kernel), List.mem_of_getElem? (i := 1205) (by decide +kernel), List.mem_of_getElem? (i := 1206) (by decide +kernel)⟩
theorem lw_p57 : lw_okq (⟨"WhiteWantedModel", "sayTable", "()V"⟩, 38) := ⟨⟨by decide +kernel, by decide +kernel⟩, List.mem_of_getElem? (i := 822) (by decide +kernel), List.mem_of_getElem? (i := 1214) (by decide +kernel), List.mem_of_getElem? (i := 1215) (by decide +kernel)⟩
theorem lw_p58 : lw_okq (⟨"WhiteWantedModel", "say", "(J)V"⟩, 38) := ⟨⟨by decide +kernel, by decide +kernel⟩, List.mem_of_getElem? (i := 822) (by decide +kernel), List.mem_of_getElem? (i := 1218) (by decide +kernel), List.mem_of_getElem? (i := 1219) (by decide +kernel)⟩
def lw_privs_4 : List (MethodName × Nat) := [(⟨"WhiteWantedModel", "tellCode", "(I)I"⟩, 38), (⟨"WhiteWantedModel", "planOf", "(I)I"⟩, 38), (⟨"WhiteWantedModel", "replyOf", "([I)I"⟩, 38), (⟨"WhiteWantedModel", "safeOf", "(I)I"⟩, 38), (⟨"WhiteWantedModel", "draw", "(I)I"⟩, 38), (⟨"WhiteWantedModel", "onTable", "([I)I"⟩, 38), (⟨"WhiteWantedModel", "countOf", "(I)I"⟩, 38), (⟨"WhiteWantedModel", "worthAll", "()I"⟩, 38), (⟨"WhiteWantedModel", "seenByWhite", "()I"⟩, 38), (⟨"WhiteWantedModel", "sayTable", "()V"⟩, 38), (⟨"WhiteWantedModel", "say", "(J)V"⟩, 38)]
theorem lw_r4 : ∀ q ∈ lw_privs_4, lw_okq q := List.forall_mem_cons.mpr ⟨lw_p48, List.forall_mem_cons.mpr ⟨lw_p49, List.forall_mem_cons.mpr ⟨lw_p50, List.forall_mem_cons.mpr ⟨lw_p51, List.forall_mem_cons.mpr ⟨lw_p52, List.forall_mem_cons.mpr ⟨lw_p53, List.forall_mem_cons.mpr ⟨lw_p54, List.forall_mem_cons.mpr ⟨lw_p55, List.forall_mem_cons.mpr ⟨lw_p56, List.forall_mem_cons.mpr ⟨lw_p57, List.forall_mem_cons.mpr ⟨lw_p58, fun _ h => absurd h List.not_mem_nil⟩⟩⟩⟩⟩⟩⟩⟩⟩⟩⟩
def lw_privs : List (MethodName × Nat) := lw_privs_1 ++ (lw_privs_2 ++ (lw_privs_3 ++ (lw_privs_4)))
def lw_tbl : List Cond := k2_sels lw_privs ++ tables_1
theorem lw_privs_ok : ∀ q ∈ lw_privs, lw_okq q := by
  show ∀ q ∈ lw_privs_1 ++ (lw_privs_2 ++ (lw_privs_3 ++ (lw_privs_4))), lw_okq q
  exact List.forall_mem_append.mpr ⟨lw_r1, List.forall_mem_append.mpr ⟨lw_r2, List.forall_mem_append.mpr ⟨lw_r3, lw_r4⟩⟩⟩
def RX0 : String := "WhiteWanted$Adviser"
def TX0 : u_T := fun k => match k with
  | 0 => ("WhiteWanted$Adviser", "first", "LWhiteWanted$Stroke;", true)
  | 1 => ("WhiteWanted$Adviser", "second", "LWhiteWanted$Stroke;", true)
  | 2 => ("WhiteWanted$Adviser", "chosen", "I", false)
  | _ => ("WhiteWanted$Adviser", "value", "I", false)
def tyX0 : Nat → FieldType := fun k => match k with
  | 0 => .object "WhiteWanted$Stroke"
  | 1 => .object "WhiteWanted$Stroke"
  | 2 => .int
  | _ => .int
theorem nmX0 : ∀ a, a < 4 → ∀ b, b < 4 → a ≠ b → (TX0 a).2.1 ≠ (TX0 b).2.1 := by decide +kernel
theorem tyX0_ok : ∀ k, k < 4 → parseFieldDescriptor (TX0 k).2.2.1 = some (tyX0 k) := by decide +kernel
abbrev cX0_init : ByteArray := prog_2_method_1_code
def yX0_init : MethodName := ⟨RX0, "<init>", "(LWhiteWanted$Stroke;LWhiteWanted$Stroke;)V"⟩
abbrev cX0_chooseBest : ByteArray := prog_2_method_2_code
def yX0_chooseBest : MethodName := ⟨RX0, "chooseBest", "(LWhiteWanted$Table;)V"⟩
abbrev cX0_choosePlan : ByteArray := prog_2_method_3_code
def yX0_choosePlan : MethodName := ⟨RX0, "choosePlan", "(LWhiteWanted$Table;)V"⟩
abbrev cX0_chooseSafe : ByteArray := prog_2_method_4_code
def yX0_chooseSafe : MethodName := ⟨RX0, "chooseSafe", "(LWhiteWanted$Table;)V"⟩
abbrev cX0_tell : ByteArray := prog_2_method_5_code
def yX0_tell : MethodName := ⟨RX0, "tell", "(I)I"⟩
abbrev cX0_cellsToPotFrom : ByteArray := prog_2_method_6_code
def yX0_cellsToPotFrom : MethodName := ⟨RX0, "cellsToPotFrom", "(LWhiteWanted$Table;I)J"⟩
abbrev cX0_canPotFrom : ByteArray := prog_2_method_7_code
def yX0_canPotFrom : MethodName := ⟨RX0, "canPotFrom", "(LWhiteWanted$Table;II)Z"⟩
abbrev cX0_tryStroke : ByteArray := prog_2_method_8_code
def yX0_tryStroke : MethodName := ⟨RX0, "tryStroke", "(LWhiteWanted$Table;I)V"⟩
abbrev cX0_bestReply : ByteArray := prog_2_method_9_code
def yX0_bestReply : MethodName := ⟨RX0, "bestReply", "()I"⟩
abbrev cX0_choose : ByteArray := prog_2_method_10_code
def yX0_choose : MethodName := ⟨RX0, "choose", "(II)V"⟩
abbrev cX0_directionOf : ByteArray := prog_2_method_11_code
def yX0_directionOf : MethodName := ⟨RX0, "directionOf", "(I)I"⟩
abbrev cX0_strengthOf : ByteArray := prog_2_method_12_code
def yX0_strengthOf : MethodName := ⟨RX0, "strengthOf", "(I)I"⟩
abbrev cX0_spinOf : ByteArray := prog_2_method_13_code
def yX0_spinOf : MethodName := ⟨RX0, "spinOf", "(I)I"⟩
def RX1 : String := "WhiteWanted$Ball"
def TX1 : u_T := fun k => match k with
  | _ => ("", "", "", false)
def tyX1 : Nat → FieldType := fun k => match k with
  | _ => .int
theorem nmX1 : ∀ a, a < 0 → ∀ b, b < 0 → a ≠ b → (TX1 a).2.1 ≠ (TX1 b).2.1 := by decide +kernel
theorem tyX1_ok : ∀ k, k < 0 → parseFieldDescriptor (TX1 k).2.2.1 = some (tyX1 k) := by decide +kernel
abbrev cX1_init : ByteArray := prog_3_method_1_code
def yX1_init : MethodName := ⟨RX1, "<init>", "()V"⟩
abbrev cX1_powerWhenHit : ByteArray := prog_3_method_2_code
def yX1_powerWhenHit : MethodName := ⟨RX1, "powerWhenHit", "(I)I"⟩
abbrev cX1_stopsAtCushion : ByteArray := prog_3_method_3_code
def yX1_stopsAtCushion : MethodName := ⟨RX1, "stopsAtCushion", "()Z"⟩
def RX2 : String := "WhiteWanted$Dead"
def TX2 : u_T := fun k => match k with
  | _ => ("", "", "", false)
def tyX2 : Nat → FieldType := fun k => match k with
  | _ => .int
theorem nmX2 : ∀ a, a < 0 → ∀ b, b < 0 → a ≠ b → (TX2 a).2.1 ≠ (TX2 b).2.1 := by decide +kernel
theorem tyX2_ok : ∀ k, k < 0 → parseFieldDescriptor (TX2 k).2.2.1 = some (tyX2 k) := by decide +kernel
abbrev cX2_init : ByteArray := prog_4_method_1_code
def yX2_init : MethodName := ⟨RX2, "<init>", "()V"⟩
abbrev cX2_stopsAtCushion : ByteArray := prog_4_method_2_code
def yX2_stopsAtCushion : MethodName := ⟨RX2, "stopsAtCushion", "()Z"⟩
def RX3 : String := "WhiteWanted$Game"
def TX3 : u_T := fun k => match k with
  | 0 => ("WhiteWanted$Game", "table", "LWhiteWanted$Table;", true)
  | 1 => ("WhiteWanted$Game", "seenBalls", "[I", true)
  | 2 => ("WhiteWanted$Game", "seenDirections", "[I", true)
  | 3 => ("WhiteWanted$Game", "seenStrengths", "[I", true)
  | 4 => ("WhiteWanted$Game", "seenCells", "[I", true)
  | 5 => ("WhiteWanted$Game", "seen", "I", false)
  | 6 => ("WhiteWanted$Game", "score", "I", false)
  | 7 => ("WhiteWanted$Game", "strokes", "I", false)
  | _ => ("WhiteWanted$Game", "fouls", "I", false)
def tyX3 : Nat → FieldType := fun k => match k with
  | 0 => .object "WhiteWanted$Table"
  | 1 => .array .int
  | 2 => .array .int
  | 3 => .array .int
  | 4 => .array .int
  | 5 => .int
  | 6 => .int
  | 7 => .int
  | _ => .int
theorem nmX3 : ∀ a, a < 9 → ∀ b, b < 9 → a ≠ b → (TX3 a).2.1 ≠ (TX3 b).2.1 := by decide +kernel
theorem tyX3_ok : ∀ k, k < 9 → parseFieldDescriptor (TX3 k).2.2.1 = some (tyX3 k) := by decide +kernel
abbrev cX3_init : ByteArray := prog_5_method_1_code
def yX3_init : MethodName := ⟨RX3, "<init>", "()V"⟩
abbrev cX3_clear : ByteArray := prog_5_method_2_code
def yX3_clear : MethodName := ⟨RX3, "clear", "()V"⟩
abbrev cX3_copy : ByteArray := prog_5_method_3_code
def yX3_copy : MethodName := ⟨RX3, "copy", "(LWhiteWanted$Game;)V"⟩
abbrev cX3_take : ByteArray := prog_5_method_4_code
def yX3_take : MethodName := ⟨RX3, "take", "(LWhiteWanted$Stroke;)V"⟩
abbrev cX3_note : ByteArray := prog_5_method_5_code
def yX3_note : MethodName := ⟨RX3, "note", "(IIII)V"⟩
def RX4 : String := "WhiteWanted$Guesser"
def TX4 : u_T := fun k => match k with
  | 0 => ("WhiteWanted$Guesser", "stroke", "LWhiteWanted$Stroke;", true)
  | _ => ("WhiteWanted$Guesser", "ends", "[I", true)
def tyX4 : Nat → FieldType := fun k => match k with
  | 0 => .object "WhiteWanted$Stroke"
  | _ => .array .int
theorem nmX4 : ∀ a, a < 2 → ∀ b, b < 2 → a ≠ b → (TX4 a).2.1 ≠ (TX4 b).2.1 := by decide +kernel
theorem tyX4_ok : ∀ k, k < 2 → parseFieldDescriptor (TX4 k).2.2.1 = some (tyX4 k) := by decide +kernel
abbrev cX4_init : ByteArray := prog_6_method_1_code
def yX4_init : MethodName := ⟨RX4, "<init>", "(LWhiteWanted$Stroke;)V"⟩
abbrev cX4_possibleKinds : ByteArray := prog_6_method_2_code
def yX4_possibleKinds : MethodName := ⟨RX4, "possibleKinds", "(LWhiteWanted$Game;I)I"⟩
abbrev cX4_tellingDirection : ByteArray := prog_6_method_3_code
def yX4_tellingDirection : MethodName := ⟨RX4, "tellingDirection", "(LWhiteWanted$Game;I)I"⟩
abbrev cX4_leftAtWorst : ByteArray := prog_6_method_4_code
def yX4_leftAtWorst : MethodName := ⟨RX4, "leftAtWorst", "(LWhiteWanted$Table;III)I"⟩
abbrev cX4_endAs : ByteArray := prog_6_method_5_code
def yX4_endAs : MethodName := ⟨RX4, "endAs", "(LWhiteWanted$Table;IIII)I"⟩
def RX5 : String := "WhiteWanted$Heavy"
def TX5 : u_T := fun k => match k with
  | _ => ("", "", "", false)
def tyX5 : Nat → FieldType := fun k => match k with
  | _ => .int
theorem nmX5 : ∀ a, a < 0 → ∀ b, b < 0 → a ≠ b → (TX5 a).2.1 ≠ (TX5 b).2.1 := by decide +kernel
theorem tyX5_ok : ∀ k, k < 0 → parseFieldDescriptor (TX5 k).2.2.1 = some (tyX5 k) := by decide +kernel
abbrev cX5_init : ByteArray := prog_7_method_1_code
def yX5_init : MethodName := ⟨RX5, "<init>", "()V"⟩
abbrev cX5_powerWhenHit : ByteArray := prog_7_method_2_code
def yX5_powerWhenHit : MethodName := ⟨RX5, "powerWhenHit", "(I)I"⟩
def RX6 : String := "WhiteWanted$Light"
def TX6 : u_T := fun k => match k with
  | _ => ("", "", "", false)
def tyX6 : Nat → FieldType := fun k => match k with
  | _ => .int
theorem nmX6 : ∀ a, a < 0 → ∀ b, b < 0 → a ≠ b → (TX6 a).2.1 ≠ (TX6 b).2.1 := by decide +kernel
theorem tyX6_ok : ∀ k, k < 0 → parseFieldDescriptor (TX6 k).2.2.1 = some (tyX6 k) := by decide +kernel
abbrev cX6_init : ByteArray := prog_8_method_1_code
def yX6_init : MethodName := ⟨RX6, "<init>", "()V"⟩
abbrev cX6_powerWhenHit : ByteArray := prog_8_method_2_code
def yX6_powerWhenHit : MethodName := ⟨RX6, "powerWhenHit", "(I)I"⟩
def RX7 : String := "WhiteWanted$Page"
def TX7 : u_T := fun k => match k with
  | 0 => ("WhiteWanted$Page", "letters", "[I", true)
  | _ => ("WhiteWanted$Page", "size", "I", false)
def tyX7 : Nat → FieldType := fun k => match k with
  | 0 => .array .int
  | _ => .int
theorem nmX7 : ∀ a, a < 2 → ∀ b, b < 2 → a ≠ b → (TX7 a).2.1 ≠ (TX7 b).2.1 := by decide +kernel
theorem tyX7_ok : ∀ k, k < 2 → parseFieldDescriptor (TX7 k).2.2.1 = some (tyX7 k) := by decide +kernel
abbrev cX7_init : ByteArray := prog_9_method_1_code
def yX7_init : MethodName := ⟨RX7, "<init>", "()V"⟩
abbrev cX7_isFull : ByteArray := prog_9_method_2_code
def yX7_isFull : MethodName := ⟨RX7, "isFull", "()Z"⟩
abbrev cX7_append : ByteArray := prog_9_method_3_code
def yX7_append : MethodName := ⟨RX7, "append", "(I)V"⟩
abbrev cX7_firstFault : ByteArray := prog_9_method_4_code
def yX7_firstFault : MethodName := ⟨RX7, "firstFault", "()I"⟩
abbrev cX7_isWhole : ByteArray := prog_9_method_5_code
def yX7_isWhole : MethodName := ⟨RX7, "isWhole", "()Z"⟩
abbrev cX7_readInto : ByteArray := prog_9_method_6_code
def yX7_readInto : MethodName := ⟨RX7, "readInto", "(LWhiteWanted$Table;)V"⟩
abbrev cX7_digestOn : ByteArray := prog_9_method_7_code
def yX7_digestOn : MethodName := ⟨RX7, "digestOn", "(J)J"⟩
abbrev cX7_fits : ByteArray := prog_9_method_8_code
def yX7_fits : MethodName := ⟨RX7, "fits", "(I)Z"⟩
abbrev cX7_isFreeCell : ByteArray := prog_9_method_9_code
def yX7_isFreeCell : MethodName := ⟨RX7, "isFreeCell", "(I)Z"⟩
abbrev cX7_cellAt : ByteArray := prog_9_method_10_code
def yX7_cellAt : MethodName := ⟨RX7, "cellAt", "(I)I"⟩
abbrev cX7_digitAt : ByteArray := prog_9_method_11_code
def yX7_digitAt : MethodName := ⟨RX7, "digitAt", "(I)I"⟩
abbrev cX7_at : ByteArray := prog_9_method_12_code
def yX7_at : MethodName := ⟨RX7, "at", "(I)I"⟩
def RX8 : String := "WhiteWanted$Stone"
def TX8 : u_T := fun k => match k with
  | _ => ("", "", "", false)
def tyX8 : Nat → FieldType := fun k => match k with
  | _ => .int
theorem nmX8 : ∀ a, a < 0 → ∀ b, b < 0 → a ≠ b → (TX8 a).2.1 ≠ (TX8 b).2.1 := by decide +kernel
theorem tyX8_ok : ∀ k, k < 0 → parseFieldDescriptor (TX8 k).2.2.1 = some (tyX8 k) := by decide +kernel
abbrev cX8_init : ByteArray := prog_10_method_1_code
def yX8_init : MethodName := ⟨RX8, "<init>", "()V"⟩
abbrev cX8_powerWhenHit : ByteArray := prog_10_method_2_code
def yX8_powerWhenHit : MethodName := ⟨RX8, "powerWhenHit", "(I)I"⟩
def RX9 : String := "WhiteWanted$Stroke"
def TX9 : u_T := fun k => match k with
  | 0 => ("WhiteWanted$Stroke", "table", "LWhiteWanted$Table;", true)
  | 1 => ("WhiteWanted$Stroke", "kinds", "[LWhiteWanted$Ball;", true)
  | 2 => ("WhiteWanted$Stroke", "moves", "I", false)
  | 3 => ("WhiteWanted$Stroke", "bounces", "I", false)
  | 4 => ("WhiteWanted$Stroke", "potted", "I", false)
  | 5 => ("WhiteWanted$Stroke", "brings", "I", false)
  | 6 => ("WhiteWanted$Stroke", "firstHitDirection", "I", false)
  | 7 => ("WhiteWanted$Stroke", "firstHitPower", "I", false)
  | _ => ("WhiteWanted$Stroke", "foul", "Z", false)
def tyX9 : Nat → FieldType := fun k => match k with
  | 0 => .object "WhiteWanted$Table"
  | 1 => .array (.object "WhiteWanted$Ball")
  | 2 => .int
  | 3 => .int
  | 4 => .int
  | 5 => .int
  | 6 => .int
  | 7 => .int
  | _ => .boolean
theorem nmX9 : ∀ a, a < 9 → ∀ b, b < 9 → a ≠ b → (TX9 a).2.1 ≠ (TX9 b).2.1 := by decide +kernel
theorem tyX9_ok : ∀ k, k < 9 → parseFieldDescriptor (TX9 k).2.2.1 = some (tyX9 k) := by decide +kernel
abbrev cX9_init : ByteArray := prog_11_method_1_code
def yX9_init : MethodName := ⟨RX9, "<init>", "([LWhiteWanted$Ball;)V"⟩
abbrev cX9_begin : ByteArray := prog_11_method_2_code
def yX9_begin : MethodName := ⟨RX9, "begin", "(LWhiteWanted$Table;)V"⟩
abbrev cX9_shoot : ByteArray := prog_11_method_3_code
def yX9_shoot : MethodName := ⟨RX9, "shoot", "(III)V"⟩
abbrev cX9_tell : ByteArray := prog_11_method_4_code
def yX9_tell : MethodName := ⟨RX9, "tell", "(I)I"⟩
abbrev cX9_hasPotted : ByteArray := prog_11_method_5_code
def yX9_hasPotted : MethodName := ⟨RX9, "hasPotted", "(I)Z"⟩
abbrev cX9_roll : ByteArray := prog_11_method_6_code
def yX9_roll : MethodName := ⟨RX9, "roll", "(III)V"⟩
abbrev cX9_notePotted : ByteArray := prog_11_method_7_code
def yX9_notePotted : MethodName := ⟨RX9, "notePotted", "(I)V"⟩
abbrev cX9_noteWhiteHit : ByteArray := prog_11_method_8_code
def yX9_noteWhiteHit : MethodName := ⟨RX9, "noteWhiteHit", "(II)V"⟩
abbrev cX9_worthPotted : ByteArray := prog_11_method_9_code
def yX9_worthPotted : MethodName := ⟨RX9, "worthPotted", "()I"⟩
abbrev cX9_isWhitePotted : ByteArray := prog_11_method_10_code
def yX9_isWhitePotted : MethodName := ⟨RX9, "isWhitePotted", "()Z"⟩
abbrev cX9_kind : ByteArray := prog_11_method_11_code
def yX9_kind : MethodName := ⟨RX9, "kind", "(I)LWhiteWanted$Ball;"⟩
abbrev cX9_turned : ByteArray := prog_11_method_12_code
def yX9_turned : MethodName := ⟨RX9, "turned", "(IZZ)I"⟩
def RX10 : String := "WhiteWanted$Table"
def TX10 : u_T := fun k => match k with
  | 0 => ("WhiteWanted$Table", "cells", "[I", true)
  | 1 => ("WhiteWanted$Table", "kinds", "[I", true)
  | 2 => ("WhiteWanted$Table", "worths", "[I", true)
  | 3 => ("WhiteWanted$Table", "taken", "J", false)
  | 4 => ("WhiteWanted$Table", "size", "I", false)
  | _ => ("WhiteWanted$Table", "spot", "I", false)
def tyX10 : Nat → FieldType := fun k => match k with
  | 0 => .array .int
  | 1 => .array .int
  | 2 => .array .int
  | 3 => .long
  | 4 => .int
  | _ => .int
theorem nmX10 : ∀ a, a < 6 → ∀ b, b < 6 → a ≠ b → (TX10 a).2.1 ≠ (TX10 b).2.1 := by decide +kernel
theorem tyX10_ok : ∀ k, k < 6 → parseFieldDescriptor (TX10 k).2.2.1 = some (tyX10 k) := by decide +kernel
abbrev cX10_init : ByteArray := prog_12_method_1_code
def yX10_init : MethodName := ⟨RX10, "<init>", "()V"⟩
abbrev cX10_clear : ByteArray := prog_12_method_2_code
def yX10_clear : MethodName := ⟨RX10, "clear", "()V"⟩
abbrev cX10_copy : ByteArray := prog_12_method_3_code
def yX10_copy : MethodName := ⟨RX10, "copy", "(LWhiteWanted$Table;)V"⟩
abbrev cX10_cellOf : ByteArray := prog_12_method_4_code
def yX10_cellOf : MethodName := ⟨RX10, "cellOf", "(I)I"⟩
abbrev cX10_kindOf : ByteArray := prog_12_method_5_code
def yX10_kindOf : MethodName := ⟨RX10, "kindOf", "(I)I"⟩
abbrev cX10_worthOf : ByteArray := prog_12_method_6_code
def yX10_worthOf : MethodName := ⟨RX10, "worthOf", "(I)I"⟩
abbrev cX10_setKind : ByteArray := prog_12_method_7_code
def yX10_setKind : MethodName := ⟨RX10, "setKind", "(II)V"⟩
abbrev cX10_setWorth : ByteArray := prog_12_method_8_code
def yX10_setWorth : MethodName := ⟨RX10, "setWorth", "(II)V"⟩
abbrev cX10_lay : ByteArray := prog_12_method_9_code
def yX10_lay : MethodName := ⟨RX10, "lay", "(II)V"⟩
abbrev cX10_ballIn : ByteArray := prog_12_method_10_code
def yX10_ballIn : MethodName := ⟨RX10, "ballIn", "(I)I"⟩
abbrev cX10_lying : ByteArray := prog_12_method_11_code
def yX10_lying : MethodName := ⟨RX10, "lying", "()I"⟩
abbrev cX10_worthLying : ByteArray := prog_12_method_12_code
def yX10_worthLying : MethodName := ⟨RX10, "worthLying", "()I"⟩
abbrev cX10_firstInSight : ByteArray := prog_12_method_13_code
def yX10_firstInSight : MethodName := ⟨RX10, "firstInSight", "(I)I"⟩
abbrev cX10_returnWhite : ByteArray := prog_12_method_14_code
def yX10_returnWhite : MethodName := ⟨RX10, "returnWhite", "()V"⟩
abbrev cX10_rowStep : ByteArray := prog_12_method_15_code
def yX10_rowStep : MethodName := ⟨RX10, "rowStep", "(I)I"⟩
abbrev cX10_columnStep : ByteArray := prog_12_method_16_code
def yX10_columnStep : MethodName := ⟨RX10, "columnStep", "(I)I"⟩
def RX11 : String := "WhiteWanted"
def TX11 : u_T := fun k => match k with
  | 0 => ("WhiteWanted", "kinds", "[LWhiteWanted$Ball;", true)
  | 1 => ("WhiteWanted", "page", "LWhiteWanted$Page;", true)
  | 2 => ("WhiteWanted", "game", "LWhiteWanted$Game;", true)
  | 3 => ("WhiteWanted", "kept", "LWhiteWanted$Game;", true)
  | 4 => ("WhiteWanted", "trial", "LWhiteWanted$Stroke;", true)
  | 5 => ("WhiteWanted", "adviser", "LWhiteWanted$Adviser;", true)
  | 6 => ("WhiteWanted", "guesser", "LWhiteWanted$Guesser;", true)
  | 7 => ("WhiteWanted", "imageKept", "Z", false)
  | 8 => ("WhiteWanted", "tablesRead", "I", false)
  | 9 => ("WhiteWanted", "plansDone", "I", false)
  | _ => ("WhiteWanted", "safesDone", "I", false)
def tyX11 : Nat → FieldType := fun k => match k with
  | 0 => .array (.object "WhiteWanted$Ball")
  | 1 => .object "WhiteWanted$Page"
  | 2 => .object "WhiteWanted$Game"
  | 3 => .object "WhiteWanted$Game"
  | 4 => .object "WhiteWanted$Stroke"
  | 5 => .object "WhiteWanted$Adviser"
  | 6 => .object "WhiteWanted$Guesser"
  | 7 => .boolean
  | 8 => .int
  | 9 => .int
  | _ => .int
theorem nmX11 : ∀ a, a < 11 → ∀ b, b < 11 → a ≠ b → (TX11 a).2.1 ≠ (TX11 b).2.1 := by decide +kernel
theorem tyX11_ok : ∀ k, k < 11 → parseFieldDescriptor (TX11 k).2.2.1 = some (tyX11 k) := by decide +kernel
abbrev cX11_init : ByteArray := prog_1_method_1_code
def yX11_init : MethodName := ⟨RX11, "<init>", "()V"⟩
abbrev cX11_letter : ByteArray := prog_1_method_2_code
def yX11_letter : MethodName := ⟨RX11, "letter", "(I)I"⟩
abbrev cX11_blank : ByteArray := prog_1_method_3_code
def yX11_blank : MethodName := ⟨RX11, "blank", "()I"⟩
abbrev cX11_fault : ByteArray := prog_1_method_4_code
def yX11_fault : MethodName := ⟨RX11, "fault", "()I"⟩
abbrev cX11_table : ByteArray := prog_1_method_5_code
def yX11_table : MethodName := ⟨RX11, "table", "()I"⟩
abbrev cX11_ball : ByteArray := prog_1_method_6_code
def yX11_ball : MethodName := ⟨RX11, "ball", "(II)I"⟩
abbrev cX11_as : ByteArray := prog_1_method_7_code
def yX11_as : MethodName := ⟨RX11, "as", "(II)I"⟩
abbrev cX11_cell : ByteArray := prog_1_method_8_code
def yX11_cell : MethodName := ⟨RX11, "cell", "(I)I"⟩
abbrev cX11_sees : ByteArray := prog_1_method_9_code
def yX11_sees : MethodName := ⟨RX11, "sees", "(I)I"⟩
abbrev cX11_put : ByteArray := prog_1_method_10_code
def yX11_put : MethodName := ⟨RX11, "put", "(II)I"⟩
abbrev cX11_lift : ByteArray := prog_1_method_11_code
def yX11_lift : MethodName := ⟨RX11, "lift", "(I)I"⟩
abbrev cX11_change : ByteArray := prog_1_method_12_code
def yX11_change : MethodName := ⟨RX11, "change", "(II)I"⟩
abbrev cX11_stroke : ByteArray := prog_1_method_13_code
def yX11_stroke : MethodName := ⟨RX11, "stroke", "(III)I"⟩
abbrev cX11_would : ByteArray := prog_1_method_14_code
def yX11_would : MethodName := ⟨RX11, "would", "(IIII)I"⟩
abbrev cX11_best : ByteArray := prog_1_method_15_code
def yX11_best : MethodName := ⟨RX11, "best", "(I)I"⟩
abbrev cX11_plan : ByteArray := prog_1_method_16_code
def yX11_plan : MethodName := ⟨RX11, "plan", "(I)I"⟩
abbrev cX11_safe : ByteArray := prog_1_method_17_code
def yX11_safe : MethodName := ⟨RX11, "safe", "(I)I"⟩
abbrev cX11_wanted : ByteArray := prog_1_method_18_code
def yX11_wanted : MethodName := ⟨RX11, "wanted", "(I)J"⟩
abbrev cX11_see : ByteArray := prog_1_method_19_code
def yX11_see : MethodName := ⟨RX11, "see", "(IIII)I"⟩
abbrev cX11_forget : ByteArray := prog_1_method_20_code
def yX11_forget : MethodName := ⟨RX11, "forget", "()I"⟩
abbrev cX11_frames : ByteArray := prog_1_method_21_code
def yX11_frames : MethodName := ⟨RX11, "frames", "(III)I"⟩
abbrev cX11_image : ByteArray := prog_1_method_22_code
def yX11_image : MethodName := ⟨RX11, "image", "()I"⟩
abbrev cX11_restore : ByteArray := prog_1_method_23_code
def yX11_restore : MethodName := ⟨RX11, "restore", "()I"⟩
abbrev cX11_count : ByteArray := prog_1_method_24_code
def yX11_count : MethodName := ⟨RX11, "count", "(I)I"⟩
abbrev cX11_digest : ByteArray := prog_1_method_25_code
def yX11_digest : MethodName := ⟨RX11, "digest", "()J"⟩
abbrev cX11_digestOfBalls : ByteArray := prog_1_method_26_code
def yX11_digestOfBalls : MethodName := ⟨RX11, "digestOfBalls", "(J)J"⟩
abbrev cX11_digestOfStrokes : ByteArray := prog_1_method_27_code
def yX11_digestOfStrokes : MethodName := ⟨RX11, "digestOfStrokes", "(J)J"⟩
abbrev cX11_hasTable : ByteArray := prog_1_method_28_code
def yX11_hasTable : MethodName := ⟨RX11, "hasTable", "()Z"⟩
abbrev cX11_isBall : ByteArray := prog_1_method_29_code
def yX11_isBall : MethodName := ⟨RX11, "isBall", "(I)Z"⟩
abbrev cX11_isObjectBall : ByteArray := prog_1_method_30_code
def yX11_isObjectBall : MethodName := ⟨RX11, "isObjectBall", "(I)Z"⟩
abbrev cX11_isOfKind : ByteArray := prog_1_method_31_code
def yX11_isOfKind : MethodName := ⟨RX11, "isOfKind", "(II)Z"⟩
abbrev cX11_wantedCells : ByteArray := prog_1_method_32_code
def yX11_wantedCells : MethodName := ⟨RX11, "wantedCells", "(I)J"⟩
abbrev cX11_ballsInSight : ByteArray := prog_1_method_33_code
def yX11_ballsInSight : MethodName := ⟨RX11, "ballsInSight", "()I"⟩
abbrev cX11_within : ByteArray := prog_1_method_34_code
def yX11_within : MethodName := ⟨RX11, "within", "(III)Z"⟩
abbrev cX11_isCell : ByteArray := prog_1_method_35_code
def yX11_isCell : MethodName := ⟨RX11, "isCell", "(I)Z"⟩
abbrev cX11_isDirection : ByteArray := prog_1_method_36_code
def yX11_isDirection : MethodName := ⟨RX11, "isDirection", "(I)Z"⟩
abbrev cX11_isStroke : ByteArray := prog_1_method_37_code
def yX11_isStroke : MethodName := ⟨RX11, "isStroke", "(III)Z"⟩
abbrev cX11_isPocket : ByteArray := prog_1_method_38_code
def yX11_isPocket : MethodName := ⟨RX11, "isPocket", "(I)Z"⟩
abbrev cX11_isRow : ByteArray := prog_1_method_39_code
def yX11_isRow : MethodName := ⟨RX11, "isRow", "(I)Z"⟩
abbrev cX11_isColumn : ByteArray := prog_1_method_40_code
def yX11_isColumn : MethodName := ⟨RX11, "isColumn", "(I)Z"⟩
abbrev cX11_nextSeed : ByteArray := prog_1_method_41_code
def yX11_nextSeed : MethodName := ⟨RX11, "nextSeed", "(I)I"⟩
abbrev cX11_drawn : ByteArray := prog_1_method_42_code
def yX11_drawn : MethodName := ⟨RX11, "drawn", "(I)I"⟩
def RX12 : String := "WhiteWantedModel"
def TX12 : u_T := fun k => match k with
  | 0 => ("WhiteWantedModel", "page", "[I", true)
  | 1 => ("WhiteWantedModel", "pageMany", "I", false)
  | 2 => ("WhiteWantedModel", "balls", "I", false)
  | 3 => ("WhiteWantedModel", "spot", "I", false)
  | 4 => ("WhiteWantedModel", "score", "I", false)
  | 5 => ("WhiteWantedModel", "strokesNow", "I", false)
  | 6 => ("WhiteWantedModel", "fouls", "I", false)
  | 7 => ("WhiteWantedModel", "tablesRead", "I", false)
  | 8 => ("WhiteWantedModel", "kinds", "[I", true)
  | 9 => ("WhiteWantedModel", "worths", "[I", true)
  | 10 => ("WhiteWantedModel", "cells", "[I", true)
  | 11 => ("WhiteWantedModel", "potted", "I", false)
  | 12 => ("WhiteWantedModel", "moves", "I", false)
  | 13 => ("WhiteWantedModel", "bounces", "I", false)
  | 14 => ("WhiteWantedModel", "hitFirst", "I", false)
  | 15 => ("WhiteWantedModel", "hitPower", "I", false)
  | 16 => ("WhiteWantedModel", "hitDown", "I", false)
  | 17 => ("WhiteWantedModel", "hitRight", "I", false)
  | 18 => ("WhiteWantedModel", "isFoul", "Z", false)
  | 19 => ("WhiteWantedModel", "work", "[I", true)
  | 20 => ("WhiteWantedModel", "then", "[I", true)
  | 21 => ("WhiteWantedModel", "bestCode", "I", false)
  | 22 => ("WhiteWantedModel", "bestBrings", "I", false)
  | 23 => ("WhiteWantedModel", "plansDone", "I", false)
  | 24 => ("WhiteWantedModel", "safesDone", "I", false)
  | 25 => ("WhiteWantedModel", "seenMany", "I", false)
  | 26 => ("WhiteWantedModel", "sights", "[I", true)
  | 27 => ("WhiteWantedModel", "behind", "[I", true)
  | 28 => ("WhiteWantedModel", "seedNow", "I", false)
  | 29 => ("WhiteWantedModel", "keptTable", "I", false)
  | 30 => ("WhiteWantedModel", "keptScore", "I", false)
  | 31 => ("WhiteWantedModel", "keptStrokes", "I", false)
  | 32 => ("WhiteWantedModel", "keptFouls", "I", false)
  | 33 => ("WhiteWantedModel", "keptSeen", "I", false)
  | 34 => ("WhiteWantedModel", "keptKinds", "[I", true)
  | 35 => ("WhiteWantedModel", "keptCells", "[I", true)
  | 36 => ("WhiteWantedModel", "keptSights", "[I", true)
  | _ => ("WhiteWantedModel", "hash", "J", false)
def tyX12 : Nat → FieldType := fun k => match k with
  | 0 => .array .int
  | 1 => .int
  | 2 => .int
  | 3 => .int
  | 4 => .int
  | 5 => .int
  | 6 => .int
  | 7 => .int
  | 8 => .array .int
  | 9 => .array .int
  | 10 => .array .int
  | 11 => .int
  | 12 => .int
  | 13 => .int
  | 14 => .int
  | 15 => .int
  | 16 => .int
  | 17 => .int
  | 18 => .boolean
  | 19 => .array .int
  | 20 => .array .int
  | 21 => .int
  | 22 => .int
  | 23 => .int
  | 24 => .int
  | 25 => .int
  | 26 => .array .int
  | 27 => .array .int
  | 28 => .int
  | 29 => .int
  | 30 => .int
  | 31 => .int
  | 32 => .int
  | 33 => .int
  | 34 => .array .int
  | 35 => .array .int
  | 36 => .array .int
  | _ => .long
theorem nmX12 : ∀ a, a < 38 → ∀ b, b < 38 → a ≠ b → (TX12 a).2.1 ≠ (TX12 b).2.1 := by decide +kernel
theorem tyX12_ok : ∀ k, k < 38 → parseFieldDescriptor (TX12 k).2.2.1 = some (tyX12 k) := by decide +kernel
abbrev cX12_init : ByteArray := prog_14_method_1_code
def yX12_init : MethodName := ⟨RX12, "<init>", "()V"⟩
abbrev cX12_in : ByteArray := prog_14_method_2_code
def yX12_in : MethodName := ⟨RX12, "in", "(JJJ)Z"⟩
abbrev cX12_copy : ByteArray := prog_14_method_3_code
def yX12_copy : MethodName := ⟨RX12, "copy", "([I[I)V"⟩
abbrev cX12_isPocket : ByteArray := prog_14_method_4_code
def yX12_isPocket : MethodName := ⟨RX12, "isPocket", "(I)Z"⟩
abbrev cX12_letter : ByteArray := prog_14_method_5_code
def yX12_letter : MethodName := ⟨RX12, "letter", "(I)I"⟩
abbrev cX12_blank : ByteArray := prog_14_method_6_code
def yX12_blank : MethodName := ⟨RX12, "blank", "()I"⟩
abbrev cX12_kindBy : ByteArray := prog_14_method_7_code
def yX12_kindBy : MethodName := ⟨RX12, "kindBy", "(I)I"⟩
abbrev cX12_cellAt : ByteArray := prog_14_method_8_code
def yX12_cellAt : MethodName := ⟨RX12, "cellAt", "(I)I"⟩
abbrev cX12_isToldAhead : ByteArray := prog_14_method_9_code
def yX12_isToldAhead : MethodName := ⟨RX12, "isToldAhead", "(I)Z"⟩
abbrev cX12_isColumn : ByteArray := prog_14_method_10_code
def yX12_isColumn : MethodName := ⟨RX12, "isColumn", "(I)Z"⟩
abbrev cX12_isGood : ByteArray := prog_14_method_11_code
def yX12_isGood : MethodName := ⟨RX12, "isGood", "(I)Z"⟩
abbrev cX12_faultOf : ByteArray := prog_14_method_12_code
def yX12_faultOf : MethodName := ⟨RX12, "faultOf", "()I"⟩
abbrev cX12_fault : ByteArray := prog_14_method_13_code
def yX12_fault : MethodName := ⟨RX12, "fault", "()I"⟩
abbrev cX12_table : ByteArray := prog_14_method_14_code
def yX12_table : MethodName := ⟨RX12, "table", "()I"⟩
abbrev cX12_lacks : ByteArray := prog_14_method_15_code
def yX12_lacks : MethodName := ⟨RX12, "lacks", "()Z"⟩
abbrev cX12_isBall : ByteArray := prog_14_method_16_code
def yX12_isBall : MethodName := ⟨RX12, "isBall", "(I)Z"⟩
abbrev cX12_isColoured : ByteArray := prog_14_method_17_code
def yX12_isColoured : MethodName := ⟨RX12, "isColoured", "(I)Z"⟩
abbrev cX12_isCell : ByteArray := prog_14_method_18_code
def yX12_isCell : MethodName := ⟨RX12, "isCell", "(I)Z"⟩
abbrev cX12_liesIn : ByteArray := prog_14_method_19_code
def yX12_liesIn : MethodName := ⟨RX12, "liesIn", "([II)I"⟩
abbrev cX12_downBy : ByteArray := prog_14_method_20_code
def yX12_downBy : MethodName := ⟨RX12, "downBy", "(I)I"⟩
abbrev cX12_rightBy : ByteArray := prog_14_method_21_code
def yX12_rightBy : MethodName := ⟨RX12, "rightBy", "(I)I"⟩
abbrev cX12_rollsBy : ByteArray := prog_14_method_22_code
def yX12_rollsBy : MethodName := ⟨RX12, "rollsBy", "(II)I"⟩
abbrev cX12_roll : ByteArray := prog_14_method_23_code
def yX12_roll : MethodName := ⟨RX12, "roll", "([IIIII)V"⟩
abbrev cX12_spotWhite : ByteArray := prog_14_method_24_code
def yX12_spotWhite : MethodName := ⟨RX12, "spotWhite", "([I)V"⟩
abbrev cX12_strike : ByteArray := prog_14_method_25_code
def yX12_strike : MethodName := ⟨RX12, "strike", "([IIII)I"⟩
abbrev cX12_tellBall : ByteArray := prog_14_method_26_code
def yX12_tellBall : MethodName := ⟨RX12, "tellBall", "(II)I"⟩
abbrev cX12_ball : ByteArray := prog_14_method_27_code
def yX12_ball : MethodName := ⟨RX12, "ball", "(II)I"⟩
abbrev cX12_as : ByteArray := prog_14_method_28_code
def yX12_as : MethodName := ⟨RX12, "as", "(II)I"⟩
abbrev cX12_cell : ByteArray := prog_14_method_29_code
def yX12_cell : MethodName := ⟨RX12, "cell", "(I)I"⟩
abbrev cX12_seesBy : ByteArray := prog_14_method_30_code
def yX12_seesBy : MethodName := ⟨RX12, "seesBy", "(I)I"⟩
abbrev cX12_sees : ByteArray := prog_14_method_31_code
def yX12_sees : MethodName := ⟨RX12, "sees", "(I)I"⟩
abbrev cX12_put : ByteArray := prog_14_method_32_code
def yX12_put : MethodName := ⟨RX12, "put", "(II)I"⟩
abbrev cX12_lift : ByteArray := prog_14_method_33_code
def yX12_lift : MethodName := ⟨RX12, "lift", "(I)I"⟩
abbrev cX12_change : ByteArray := prog_14_method_34_code
def yX12_change : MethodName := ⟨RX12, "change", "(II)I"⟩
abbrev cX12_isStroke : ByteArray := prog_14_method_35_code
def yX12_isStroke : MethodName := ⟨RX12, "isStroke", "(III)Z"⟩
abbrev cX12_stroke : ByteArray := prog_14_method_36_code
def yX12_stroke : MethodName := ⟨RX12, "stroke", "(III)I"⟩
abbrev cX12_wouldBe : ByteArray := prog_14_method_37_code
def yX12_wouldBe : MethodName := ⟨RX12, "wouldBe", "(IIII)I"⟩
abbrev cX12_would : ByteArray := prog_14_method_38_code
def yX12_would : MethodName := ⟨RX12, "would", "(IIII)I"⟩
abbrev cX12_tellCode : ByteArray := prog_14_method_39_code
def yX12_tellCode : MethodName := ⟨RX12, "tellCode", "(I)I"⟩
abbrev cX12_bestOf : ByteArray := prog_14_method_40_code
def yX12_bestOf : MethodName := ⟨RX12, "bestOf", "(I)I"⟩
abbrev cX12_best : ByteArray := prog_14_method_41_code
def yX12_best : MethodName := ⟨RX12, "best", "(I)I"⟩
abbrev cX12_replyOf : ByteArray := prog_14_method_42_code
def yX12_replyOf : MethodName := ⟨RX12, "replyOf", "([I)I"⟩
abbrev cX12_planOf : ByteArray := prog_14_method_43_code
def yX12_planOf : MethodName := ⟨RX12, "planOf", "(I)I"⟩
abbrev cX12_plan : ByteArray := prog_14_method_44_code
def yX12_plan : MethodName := ⟨RX12, "plan", "(I)I"⟩
abbrev cX12_safeOf : ByteArray := prog_14_method_45_code
def yX12_safeOf : MethodName := ⟨RX12, "safeOf", "(I)I"⟩
abbrev cX12_safe : ByteArray := prog_14_method_46_code
def yX12_safe : MethodName := ⟨RX12, "safe", "(I)I"⟩
abbrev cX12_isWantedFrom : ByteArray := prog_14_method_47_code
def yX12_isWantedFrom : MethodName := ⟨RX12, "isWantedFrom", "(II)Z"⟩
abbrev cX12_wantedOf : ByteArray := prog_14_method_48_code
def yX12_wantedOf : MethodName := ⟨RX12, "wantedOf", "(I)J"⟩
abbrev cX12_wantedMany : ByteArray := prog_14_method_49_code
def yX12_wantedMany : MethodName := ⟨RX12, "wantedMany", "(I)I"⟩
abbrev cX12_wanted : ByteArray := prog_14_method_50_code
def yX12_wanted : MethodName := ⟨RX12, "wanted", "(I)J"⟩
abbrev cX12_see : ByteArray := prog_14_method_51_code
def yX12_see : MethodName := ⟨RX12, "see", "(IIII)I"⟩
abbrev cX12_forget : ByteArray := prog_14_method_52_code
def yX12_forget : MethodName := ⟨RX12, "forget", "()I"⟩
abbrev cX12_behindAs : ByteArray := prog_14_method_53_code
def yX12_behindAs : MethodName := ⟨RX12, "behindAs", "(IIII)I"⟩
abbrev cX12_kindsOf : ByteArray := prog_14_method_54_code
def yX12_kindsOf : MethodName := ⟨RX12, "kindsOf", "(I)I"⟩
abbrev cX12_tryOf : ByteArray := prog_14_method_55_code
def yX12_tryOf : MethodName := ⟨RX12, "tryOf", "(I)I"⟩
abbrev cX12_draw : ByteArray := prog_14_method_56_code
def yX12_draw : MethodName := ⟨RX12, "draw", "(I)I"⟩
abbrev cX12_onTable : ByteArray := prog_14_method_57_code
def yX12_onTable : MethodName := ⟨RX12, "onTable", "([I)I"⟩
abbrev cX12_frames : ByteArray := prog_14_method_58_code
def yX12_frames : MethodName := ⟨RX12, "frames", "(III)I"⟩
abbrev cX12_image : ByteArray := prog_14_method_59_code
def yX12_image : MethodName := ⟨RX12, "image", "()I"⟩
abbrev cX12_restore : ByteArray := prog_14_method_60_code
def yX12_restore : MethodName := ⟨RX12, "restore", "()I"⟩
abbrev cX12_worthAll : ByteArray := prog_14_method_61_code
def yX12_worthAll : MethodName := ⟨RX12, "worthAll", "()I"⟩
abbrev cX12_seenByWhite : ByteArray := prog_14_method_62_code
def yX12_seenByWhite : MethodName := ⟨RX12, "seenByWhite", "()I"⟩
abbrev cX12_countOf : ByteArray := prog_14_method_63_code
def yX12_countOf : MethodName := ⟨RX12, "countOf", "(I)I"⟩
abbrev cX12_count : ByteArray := prog_14_method_64_code
def yX12_count : MethodName := ⟨RX12, "count", "(I)I"⟩
abbrev cX12_say : ByteArray := prog_14_method_65_code
def yX12_say : MethodName := ⟨RX12, "say", "(J)V"⟩
abbrev cX12_sayTable : ByteArray := prog_14_method_66_code
def yX12_sayTable : MethodName := ⟨RX12, "sayTable", "()V"⟩
abbrev cX12_digest : ByteArray := prog_14_method_67_code
def yX12_digest : MethodName := ⟨RX12, "digest", "()J"⟩
def RJ11 : String := "java/lang/Character"
def TJ11 : u_T := fun k => match k with
  | _ => ("", "", "", false)
def tyJ11 : Nat → FieldType := fun k => match k with
  | _ => .int
theorem nmJ11 : ∀ a, a < 0 → ∀ b, b < 0 → a ≠ b → (TJ11 a).2.1 ≠ (TJ11 b).2.1 := by decide +kernel
theorem tyJ11_ok : ∀ k, k < 0 → parseFieldDescriptor (TJ11 k).2.2.1 = some (tyJ11 k) := by decide +kernel
abbrev cJ11_isValidCodePoint_9a6ad : ByteArray := prog_15_method_11_code
def yJ11_isValidCodePoint_9a6ad : MethodName := ⟨RJ11, "isValidCodePoint", "(I)Z"⟩
abbrev cJ11_highSurrogate_5068e : ByteArray := prog_15_method_28_code
def yJ11_highSurrogate_5068e : MethodName := ⟨RJ11, "highSurrogate", "(I)C"⟩
abbrev cJ11_lowSurrogate_5068e : ByteArray := prog_15_method_29_code
def yJ11_lowSurrogate_5068e : MethodName := ⟨RJ11, "lowSurrogate", "(I)C"⟩
def RJ13 : String := "java/lang/Long"
def TJ13 : u_T := fun k => match k with
  | _ => ("", "", "", false)
def tyJ13 : Nat → FieldType := fun k => match k with
  | _ => .int
theorem nmJ13 : ∀ a, a < 0 → ∀ b, b < 0 → a ≠ b → (TJ13 a).2.1 ≠ (TJ13 b).2.1 := by decide +kernel
theorem tyJ13_ok : ∀ k, k < 0 → parseFieldDescriptor (TJ13 k).2.2.1 = some (tyJ13 k) := by decide +kernel
abbrev cJ13_bitCount_95d88 : ByteArray := prog_16_method_50_code
def yJ13_bitCount_95d88 : MethodName := ⟨RJ13, "bitCount", "(J)I"⟩
def RJ9 : String := "java/lang/Math"
def TJ9 : u_T := fun k => match k with
  | _ => ("", "", "", false)
def tyJ9 : Nat → FieldType := fun k => match k with
  | _ => .int
theorem nmJ9 : ∀ a, a < 0 → ∀ b, b < 0 → a ≠ b → (TJ9 a).2.1 ≠ (TJ9 b).2.1 := by decide +kernel
theorem tyJ9_ok : ∀ k, k < 0 → parseFieldDescriptor (TJ9 k).2.2.1 = some (tyJ9 k) := by decide +kernel
abbrev cJ9_max_7cf53 : ByteArray := prog_17_method_65_code
def yJ9_max_7cf53 : MethodName := ⟨RJ9, "max", "(II)I"⟩
abbrev cJ9_min_7cf53 : ByteArray := prog_17_method_69_code
def yJ9_min_7cf53 : MethodName := ⟨RJ9, "min", "(II)I"⟩
def RJ0 : String := "java/lang/String"
def TJ0 : u_T := fun k => match k with
  | _ => ("", "", "", false)
def tyJ0 : Nat → FieldType := fun k => match k with
  | _ => .int
theorem nmJ0 : ∀ a, a < 0 → ∀ b, b < 0 → a ≠ b → (TJ0 a).2.1 ≠ (TJ0 b).2.1 := by decide +kernel
theorem tyJ0_ok : ∀ k, k < 0 → parseFieldDescriptor (TJ0 k).2.2.1 = some (tyJ0 k) := by decide +kernel
abbrev cJ0_length_8abf5 : ByteArray := prog_18_method_54_code
def yJ0_length_8abf5 : MethodName := ⟨RJ0, "length", "()I"⟩
abbrev cJ0_indexOf_0f7a4 : ByteArray := prog_18_method_79_code
def yJ0_indexOf_0f7a4 : MethodName := ⟨RJ0, "indexOf", "(I)I"⟩
abbrev cJ0_indexOf_7cf53 : ByteArray := prog_18_method_80_code
def yJ0_indexOf_7cf53 : MethodName := ⟨RJ0, "indexOf", "(II)I"⟩
abbrev cJ0_coder_7d493 : ByteArray := prog_18_method_152_code
def yJ0_coder_7d493 : MethodName := ⟨RJ0, "coder", "()B"⟩
abbrev cJ0_isLatin1_aae02 : ByteArray := prog_18_method_154_code
def yJ0_isLatin1_aae02 : MethodName := ⟨RJ0, "isLatin1", "()Z"⟩
abbrev cJ0_checkBoundsBeginEnd_23922 : ByteArray := prog_18_method_158_code
def yJ0_checkBoundsBeginEnd_23922 : MethodName := ⟨RJ0, "checkBoundsBeginEnd", "(III)V"⟩
def RJ1 : String := "java/lang/StringLatin1"
def TJ1 : u_T := fun k => match k with
  | _ => ("", "", "", false)
def tyJ1 : Nat → FieldType := fun k => match k with
  | _ => .int
theorem nmJ1 : ∀ a, a < 0 → ∀ b, b < 0 → a ≠ b → (TJ1 a).2.1 ≠ (TJ1 b).2.1 := by decide +kernel
theorem tyJ1_ok : ∀ k, k < 0 → parseFieldDescriptor (TJ1 k).2.2.1 = some (tyJ1 k) := by decide +kernel
abbrev cJ1_canEncode_9a6ad : ByteArray := prog_19_method_4_code
def yJ1_canEncode_9a6ad : MethodName := ⟨RJ1, "canEncode", "(I)Z"⟩
abbrev cJ1_indexOf_4cfef : ByteArray := prog_19_method_22_code
def yJ1_indexOf_4cfef : MethodName := ⟨RJ1, "indexOf", "([BIII)I"⟩
abbrev cJ1_indexOfChar_4cfef : ByteArray := prog_19_method_23_code
def yJ1_indexOfChar_4cfef : MethodName := ⟨RJ1, "indexOfChar", "([BIII)I"⟩
def RJ2 : String := "java/lang/StringUTF16"
def TJ2 : u_T := fun k => match k with
  | _ => ("", "", "", false)
def tyJ2 : Nat → FieldType := fun k => match k with
  | _ => .int
theorem nmJ2 : ∀ a, a < 0 → ∀ b, b < 0 → a ≠ b → (TJ2 a).2.1 ≠ (TJ2 b).2.1 := by decide +kernel
theorem tyJ2_ok : ∀ k, k < 0 → parseFieldDescriptor (TJ2 k).2.2.1 = some (tyJ2 k) := by decide +kernel
abbrev cJ2_getChar_3b067 : ByteArray := prog_20_method_5_code
def yJ2_getChar_3b067 : MethodName := ⟨RJ2, "getChar", "([BI)C"⟩
abbrev cJ2_length_9d52b : ByteArray := prog_20_method_6_code
def yJ2_length_9d52b : MethodName := ⟨RJ2, "length", "([B)I"⟩
abbrev cJ2_indexOf_4cfef : ByteArray := prog_20_method_40_code
def yJ2_indexOf_4cfef : MethodName := ⟨RJ2, "indexOf", "([BIII)I"⟩
abbrev cJ2_indexOfChar_4cfef : ByteArray := prog_20_method_47_code
def yJ2_indexOfChar_4cfef : MethodName := ⟨RJ2, "indexOfChar", "([BIII)I"⟩
abbrev cJ2_indexOfCharUnsafe_4cfef : ByteArray := prog_20_method_48_code
def yJ2_indexOfCharUnsafe_4cfef : MethodName := ⟨RJ2, "indexOfCharUnsafe", "([BIII)I"⟩
abbrev cJ2_indexOfSupplementary_4cfef : ByteArray := prog_20_method_49_code
def yJ2_indexOfSupplementary_4cfef : MethodName := ⟨RJ2, "indexOfSupplementary", "([BIII)I"⟩
abbrev cJ2_checkBoundsBeginEnd_d044e : ByteArray := prog_20_method_93_code
def yJ2_checkBoundsBeginEnd_d044e : MethodName := ⟨RJ2, "checkBoundsBeginEnd", "(II[B)V"⟩
def RJ10 : String := "java/lang/System"
def TJ10 : u_T := fun k => match k with
  | _ => ("", "", "", false)
def tyJ10 : Nat → FieldType := fun k => match k with
  | _ => .int
theorem nmJ10 : ∀ a, a < 0 → ∀ b, b < 0 → a ≠ b → (TJ10 a).2.1 ≠ (TJ10 b).2.1 := by decide +kernel
theorem tyJ10_ok : ∀ k, k < 0 → parseFieldDescriptor (TJ10 k).2.2.1 = some (tyJ10 k) := by decide +kernel
def RJ7 : String := "java/util/Arrays"
def TJ7 : u_T := fun k => match k with
  | _ => ("", "", "", false)
def tyJ7 : Nat → FieldType := fun k => match k with
  | _ => .int
theorem nmJ7 : ∀ a, a < 0 → ∀ b, b < 0 → a ≠ b → (TJ7 a).2.1 ≠ (TJ7 b).2.1 := by decide +kernel
theorem tyJ7_ok : ∀ k, k < 0 → parseFieldDescriptor (TJ7 k).2.2.1 = some (tyJ7 k) := by decide +kernel
abbrev cJ7_fill_53178 : ByteArray := prog_22_method_103_code
def yJ7_fill_53178 : MethodName := ⟨RJ7, "fill", "([II)V"⟩
def RJ3 : String := "jdk/internal/util/Preconditions"
def TJ3 : u_T := fun k => match k with
  | _ => ("", "", "", false)
def tyJ3 : Nat → FieldType := fun k => match k with
  | _ => .int
theorem nmJ3 : ∀ a, a < 0 → ∀ b, b < 0 → a ≠ b → (TJ3 a).2.1 ≠ (TJ3 b).2.1 := by decide +kernel
theorem tyJ3_ok : ∀ k, k < 0 → parseFieldDescriptor (TJ3 k).2.2.1 = some (tyJ3 k) := by decide +kernel
abbrev cJ3_checkFromToIndex_8c36e : ByteArray := prog_23_method_12_code
def yJ3_checkFromToIndex_8c36e : MethodName := ⟨RJ3, "checkFromToIndex", "(IIILjava/util/function/BiFunction;)I"⟩
def RL : String := "WhiteWantedLaw"
abbrev cL_law : ByteArray := code
def yL_law : MethodName := ⟨RL, "law", "([I)Z"⟩
abbrev vwCl : List vw_C := [(RX0, TX0, 4), (RX1, TX1, 0), (RX2, TX2, 0), (RX3, TX3, 9), (RX4, TX4, 2), (RX5, TX5, 0), (RX6, TX6, 0), (RX7, TX7, 2), (RX8, TX8, 0), (RX9, TX9, 9), (RX10, TX10, 6), (RX11, TX11, 11), (RX12, TX12, 38)]
